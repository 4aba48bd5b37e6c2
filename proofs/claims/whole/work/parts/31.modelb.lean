set_option maxHeartbeats 4000000 in
set_option maxRecDepth 100000 in
theorem c_X4_thrown (l : Launch) (D : va_G) (cyI cyZ : ClassId) (h0_0 h0_1 h0_2 h0_3 h0_4 h0_5 h0_6 h0_7 h0_8 h0_9 h0_10 h0_11 : Nat) (σ0 : zM) (r : Int32) (h : s_X4_thrown σ0 = some r) (sz : Nat) : zMi l yX4_thrown cX4_thrown 1 .int 0 0 D cyI cyZ sz [.ref h0_0] (w_M cyI cyZ h0_0 h0_1 h0_2 h0_3 h0_4 h0_5 h0_6 h0_7 h0_8 h0_9 h0_10 h0_11 σ0) r (w_M cyI cyZ h0_0 h0_1 h0_2 h0_3 h0_4 h0_5 h0_6 h0_7 h0_8 h0_9 h0_10 h0_11 σ0) := by
  unfold s_X4_thrown at h
  refine zstartI (lv0 := [(0, .ref h0_0)]) (by decide) (Nat.le_of_ble_eq_true rfl) rfl (fun p e s m args below meth c G hr hlocks => ?_)
  refine zq_aload_n (q := 1) G dX4_thrown_0 0 rfl rfl rfl ?_
  refine zq_get (q := 4) G zu_X4 rfl zw_X4_f60 dX4_thrown_1 0 4 rfl (by decide) ⟨⟨rfl, rfl⟩, rfl⟩ rfl rfl ?_
  exact zq_iret G hlocks hr rfl dX4_thrown_4 (zsome h)
set_option maxHeartbeats 4000000 in
set_option maxRecDepth 100000 in
theorem c_X4_isWrong (l : Launch) (D : va_G) (cyI cyZ : ClassId) (h0_0 h0_1 h0_2 h0_3 h0_4 h0_5 h0_6 h0_7 h0_8 h0_9 h0_10 h0_11 : Nat) (σ0 : zM) (p0 : Int32) (r : Int32) (o0 : zM) (h : s_X4_isWrong σ0 p0 = some (r, o0)) (sz : Nat) : zMi l yX4_isWrong cX4_isWrong 2 .boolean 0 0 D cyI cyZ sz [.ref h0_0, .int p0] (w_M cyI cyZ h0_0 h0_1 h0_2 h0_3 h0_4 h0_5 h0_6 h0_7 h0_8 h0_9 h0_10 h0_11 σ0) r (w_M cyI cyZ h0_0 h0_1 h0_2 h0_3 h0_4 h0_5 h0_6 h0_7 h0_8 h0_9 h0_10 h0_11 o0) := by
  unfold s_X4_isWrong at h
  refine zstartI (lv0 := [(0, .ref h0_0), (1, .int p0)]) (by decide) (Nat.le_of_ble_eq_true rfl) rfl (fun p e s m args below meth c G hr hlocks => ?_)
  refine zq_aload_n (q := 1) G dX4_isWrong_0 0 rfl rfl rfl ?_
  refine zq_iload_n (q := 2) G dX4_isWrong_1 1 rfl rfl rfl ?_
  refine zq_put (q := 5) (ws2 := (w_M cyI cyZ h0_0 h0_1 h0_2 h0_3 h0_4 h0_5 h0_6 h0_7 h0_8 h0_9 h0_10 h0_11 (σ0.1, σ0.2.1, σ0.2.2.1, σ0.2.2.2.1, p0))) G zu_X4 rfl tyX4_ok nmX4 zw_X4_f60 dX4_isWrong_2 0 4 rfl (by decide) ⟨⟨rfl, rfl⟩, rfl⟩ rfl rfl rfl (Nat.le_of_ble_eq_true rfl) rfl rfl ?_
  refine zq_iload_n (q := 6) G dX4_isWrong_5 1 rfl rfl rfl ?_
  refine zq_if_eq (tgt := 13) (q := 9) G dX4_isWrong_6 (by decide) rfl (fun c1 => ?_) (fun c1 => ?_)
  · have h := zit h c1
    refine zq_iconst (q := 14) (v := 0) G dX4_isWrong_13 (by decide) rfl ?_
    refine zq_ws (congrArg (fun w9 => (w_M cyI cyZ h0_0 h0_1 h0_2 h0_3 h0_4 h0_5 h0_6 h0_7 h0_8 h0_9 h0_10 h0_11 w9.2)) (zsome h)) ?_
    exact zq_iret G hlocks hr rfl dX4_isWrong_14 (congrArg Prod.fst (zsome h))
  · have h := zie h c1
    refine zq_iconst (q := 10) (v := 1) G dX4_isWrong_9 (by decide) rfl ?_
    refine zq_goto (q := 14) G dX4_isWrong_10 (by decide) ?_
    refine zq_ws (congrArg (fun w9 => (w_M cyI cyZ h0_0 h0_1 h0_2 h0_3 h0_4 h0_5 h0_6 h0_7 h0_8 h0_9 h0_10 h0_11 w9.2)) (zsome h)) ?_
    exact zq_iret G hlocks hr rfl dX4_isWrong_14 (congrArg Prod.fst (zsome h))
set_option maxHeartbeats 4000000 in
set_option maxRecDepth 100000 in
theorem c_X4_isIn (l : Launch) (D : va_G) (cyI cyZ : ClassId) (p0 : Int64) (p1 : Int64) (p2 : Int64) (r : Int32) (h : s_X4_isIn p0 p1 p2 = some r) (sz : Nat) : zMi l yX4_isIn cX4_isIn 6 .boolean 0 0 D cyI cyZ sz [.long p0, .long p1, .long p2] ([] : va_W) r ([] : va_W) := by
  unfold s_X4_isIn at h
  refine zstartI (lv0 := [(0, .long p0), (2, .long p1), (4, .long p2)]) (by decide) (Nat.le_of_ble_eq_true rfl) rfl (fun p e s m args below meth c G hr hlocks => ?_)
  refine zq_lload_n (q := 1) G dX4_isIn_0 0 rfl rfl rfl ?_
  refine zq_lload_n (q := 2) G dX4_isIn_1 1 rfl rfl rfl ?_
  refine zq_lcmp (q := 3) G dX4_isIn_2 rfl ?_
  refine zq_if_lt (tgt := 17) (q := 6) G dX4_isIn_3 (by decide) rfl (fun c1 => ?_) (fun c1 => ?_)
  · have h := zit h c1
    refine zq_iconst (q := 18) (v := 0) G dX4_isIn_17 (by decide) rfl ?_
    exact zq_iret G hlocks hr rfl dX4_isIn_18 (zsome h)
  · have h := zie h c1
    refine zq_lload_n (q := 7) G dX4_isIn_6 0 rfl rfl rfl ?_
    refine zq_lload (q := 9) G dX4_isIn_7 2 rfl rfl ?_
    refine zq_lcmp (q := 10) G dX4_isIn_9 rfl ?_
    refine zq_if_gt (tgt := 17) (q := 13) G dX4_isIn_10 (by decide) rfl (fun c2 => ?_) (fun c2 => ?_)
    · have h := zit h c2
      refine zq_iconst (q := 18) (v := 0) G dX4_isIn_17 (by decide) rfl ?_
      exact zq_iret G hlocks hr rfl dX4_isIn_18 (zsome h)
    · have h := zie h c2
      refine zq_iconst (q := 14) (v := 1) G dX4_isIn_13 (by decide) rfl ?_
      refine zq_goto (q := 18) G dX4_isIn_14 (by decide) ?_
      exact zq_iret G hlocks hr rfl dX4_isIn_18 (zsome h)
set_option maxHeartbeats 4000000 in
set_option maxRecDepth 100000 in
theorem c_X4_isRow (l : Launch) (D : va_G) (cyI cyZ : ClassId) (h0_0 h0_1 h0_2 h0_3 h0_4 h0_5 h0_6 h0_7 h0_8 h0_9 h0_10 h0_11 : Nat) (σ0 : zM) (p0 : Int32) (r : Int32) (h : s_X4_isRow σ0 p0 = some r) (sz : Nat) : zMi l yX4_isRow cX4_isRow 2 .boolean 1 25 D cyI cyZ sz [.ref h0_0, .int p0] (w_M cyI cyZ h0_0 h0_1 h0_2 h0_3 h0_4 h0_5 h0_6 h0_7 h0_8 h0_9 h0_10 h0_11 σ0) r (w_M cyI cyZ h0_0 h0_1 h0_2 h0_3 h0_4 h0_5 h0_6 h0_7 h0_8 h0_9 h0_10 h0_11 σ0) := by
  unfold s_X4_isRow at h
  refine zstartI (lv0 := [(0, .ref h0_0), (1, .int p0)]) (by decide) (Nat.le_of_ble_eq_true rfl) rfl (fun p e s m args below meth c G hr hlocks => ?_)
  refine zq_iload_n (q := 1) G dX4_isRow_0 1 rfl rfl rfl ?_
  refine zq_i2l (q := 2) G dX4_isRow_1 rfl ?_
  refine zq_lconst (q := 3) (v := 0) G dX4_isRow_2 (by decide) rfl ?_
  refine zq_aload_n (q := 4) G dX4_isRow_3 0 rfl rfl rfl ?_
  refine zq_get (q := 7) G zu_X4 rfl zw_X4_f7 dX4_isRow_4 0 0 rfl (by decide) ⟨⟨rfl, rfl⟩, rfl⟩ rfl rfl ?_
  refine zq_iconst (q := 8) (v := 1) G dX4_isRow_7 (by decide) rfl ?_
  refine zq_isub (q := 9) G dX4_isRow_8 rfl ?_
  refine zq_i2l (q := 10) G dX4_isRow_9 rfl ?_
  obtain ⟨z1, hc1, h⟩ := zbd h
  refine zq_callSi (q := 13) (ws2 := (w_M cyI cyZ h0_0 h0_1 h0_2 h0_3 h0_4 h0_5 h0_6 h0_7 h0_8 h0_9 h0_10 h0_11 σ0)) (isC := []) (isR := [0, 1, 2, 3, 4, 5, 6, 7, 8, 9, 10, 11]) (perm := [0, 1, 2, 3, 4, 5, 6, 7, 8, 9, 10, 11]) (rest := []) (As := [.long p0.toInt64, .long (0 : Int64), .long ((σ0.1.1 - (1 : Int32)).toInt64)]) G zs_X4_63 dX4_isRow_10 (fun sz9 => c_X4_isIn l D cyI cyZ p0.toInt64 (0 : Int64) ((σ0.1.1 - (1 : Int32)).toInt64) z1 hc1 sz9) rfl ⟨rfl, rfl, rfl, rfl⟩ rfl (Nat.le_of_ble_eq_true rfl) ⟨Nat.le_of_ble_eq_true rfl, Nat.le_of_ble_eq_true rfl, Nat.zero_le _, Nat.zero_le _⟩ rfl ?_
  obtain ⟨q2, h⟩ := zif h
  exact zq_iret G hlocks hr (znar q2) dX4_isRow_13 (zsome h)
set_option maxHeartbeats 4000000 in
set_option maxRecDepth 100000 in
theorem c_X4_isReal (l : Launch) (D : va_G) (cyI cyZ : ClassId) (h0_0 h0_1 h0_2 h0_3 h0_4 h0_5 h0_6 h0_7 h0_8 h0_9 h0_10 h0_11 : Nat) (σ0 : zM) (p0 : Int32) (r : Int32) (h : s_X4_isReal σ0 p0 = some r) (sz : Nat) : zMi l yX4_isReal cX4_isReal 2 .boolean 1 25 D cyI cyZ sz [.ref h0_0, .int p0] (w_M cyI cyZ h0_0 h0_1 h0_2 h0_3 h0_4 h0_5 h0_6 h0_7 h0_8 h0_9 h0_10 h0_11 σ0) r (w_M cyI cyZ h0_0 h0_1 h0_2 h0_3 h0_4 h0_5 h0_6 h0_7 h0_8 h0_9 h0_10 h0_11 σ0) := by
  unfold s_X4_isReal at h
  refine zstartI (lv0 := [(0, .ref h0_0), (1, .int p0)]) (by decide) (Nat.le_of_ble_eq_true rfl) rfl (fun p e s m args below meth c G hr hlocks => ?_)
  refine zq_iload_n (q := 1) G dX4_isReal_0 1 rfl rfl rfl ?_
  refine zq_i2l (q := 2) G dX4_isReal_1 rfl ?_
  refine zq_lconst (q := 3) (v := 0) G dX4_isReal_2 (by decide) rfl ?_
  refine zq_aload_n (q := 4) G dX4_isReal_3 0 rfl rfl rfl ?_
  refine zq_get (q := 7) G zu_X4 rfl zw_X4_f13 dX4_isReal_4 0 1 rfl (by decide) ⟨⟨rfl, rfl⟩, rfl⟩ rfl rfl ?_
  refine zq_iconst (q := 8) (v := 1) G dX4_isReal_7 (by decide) rfl ?_
  refine zq_isub (q := 9) G dX4_isReal_8 rfl ?_
  refine zq_i2l (q := 10) G dX4_isReal_9 rfl ?_
  obtain ⟨z1, hc1, h⟩ := zbd h
  refine zq_callSi (q := 13) (ws2 := (w_M cyI cyZ h0_0 h0_1 h0_2 h0_3 h0_4 h0_5 h0_6 h0_7 h0_8 h0_9 h0_10 h0_11 σ0)) (isC := []) (isR := [0, 1, 2, 3, 4, 5, 6, 7, 8, 9, 10, 11]) (perm := [0, 1, 2, 3, 4, 5, 6, 7, 8, 9, 10, 11]) (rest := []) (As := [.long p0.toInt64, .long (0 : Int64), .long ((σ0.1.2.1 - (1 : Int32)).toInt64)]) G zs_X4_63 dX4_isReal_10 (fun sz9 => c_X4_isIn l D cyI cyZ p0.toInt64 (0 : Int64) ((σ0.1.2.1 - (1 : Int32)).toInt64) z1 hc1 sz9) rfl ⟨rfl, rfl, rfl, rfl⟩ rfl (Nat.le_of_ble_eq_true rfl) ⟨Nat.le_of_ble_eq_true rfl, Nat.le_of_ble_eq_true rfl, Nat.zero_le _, Nat.zero_le _⟩ rfl ?_
  obtain ⟨q2, h⟩ := zif h
  exact zq_iret G hlocks hr (znar q2) dX4_isReal_13 (zsome h)
set_option maxHeartbeats 4000000 in
set_option maxRecDepth 100000 in
theorem c_X4_cost (l : Launch) (D : va_G) (cyI cyZ : ClassId) (h0_0 h0_1 h0_2 h0_3 h0_4 h0_5 h0_6 h0_7 h0_8 h0_9 h0_10 h0_11 : Nat) (σ0 : zM) (p0 : Int32) (p1 : Int32) (r : Int32) (h : s_X4_cost σ0 p0 p1 = some r) (sz : Nat) : zMi l yX4_cost cX4_cost 3 .int 0 0 D cyI cyZ sz [.ref h0_0, .int p0, .int p1] (w_M cyI cyZ h0_0 h0_1 h0_2 h0_3 h0_4 h0_5 h0_6 h0_7 h0_8 h0_9 h0_10 h0_11 σ0) r (w_M cyI cyZ h0_0 h0_1 h0_2 h0_3 h0_4 h0_5 h0_6 h0_7 h0_8 h0_9 h0_10 h0_11 σ0) := by
  unfold s_X4_cost at h
  refine zstartI (lv0 := [(0, .ref h0_0), (1, .int p0), (2, .int p1)]) (by decide) (Nat.le_of_ble_eq_true rfl) rfl (fun p e s m args below meth c G hr hlocks => ?_)
  refine zq_iload_n (q := 1) G dX4_cost_0 2 rfl rfl rfl ?_
  refine zq_aload_n (q := 2) G dX4_cost_1 0 rfl rfl rfl ?_
  refine zq_get (q := 5) G zu_X4 rfl zw_X4_f13 dX4_cost_2 0 1 rfl (by decide) ⟨⟨rfl, rfl⟩, rfl⟩ rfl rfl ?_
  refine zq_icmp_lt (tgt := 12) (q := 8) G dX4_cost_5 (by decide) rfl (fun c1 => ?_) (fun c1 => ?_)
  · have h := zit h c1
    refine zq_aload_n (q := 13) G dX4_cost_12 0 rfl rfl rfl ?_
    refine zq_get (q := 16) G zu_X4 rfl zw_X4_f29 dX4_cost_13 0 7 rfl (by decide) ⟨⟨rfl, rfl⟩, rfl⟩ rfl rfl ?_
    refine zq_bipush (q := 18) (v := 7) G dX4_cost_16 (by decide) rfl ?_
    refine zq_iload_n (q := 19) G dX4_cost_18 1 rfl rfl rfl ?_
    refine zq_imul (q := 20) G dX4_cost_19 rfl ?_
    refine zq_iload_n (q := 21) G dX4_cost_20 2 rfl rfl rfl ?_
    refine zq_iadd (q := 22) G dX4_cost_21 rfl ?_
    obtain ⟨q2, h⟩ := zif h
    refine zq_zald (q := 23) G dX4_cost_22 3 rfl q2 rfl ?_
    refine zq_if_eq (tgt := 32) (q := 26) G dX4_cost_23 (by decide) rfl (fun c3 => ?_) (fun c3 => ?_)
    · have h := zit h c3
      refine zq_aload_n (q := 33) G dX4_cost_32 0 rfl rfl rfl ?_
      refine zq_get (q := 36) G zu_X4 rfl zw_X4_f22 dX4_cost_33 0 5 rfl (by decide) ⟨⟨rfl, rfl⟩, rfl⟩ rfl rfl ?_
      refine zq_bipush (q := 38) (v := 7) G dX4_cost_36 (by decide) rfl ?_
      refine zq_iload_n (q := 39) G dX4_cost_38 1 rfl rfl rfl ?_
      refine zq_imul (q := 40) G dX4_cost_39 rfl ?_
      refine zq_iload_n (q := 41) G dX4_cost_40 2 rfl rfl rfl ?_
      refine zq_iadd (q := 42) G dX4_cost_41 rfl ?_
      obtain ⟨q4, h⟩ := zif h
      refine zq_iald (q := 43) G dX4_cost_42 1 rfl q4 rfl ?_
      exact zq_iret G hlocks hr rfl dX4_cost_43 (zsome h)
    · have h := zie h c3
      refine zq_sipush (q := 29) (v := 1000) G dX4_cost_26 (by decide) rfl ?_
      refine zq_goto (q := 43) G dX4_cost_29 (by decide) ?_
      exact zq_iret G hlocks hr rfl dX4_cost_43 (zsome h)
  · have h := zie h c1
    refine zq_iconst (q := 9) (v := 0) G dX4_cost_8 (by decide) rfl ?_
    refine zq_goto (q := 43) G dX4_cost_9 (by decide) ?_
    exact zq_iret G hlocks hr rfl dX4_cost_43 (zsome h)
set_option maxHeartbeats 4000000 in
set_option maxRecDepth 100000 in
theorem c_X4_savedCost (l : Launch) (D : va_G) (cyI cyZ : ClassId) (h0_0 h0_1 h0_2 h0_3 h0_4 h0_5 h0_6 h0_7 h0_8 h0_9 h0_10 h0_11 : Nat) (σ0 : zM) (p0 : Int32) (p1 : Int32) (r : Int32) (h : s_X4_savedCost σ0 p0 p1 = some r) (sz : Nat) : zMi l yX4_savedCost cX4_savedCost 3 .int 0 0 D cyI cyZ sz [.ref h0_0, .int p0, .int p1] (w_M cyI cyZ h0_0 h0_1 h0_2 h0_3 h0_4 h0_5 h0_6 h0_7 h0_8 h0_9 h0_10 h0_11 σ0) r (w_M cyI cyZ h0_0 h0_1 h0_2 h0_3 h0_4 h0_5 h0_6 h0_7 h0_8 h0_9 h0_10 h0_11 σ0) := by
  unfold s_X4_savedCost at h
  refine zstartI (lv0 := [(0, .ref h0_0), (1, .int p0), (2, .int p1)]) (by decide) (Nat.le_of_ble_eq_true rfl) rfl (fun p e s m args below meth c G hr hlocks => ?_)
  refine zq_iload_n (q := 1) G dX4_savedCost_0 2 rfl rfl rfl ?_
  refine zq_aload_n (q := 2) G dX4_savedCost_1 0 rfl rfl rfl ?_
  refine zq_get (q := 5) G zu_X4 rfl zw_X4_f19 dX4_savedCost_2 0 3 rfl (by decide) ⟨⟨rfl, rfl⟩, rfl⟩ rfl rfl ?_
  refine zq_icmp_lt (tgt := 12) (q := 8) G dX4_savedCost_5 (by decide) rfl (fun c1 => ?_) (fun c1 => ?_)
  · have h := zit h c1
    refine zq_aload_n (q := 13) G dX4_savedCost_12 0 rfl rfl rfl ?_
    refine zq_get (q := 16) G zu_X4 rfl zw_X4_f33 dX4_savedCost_13 0 8 rfl (by decide) ⟨⟨rfl, rfl⟩, rfl⟩ rfl rfl ?_
    refine zq_bipush (q := 18) (v := 7) G dX4_savedCost_16 (by decide) rfl ?_
    refine zq_iload_n (q := 19) G dX4_savedCost_18 1 rfl rfl rfl ?_
    refine zq_imul (q := 20) G dX4_savedCost_19 rfl ?_
    refine zq_iload_n (q := 21) G dX4_savedCost_20 2 rfl rfl rfl ?_
    refine zq_iadd (q := 22) G dX4_savedCost_21 rfl ?_
    obtain ⟨q2, h⟩ := zif h
    refine zq_zald (q := 23) G dX4_savedCost_22 4 rfl q2 rfl ?_
    refine zq_if_eq (tgt := 32) (q := 26) G dX4_savedCost_23 (by decide) rfl (fun c3 => ?_) (fun c3 => ?_)
    · have h := zit h c3
      refine zq_aload_n (q := 33) G dX4_savedCost_32 0 rfl rfl rfl ?_
      refine zq_get (q := 36) G zu_X4 rfl zw_X4_f26 dX4_savedCost_33 0 6 rfl (by decide) ⟨⟨rfl, rfl⟩, rfl⟩ rfl rfl ?_
      refine zq_bipush (q := 38) (v := 7) G dX4_savedCost_36 (by decide) rfl ?_
      refine zq_iload_n (q := 39) G dX4_savedCost_38 1 rfl rfl rfl ?_
      refine zq_imul (q := 40) G dX4_savedCost_39 rfl ?_
      refine zq_iload_n (q := 41) G dX4_savedCost_40 2 rfl rfl rfl ?_
      refine zq_iadd (q := 42) G dX4_savedCost_41 rfl ?_
      obtain ⟨q4, h⟩ := zif h
      refine zq_iald (q := 43) G dX4_savedCost_42 2 rfl q4 rfl ?_
      exact zq_iret G hlocks hr rfl dX4_savedCost_43 (zsome h)
    · have h := zie h c3
      refine zq_sipush (q := 29) (v := 1000) G dX4_savedCost_26 (by decide) rfl ?_
      refine zq_goto (q := 43) G dX4_savedCost_29 (by decide) ?_
      exact zq_iret G hlocks hr rfl dX4_savedCost_43 (zsome h)
  · have h := zie h c1
    refine zq_iconst (q := 9) (v := 0) G dX4_savedCost_8 (by decide) rfl ?_
    refine zq_goto (q := 43) G dX4_savedCost_9 (by decide) ?_
    exact zq_iret G hlocks hr rfl dX4_savedCost_43 (zsome h)
set_option maxHeartbeats 4000000 in
set_option maxRecDepth 100000 in
theorem c_X4_factorial (l : Launch) : ∀ (d : Nat) (D : va_G) (cyI cyZ : ClassId)  (p0 : Int32) (r : Int32) (h : s_X4_factorial d p0 = some r) (sz : Nat), zMi l yX4_factorial cX4_factorial 1 .int (0 + d) (0 + d * 20) D cyI cyZ sz [.int p0] ([] : va_W) r ([] : va_W) := by
  intro d
  induction d with
  | zero => intro D cyI cyZ p0 r h sz; rw [s_X4_factorial] at h; exact nomatch h
  | succ d ih0 =>
    intro D cyI cyZ p0 r h sz
    have ihd := ih0 D cyI cyZ
    rw [s_X4_factorial] at h
    generalize s_X4_factorial d = rec at h ihd
    unfold s_X4_factorial_step at h
    refine zstartI (lv0 := [(0, .int p0)]) (by decide) (Nat.le_of_ble_eq_true rfl) rfl (fun p e s m args below meth c G hr hlocks => ?_)
    refine zq_iload_n (q := 1) G dX4_factorial_0 0 rfl rfl rfl ?_
    refine zq_iconst (q := 2) (v := 2) G dX4_factorial_1 (by decide) rfl ?_
    refine zq_icmp_ge (tgt := 9) (q := 5) G dX4_factorial_2 (by decide) rfl (fun c1 => ?_) (fun c1 => ?_)
    · have h := zit h c1
      refine zq_iload_n (q := 10) G dX4_factorial_9 0 rfl rfl rfl ?_
      refine zq_iload_n (q := 11) G dX4_factorial_10 0 rfl rfl rfl ?_
      refine zq_iconst (q := 12) (v := 1) G dX4_factorial_11 (by decide) rfl ?_
      refine zq_isub (q := 13) G dX4_factorial_12 rfl ?_
      obtain ⟨z2, hc2, h⟩ := zbd h
      refine zq_callSi (q := 16) (ws2 := ([] : va_W)) (isC := []) (isR := []) (perm := []) (rest := [.int p0]) (As := [.int (p0 - (1 : Int32))]) G zs_X4_67 dX4_factorial_13 (fun sz9 => ihd (p0 - (1 : Int32)) z2 hc2 sz9) rfl ⟨rfl, rfl, rfl, rfl⟩ rfl (Nat.le_of_ble_eq_true rfl) ⟨(by show (0 + d) + 1 ≤ 0 + (d + 1); omega), (by show 8 + (1 + 11) + (0 + d * 20) ≤ 0 + (d + 1) * 20; omega), Nat.zero_le _, Nat.zero_le _⟩ rfl ?_
      refine zq_imul (q := 17) G dX4_factorial_16 rfl ?_
      exact zq_iret G hlocks hr rfl dX4_factorial_17 (zsome h)
    · have h := zie h c1
      refine zq_iconst (q := 6) (v := 1) G dX4_factorial_5 (by decide) rfl ?_
      refine zq_goto (q := 17) G dX4_factorial_6 (by decide) ?_
      exact zq_iret G hlocks hr rfl dX4_factorial_17 (zsome h)
set_option maxHeartbeats 4000000 in
set_option maxRecDepth 100000 in
theorem c_X4_begin (l : Launch) (D : va_G) (cyI cyZ : ClassId) (h0_0 h0_1 h0_2 h0_3 h0_4 h0_5 h0_6 h0_7 h0_8 h0_9 h0_10 h0_11 : Nat) (σ0 : zM) (o0 : zM) (h : s_X4_begin σ0 = some o0) (sz : Nat) : zMv l yX4_begin cX4_begin 2 0 0 D cyI cyZ sz [.ref h0_0] (w_M cyI cyZ h0_0 h0_1 h0_2 h0_3 h0_4 h0_5 h0_6 h0_7 h0_8 h0_9 h0_10 h0_11 σ0) (w_M cyI cyZ h0_0 h0_1 h0_2 h0_3 h0_4 h0_5 h0_6 h0_7 h0_8 h0_9 h0_10 h0_11 o0) := by
  unfold s_X4_begin at h
  refine zstartV (lv0 := [(0, .ref h0_0)]) (by decide) (Nat.le_of_ble_eq_true rfl) rfl (fun p e s m args below meth c G hr hlocks => ?_)
  have b2 : ∀ (n : Nat) (τ0 : zM) (x1 : Int32), s_X4_begin_2 n τ0 x1 = some o0 → zW p l e ({ frames := 0, cells := 0, slots := 0, locals := 0 } : Room) s m args below meth c D (va_A (w_M cyI cyZ h0_0 h0_1 h0_2 h0_3 h0_4 h0_5 h0_6 h0_7 h0_8 h0_9 h0_10 h0_11 σ0) sz) 2 0 0 (MQ below (zQv D cyI cyZ sz (w_M cyI cyZ h0_0 h0_1 h0_2 h0_3 h0_4 h0_5 h0_6 h0_7 h0_8 h0_9 h0_10 h0_11 σ0) (w_M cyI cyZ h0_0 h0_1 h0_2 h0_3 h0_4 h0_5 h0_6 h0_7 h0_8 h0_9 h0_10 h0_11 o0)) args s 0 0 (va_A (w_M cyI cyZ h0_0 h0_1 h0_2 h0_3 h0_4 h0_5 h0_6 h0_7 h0_8 h0_9 h0_10 h0_11 σ0) sz)) 2 [(0, .ref h0_0), (1, .int x1)] [] (w_M cyI cyZ h0_0 h0_1 h0_2 h0_3 h0_4 h0_5 h0_6 h0_7 h0_8 h0_9 h0_10 h0_11 τ0) := by
    intro n
    induction n with
    | zero => intro τ0 x1 h; rw [s_X4_begin_2] at h; exact nomatch h
    | succ n ih =>
      intro τ0 x1 h
      rw [s_X4_begin_2] at h
      refine zq_iload_n (q := 3) G dX4_begin_2 1 rfl rfl rfl ?_
      refine zq_bipush (q := 5) (v := 7) G dX4_begin_3 (by decide) rfl ?_
      refine zq_icmp_ge (tgt := 21) (q := 8) G dX4_begin_5 (by decide) rfl (fun c1 => ?_) (fun c1 => ?_)
      · have h := zit h c1
        refine zq_ws (congrArg (fun w9 => (w_M cyI cyZ h0_0 h0_1 h0_2 h0_3 h0_4 h0_5 h0_6 h0_7 h0_8 h0_9 h0_10 h0_11 w9)) (zsome h)) ?_
        exact zq_vret G hlocks hr dX4_begin_21
      · have h := zie h c1
        refine zq_aload_n (q := 9) G dX4_begin_8 0 rfl rfl rfl ?_
        refine zq_get (q := 12) G zu_X4 rfl zw_X4_f42 dX4_begin_9 0 11 rfl (by decide) ⟨⟨rfl, rfl⟩, rfl⟩ rfl rfl ?_
        refine zq_iload_n (q := 13) G dX4_begin_12 1 rfl rfl rfl ?_
        refine zq_iload_n (q := 14) G dX4_begin_13 1 rfl rfl rfl ?_
        obtain ⟨q2, h⟩ := zif h
        refine zq_iast (q := 15) (ws2 := (w_M cyI cyZ h0_0 h0_1 h0_2 h0_3 h0_4 h0_5 h0_6 h0_7 h0_8 h0_9 h0_10 h0_11 (τ0.1, τ0.2.1, (τ0.2.2.1.1, τ0.2.2.1.2.1, (upd τ0.2.2.1.2.2.1 x1.toNatClampNeg x1), τ0.2.2.1.2.2.2.1, τ0.2.2.1.2.2.2.2.1, τ0.2.2.1.2.2.2.2.2.1, τ0.2.2.1.2.2.2.2.2.2.1, τ0.2.2.1.2.2.2.2.2.2.2.1, τ0.2.2.1.2.2.2.2.2.2.2.2.1, τ0.2.2.1.2.2.2.2.2.2.2.2.2.1, τ0.2.2.1.2.2.2.2.2.2.2.2.2.2), τ0.2.2.2.1, τ0.2.2.2.2))) G dX4_begin_14 7 rfl q2 rfl rfl ?_
        refine zq_iinc (q := 18) (v := (x1 + 1)) (lv2 := [(1, .int (x1 + 1)), (0, .ref h0_0)]) G dX4_begin_15 1 rfl rfl (by decide) rfl rfl ?_
        refine zq_goto (q := 2) G dX4_begin_18 (by decide) ?_
        exact zq_sub _ [1, 0] rfl (ih _ _ h)
  refine zq_iconst (q := 1) (v := 0) G dX4_begin_0 (by decide) rfl ?_
  refine zq_istore_n (q := 2) (lv2 := [(1, .int (0 : Int32)), (0, .ref h0_0)]) G dX4_begin_1 rfl (by decide) rfl rfl ?_
  exact zq_sub _ [1, 0] rfl (b2  _ _ _ h)
set_option maxHeartbeats 4000000 in
set_option maxRecDepth 100000 in
theorem c_X4_exchange (l : Launch) (D : va_G) (cyI cyZ : ClassId) (h0_0 h0_1 h0_2 h0_3 h0_4 h0_5 h0_6 h0_7 h0_8 h0_9 h0_10 h0_11 : Nat) (σ0 : zM) (p0 : Int32) (p1 : Int32) (o0 : zM) (h : s_X4_exchange σ0 p0 p1 = some o0) (sz : Nat) : zMv l yX4_exchange cX4_exchange 4 0 0 D cyI cyZ sz [.ref h0_0, .int p0, .int p1] (w_M cyI cyZ h0_0 h0_1 h0_2 h0_3 h0_4 h0_5 h0_6 h0_7 h0_8 h0_9 h0_10 h0_11 σ0) (w_M cyI cyZ h0_0 h0_1 h0_2 h0_3 h0_4 h0_5 h0_6 h0_7 h0_8 h0_9 h0_10 h0_11 o0) := by
  unfold s_X4_exchange at h
  refine zstartV (lv0 := [(0, .ref h0_0), (1, .int p0), (2, .int p1)]) (by decide) (Nat.le_of_ble_eq_true rfl) rfl (fun p e s m args below meth c G hr hlocks => ?_)
  refine zq_aload_n (q := 1) G dX4_exchange_0 0 rfl rfl rfl ?_
  refine zq_get (q := 4) G zu_X4 rfl zw_X4_f42 dX4_exchange_1 0 11 rfl (by decide) ⟨⟨rfl, rfl⟩, rfl⟩ rfl rfl ?_
  refine zq_iload_n (q := 5) G dX4_exchange_4 1 rfl rfl rfl ?_
  obtain ⟨q1, h⟩ := zif h
  refine zq_iald (q := 6) G dX4_exchange_5 7 rfl q1 rfl ?_
  refine zq_istore_n (q := 7) (lv2 := [(3, .int (σ0.2.2.1.2.2.1 p0.toNatClampNeg)), (0, .ref h0_0), (1, .int p0), (2, .int p1)]) G dX4_exchange_6 rfl (by decide) rfl rfl ?_
  refine zq_aload_n (q := 8) G dX4_exchange_7 1 rfl rfl rfl ?_
  refine zq_get (q := 11) G zu_X4 rfl zw_X4_f42 dX4_exchange_8 0 11 rfl (by decide) ⟨⟨rfl, rfl⟩, rfl⟩ rfl rfl ?_
  refine zq_iload_n (q := 12) G dX4_exchange_11 2 rfl rfl rfl ?_
  refine zq_aload_n (q := 13) G dX4_exchange_12 1 rfl rfl rfl ?_
  refine zq_get (q := 16) G zu_X4 rfl zw_X4_f42 dX4_exchange_13 0 11 rfl (by decide) ⟨⟨rfl, rfl⟩, rfl⟩ rfl rfl ?_
  refine zq_iload_n (q := 17) G dX4_exchange_16 3 rfl rfl rfl ?_
  obtain ⟨q2, h⟩ := zif h
  refine zq_iald (q := 18) G dX4_exchange_17 7 rfl q2 rfl ?_
  obtain ⟨q3, h⟩ := zif h
  refine zq_iast (q := 19) (ws2 := (w_M cyI cyZ h0_0 h0_1 h0_2 h0_3 h0_4 h0_5 h0_6 h0_7 h0_8 h0_9 h0_10 h0_11 (σ0.1, σ0.2.1, (σ0.2.2.1.1, σ0.2.2.1.2.1, (upd σ0.2.2.1.2.2.1 p0.toNatClampNeg (σ0.2.2.1.2.2.1 p1.toNatClampNeg)), σ0.2.2.1.2.2.2.1, σ0.2.2.1.2.2.2.2.1, σ0.2.2.1.2.2.2.2.2.1, σ0.2.2.1.2.2.2.2.2.2.1, σ0.2.2.1.2.2.2.2.2.2.2.1, σ0.2.2.1.2.2.2.2.2.2.2.2.1, σ0.2.2.1.2.2.2.2.2.2.2.2.2.1, σ0.2.2.1.2.2.2.2.2.2.2.2.2.2), σ0.2.2.2.1, σ0.2.2.2.2))) G dX4_exchange_18 7 rfl q3 rfl rfl ?_
  refine zq_aload_n (q := 20) G dX4_exchange_19 1 rfl rfl rfl ?_
  refine zq_get (q := 23) G zu_X4 rfl zw_X4_f42 dX4_exchange_20 0 11 rfl (by decide) ⟨⟨rfl, rfl⟩, rfl⟩ rfl rfl ?_
  refine zq_iload_n (q := 24) G dX4_exchange_23 3 rfl rfl rfl ?_
  refine zq_iload_n (q := 25) G dX4_exchange_24 0 rfl rfl rfl ?_
  obtain ⟨q4, h⟩ := zif h
  refine zq_iast (q := 26) (ws2 := (w_M cyI cyZ h0_0 h0_1 h0_2 h0_3 h0_4 h0_5 h0_6 h0_7 h0_8 h0_9 h0_10 h0_11 (σ0.1, σ0.2.1, (σ0.2.2.1.1, σ0.2.2.1.2.1, (upd (upd σ0.2.2.1.2.2.1 p0.toNatClampNeg (σ0.2.2.1.2.2.1 p1.toNatClampNeg)) p1.toNatClampNeg (σ0.2.2.1.2.2.1 p0.toNatClampNeg)), σ0.2.2.1.2.2.2.1, σ0.2.2.1.2.2.2.2.1, σ0.2.2.1.2.2.2.2.2.1, σ0.2.2.1.2.2.2.2.2.2.1, σ0.2.2.1.2.2.2.2.2.2.2.1, σ0.2.2.1.2.2.2.2.2.2.2.2.1, σ0.2.2.1.2.2.2.2.2.2.2.2.2.1, σ0.2.2.1.2.2.2.2.2.2.2.2.2.2), σ0.2.2.2.1, σ0.2.2.2.2))) G dX4_exchange_25 7 rfl q4 rfl rfl ?_
  refine zq_ws (congrArg (fun w9 => (w_M cyI cyZ h0_0 h0_1 h0_2 h0_3 h0_4 h0_5 h0_6 h0_7 h0_8 h0_9 h0_10 h0_11 w9)) (zsome h)) ?_
  exact zq_vret G hlocks hr dX4_exchange_26
set_option maxHeartbeats 4000000 in
set_option maxRecDepth 100000 in
theorem c_X4_goOn (l : Launch) (D : va_G) (cyI cyZ : ClassId) (h0_0 h0_1 h0_2 h0_3 h0_4 h0_5 h0_6 h0_7 h0_8 h0_9 h0_10 h0_11 : Nat) (σ0 : zM) (p0 : Int32) (o0 : zM) (h : s_X4_goOn σ0 p0 = some o0) (sz : Nat) : zMv l yX4_goOn cX4_goOn 6 1 23 D cyI cyZ sz [.ref h0_0, .int p0] (w_M cyI cyZ h0_0 h0_1 h0_2 h0_3 h0_4 h0_5 h0_6 h0_7 h0_8 h0_9 h0_10 h0_11 σ0) (w_M cyI cyZ h0_0 h0_1 h0_2 h0_3 h0_4 h0_5 h0_6 h0_7 h0_8 h0_9 h0_10 h0_11 o0) := by
  unfold s_X4_goOn at h
  refine zstartV (lv0 := [(0, .ref h0_0), (1, .int p0)]) (by decide) (Nat.le_of_ble_eq_true rfl) rfl (fun p e s m args below meth c G hr hlocks => ?_)
  have b77 : ∀ (n : Nat) (τ0 : zM) (x4 : Int32) (x5 : Int32), s_X4_goOn_77 n τ0 x4 x5 = some o0 → zW p l e ({ frames := 1, cells := 0, slots := 0, locals := 23 } : Room) s m args below meth c D (va_A (w_M cyI cyZ h0_0 h0_1 h0_2 h0_3 h0_4 h0_5 h0_6 h0_7 h0_8 h0_9 h0_10 h0_11 σ0) sz) 6 0 0 (MQ below (zQv D cyI cyZ sz (w_M cyI cyZ h0_0 h0_1 h0_2 h0_3 h0_4 h0_5 h0_6 h0_7 h0_8 h0_9 h0_10 h0_11 σ0) (w_M cyI cyZ h0_0 h0_1 h0_2 h0_3 h0_4 h0_5 h0_6 h0_7 h0_8 h0_9 h0_10 h0_11 o0)) args s 0 0 (va_A (w_M cyI cyZ h0_0 h0_1 h0_2 h0_3 h0_4 h0_5 h0_6 h0_7 h0_8 h0_9 h0_10 h0_11 σ0) sz)) 77 [(0, .ref h0_0), (4, .int x4), (5, .int x5)] [] (w_M cyI cyZ h0_0 h0_1 h0_2 h0_3 h0_4 h0_5 h0_6 h0_7 h0_8 h0_9 h0_10 h0_11 τ0) := by
    intro n
    induction n with
    | zero => intro τ0 x4 x5 h; rw [s_X4_goOn_77] at h; exact nomatch h
    | succ n ih =>
      intro τ0 x4 x5 h
      rw [s_X4_goOn_77] at h
      refine zq_iload (q := 79) G dX4_goOn_77 1 rfl rfl ?_
      refine zq_iload (q := 81) G dX4_goOn_79 2 rfl rfl ?_
      refine zq_icmp_ge (tgt := 101) (q := 84) G dX4_goOn_81 (by decide) rfl (fun c1 => ?_) (fun c1 => ?_)
      · have h := zit h c1
        refine zq_ws (congrArg (fun w9 => (w_M cyI cyZ h0_0 h0_1 h0_2 h0_3 h0_4 h0_5 h0_6 h0_7 h0_8 h0_9 h0_10 h0_11 w9)) (zsome h)) ?_
        exact zq_vret G hlocks hr dX4_goOn_101
      · have h := zie h c1
        refine zq_aload_n (q := 85) G dX4_goOn_84 0 rfl rfl rfl ?_
        refine zq_iload (q := 87) G dX4_goOn_85 1 rfl rfl ?_
        refine zq_iload (q := 89) G dX4_goOn_87 2 rfl rfl ?_
        obtain ⟨z2, hc2, h⟩ := zbd h
        refine zq_callVv (q := 92) (ws2 := (w_M cyI cyZ h0_0 h0_1 h0_2 h0_3 h0_4 h0_5 h0_6 h0_7 h0_8 h0_9 h0_10 h0_11 z2)) (isC := [0, 1, 2, 3, 4, 5, 6, 7, 8, 9, 10, 11]) (isR := []) (perm := [0, 1, 2, 3, 4, 5, 6, 7, 8, 9, 10, 11]) (rest := []) (As := [.int x4, .int x5]) G zs_X4_71 dX4_goOn_89 (fun sz9 => c_X4_exchange l D cyI cyZ h0_0 h0_1 h0_2 h0_3 h0_4 h0_5 h0_6 h0_7 h0_8 h0_9 h0_10 h0_11 τ0 x4 x5 z2 hc2 sz9) 0 rfl rfl rfl ⟨rfl, rfl, rfl, rfl⟩ rfl (Nat.le_of_ble_eq_true rfl) ⟨Nat.le_of_ble_eq_true rfl, Nat.le_of_ble_eq_true rfl, Nat.zero_le _, Nat.zero_le _⟩ rfl ?_
        refine zq_iinc (q := 95) (v := (x4 + 1)) (lv2 := [(4, .int (x4 + 1)), (0, .ref h0_0), (5, .int x5)]) G dX4_goOn_92 1 rfl rfl (by decide) rfl rfl ?_
        refine zq_iinc (q := 98) (v := (x5 + (-1))) (lv2 := [(5, .int (x5 + (-1))), (4, .int (x4 + 1)), (0, .ref h0_0)]) G dX4_goOn_95 2 rfl rfl (by decide) rfl rfl ?_
        refine zq_goto (q := 77) G dX4_goOn_98 (by decide) ?_
        exact zq_sub _ [2, 1, 0] rfl (ih _ _ _ h)
  have b40 : ∀ (n : Nat) (τ0 : zM) (x1 : Int32) (x2 : Int32) (x3 : Int32), s_X4_goOn_40 n τ0 x1 x2 x3 = some o0 → zW p l e ({ frames := 1, cells := 0, slots := 0, locals := 23 } : Room) s m args below meth c D (va_A (w_M cyI cyZ h0_0 h0_1 h0_2 h0_3 h0_4 h0_5 h0_6 h0_7 h0_8 h0_9 h0_10 h0_11 σ0) sz) 6 0 0 (MQ below (zQv D cyI cyZ sz (w_M cyI cyZ h0_0 h0_1 h0_2 h0_3 h0_4 h0_5 h0_6 h0_7 h0_8 h0_9 h0_10 h0_11 σ0) (w_M cyI cyZ h0_0 h0_1 h0_2 h0_3 h0_4 h0_5 h0_6 h0_7 h0_8 h0_9 h0_10 h0_11 o0)) args s 0 0 (va_A (w_M cyI cyZ h0_0 h0_1 h0_2 h0_3 h0_4 h0_5 h0_6 h0_7 h0_8 h0_9 h0_10 h0_11 σ0) sz)) 40 [(0, .ref h0_0), (1, .int x1), (2, .int x2), (3, .int x3)] [] (w_M cyI cyZ h0_0 h0_1 h0_2 h0_3 h0_4 h0_5 h0_6 h0_7 h0_8 h0_9 h0_10 h0_11 τ0) := by
    intro n
    induction n with
    | zero => intro τ0 x1 x2 x3 h; rw [s_X4_goOn_40] at h; exact nomatch h
    | succ n ih =>
      intro τ0 x1 x2 x3 h
      rw [s_X4_goOn_40] at h
      refine zq_aload_n (q := 41) G dX4_goOn_40 0 rfl rfl rfl ?_
      refine zq_get (q := 44) G zu_X4 rfl zw_X4_f42 dX4_goOn_41 0 11 rfl (by decide) ⟨⟨rfl, rfl⟩, rfl⟩ rfl rfl ?_
      refine zq_iload_n (q := 45) G dX4_goOn_44 3 rfl rfl rfl ?_
      obtain ⟨q1, h⟩ := zif h
      refine zq_iald (q := 46) G dX4_goOn_45 7 rfl q1 rfl ?_
      refine zq_aload_n (q := 47) G dX4_goOn_46 0 rfl rfl rfl ?_
      refine zq_get (q := 50) G zu_X4 rfl zw_X4_f42 dX4_goOn_47 0 11 rfl (by decide) ⟨⟨rfl, rfl⟩, rfl⟩ rfl rfl ?_
      refine zq_iload_n (q := 51) G dX4_goOn_50 2 rfl rfl rfl ?_
      obtain ⟨q2, h⟩ := zif h
      refine zq_iald (q := 52) G dX4_goOn_51 7 rfl q2 rfl ?_
      refine zq_icmp_ge (tgt := 61) (q := 55) G dX4_goOn_52 (by decide) rfl (fun c3 => ?_) (fun c3 => ?_)
      · have h := zit h c3
        refine zq_aload_n (q := 62) G dX4_goOn_61 0 rfl rfl rfl ?_
        refine zq_iload_n (q := 63) G dX4_goOn_62 2 rfl rfl rfl ?_
        refine zq_iload_n (q := 64) G dX4_goOn_63 3 rfl rfl rfl ?_
        obtain ⟨z4, hc4, h⟩ := zbd h
        refine zq_callVv (q := 67) (ws2 := (w_M cyI cyZ h0_0 h0_1 h0_2 h0_3 h0_4 h0_5 h0_6 h0_7 h0_8 h0_9 h0_10 h0_11 z4)) (isC := [0, 1, 2, 3, 4, 5, 6, 7, 8, 9, 10, 11]) (isR := []) (perm := [0, 1, 2, 3, 4, 5, 6, 7, 8, 9, 10, 11]) (rest := []) (As := [.int x2, .int x3]) G zs_X4_71 dX4_goOn_64 (fun sz9 => c_X4_exchange l D cyI cyZ h0_0 h0_1 h0_2 h0_3 h0_4 h0_5 h0_6 h0_7 h0_8 h0_9 h0_10 h0_11 τ0 x2 x3 z4 hc4 sz9) 0 rfl rfl rfl ⟨rfl, rfl, rfl, rfl⟩ rfl (Nat.le_of_ble_eq_true rfl) ⟨Nat.le_of_ble_eq_true rfl, Nat.le_of_ble_eq_true rfl, Nat.zero_le _, Nat.zero_le _⟩ rfl ?_
        refine zq_iload_n (q := 68) G dX4_goOn_67 2 rfl rfl rfl ?_
        refine zq_iconst (q := 69) (v := 1) G dX4_goOn_68 (by decide) rfl ?_
        refine zq_iadd (q := 70) G dX4_goOn_69 rfl ?_
        refine zq_istore (q := 72) (lv2 := [(4, .int (x2 + (1 : Int32))), (0, .ref h0_0), (1, .int x1), (2, .int x2), (3, .int x3)]) G dX4_goOn_70 (by decide) rfl rfl ?_
        refine zq_iload_n (q := 73) G dX4_goOn_72 2 rfl rfl rfl ?_
        refine zq_iconst (q := 74) (v := 1) G dX4_goOn_73 (by decide) rfl ?_
        refine zq_isub (q := 75) G dX4_goOn_74 rfl ?_
        refine zq_istore (q := 77) (lv2 := [(5, .int (x1 - (1 : Int32))), (4, .int (x2 + (1 : Int32))), (0, .ref h0_0), (1, .int x1), (2, .int x2), (3, .int x3)]) G dX4_goOn_75 (by decide) rfl rfl ?_
        exact zq_sub _ [2, 1, 0] rfl (b77  _ _ _ _ h)
      · have h := zie h c3
        refine zq_iinc (q := 58) (v := (x3 + (-1))) (lv2 := [(3, .int (x3 + (-1))), (0, .ref h0_0), (1, .int x1), (2, .int x2)]) G dX4_goOn_55 3 rfl rfl (by decide) rfl rfl ?_
        refine zq_goto (q := 40) G dX4_goOn_58 (by decide) ?_
        exact zq_sub _ [1, 2, 3, 0] rfl (ih _ _ _ _ h)
  have b4 : ∀ (n : Nat) (τ0 : zM) (x1 : Int32) (x2 : Int32), s_X4_goOn_4 n τ0 x1 x2 = some o0 → zW p l e ({ frames := 1, cells := 0, slots := 0, locals := 23 } : Room) s m args below meth c D (va_A (w_M cyI cyZ h0_0 h0_1 h0_2 h0_3 h0_4 h0_5 h0_6 h0_7 h0_8 h0_9 h0_10 h0_11 σ0) sz) 6 0 0 (MQ below (zQv D cyI cyZ sz (w_M cyI cyZ h0_0 h0_1 h0_2 h0_3 h0_4 h0_5 h0_6 h0_7 h0_8 h0_9 h0_10 h0_11 σ0) (w_M cyI cyZ h0_0 h0_1 h0_2 h0_3 h0_4 h0_5 h0_6 h0_7 h0_8 h0_9 h0_10 h0_11 o0)) args s 0 0 (va_A (w_M cyI cyZ h0_0 h0_1 h0_2 h0_3 h0_4 h0_5 h0_6 h0_7 h0_8 h0_9 h0_10 h0_11 σ0) sz)) 4 [(0, .ref h0_0), (1, .int x1), (2, .int x2)] [] (w_M cyI cyZ h0_0 h0_1 h0_2 h0_3 h0_4 h0_5 h0_6 h0_7 h0_8 h0_9 h0_10 h0_11 τ0) := by
    intro n
    induction n with
    | zero => intro τ0 x1 x2 h; rw [s_X4_goOn_4] at h; exact nomatch h
    | succ n ih =>
      intro τ0 x1 x2 h
      rw [s_X4_goOn_4] at h
      refine zq_iload_n (q := 5) G dX4_goOn_4 2 rfl rfl rfl ?_
      refine zq_if_lt (tgt := 31) (q := 8) G dX4_goOn_5 (by decide) rfl (fun c1 => ?_) (fun c1 => ?_)
      · have h := zit h c1
        refine zq_iload_n (q := 32) G dX4_goOn_31 2 rfl rfl rfl ?_
        refine zq_if_ge (tgt := 36) (q := 35) G dX4_goOn_32 (by decide) rfl (fun c2 => ?_) (fun c2 => ?_)
        · have h := zit h c2
          refine zq_iload_n (q := 37) G dX4_goOn_36 1 rfl rfl rfl ?_
          refine zq_iconst (q := 38) (v := 1) G dX4_goOn_37 (by decide) rfl ?_
          refine zq_isub (q := 39) G dX4_goOn_38 rfl ?_
          refine zq_istore_n (q := 40) (lv2 := [(3, .int (x1 - (1 : Int32))), (0, .ref h0_0), (1, .int x1), (2, .int x2)]) G dX4_goOn_39 rfl (by decide) rfl rfl ?_
          exact zq_sub _ [1, 2, 3, 0] rfl (b40  _ _ _ _ _ h)
        · have h := zie h c2
          refine zq_ws (congrArg (fun w9 => (w_M cyI cyZ h0_0 h0_1 h0_2 h0_3 h0_4 h0_5 h0_6 h0_7 h0_8 h0_9 h0_10 h0_11 w9)) (zsome h)) ?_
          exact zq_vret G hlocks hr dX4_goOn_35
      · have h := zie h c1
        refine zq_aload_n (q := 9) G dX4_goOn_8 0 rfl rfl rfl ?_
        refine zq_get (q := 12) G zu_X4 rfl zw_X4_f42 dX4_goOn_9 0 11 rfl (by decide) ⟨⟨rfl, rfl⟩, rfl⟩ rfl rfl ?_
        refine zq_iload_n (q := 13) G dX4_goOn_12 2 rfl rfl rfl ?_
        obtain ⟨q3, h⟩ := zif h
        refine zq_iald (q := 14) G dX4_goOn_13 7 rfl q3 rfl ?_
        refine zq_aload_n (q := 15) G dX4_goOn_14 0 rfl rfl rfl ?_
        refine zq_get (q := 18) G zu_X4 rfl zw_X4_f42 dX4_goOn_15 0 11 rfl (by decide) ⟨⟨rfl, rfl⟩, rfl⟩ rfl rfl ?_
        refine zq_iload_n (q := 19) G dX4_goOn_18 2 rfl rfl rfl ?_
        refine zq_iconst (q := 20) (v := 1) G dX4_goOn_19 (by decide) rfl ?_
        refine zq_iadd (q := 21) G dX4_goOn_20 rfl ?_
        obtain ⟨q4, h⟩ := zif h
        refine zq_iald (q := 22) G dX4_goOn_21 7 rfl q4 rfl ?_
        refine zq_icmp_le (tgt := 31) (q := 25) G dX4_goOn_22 (by decide) rfl (fun c5 => ?_) (fun c5 => ?_)
        · have h := zit h c5
          refine zq_iload_n (q := 32) G dX4_goOn_31 2 rfl rfl rfl ?_
          refine zq_if_ge (tgt := 36) (q := 35) G dX4_goOn_32 (by decide) rfl (fun c6 => ?_) (fun c6 => ?_)
          · have h := zit h c6
            refine zq_iload_n (q := 37) G dX4_goOn_36 1 rfl rfl rfl ?_
            refine zq_iconst (q := 38) (v := 1) G dX4_goOn_37 (by decide) rfl ?_
            refine zq_isub (q := 39) G dX4_goOn_38 rfl ?_
            refine zq_istore_n (q := 40) (lv2 := [(3, .int (x1 - (1 : Int32))), (0, .ref h0_0), (1, .int x1), (2, .int x2)]) G dX4_goOn_39 rfl (by decide) rfl rfl ?_
            exact zq_sub _ [1, 2, 3, 0] rfl (b40  _ _ _ _ _ h)
          · have h := zie h c6
            refine zq_ws (congrArg (fun w9 => (w_M cyI cyZ h0_0 h0_1 h0_2 h0_3 h0_4 h0_5 h0_6 h0_7 h0_8 h0_9 h0_10 h0_11 w9)) (zsome h)) ?_
            exact zq_vret G hlocks hr dX4_goOn_35
        · have h := zie h c5
          refine zq_iinc (q := 28) (v := (x2 + (-1))) (lv2 := [(2, .int (x2 + (-1))), (0, .ref h0_0), (1, .int x1)]) G dX4_goOn_25 2 rfl rfl (by decide) rfl rfl ?_
          refine zq_goto (q := 4) G dX4_goOn_28 (by decide) ?_
          exact zq_sub _ [1, 2, 0] rfl (ih _ _ _ h)
  refine zq_iload_n (q := 1) G dX4_goOn_0 1 rfl rfl rfl ?_
  refine zq_iconst (q := 2) (v := 2) G dX4_goOn_1 (by decide) rfl ?_
  refine zq_isub (q := 3) G dX4_goOn_2 rfl ?_
  refine zq_istore_n (q := 4) (lv2 := [(2, .int (p0 - (2 : Int32))), (0, .ref h0_0), (1, .int p0)]) G dX4_goOn_3 rfl (by decide) rfl rfl ?_
  exact zq_sub _ [1, 2, 0] rfl (b4  _ _ _ _ h)
set_option maxHeartbeats 4000000 in
set_option maxRecDepth 100000 in
theorem c_X4_sum (l : Launch) (D : va_G) (cyI cyZ : ClassId) (h0_0 h0_1 h0_2 h0_3 h0_4 h0_5 h0_6 h0_7 h0_8 h0_9 h0_10 h0_11 : Nat) (σ0 : zM) (p0 : Int32) (r : Int32) (h : s_X4_sum σ0 p0 = some r) (sz : Nat) : zMi l yX4_sum cX4_sum 4 .int 0 0 D cyI cyZ sz [.ref h0_0, .int p0] (w_M cyI cyZ h0_0 h0_1 h0_2 h0_3 h0_4 h0_5 h0_6 h0_7 h0_8 h0_9 h0_10 h0_11 σ0) r (w_M cyI cyZ h0_0 h0_1 h0_2 h0_3 h0_4 h0_5 h0_6 h0_7 h0_8 h0_9 h0_10 h0_11 σ0) := by
  unfold s_X4_sum at h
  refine zstartI (lv0 := [(0, .ref h0_0), (1, .int p0)]) (by decide) (Nat.le_of_ble_eq_true rfl) rfl (fun p e s m args below meth c G hr hlocks => ?_)
  have b4 : ∀ (n : Nat) (x1 : Int32) (x2 : Int32) (x3 : Int32), s_X4_sum_4 n σ0 x1 x2 x3 = some r → zW p l e ({ frames := 0, cells := 0, slots := 0, locals := 0 } : Room) s m args below meth c D (va_A (w_M cyI cyZ h0_0 h0_1 h0_2 h0_3 h0_4 h0_5 h0_6 h0_7 h0_8 h0_9 h0_10 h0_11 σ0) sz) 4 0 0 (MQ below (zQi D cyI cyZ sz (w_M cyI cyZ h0_0 h0_1 h0_2 h0_3 h0_4 h0_5 h0_6 h0_7 h0_8 h0_9 h0_10 h0_11 σ0) r (w_M cyI cyZ h0_0 h0_1 h0_2 h0_3 h0_4 h0_5 h0_6 h0_7 h0_8 h0_9 h0_10 h0_11 σ0)) args s 0 0 (va_A (w_M cyI cyZ h0_0 h0_1 h0_2 h0_3 h0_4 h0_5 h0_6 h0_7 h0_8 h0_9 h0_10 h0_11 σ0) sz)) 4 [(0, .ref h0_0), (1, .int x1), (2, .int x2), (3, .int x3)] [] (w_M cyI cyZ h0_0 h0_1 h0_2 h0_3 h0_4 h0_5 h0_6 h0_7 h0_8 h0_9 h0_10 h0_11 σ0) := by
    intro n
    induction n with
    | zero => intro x1 x2 x3 h; rw [s_X4_sum_4] at h; exact nomatch h
    | succ n ih =>
      intro x1 x2 x3 h
      rw [s_X4_sum_4] at h
      refine zq_iload_n (q := 5) G dX4_sum_4 3 rfl rfl rfl ?_
      refine zq_iload_n (q := 6) G dX4_sum_5 1 rfl rfl rfl ?_
      refine zq_icmp_ge (tgt := 34) (q := 9) G dX4_sum_6 (by decide) rfl (fun c1 => ?_) (fun c1 => ?_)
      · have h := zit h c1
        refine zq_iload_n (q := 35) G dX4_sum_34 2 rfl rfl rfl ?_
        exact zq_iret G hlocks hr rfl dX4_sum_35 (zsome h)
      · have h := zie h c1
        refine zq_iload_n (q := 10) G dX4_sum_9 2 rfl rfl rfl ?_
        refine zq_aload_n (q := 11) G dX4_sum_10 0 rfl rfl rfl ?_
        refine zq_get (q := 14) G zu_X4 rfl zw_X4_f36 dX4_sum_11 0 9 rfl (by decide) ⟨⟨rfl, rfl⟩, rfl⟩ rfl rfl ?_
        refine zq_bipush (q := 16) (v := 7) G dX4_sum_14 (by decide) rfl ?_
        refine zq_iload_n (q := 17) G dX4_sum_16 3 rfl rfl rfl ?_
        refine zq_imul (q := 18) G dX4_sum_17 rfl ?_
        refine zq_aload_n (q := 19) G dX4_sum_18 0 rfl rfl rfl ?_
        refine zq_get (q := 22) G zu_X4 rfl zw_X4_f42 dX4_sum_19 0 11 rfl (by decide) ⟨⟨rfl, rfl⟩, rfl⟩ rfl rfl ?_
        refine zq_iload_n (q := 23) G dX4_sum_22 3 rfl rfl rfl ?_
        obtain ⟨q2, h⟩ := zif h
        refine zq_iald (q := 24) G dX4_sum_23 7 rfl q2 rfl ?_
        refine zq_iadd (q := 25) G dX4_sum_24 rfl ?_
        obtain ⟨q3, h⟩ := zif h
        refine zq_iald (q := 26) G dX4_sum_25 5 rfl q3 rfl ?_
        refine zq_iadd (q := 27) G dX4_sum_26 rfl ?_
        refine zq_istore_n (q := 28) (lv2 := [(2, .int (x2 + (σ0.2.2.1.1 (((7 : Int32) * x3) + (σ0.2.2.1.2.2.1 x3.toNatClampNeg)).toNatClampNeg))), (0, .ref h0_0), (1, .int x1), (3, .int x3)]) G dX4_sum_27 rfl (by decide) rfl rfl ?_
        refine zq_iinc (q := 31) (v := (x3 + 1)) (lv2 := [(3, .int (x3 + 1)), (2, .int (x2 + (σ0.2.2.1.1 (((7 : Int32) * x3) + (σ0.2.2.1.2.2.1 x3.toNatClampNeg)).toNatClampNeg))), (0, .ref h0_0), (1, .int x1)]) G dX4_sum_28 3 rfl rfl (by decide) rfl rfl ?_
        refine zq_goto (q := 4) G dX4_sum_31 (by decide) ?_
        exact zq_sub _ [2, 3, 1, 0] rfl (ih _ _ _ h)
  refine zq_iconst (q := 1) (v := 0) G dX4_sum_0 (by decide) rfl ?_
  refine zq_istore_n (q := 2) (lv2 := [(2, .int (0 : Int32)), (0, .ref h0_0), (1, .int p0)]) G dX4_sum_1 rfl (by decide) rfl rfl ?_
  refine zq_iconst (q := 3) (v := 0) G dX4_sum_2 (by decide) rfl ?_
  refine zq_istore_n (q := 4) (lv2 := [(3, .int (0 : Int32)), (2, .int (0 : Int32)), (0, .ref h0_0), (1, .int p0)]) G dX4_sum_3 rfl (by decide) rfl rfl ?_
  exact zq_sub _ [2, 3, 1, 0] rfl (b4  _ _ _ _ h)
set_option maxHeartbeats 4000000 in
set_option maxRecDepth 100000 in
theorem c_X4_take (l : Launch) (D : va_G) (cyI cyZ : ClassId) (h0_0 h0_1 h0_2 h0_3 h0_4 h0_5 h0_6 h0_7 h0_8 h0_9 h0_10 h0_11 : Nat) (σ0 : zM) (o0 : zM) (h : s_X4_take σ0 = some o0) (sz : Nat) : zMv l yX4_take cX4_take 3 1 22 D cyI cyZ sz [.ref h0_0] (w_M cyI cyZ h0_0 h0_1 h0_2 h0_3 h0_4 h0_5 h0_6 h0_7 h0_8 h0_9 h0_10 h0_11 σ0) (w_M cyI cyZ h0_0 h0_1 h0_2 h0_3 h0_4 h0_5 h0_6 h0_7 h0_8 h0_9 h0_10 h0_11 o0) := by
  unfold s_X4_take at h
  refine zstartV (lv0 := [(0, .ref h0_0)]) (by decide) (Nat.le_of_ble_eq_true rfl) rfl (fun p e s m args below meth c G hr hlocks => ?_)
  have b12 : ∀ (k2 : (zM → Int32 → Option (zM))) (hk2 : ∀ (τ0 : zM) (x1 : Int32), k2 τ0 x1 = some o0 → zW p l e ({ frames := 1, cells := 0, slots := 0, locals := 22 } : Room) s m args below meth c D (va_A (w_M cyI cyZ h0_0 h0_1 h0_2 h0_3 h0_4 h0_5 h0_6 h0_7 h0_8 h0_9 h0_10 h0_11 σ0) sz) 3 0 0 (MQ below (zQv D cyI cyZ sz (w_M cyI cyZ h0_0 h0_1 h0_2 h0_3 h0_4 h0_5 h0_6 h0_7 h0_8 h0_9 h0_10 h0_11 σ0) (w_M cyI cyZ h0_0 h0_1 h0_2 h0_3 h0_4 h0_5 h0_6 h0_7 h0_8 h0_9 h0_10 h0_11 o0)) args s 0 0 (va_A (w_M cyI cyZ h0_0 h0_1 h0_2 h0_3 h0_4 h0_5 h0_6 h0_7 h0_8 h0_9 h0_10 h0_11 σ0) sz)) 2 [(0, .ref h0_0), (1, .int x1)] [] (w_M cyI cyZ h0_0 h0_1 h0_2 h0_3 h0_4 h0_5 h0_6 h0_7 h0_8 h0_9 h0_10 h0_11 τ0)) (n : Nat) (τ0 : zM) (x1 : Int32) (x2 : Int32), s_X4_take_12 k2 n τ0 x1 x2 = some o0 → zW p l e ({ frames := 1, cells := 0, slots := 0, locals := 22 } : Room) s m args below meth c D (va_A (w_M cyI cyZ h0_0 h0_1 h0_2 h0_3 h0_4 h0_5 h0_6 h0_7 h0_8 h0_9 h0_10 h0_11 σ0) sz) 3 0 0 (MQ below (zQv D cyI cyZ sz (w_M cyI cyZ h0_0 h0_1 h0_2 h0_3 h0_4 h0_5 h0_6 h0_7 h0_8 h0_9 h0_10 h0_11 σ0) (w_M cyI cyZ h0_0 h0_1 h0_2 h0_3 h0_4 h0_5 h0_6 h0_7 h0_8 h0_9 h0_10 h0_11 o0)) args s 0 0 (va_A (w_M cyI cyZ h0_0 h0_1 h0_2 h0_3 h0_4 h0_5 h0_6 h0_7 h0_8 h0_9 h0_10 h0_11 σ0) sz)) 12 [(0, .ref h0_0), (1, .int x1), (2, .int x2)] [] (w_M cyI cyZ h0_0 h0_1 h0_2 h0_3 h0_4 h0_5 h0_6 h0_7 h0_8 h0_9 h0_10 h0_11 τ0) := by
    intro k2 hk2
    intro n
    induction n with
    | zero => intro τ0 x1 x2 h; rw [s_X4_take_12] at h; exact nomatch h
    | succ n ih =>
      intro τ0 x1 x2 h
      rw [s_X4_take_12] at h
      refine zq_iload_n (q := 13) G dX4_take_12 2 rfl rfl rfl ?_
      refine zq_aload_n (q := 14) G dX4_take_13 0 rfl rfl rfl ?_
      refine zq_get (q := 17) G zu_X4 rfl zw_X4_f7 dX4_take_14 0 0 rfl (by decide) ⟨⟨rfl, rfl⟩, rfl⟩ rfl rfl ?_
      refine zq_icmp_ge (tgt := 43) (q := 20) G dX4_take_17 (by decide) rfl (fun c1 => ?_) (fun c1 => ?_)
      · have h := zit h c1
        refine zq_iinc (q := 46) (v := (x1 + 1)) (lv2 := [(1, .int (x1 + 1)), (0, .ref h0_0), (2, .int x2)]) G dX4_take_43 1 rfl rfl (by decide) rfl rfl ?_
        refine zq_goto (q := 2) G dX4_take_46 (by decide) ?_
        exact zq_sub _ [1, 0] rfl (hk2 _ _ h)
      · have h := zie h c1
        refine zq_aload_n (q := 21) G dX4_take_20 0 rfl rfl rfl ?_
        refine zq_get (q := 24) G zu_X4 rfl zw_X4_f36 dX4_take_21 0 9 rfl (by decide) ⟨⟨rfl, rfl⟩, rfl⟩ rfl rfl ?_
        refine zq_bipush (q := 26) (v := 7) G dX4_take_24 (by decide) rfl ?_
        refine zq_iload_n (q := 27) G dX4_take_26 1 rfl rfl rfl ?_
        refine zq_imul (q := 28) G dX4_take_27 rfl ?_
        refine zq_iload_n (q := 29) G dX4_take_28 2 rfl rfl rfl ?_
        refine zq_iadd (q := 30) G dX4_take_29 rfl ?_
        refine zq_aload_n (q := 31) G dX4_take_30 0 rfl rfl rfl ?_
        refine zq_iload_n (q := 32) G dX4_take_31 1 rfl rfl rfl ?_
        refine zq_iload_n (q := 33) G dX4_take_32 2 rfl rfl rfl ?_
        obtain ⟨z2, hc2, h⟩ := zbd h
        refine zq_callVi (q := 36) (ws2 := (w_M cyI cyZ h0_0 h0_1 h0_2 h0_3 h0_4 h0_5 h0_6 h0_7 h0_8 h0_9 h0_10 h0_11 τ0)) (isC := [0, 1, 2, 3, 4, 5, 6, 7, 8, 9, 10, 11]) (isR := []) (perm := [0, 1, 2, 3, 4, 5, 6, 7, 8, 9, 10, 11]) (rest := [.int (((7 : Int32) * x1) + x2), .ref h0_5]) (As := [.int x1, .int x2]) G zs_X4_75 dX4_take_33 (fun sz9 => c_X4_cost l D cyI cyZ h0_0 h0_1 h0_2 h0_3 h0_4 h0_5 h0_6 h0_7 h0_8 h0_9 h0_10 h0_11 τ0 x1 x2 z2 hc2 sz9) 0 rfl rfl rfl ⟨rfl, rfl, rfl, rfl⟩ rfl (Nat.le_of_ble_eq_true rfl) ⟨Nat.le_of_ble_eq_true rfl, Nat.le_of_ble_eq_true rfl, Nat.zero_le _, Nat.zero_le _⟩ rfl ?_
        obtain ⟨q3, h⟩ := zif h
        refine zq_iast (q := 37) (ws2 := (w_M cyI cyZ h0_0 h0_1 h0_2 h0_3 h0_4 h0_5 h0_6 h0_7 h0_8 h0_9 h0_10 h0_11 (τ0.1, τ0.2.1, ((upd τ0.2.2.1.1 (((7 : Int32) * x1) + x2).toNatClampNeg z2), τ0.2.2.1.2.1, τ0.2.2.1.2.2.1, τ0.2.2.1.2.2.2.1, τ0.2.2.1.2.2.2.2.1, τ0.2.2.1.2.2.2.2.2.1, τ0.2.2.1.2.2.2.2.2.2.1, τ0.2.2.1.2.2.2.2.2.2.2.1, τ0.2.2.1.2.2.2.2.2.2.2.2.1, τ0.2.2.1.2.2.2.2.2.2.2.2.2.1, τ0.2.2.1.2.2.2.2.2.2.2.2.2.2), τ0.2.2.2.1, τ0.2.2.2.2))) G dX4_take_36 5 rfl q3 rfl rfl ?_
        refine zq_iinc (q := 40) (v := (x2 + 1)) (lv2 := [(2, .int (x2 + 1)), (0, .ref h0_0), (1, .int x1)]) G dX4_take_37 2 rfl rfl (by decide) rfl rfl ?_
        refine zq_goto (q := 12) G dX4_take_40 (by decide) ?_
        exact zq_sub _ [1, 2, 0] rfl (ih _ _ _ h)
  have b2 : ∀ (n : Nat) (τ0 : zM) (x1 : Int32), s_X4_take_2 n τ0 x1 = some o0 → zW p l e ({ frames := 1, cells := 0, slots := 0, locals := 22 } : Room) s m args below meth c D (va_A (w_M cyI cyZ h0_0 h0_1 h0_2 h0_3 h0_4 h0_5 h0_6 h0_7 h0_8 h0_9 h0_10 h0_11 σ0) sz) 3 0 0 (MQ below (zQv D cyI cyZ sz (w_M cyI cyZ h0_0 h0_1 h0_2 h0_3 h0_4 h0_5 h0_6 h0_7 h0_8 h0_9 h0_10 h0_11 σ0) (w_M cyI cyZ h0_0 h0_1 h0_2 h0_3 h0_4 h0_5 h0_6 h0_7 h0_8 h0_9 h0_10 h0_11 o0)) args s 0 0 (va_A (w_M cyI cyZ h0_0 h0_1 h0_2 h0_3 h0_4 h0_5 h0_6 h0_7 h0_8 h0_9 h0_10 h0_11 σ0) sz)) 2 [(0, .ref h0_0), (1, .int x1)] [] (w_M cyI cyZ h0_0 h0_1 h0_2 h0_3 h0_4 h0_5 h0_6 h0_7 h0_8 h0_9 h0_10 h0_11 τ0) := by
    intro n
    induction n with
    | zero => intro τ0 x1 h; rw [s_X4_take_2] at h; exact nomatch h
    | succ n ih =>
      intro τ0 x1 h
      rw [s_X4_take_2] at h
      refine zq_iload_n (q := 3) G dX4_take_2 1 rfl rfl rfl ?_
      refine zq_aload_n (q := 4) G dX4_take_3 0 rfl rfl rfl ?_
      refine zq_get (q := 7) G zu_X4 rfl zw_X4_f7 dX4_take_4 0 0 rfl (by decide) ⟨⟨rfl, rfl⟩, rfl⟩ rfl rfl ?_
      refine zq_icmp_ge (tgt := 49) (q := 10) G dX4_take_7 (by decide) rfl (fun c1 => ?_) (fun c1 => ?_)
      · have h := zit h c1
        refine zq_ws (congrArg (fun w9 => (w_M cyI cyZ h0_0 h0_1 h0_2 h0_3 h0_4 h0_5 h0_6 h0_7 h0_8 h0_9 h0_10 h0_11 w9)) (zsome h)) ?_
        exact zq_vret G hlocks hr dX4_take_49
      · have h := zie h c1
        refine zq_iconst (q := 11) (v := 0) G dX4_take_10 (by decide) rfl ?_
        refine zq_istore_n (q := 12) (lv2 := [(2, .int (0 : Int32)), (0, .ref h0_0), (1, .int x1)]) G dX4_take_11 rfl (by decide) rfl rfl ?_
        exact zq_sub _ [1, 2, 0] rfl (b12 _ ih _ _ _ _ h)
  refine zq_iconst (q := 1) (v := 0) G dX4_take_0 (by decide) rfl ?_
  refine zq_istore_n (q := 2) (lv2 := [(1, .int (0 : Int32)), (0, .ref h0_0)]) G dX4_take_1 rfl (by decide) rfl rfl ?_
  exact zq_sub _ [1, 0] rfl (b2  _ _ _ h)
set_option maxHeartbeats 4000000 in
set_option maxRecDepth 100000 in
theorem c_X4_see (l : Launch) (D : va_G) (cyI cyZ : ClassId) (h0_0 h0_1 h0_2 h0_3 h0_4 h0_5 h0_6 h0_7 h0_8 h0_9 h0_10 h0_11 : Nat) (σ0 : zM) (p0 : Int32) (p1 : Int32) (o0 : zM) (h : s_X4_see σ0 p0 p1 = some o0) (sz : Nat) : zMv l yX4_see cX4_see 6 0 0 D cyI cyZ sz [.ref h0_0, .int p0, .int p1] (w_M cyI cyZ h0_0 h0_1 h0_2 h0_3 h0_4 h0_5 h0_6 h0_7 h0_8 h0_9 h0_10 h0_11 σ0) (w_M cyI cyZ h0_0 h0_1 h0_2 h0_3 h0_4 h0_5 h0_6 h0_7 h0_8 h0_9 h0_10 h0_11 o0) := by
  unfold s_X4_see at h
  refine zstartV (lv0 := [(0, .ref h0_0), (1, .int p0), (2, .int p1)]) (by decide) (Nat.le_of_ble_eq_true rfl) rfl (fun p e s m args below meth c G hr hlocks => ?_)
  have b206 : ∀ (τ0 : zM) (x2 : Int32) (y0 : Int32), s_X4_see_206 τ0 x2 y0 = some o0 → zW p l e ({ frames := 0, cells := 0, slots := 0, locals := 0 } : Room) s m args below meth c D (va_A (w_M cyI cyZ h0_0 h0_1 h0_2 h0_3 h0_4 h0_5 h0_6 h0_7 h0_8 h0_9 h0_10 h0_11 σ0) sz) 6 0 0 (MQ below (zQv D cyI cyZ sz (w_M cyI cyZ h0_0 h0_1 h0_2 h0_3 h0_4 h0_5 h0_6 h0_7 h0_8 h0_9 h0_10 h0_11 σ0) (w_M cyI cyZ h0_0 h0_1 h0_2 h0_3 h0_4 h0_5 h0_6 h0_7 h0_8 h0_9 h0_10 h0_11 o0)) args s 0 0 (va_A (w_M cyI cyZ h0_0 h0_1 h0_2 h0_3 h0_4 h0_5 h0_6 h0_7 h0_8 h0_9 h0_10 h0_11 σ0) sz)) 206 [(0, .ref h0_0), (2, .int x2)] [.int y0, .ref h0_0] (w_M cyI cyZ h0_0 h0_1 h0_2 h0_3 h0_4 h0_5 h0_6 h0_7 h0_8 h0_9 h0_10 h0_11 τ0) := by
    intro τ0 x2 y0 h
    unfold s_X4_see_206 at h
    refine zq_put (q := 209) (ws2 := (w_M cyI cyZ h0_0 h0_1 h0_2 h0_3 h0_4 h0_5 h0_6 h0_7 h0_8 h0_9 h0_10 h0_11 (τ0.1, τ0.2.1, (τ0.2.2.1.1, τ0.2.2.1.2.1, τ0.2.2.1.2.2.1, τ0.2.2.1.2.2.2.1, τ0.2.2.1.2.2.2.2.1, τ0.2.2.1.2.2.2.2.2.1, y0, τ0.2.2.1.2.2.2.2.2.2.2.1, τ0.2.2.1.2.2.2.2.2.2.2.2.1, τ0.2.2.1.2.2.2.2.2.2.2.2.2.1, τ0.2.2.1.2.2.2.2.2.2.2.2.2.2), τ0.2.2.2.1, τ0.2.2.2.2))) G zu_X4 rfl tyX4_ok nmX4 zw_X4_f86 dX4_see_206 0 15 rfl (by decide) ⟨⟨rfl, rfl⟩, rfl⟩ rfl rfl rfl (Nat.le_of_ble_eq_true rfl) rfl rfl ?_
    refine zq_aload_n (q := 210) G dX4_see_209 0 rfl rfl rfl ?_
    refine zq_dup (q := 211) G dX4_see_210 rfl rfl ?_
    refine zq_get (q := 214) G zu_X4 rfl zw_X4_f83 dX4_see_211 0 14 rfl (by decide) ⟨⟨rfl, rfl⟩, rfl⟩ rfl rfl ?_
    refine zq_iload_n (q := 215) G dX4_see_214 1 rfl rfl rfl ?_
    refine zq_aload_n (q := 216) G dX4_see_215 0 rfl rfl rfl ?_
    refine zq_get (q := 219) G zu_X4 rfl zw_X4_f80 dX4_see_216 0 13 rfl (by decide) ⟨⟨rfl, rfl⟩, rfl⟩ rfl rfl ?_
    refine zq_icmp_ne (tgt := 226) (q := 222) G dX4_see_219 (by decide) rfl (fun c1 => ?_) (fun c1 => ?_)
    · have h := zie h c1
      refine zq_iconst (q := 227) (v := 0) G dX4_see_226 (by decide) rfl ?_
      refine zq_iadd (q := 228) G dX4_see_227 rfl ?_
      refine zq_put (q := 231) (ws2 := (w_M cyI cyZ h0_0 h0_1 h0_2 h0_3 h0_4 h0_5 h0_6 h0_7 h0_8 h0_9 h0_10 h0_11 (τ0.1, τ0.2.1, (τ0.2.2.1.1, τ0.2.2.1.2.1, τ0.2.2.1.2.2.1, τ0.2.2.1.2.2.2.1, τ0.2.2.1.2.2.2.2.1, (τ0.2.2.1.2.2.2.2.2.1 + (0 : Int32)), y0, τ0.2.2.1.2.2.2.2.2.2.2.1, τ0.2.2.1.2.2.2.2.2.2.2.2.1, τ0.2.2.1.2.2.2.2.2.2.2.2.2.1, τ0.2.2.1.2.2.2.2.2.2.2.2.2.2), τ0.2.2.2.1, τ0.2.2.2.2))) G zu_X4 rfl tyX4_ok nmX4 zw_X4_f83 dX4_see_228 0 14 rfl (by decide) ⟨⟨rfl, rfl⟩, rfl⟩ rfl rfl rfl (Nat.le_of_ble_eq_true rfl) rfl rfl ?_
      refine zq_ws (congrArg (fun w9 => (w_M cyI cyZ h0_0 h0_1 h0_2 h0_3 h0_4 h0_5 h0_6 h0_7 h0_8 h0_9 h0_10 h0_11 w9)) (zsome h)) ?_
      exact zq_vret G hlocks hr dX4_see_231
    · have h := zit h c1
      refine zq_iconst (q := 223) (v := 1) G dX4_see_222 (by decide) rfl ?_
      refine zq_goto (q := 227) G dX4_see_223 (by decide) ?_
      refine zq_iadd (q := 228) G dX4_see_227 rfl ?_
      refine zq_put (q := 231) (ws2 := (w_M cyI cyZ h0_0 h0_1 h0_2 h0_3 h0_4 h0_5 h0_6 h0_7 h0_8 h0_9 h0_10 h0_11 (τ0.1, τ0.2.1, (τ0.2.2.1.1, τ0.2.2.1.2.1, τ0.2.2.1.2.2.1, τ0.2.2.1.2.2.2.1, τ0.2.2.1.2.2.2.2.1, (τ0.2.2.1.2.2.2.2.2.1 + (1 : Int32)), y0, τ0.2.2.1.2.2.2.2.2.2.2.1, τ0.2.2.1.2.2.2.2.2.2.2.2.1, τ0.2.2.1.2.2.2.2.2.2.2.2.2.1, τ0.2.2.1.2.2.2.2.2.2.2.2.2.2), τ0.2.2.2.1, τ0.2.2.2.2))) G zu_X4 rfl tyX4_ok nmX4 zw_X4_f83 dX4_see_228 0 14 rfl (by decide) ⟨⟨rfl, rfl⟩, rfl⟩ rfl rfl rfl (Nat.le_of_ble_eq_true rfl) rfl rfl ?_
      refine zq_ws (congrArg (fun w9 => (w_M cyI cyZ h0_0 h0_1 h0_2 h0_3 h0_4 h0_5 h0_6 h0_7 h0_8 h0_9 h0_10 h0_11 w9)) (zsome h)) ?_
      exact zq_vret G hlocks hr dX4_see_231
  have b160 : ∀ (n : Nat) (τ0 : zM) (x1 : Int32) (x4 : Int32), s_X4_see_160 n τ0 x1 x4 = some o0 → zW p l e ({ frames := 0, cells := 0, slots := 0, locals := 0 } : Room) s m args below meth c D (va_A (w_M cyI cyZ h0_0 h0_1 h0_2 h0_3 h0_4 h0_5 h0_6 h0_7 h0_8 h0_9 h0_10 h0_11 σ0) sz) 6 0 0 (MQ below (zQv D cyI cyZ sz (w_M cyI cyZ h0_0 h0_1 h0_2 h0_3 h0_4 h0_5 h0_6 h0_7 h0_8 h0_9 h0_10 h0_11 σ0) (w_M cyI cyZ h0_0 h0_1 h0_2 h0_3 h0_4 h0_5 h0_6 h0_7 h0_8 h0_9 h0_10 h0_11 o0)) args s 0 0 (va_A (w_M cyI cyZ h0_0 h0_1 h0_2 h0_3 h0_4 h0_5 h0_6 h0_7 h0_8 h0_9 h0_10 h0_11 σ0) sz)) 160 [(0, .ref h0_0), (1, .int x1), (4, .int x4)] [] (w_M cyI cyZ h0_0 h0_1 h0_2 h0_3 h0_4 h0_5 h0_6 h0_7 h0_8 h0_9 h0_10 h0_11 τ0) := by
    intro n
    induction n with
    | zero => intro τ0 x1 x4 h; rw [s_X4_see_160] at h; exact nomatch h
    | succ n ih =>
      intro τ0 x1 x4 h
      rw [s_X4_see_160] at h
      refine zq_iload (q := 162) G dX4_see_160 2 rfl rfl ?_
      refine zq_iload_n (q := 163) G dX4_see_162 1 rfl rfl rfl ?_
      refine zq_icmp_ge (tgt := 186) (q := 166) G dX4_see_163 (by decide) rfl (fun c1 => ?_) (fun c1 => ?_)
      · have h := zit h c1
        refine zq_goto (q := 231) G dX4_see_186 (by decide) ?_
        refine zq_ws (congrArg (fun w9 => (w_M cyI cyZ h0_0 h0_1 h0_2 h0_3 h0_4 h0_5 h0_6 h0_7 h0_8 h0_9 h0_10 h0_11 w9)) (zsome h)) ?_
        exact zq_vret G hlocks hr dX4_see_231
      · have h := zie h c1
        refine zq_aload_n (q := 167) G dX4_see_166 0 rfl rfl rfl ?_
        refine zq_get (q := 170) G zu_X4 rfl zw_X4_f45 dX4_see_167 0 12 rfl (by decide) ⟨⟨rfl, rfl⟩, rfl⟩ rfl rfl ?_
        refine zq_iload (q := 172) G dX4_see_170 2 rfl rfl ?_
        refine zq_aload_n (q := 173) G dX4_see_172 0 rfl rfl rfl ?_
        refine zq_get (q := 176) G zu_X4 rfl zw_X4_f42 dX4_see_173 0 11 rfl (by decide) ⟨⟨rfl, rfl⟩, rfl⟩ rfl rfl ?_
        refine zq_iload (q := 178) G dX4_see_176 2 rfl rfl ?_
        obtain ⟨q2, h⟩ := zif h
        refine zq_iald (q := 179) G dX4_see_178 7 rfl q2 rfl ?_
        obtain ⟨q3, h⟩ := zif h
        refine zq_iast (q := 180) (ws2 := (w_M cyI cyZ h0_0 h0_1 h0_2 h0_3 h0_4 h0_5 h0_6 h0_7 h0_8 h0_9 h0_10 h0_11 (τ0.1, τ0.2.1, (τ0.2.2.1.1, τ0.2.2.1.2.1, τ0.2.2.1.2.2.1, (upd τ0.2.2.1.2.2.2.1 x4.toNatClampNeg (τ0.2.2.1.2.2.1 x4.toNatClampNeg)), τ0.2.2.1.2.2.2.2.1, τ0.2.2.1.2.2.2.2.2.1, τ0.2.2.1.2.2.2.2.2.2.1, τ0.2.2.1.2.2.2.2.2.2.2.1, τ0.2.2.1.2.2.2.2.2.2.2.2.1, τ0.2.2.1.2.2.2.2.2.2.2.2.2.1, τ0.2.2.1.2.2.2.2.2.2.2.2.2.2), τ0.2.2.2.1, τ0.2.2.2.2))) G dX4_see_179 8 rfl q3 rfl rfl ?_
        refine zq_iinc (q := 183) (v := (x4 + 1)) (lv2 := [(4, .int (x4 + 1)), (0, .ref h0_0), (1, .int x1)]) G dX4_see_180 2 rfl rfl (by decide) rfl rfl ?_
        refine zq_goto (q := 160) G dX4_see_183 (by decide) ?_
        exact zq_sub _ [1, 2, 0] rfl (ih _ _ _ h)
  have b128 : ∀ (τ0 : zM) (x1 : Int32) (x2 : Int32) (y0 : Int32), s_X4_see_128 τ0 x1 x2 y0 = some o0 → zW p l e ({ frames := 0, cells := 0, slots := 0, locals := 0 } : Room) s m args below meth c D (va_A (w_M cyI cyZ h0_0 h0_1 h0_2 h0_3 h0_4 h0_5 h0_6 h0_7 h0_8 h0_9 h0_10 h0_11 σ0) sz) 6 0 0 (MQ below (zQv D cyI cyZ sz (w_M cyI cyZ h0_0 h0_1 h0_2 h0_3 h0_4 h0_5 h0_6 h0_7 h0_8 h0_9 h0_10 h0_11 σ0) (w_M cyI cyZ h0_0 h0_1 h0_2 h0_3 h0_4 h0_5 h0_6 h0_7 h0_8 h0_9 h0_10 h0_11 o0)) args s 0 0 (va_A (w_M cyI cyZ h0_0 h0_1 h0_2 h0_3 h0_4 h0_5 h0_6 h0_7 h0_8 h0_9 h0_10 h0_11 σ0) sz)) 128 [(0, .ref h0_0), (1, .int x1), (2, .int x2)] [.int y0, .ref h0_0] (w_M cyI cyZ h0_0 h0_1 h0_2 h0_3 h0_4 h0_5 h0_6 h0_7 h0_8 h0_9 h0_10 h0_11 τ0) := by
    intro τ0 x1 x2 y0 h
    unfold s_X4_see_128 at h
    refine zq_put (q := 131) (ws2 := (w_M cyI cyZ h0_0 h0_1 h0_2 h0_3 h0_4 h0_5 h0_6 h0_7 h0_8 h0_9 h0_10 h0_11 (τ0.1, τ0.2.1, (τ0.2.2.1.1, τ0.2.2.1.2.1, τ0.2.2.1.2.2.1, τ0.2.2.1.2.2.2.1, τ0.2.2.1.2.2.2.2.1, τ0.2.2.1.2.2.2.2.2.1, τ0.2.2.1.2.2.2.2.2.2.1, y0, τ0.2.2.1.2.2.2.2.2.2.2.2.1, τ0.2.2.1.2.2.2.2.2.2.2.2.2.1, τ0.2.2.1.2.2.2.2.2.2.2.2.2.2), τ0.2.2.2.1, τ0.2.2.2.2))) G zu_X4 rfl tyX4_ok nmX4 zw_X4_f89 dX4_see_128 0 16 rfl (by decide) ⟨⟨rfl, rfl⟩, rfl⟩ rfl rfl rfl (Nat.le_of_ble_eq_true rfl) rfl rfl ?_
    refine zq_iload_n (q := 132) G dX4_see_131 2 rfl rfl rfl ?_
    refine zq_aload_n (q := 133) G dX4_see_132 0 rfl rfl rfl ?_
    refine zq_get (q := 136) G zu_X4 rfl zw_X4_f80 dX4_see_133 0 13 rfl (by decide) ⟨⟨rfl, rfl⟩, rfl⟩ rfl rfl ?_
    refine zq_icmp_ge (tgt := 189) (q := 139) G dX4_see_136 (by decide) rfl (fun c1 => ?_) (fun c1 => ?_)
    · have h := zit h c1
      refine zq_aload_n (q := 190) G dX4_see_189 0 rfl rfl rfl ?_
      refine zq_iload_n (q := 191) G dX4_see_190 2 rfl rfl rfl ?_
      refine zq_aload_n (q := 192) G dX4_see_191 0 rfl rfl rfl ?_
      refine zq_get (q := 195) G zu_X4 rfl zw_X4_f86 dX4_see_192 0 15 rfl (by decide) ⟨⟨rfl, rfl⟩, rfl⟩ rfl rfl ?_
      refine zq_icmp_ge (tgt := 202) (q := 198) G dX4_see_195 (by decide) rfl (fun c2 => ?_) (fun c2 => ?_)
      · have h := zit h c2
        refine zq_aload_n (q := 203) G dX4_see_202 0 rfl rfl rfl ?_
        refine zq_get (q := 206) G zu_X4 rfl zw_X4_f86 dX4_see_203 0 15 rfl (by decide) ⟨⟨rfl, rfl⟩, rfl⟩ rfl rfl ?_
        exact zq_sub _ [0, 2] rfl (b206  _ _ _ h)
      · have h := zie h c2
        refine zq_iload_n (q := 199) G dX4_see_198 2 rfl rfl rfl ?_
        refine zq_goto (q := 206) G dX4_see_199 (by decide) ?_
        exact zq_sub _ [0, 2] rfl (b206  _ _ _ h)
    · have h := zie h c1
      refine zq_aload_n (q := 140) G dX4_see_139 0 rfl rfl rfl ?_
      refine zq_aload_n (q := 141) G dX4_see_140 0 rfl rfl rfl ?_
      refine zq_get (q := 144) G zu_X4 rfl zw_X4_f80 dX4_see_141 0 13 rfl (by decide) ⟨⟨rfl, rfl⟩, rfl⟩ rfl rfl ?_
      refine zq_put (q := 147) (ws2 := (w_M cyI cyZ h0_0 h0_1 h0_2 h0_3 h0_4 h0_5 h0_6 h0_7 h0_8 h0_9 h0_10 h0_11 (τ0.1, τ0.2.1, (τ0.2.2.1.1, τ0.2.2.1.2.1, τ0.2.2.1.2.2.1, τ0.2.2.1.2.2.2.1, τ0.2.2.1.2.2.2.2.1, τ0.2.2.1.2.2.2.2.2.1, τ0.2.2.1.2.2.2.2.1, y0, τ0.2.2.1.2.2.2.2.2.2.2.2.1, τ0.2.2.1.2.2.2.2.2.2.2.2.2.1, τ0.2.2.1.2.2.2.2.2.2.2.2.2.2), τ0.2.2.2.1, τ0.2.2.2.2))) G zu_X4 rfl tyX4_ok nmX4 zw_X4_f86 dX4_see_144 0 15 rfl (by decide) ⟨⟨rfl, rfl⟩, rfl⟩ rfl rfl rfl (Nat.le_of_ble_eq_true rfl) rfl rfl ?_
      refine zq_aload_n (q := 148) G dX4_see_147 0 rfl rfl rfl ?_
      refine zq_iload_n (q := 149) G dX4_see_148 2 rfl rfl rfl ?_
      refine zq_put (q := 152) (ws2 := (w_M cyI cyZ h0_0 h0_1 h0_2 h0_3 h0_4 h0_5 h0_6 h0_7 h0_8 h0_9 h0_10 h0_11 (τ0.1, τ0.2.1, (τ0.2.2.1.1, τ0.2.2.1.2.1, τ0.2.2.1.2.2.1, τ0.2.2.1.2.2.2.1, x2, τ0.2.2.1.2.2.2.2.2.1, τ0.2.2.1.2.2.2.2.1, y0, τ0.2.2.1.2.2.2.2.2.2.2.2.1, τ0.2.2.1.2.2.2.2.2.2.2.2.2.1, τ0.2.2.1.2.2.2.2.2.2.2.2.2.2), τ0.2.2.2.1, τ0.2.2.2.2))) G zu_X4 rfl tyX4_ok nmX4 zw_X4_f80 dX4_see_149 0 13 rfl (by decide) ⟨⟨rfl, rfl⟩, rfl⟩ rfl rfl rfl (Nat.le_of_ble_eq_true rfl) rfl rfl ?_
      refine zq_aload_n (q := 153) G dX4_see_152 0 rfl rfl rfl ?_
      refine zq_iconst (q := 154) (v := 1) G dX4_see_153 (by decide) rfl ?_
      refine zq_put (q := 157) (ws2 := (w_M cyI cyZ h0_0 h0_1 h0_2 h0_3 h0_4 h0_5 h0_6 h0_7 h0_8 h0_9 h0_10 h0_11 (τ0.1, τ0.2.1, (τ0.2.2.1.1, τ0.2.2.1.2.1, τ0.2.2.1.2.2.1, τ0.2.2.1.2.2.2.1, x2, (1 : Int32), τ0.2.2.1.2.2.2.2.1, y0, τ0.2.2.1.2.2.2.2.2.2.2.2.1, τ0.2.2.1.2.2.2.2.2.2.2.2.2.1, τ0.2.2.1.2.2.2.2.2.2.2.2.2.2), τ0.2.2.2.1, τ0.2.2.2.2))) G zu_X4 rfl tyX4_ok nmX4 zw_X4_f83 dX4_see_154 0 14 rfl (by decide) ⟨⟨rfl, rfl⟩, rfl⟩ rfl rfl rfl (Nat.le_of_ble_eq_true rfl) rfl rfl ?_
      refine zq_iconst (q := 158) (v := 0) G dX4_see_157 (by decide) rfl ?_
      refine zq_istore (q := 160) (lv2 := [(4, .int (0 : Int32)), (0, .ref h0_0), (1, .int x1), (2, .int x2)]) G dX4_see_158 (by decide) rfl rfl ?_
      exact zq_sub _ [1, 2, 0] rfl (b160  _ _ _ _ h)
  have b124 : ∀ (τ0 : zM) (x1 : Int32) (x2 : Int32), s_X4_see_124 τ0 x1 x2 = some o0 → zW p l e ({ frames := 0, cells := 0, slots := 0, locals := 0 } : Room) s m args below meth c D (va_A (w_M cyI cyZ h0_0 h0_1 h0_2 h0_3 h0_4 h0_5 h0_6 h0_7 h0_8 h0_9 h0_10 h0_11 σ0) sz) 6 0 0 (MQ below (zQv D cyI cyZ sz (w_M cyI cyZ h0_0 h0_1 h0_2 h0_3 h0_4 h0_5 h0_6 h0_7 h0_8 h0_9 h0_10 h0_11 σ0) (w_M cyI cyZ h0_0 h0_1 h0_2 h0_3 h0_4 h0_5 h0_6 h0_7 h0_8 h0_9 h0_10 h0_11 o0)) args s 0 0 (va_A (w_M cyI cyZ h0_0 h0_1 h0_2 h0_3 h0_4 h0_5 h0_6 h0_7 h0_8 h0_9 h0_10 h0_11 σ0) sz)) 124 [(0, .ref h0_0), (1, .int x1), (2, .int x2)] [.ref h0_0] (w_M cyI cyZ h0_0 h0_1 h0_2 h0_3 h0_4 h0_5 h0_6 h0_7 h0_8 h0_9 h0_10 h0_11 τ0) := by
    intro τ0 x1 x2 h
    unfold s_X4_see_124 at h
    refine zq_aload_n (q := 125) G dX4_see_124 0 rfl rfl rfl ?_
    refine zq_get (q := 128) G zu_X4 rfl zw_X4_f89 dX4_see_125 0 16 rfl (by decide) ⟨⟨rfl, rfl⟩, rfl⟩ rfl rfl ?_
    exact zq_sub _ [0, 1, 2] rfl (b128  _ _ _ _ h)
  have b101 : ∀ (τ0 : zM) (x1 : Int32) (x2 : Int32) (y0 : Int32), s_X4_see_101 τ0 x1 x2 y0 = some o0 → zW p l e ({ frames := 0, cells := 0, slots := 0, locals := 0 } : Room) s m args below meth c D (va_A (w_M cyI cyZ h0_0 h0_1 h0_2 h0_3 h0_4 h0_5 h0_6 h0_7 h0_8 h0_9 h0_10 h0_11 σ0) sz) 6 0 0 (MQ below (zQv D cyI cyZ sz (w_M cyI cyZ h0_0 h0_1 h0_2 h0_3 h0_4 h0_5 h0_6 h0_7 h0_8 h0_9 h0_10 h0_11 σ0) (w_M cyI cyZ h0_0 h0_1 h0_2 h0_3 h0_4 h0_5 h0_6 h0_7 h0_8 h0_9 h0_10 h0_11 o0)) args s 0 0 (va_A (w_M cyI cyZ h0_0 h0_1 h0_2 h0_3 h0_4 h0_5 h0_6 h0_7 h0_8 h0_9 h0_10 h0_11 σ0) sz)) 101 [(0, .ref h0_0), (1, .int x1), (2, .int x2)] [.int y0, .ref h0_0] (w_M cyI cyZ h0_0 h0_1 h0_2 h0_3 h0_4 h0_5 h0_6 h0_7 h0_8 h0_9 h0_10 h0_11 τ0) := by
    intro τ0 x1 x2 y0 h
    unfold s_X4_see_101 at h
    refine zq_put (q := 104) (ws2 := (w_M cyI cyZ h0_0 h0_1 h0_2 h0_3 h0_4 h0_5 h0_6 h0_7 h0_8 h0_9 h0_10 h0_11 (τ0.1, τ0.2.1, (τ0.2.2.1.1, τ0.2.2.1.2.1, τ0.2.2.1.2.2.1, τ0.2.2.1.2.2.2.1, τ0.2.2.1.2.2.2.2.1, τ0.2.2.1.2.2.2.2.2.1, τ0.2.2.1.2.2.2.2.2.2.1, τ0.2.2.1.2.2.2.2.2.2.2.1, y0, τ0.2.2.1.2.2.2.2.2.2.2.2.2.1, τ0.2.2.1.2.2.2.2.2.2.2.2.2.2), τ0.2.2.2.1, τ0.2.2.2.2))) G zu_X4 rfl tyX4_ok nmX4 zw_X4_f92 dX4_see_101 0 17 rfl (by decide) ⟨⟨rfl, rfl⟩, rfl⟩ rfl rfl rfl (Nat.le_of_ble_eq_true rfl) rfl rfl ?_
    refine zq_aload_n (q := 105) G dX4_see_104 0 rfl rfl rfl ?_
    refine zq_iload_n (q := 106) G dX4_see_105 2 rfl rfl rfl ?_
    refine zq_sipush (q := 109) (v := 1000) G dX4_see_106 (by decide) rfl ?_
    refine zq_icmp_ge (tgt := 124) (q := 112) G dX4_see_109 (by decide) rfl (fun c1 => ?_) (fun c1 => ?_)
    · have h := zit h c1
      exact zq_sub _ [0, 1, 2] rfl (b124  _ _ _ h)
    · have h := zie h c1
      refine zq_iload_n (q := 113) G dX4_see_112 2 rfl rfl rfl ?_
      refine zq_aload_n (q := 114) G dX4_see_113 0 rfl rfl rfl ?_
      refine zq_get (q := 117) G zu_X4 rfl zw_X4_f89 dX4_see_114 0 16 rfl (by decide) ⟨⟨rfl, rfl⟩, rfl⟩ rfl rfl ?_
      refine zq_icmp_le (tgt := 124) (q := 120) G dX4_see_117 (by decide) rfl (fun c2 => ?_) (fun c2 => ?_)
      · have h := zit h c2
        exact zq_sub _ [0, 1, 2] rfl (b124  _ _ _ h)
      · have h := zie h c2
        refine zq_iload_n (q := 121) G dX4_see_120 2 rfl rfl rfl ?_
        refine zq_goto (q := 128) G dX4_see_121 (by decide) ?_
        exact zq_sub _ [0, 1, 2] rfl (b128  _ _ _ _ h)
  have b54 : ∀ (k5 : (zM → Int32 → Int32 → Int32 → Int32 → Option (zM))) (hk5 : ∀ (τ0 : zM) (x1 : Int32) (x2 : Int32) (x3 : Int32) (x4 : Int32), k5 τ0 x1 x2 x3 x4 = some o0 → zW p l e ({ frames := 0, cells := 0, slots := 0, locals := 0 } : Room) s m args below meth c D (va_A (w_M cyI cyZ h0_0 h0_1 h0_2 h0_3 h0_4 h0_5 h0_6 h0_7 h0_8 h0_9 h0_10 h0_11 σ0) sz) 6 0 0 (MQ below (zQv D cyI cyZ sz (w_M cyI cyZ h0_0 h0_1 h0_2 h0_3 h0_4 h0_5 h0_6 h0_7 h0_8 h0_9 h0_10 h0_11 σ0) (w_M cyI cyZ h0_0 h0_1 h0_2 h0_3 h0_4 h0_5 h0_6 h0_7 h0_8 h0_9 h0_10 h0_11 o0)) args s 0 0 (va_A (w_M cyI cyZ h0_0 h0_1 h0_2 h0_3 h0_4 h0_5 h0_6 h0_7 h0_8 h0_9 h0_10 h0_11 σ0) sz)) 5 [(0, .ref h0_0), (1, .int x1), (2, .int x2), (3, .int x3), (4, .int x4)] [] (w_M cyI cyZ h0_0 h0_1 h0_2 h0_3 h0_4 h0_5 h0_6 h0_7 h0_8 h0_9 h0_10 h0_11 τ0)) (τ0 : zM) (x1 : Int32) (x2 : Int32) (x3 : Int32) (x4 : Int32) (x5 : Int32) (y0 : Int32) (y1 : Int32), s_X4_see_54 k5 τ0 x1 x2 x3 x4 x5 y0 y1 = some o0 → zW p l e ({ frames := 0, cells := 0, slots := 0, locals := 0 } : Room) s m args below meth c D (va_A (w_M cyI cyZ h0_0 h0_1 h0_2 h0_3 h0_4 h0_5 h0_6 h0_7 h0_8 h0_9 h0_10 h0_11 σ0) sz) 6 0 0 (MQ below (zQv D cyI cyZ sz (w_M cyI cyZ h0_0 h0_1 h0_2 h0_3 h0_4 h0_5 h0_6 h0_7 h0_8 h0_9 h0_10 h0_11 σ0) (w_M cyI cyZ h0_0 h0_1 h0_2 h0_3 h0_4 h0_5 h0_6 h0_7 h0_8 h0_9 h0_10 h0_11 o0)) args s 0 0 (va_A (w_M cyI cyZ h0_0 h0_1 h0_2 h0_3 h0_4 h0_5 h0_6 h0_7 h0_8 h0_9 h0_10 h0_11 σ0) sz)) 54 [(0, .ref h0_0), (1, .int x1), (2, .int x2), (3, .int x3), (4, .int x4), (5, .int x5)] [.int y0, .int y1, .ref h0_6] (w_M cyI cyZ h0_0 h0_1 h0_2 h0_3 h0_4 h0_5 h0_6 h0_7 h0_8 h0_9 h0_10 h0_11 τ0) := by
    intro k5 hk5 τ0 x1 x2 x3 x4 x5 y0 y1 h
    unfold s_X4_see_54 at h
    obtain ⟨q1, h⟩ := zif h
    refine zq_iast (q := 55) (ws2 := (w_M cyI cyZ h0_0 h0_1 h0_2 h0_3 h0_4 h0_5 h0_6 h0_7 h0_8 h0_9 h0_10 h0_11 (τ0.1, τ0.2.1, (τ0.2.2.1.1, (upd τ0.2.2.1.2.1 y1.toNatClampNeg y0), τ0.2.2.1.2.2.1, τ0.2.2.1.2.2.2.1, τ0.2.2.1.2.2.2.2.1, τ0.2.2.1.2.2.2.2.2.1, τ0.2.2.1.2.2.2.2.2.2.1, τ0.2.2.1.2.2.2.2.2.2.2.1, τ0.2.2.1.2.2.2.2.2.2.2.2.1, τ0.2.2.1.2.2.2.2.2.2.2.2.2.1, τ0.2.2.1.2.2.2.2.2.2.2.2.2.2), τ0.2.2.2.1, τ0.2.2.2.2))) G dX4_see_54 6 rfl q1 rfl rfl ?_
    refine zq_aload_n (q := 56) G dX4_see_55 0 rfl rfl rfl ?_
    refine zq_get (q := 59) G zu_X4 rfl zw_X4_f36 dX4_see_56 0 9 rfl (by decide) ⟨⟨rfl, rfl⟩, rfl⟩ rfl rfl ?_
    refine zq_iload (q := 61) G dX4_see_59 5 rfl rfl ?_
    obtain ⟨q2, h⟩ := zif h
    refine zq_iald (q := 62) G dX4_see_61 5 rfl q2 rfl ?_
    refine zq_iload_n (q := 63) G dX4_see_62 3 rfl rfl rfl ?_
    refine zq_icmp_le (tgt := 76) (q := 66) G dX4_see_63 (by decide) rfl (fun c3 => ?_) (fun c3 => ?_)
    · have h := zit h c3
      refine zq_iload_n (q := 77) G dX4_see_76 3 rfl rfl rfl ?_
      refine zq_istore_n (q := 78) (lv2 := [(3, .int x3), (0, .ref h0_0), (1, .int x1), (2, .int x2), (4, .int x4), (5, .int x5)]) G dX4_see_77 rfl (by decide) rfl rfl ?_
      refine zq_iinc (q := 81) (v := (x4 + 1)) (lv2 := [(4, .int (x4 + 1)), (3, .int x3), (0, .ref h0_0), (1, .int x1), (2, .int x2), (5, .int x5)]) G dX4_see_78 4 rfl rfl (by decide) rfl rfl ?_
      refine zq_goto (q := 5) G dX4_see_81 (by decide) ?_
      exact zq_sub _ [2, 3, 4, 1, 0] rfl (hk5 _ _ _ _ _ h)
    · have h := zie h c3
      refine zq_aload_n (q := 67) G dX4_see_66 0 rfl rfl rfl ?_
      refine zq_get (q := 70) G zu_X4 rfl zw_X4_f36 dX4_see_67 0 9 rfl (by decide) ⟨⟨rfl, rfl⟩, rfl⟩ rfl rfl ?_
      refine zq_iload (q := 72) G dX4_see_70 5 rfl rfl ?_
      obtain ⟨q4, h⟩ := zif h
      refine zq_iald (q := 73) G dX4_see_72 5 rfl q4 rfl ?_
      refine zq_goto (q := 77) G dX4_see_73 (by decide) ?_
      refine zq_istore_n (q := 78) (lv2 := [(3, .int (τ0.2.2.1.1 x5.toNatClampNeg)), (0, .ref h0_0), (1, .int x1), (2, .int x2), (4, .int x4), (5, .int x5)]) G dX4_see_77 rfl (by decide) rfl rfl ?_
      refine zq_iinc (q := 81) (v := (x4 + 1)) (lv2 := [(4, .int (x4 + 1)), (3, .int (τ0.2.2.1.1 x5.toNatClampNeg)), (0, .ref h0_0), (1, .int x1), (2, .int x2), (5, .int x5)]) G dX4_see_78 4 rfl rfl (by decide) rfl rfl ?_
      refine zq_goto (q := 5) G dX4_see_81 (by decide) ?_
      exact zq_sub _ [2, 3, 4, 1, 0] rfl (hk5 _ _ _ _ _ h)
  have b5 : ∀ (n : Nat) (τ0 : zM) (x1 : Int32) (x2 : Int32) (x3 : Int32) (x4 : Int32), s_X4_see_5 n τ0 x1 x2 x3 x4 = some o0 → zW p l e ({ frames := 0, cells := 0, slots := 0, locals := 0 } : Room) s m args below meth c D (va_A (w_M cyI cyZ h0_0 h0_1 h0_2 h0_3 h0_4 h0_5 h0_6 h0_7 h0_8 h0_9 h0_10 h0_11 σ0) sz) 6 0 0 (MQ below (zQv D cyI cyZ sz (w_M cyI cyZ h0_0 h0_1 h0_2 h0_3 h0_4 h0_5 h0_6 h0_7 h0_8 h0_9 h0_10 h0_11 σ0) (w_M cyI cyZ h0_0 h0_1 h0_2 h0_3 h0_4 h0_5 h0_6 h0_7 h0_8 h0_9 h0_10 h0_11 o0)) args s 0 0 (va_A (w_M cyI cyZ h0_0 h0_1 h0_2 h0_3 h0_4 h0_5 h0_6 h0_7 h0_8 h0_9 h0_10 h0_11 σ0) sz)) 5 [(0, .ref h0_0), (1, .int x1), (2, .int x2), (3, .int x3), (4, .int x4)] [] (w_M cyI cyZ h0_0 h0_1 h0_2 h0_3 h0_4 h0_5 h0_6 h0_7 h0_8 h0_9 h0_10 h0_11 τ0) := by
    intro n
    induction n with
    | zero => intro τ0 x1 x2 x3 x4 h; rw [s_X4_see_5] at h; exact nomatch h
    | succ n ih =>
      intro τ0 x1 x2 x3 x4 h
      rw [s_X4_see_5] at h
      refine zq_iload (q := 7) G dX4_see_5 4 rfl rfl ?_
      refine zq_iload_n (q := 8) G dX4_see_7 1 rfl rfl rfl ?_
      refine zq_icmp_ge (tgt := 84) (q := 11) G dX4_see_8 (by decide) rfl (fun c1 => ?_) (fun c1 => ?_)
      · have h := zit h c1
        refine zq_aload_n (q := 85) G dX4_see_84 0 rfl rfl rfl ?_
        refine zq_iload_n (q := 86) G dX4_see_85 3 rfl rfl rfl ?_
        refine zq_aload_n (q := 87) G dX4_see_86 0 rfl rfl rfl ?_
        refine zq_get (q := 90) G zu_X4 rfl zw_X4_f92 dX4_see_87 0 17 rfl (by decide) ⟨⟨rfl, rfl⟩, rfl⟩ rfl rfl ?_
        refine zq_icmp_ge (tgt := 97) (q := 93) G dX4_see_90 (by decide) rfl (fun c2 => ?_) (fun c2 => ?_)
        · have h := zit h c2
          refine zq_aload_n (q := 98) G dX4_see_97 0 rfl rfl rfl ?_
          refine zq_get (q := 101) G zu_X4 rfl zw_X4_f92 dX4_see_98 0 17 rfl (by decide) ⟨⟨rfl, rfl⟩, rfl⟩ rfl rfl ?_
          exact zq_sub _ [0, 1, 2] rfl (b101  _ _ _ _ h)
        · have h := zie h c2
          refine zq_iload_n (q := 94) G dX4_see_93 3 rfl rfl rfl ?_
          refine zq_goto (q := 101) G dX4_see_94 (by decide) ?_
          exact zq_sub _ [0, 1, 2] rfl (b101  _ _ _ _ h)
      · have h := zie h c1
        refine zq_bipush (q := 13) (v := 7) G dX4_see_11 (by decide) rfl ?_
        refine zq_iload (q := 15) G dX4_see_13 4 rfl rfl ?_
        refine zq_imul (q := 16) G dX4_see_15 rfl ?_
        refine zq_aload_n (q := 17) G dX4_see_16 0 rfl rfl rfl ?_
        refine zq_get (q := 20) G zu_X4 rfl zw_X4_f42 dX4_see_17 0 11 rfl (by decide) ⟨⟨rfl, rfl⟩, rfl⟩ rfl rfl ?_
        refine zq_iload (q := 22) G dX4_see_20 4 rfl rfl ?_
        obtain ⟨q3, h⟩ := zif h
        refine zq_iald (q := 23) G dX4_see_22 7 rfl q3 rfl ?_
        refine zq_iadd (q := 24) G dX4_see_23 rfl ?_
        refine zq_istore (q := 26) (lv2 := [(5, .int (((7 : Int32) * x4) + (τ0.2.2.1.2.2.1 x4.toNatClampNeg))), (0, .ref h0_0), (1, .int x1), (2, .int x2), (3, .int x3), (4, .int x4)]) G dX4_see_24 (by decide) rfl rfl ?_
        refine zq_aload_n (q := 27) G dX4_see_26 1 rfl rfl rfl ?_
        refine zq_get (q := 30) G zu_X4 rfl zw_X4_f39 dX4_see_27 0 10 rfl (by decide) ⟨⟨rfl, rfl⟩, rfl⟩ rfl rfl ?_
        refine zq_iload (q := 32) G dX4_see_30 0 rfl rfl ?_
        refine zq_iload_n (q := 33) G dX4_see_32 3 rfl rfl rfl ?_
        refine zq_aload_n (q := 34) G dX4_see_33 1 rfl rfl rfl ?_
        refine zq_get (q := 37) G zu_X4 rfl zw_X4_f39 dX4_see_34 0 10 rfl (by decide) ⟨⟨rfl, rfl⟩, rfl⟩ rfl rfl ?_
        refine zq_iload (q := 39) G dX4_see_37 0 rfl rfl ?_
        obtain ⟨q4, h⟩ := zif h
        refine zq_iald (q := 40) G dX4_see_39 6 rfl q4 rfl ?_
        refine zq_icmp_ge (tgt := 47) (q := 43) G dX4_see_40 (by decide) rfl (fun c5 => ?_) (fun c5 => ?_)
        · have h := zit h c5
          refine zq_aload_n (q := 48) G dX4_see_47 1 rfl rfl rfl ?_
          refine zq_get (q := 51) G zu_X4 rfl zw_X4_f39 dX4_see_48 0 10 rfl (by decide) ⟨⟨rfl, rfl⟩, rfl⟩ rfl rfl ?_
          refine zq_iload (q := 53) G dX4_see_51 0 rfl rfl ?_
          obtain ⟨q6, h⟩ := zif h
          refine zq_iald (q := 54) G dX4_see_53 6 rfl q6 rfl ?_
          exact zq_sub _ [1, 2, 3, 4, 5, 0] rfl (b54 _ ih _ _ _ _ _ _ _ _ h)
        · have h := zie h c5
          refine zq_iload_n (q := 44) G dX4_see_43 3 rfl rfl rfl ?_
          refine zq_goto (q := 54) G dX4_see_44 (by decide) ?_
          exact zq_sub _ [1, 2, 3, 4, 5, 0] rfl (b54 _ ih _ _ _ _ _ _ _ _ h)
  refine zq_iconst (q := 1) (v := 0) G dX4_see_0 (by decide) rfl ?_
  refine zq_istore_n (q := 2) (lv2 := [(3, .int (0 : Int32)), (0, .ref h0_0), (1, .int p0), (2, .int p1)]) G dX4_see_1 rfl (by decide) rfl rfl ?_
  refine zq_iconst (q := 3) (v := 0) G dX4_see_2 (by decide) rfl ?_
  refine zq_istore (q := 5) (lv2 := [(4, .int (0 : Int32)), (3, .int (0 : Int32)), (0, .ref h0_0), (1, .int p0), (2, .int p1)]) G dX4_see_3 (by decide) rfl rfl ?_
  exact zq_sub _ [2, 3, 4, 1, 0] rfl (b5  _ _ _ _ _ _ h)
set_option maxHeartbeats 4000000 in
set_option maxRecDepth 100000 in
theorem c_X4_look (l : Launch) (D : va_G) (cyI cyZ : ClassId) (h0_0 h0_1 h0_2 h0_3 h0_4 h0_5 h0_6 h0_7 h0_8 h0_9 h0_10 h0_11 : Nat) (σ0 : zM) (p0 : Int32) (o0 : zM) (h : s_X4_look σ0 p0 = some o0) (sz : Nat) : zMv l yX4_look cX4_look 3 13 260 D cyI cyZ sz [.ref h0_0, .int p0] (w_M cyI cyZ h0_0 h0_1 h0_2 h0_3 h0_4 h0_5 h0_6 h0_7 h0_8 h0_9 h0_10 h0_11 σ0) (w_M cyI cyZ h0_0 h0_1 h0_2 h0_3 h0_4 h0_5 h0_6 h0_7 h0_8 h0_9 h0_10 h0_11 o0) := by
  unfold s_X4_look at h
  refine zstartV (lv0 := [(0, .ref h0_0), (1, .int p0)]) (by decide) (Nat.le_of_ble_eq_true rfl) rfl (fun p e s m args below meth c G hr hlocks => ?_)
  have b59 : ∀ (n : Nat) (τ0 : zM) (x1 : Int32) (x2 : Int32), s_X4_look_59 n τ0 x1 x2 = some o0 → zW p l e ({ frames := 13, cells := 0, slots := 0, locals := 260 } : Room) s m args below meth c D (va_A (w_M cyI cyZ h0_0 h0_1 h0_2 h0_3 h0_4 h0_5 h0_6 h0_7 h0_8 h0_9 h0_10 h0_11 σ0) sz) 3 0 0 (MQ below (zQv D cyI cyZ sz (w_M cyI cyZ h0_0 h0_1 h0_2 h0_3 h0_4 h0_5 h0_6 h0_7 h0_8 h0_9 h0_10 h0_11 σ0) (w_M cyI cyZ h0_0 h0_1 h0_2 h0_3 h0_4 h0_5 h0_6 h0_7 h0_8 h0_9 h0_10 h0_11 o0)) args s 0 0 (va_A (w_M cyI cyZ h0_0 h0_1 h0_2 h0_3 h0_4 h0_5 h0_6 h0_7 h0_8 h0_9 h0_10 h0_11 σ0) sz)) 59 [(0, .ref h0_0), (1, .int x1), (2, .int x2)] [] (w_M cyI cyZ h0_0 h0_1 h0_2 h0_3 h0_4 h0_5 h0_6 h0_7 h0_8 h0_9 h0_10 h0_11 τ0) := by
    intro n
    induction n with
    | zero => intro τ0 x1 x2 h; rw [s_X4_look_59] at h; exact nomatch h
    | succ n ih =>
      intro τ0 x1 x2 h
      rw [s_X4_look_59] at h
      refine zq_iload_n (q := 60) G dX4_look_59 2 rfl rfl rfl ?_
      refine zq_if_le (tgt := 84) (q := 63) G dX4_look_60 (by decide) rfl (fun c1 => ?_) (fun c1 => ?_)
      · have h := zit h c1
        refine zq_ws (congrArg (fun w9 => (w_M cyI cyZ h0_0 h0_1 h0_2 h0_3 h0_4 h0_5 h0_6 h0_7 h0_8 h0_9 h0_10 h0_11 w9)) (zsome h)) ?_
        exact zq_vret G hlocks hr dX4_look_84
      · have h := zie h c1
        refine zq_aload_n (q := 64) G dX4_look_63 0 rfl rfl rfl ?_
        refine zq_iload_n (q := 65) G dX4_look_64 1 rfl rfl rfl ?_
        refine zq_aload_n (q := 66) G dX4_look_65 0 rfl rfl rfl ?_
        refine zq_iload_n (q := 67) G dX4_look_66 1 rfl rfl rfl ?_
        obtain ⟨z2, hc2, h⟩ := zbd h
        refine zq_callVi (q := 70) (ws2 := (w_M cyI cyZ h0_0 h0_1 h0_2 h0_3 h0_4 h0_5 h0_6 h0_7 h0_8 h0_9 h0_10 h0_11 τ0)) (isC := [0, 1, 2, 3, 4, 5, 6, 7, 8, 9, 10, 11]) (isR := []) (perm := [0, 1, 2, 3, 4, 5, 6, 7, 8, 9, 10, 11]) (rest := [.int x1, .ref h0_0]) (As := [.int x1]) G zs_X4_98 dX4_look_67 (fun sz9 => c_X4_sum l D cyI cyZ h0_0 h0_1 h0_2 h0_3 h0_4 h0_5 h0_6 h0_7 h0_8 h0_9 h0_10 h0_11 τ0 x1 z2 hc2 sz9) 0 rfl rfl rfl ⟨rfl, rfl, rfl, rfl⟩ rfl (Nat.le_of_ble_eq_true rfl) ⟨Nat.le_of_ble_eq_true rfl, Nat.le_of_ble_eq_true rfl, Nat.zero_le _, Nat.zero_le _⟩ rfl ?_
        obtain ⟨z3, hc3, h⟩ := zbd h
        refine zq_callVv (q := 73) (ws2 := (w_M cyI cyZ h0_0 h0_1 h0_2 h0_3 h0_4 h0_5 h0_6 h0_7 h0_8 h0_9 h0_10 h0_11 z3)) (isC := [0, 1, 2, 3, 4, 5, 6, 7, 8, 9, 10, 11]) (isR := []) (perm := [0, 1, 2, 3, 4, 5, 6, 7, 8, 9, 10, 11]) (rest := []) (As := [.int x1, .int z2]) G zs_X4_101 dX4_look_70 (fun sz9 => c_X4_see l D cyI cyZ h0_0 h0_1 h0_2 h0_3 h0_4 h0_5 h0_6 h0_7 h0_8 h0_9 h0_10 h0_11 τ0 x1 z2 z3 hc3 sz9) 0 rfl rfl rfl ⟨rfl, rfl, rfl, rfl⟩ rfl (Nat.le_of_ble_eq_true rfl) ⟨Nat.le_of_ble_eq_true rfl, Nat.le_of_ble_eq_true rfl, Nat.zero_le _, Nat.zero_le _⟩ rfl ?_
        refine zq_aload_n (q := 74) G dX4_look_73 0 rfl rfl rfl ?_
        refine zq_iload_n (q := 75) G dX4_look_74 1 rfl rfl rfl ?_
        obtain ⟨z4, hc4, h⟩ := zbd h
        refine zq_callVv (q := 78) (ws2 := (w_M cyI cyZ h0_0 h0_1 h0_2 h0_3 h0_4 h0_5 h0_6 h0_7 h0_8 h0_9 h0_10 h0_11 z4)) (isC := [0, 1, 2, 3, 4, 5, 6, 7, 8, 9, 10, 11]) (isR := []) (perm := [0, 1, 2, 3, 4, 5, 6, 7, 8, 9, 10, 11]) (rest := []) (As := [.int x1]) G zs_X4_104 dX4_look_75 (fun sz9 => c_X4_goOn l D cyI cyZ h0_0 h0_1 h0_2 h0_3 h0_4 h0_5 h0_6 h0_7 h0_8 h0_9 h0_10 h0_11 z3 x1 z4 hc4 sz9) 0 rfl rfl rfl ⟨rfl, rfl, rfl, rfl⟩ rfl (Nat.le_of_ble_eq_true rfl) ⟨Nat.le_of_ble_eq_true rfl, Nat.le_of_ble_eq_true rfl, Nat.zero_le _, Nat.zero_le _⟩ rfl ?_
        refine zq_iinc (q := 81) (v := (x2 + (-1))) (lv2 := [(2, .int (x2 + (-1))), (0, .ref h0_0), (1, .int x1)]) G dX4_look_78 2 rfl rfl (by decide) rfl rfl ?_
        refine zq_goto (q := 59) G dX4_look_81 (by decide) ?_
        exact zq_sub _ [1, 2, 0] rfl (ih _ _ _ h)
  have b30 : ∀ (n : Nat) (τ0 : zM) (x1 : Int32) (x2 : Int32), s_X4_look_30 n τ0 x1 x2 = some o0 → zW p l e ({ frames := 13, cells := 0, slots := 0, locals := 260 } : Room) s m args below meth c D (va_A (w_M cyI cyZ h0_0 h0_1 h0_2 h0_3 h0_4 h0_5 h0_6 h0_7 h0_8 h0_9 h0_10 h0_11 σ0) sz) 3 0 0 (MQ below (zQv D cyI cyZ sz (w_M cyI cyZ h0_0 h0_1 h0_2 h0_3 h0_4 h0_5 h0_6 h0_7 h0_8 h0_9 h0_10 h0_11 σ0) (w_M cyI cyZ h0_0 h0_1 h0_2 h0_3 h0_4 h0_5 h0_6 h0_7 h0_8 h0_9 h0_10 h0_11 o0)) args s 0 0 (va_A (w_M cyI cyZ h0_0 h0_1 h0_2 h0_3 h0_4 h0_5 h0_6 h0_7 h0_8 h0_9 h0_10 h0_11 σ0) sz)) 30 [(0, .ref h0_0), (1, .int x1), (2, .int x2)] [] (w_M cyI cyZ h0_0 h0_1 h0_2 h0_3 h0_4 h0_5 h0_6 h0_7 h0_8 h0_9 h0_10 h0_11 τ0) := by
    intro n
    induction n with
    | zero => intro τ0 x1 x2 h; rw [s_X4_look_30] at h; exact nomatch h
    | succ n ih =>
      intro τ0 x1 x2 h
      rw [s_X4_look_30] at h
      refine zq_iload_n (q := 31) G dX4_look_30 2 rfl rfl rfl ?_
      refine zq_bipush (q := 33) (v := 49) G dX4_look_31 (by decide) rfl ?_
      refine zq_icmp_ge (tgt := 50) (q := 36) G dX4_look_33 (by decide) rfl (fun c1 => ?_) (fun c1 => ?_)
      · have h := zit h c1
        refine zq_aload_n (q := 51) G dX4_look_50 0 rfl rfl rfl ?_
        obtain ⟨z2, hc2, h⟩ := zbd h
        refine zq_callVv (q := 54) (ws2 := (w_M cyI cyZ h0_0 h0_1 h0_2 h0_3 h0_4 h0_5 h0_6 h0_7 h0_8 h0_9 h0_10 h0_11 z2)) (isC := [0, 1, 2, 3, 4, 5, 6, 7, 8, 9, 10, 11]) (isR := []) (perm := [0, 1, 2, 3, 4, 5, 6, 7, 8, 9, 10, 11]) (rest := []) (As := []) G zs_X4_95 dX4_look_51 (fun sz9 => c_X4_begin l D cyI cyZ h0_0 h0_1 h0_2 h0_3 h0_4 h0_5 h0_6 h0_7 h0_8 h0_9 h0_10 h0_11 τ0 z2 hc2 sz9) 0 rfl rfl rfl ⟨rfl, rfl, rfl, rfl⟩ rfl (Nat.le_of_ble_eq_true rfl) ⟨Nat.le_of_ble_eq_true rfl, Nat.le_of_ble_eq_true rfl, Nat.zero_le _, Nat.zero_le _⟩ rfl ?_
        refine zq_iload_n (q := 55) G dX4_look_54 1 rfl rfl rfl ?_
        obtain ⟨z3, hc3, h⟩ := zbd h
        refine zq_callSi (q := 58) (ws2 := (w_M cyI cyZ h0_0 h0_1 h0_2 h0_3 h0_4 h0_5 h0_6 h0_7 h0_8 h0_9 h0_10 h0_11 z2)) (isC := []) (isR := [0, 1, 2, 3, 4, 5, 6, 7, 8, 9, 10, 11]) (perm := [0, 1, 2, 3, 4, 5, 6, 7, 8, 9, 10, 11]) (rest := []) (As := [.int x1]) G zs_X4_67 dX4_look_55 (fun sz9 => c_X4_factorial l 12 D cyI cyZ x1 z3 hc3 sz9) rfl ⟨rfl, rfl, rfl, rfl⟩ rfl (Nat.le_of_ble_eq_true rfl) ⟨Nat.le_of_ble_eq_true rfl, Nat.le_of_ble_eq_true rfl, Nat.zero_le _, Nat.zero_le _⟩ rfl ?_
        refine zq_istore_n (q := 59) (lv2 := [(2, .int z3), (0, .ref h0_0), (1, .int x1)]) G dX4_look_58 rfl (by decide) rfl rfl ?_
        exact zq_sub _ [1, 2, 0] rfl (b59  _ _ _ _ h)
      · have h := zie h c1
        refine zq_aload_n (q := 37) G dX4_look_36 0 rfl rfl rfl ?_
        refine zq_get (q := 40) G zu_X4 rfl zw_X4_f39 dX4_look_37 0 10 rfl (by decide) ⟨⟨rfl, rfl⟩, rfl⟩ rfl rfl ?_
        refine zq_iload_n (q := 41) G dX4_look_40 2 rfl rfl rfl ?_
        refine zq_ldc (q := 43) G zw_X4_c79 dX4_look_41 rfl ?_
        obtain ⟨q4, h⟩ := zif h
        refine zq_iast (q := 44) (ws2 := (w_M cyI cyZ h0_0 h0_1 h0_2 h0_3 h0_4 h0_5 h0_6 h0_7 h0_8 h0_9 h0_10 h0_11 (τ0.1, τ0.2.1, (τ0.2.2.1.1, (upd τ0.2.2.1.2.1 x2.toNatClampNeg (1000000 : Int32)), τ0.2.2.1.2.2.1, τ0.2.2.1.2.2.2.1, τ0.2.2.1.2.2.2.2.1, τ0.2.2.1.2.2.2.2.2.1, τ0.2.2.1.2.2.2.2.2.2.1, τ0.2.2.1.2.2.2.2.2.2.2.1, τ0.2.2.1.2.2.2.2.2.2.2.2.1, τ0.2.2.1.2.2.2.2.2.2.2.2.2.1, τ0.2.2.1.2.2.2.2.2.2.2.2.2.2), τ0.2.2.2.1, τ0.2.2.2.2))) G dX4_look_43 6 rfl q4 rfl rfl ?_
        refine zq_iinc (q := 47) (v := (x2 + 1)) (lv2 := [(2, .int (x2 + 1)), (0, .ref h0_0), (1, .int x1)]) G dX4_look_44 2 rfl rfl (by decide) rfl rfl ?_
        refine zq_goto (q := 30) G dX4_look_47 (by decide) ?_
        exact zq_sub _ [1, 2, 0] rfl (ih _ _ _ h)
  refine zq_aload_n (q := 1) G dX4_look_0 0 rfl rfl rfl ?_
  refine zq_ldc (q := 3) G zw_X4_c79 dX4_look_1 rfl ?_
  refine zq_put (q := 6) (ws2 := (w_M cyI cyZ h0_0 h0_1 h0_2 h0_3 h0_4 h0_5 h0_6 h0_7 h0_8 h0_9 h0_10 h0_11 (σ0.1, σ0.2.1, (σ0.2.2.1.1, σ0.2.2.1.2.1, σ0.2.2.1.2.2.1, σ0.2.2.1.2.2.2.1, (1000000 : Int32), σ0.2.2.1.2.2.2.2.2.1, σ0.2.2.1.2.2.2.2.2.2.1, σ0.2.2.1.2.2.2.2.2.2.2.1, σ0.2.2.1.2.2.2.2.2.2.2.2.1, σ0.2.2.1.2.2.2.2.2.2.2.2.2.1, σ0.2.2.1.2.2.2.2.2.2.2.2.2.2), σ0.2.2.2.1, σ0.2.2.2.2))) G zu_X4 rfl tyX4_ok nmX4 zw_X4_f80 dX4_look_3 0 13 rfl (by decide) ⟨⟨rfl, rfl⟩, rfl⟩ rfl rfl rfl (Nat.le_of_ble_eq_true rfl) rfl rfl ?_
  refine zq_aload_n (q := 7) G dX4_look_6 0 rfl rfl rfl ?_
  refine zq_iconst (q := 8) (v := 0) G dX4_look_7 (by decide) rfl ?_
  refine zq_put (q := 11) (ws2 := (w_M cyI cyZ h0_0 h0_1 h0_2 h0_3 h0_4 h0_5 h0_6 h0_7 h0_8 h0_9 h0_10 h0_11 (σ0.1, σ0.2.1, (σ0.2.2.1.1, σ0.2.2.1.2.1, σ0.2.2.1.2.2.1, σ0.2.2.1.2.2.2.1, (1000000 : Int32), (0 : Int32), σ0.2.2.1.2.2.2.2.2.2.1, σ0.2.2.1.2.2.2.2.2.2.2.1, σ0.2.2.1.2.2.2.2.2.2.2.2.1, σ0.2.2.1.2.2.2.2.2.2.2.2.2.1, σ0.2.2.1.2.2.2.2.2.2.2.2.2.2), σ0.2.2.2.1, σ0.2.2.2.2))) G zu_X4 rfl tyX4_ok nmX4 zw_X4_f83 dX4_look_8 0 14 rfl (by decide) ⟨⟨rfl, rfl⟩, rfl⟩ rfl rfl rfl (Nat.le_of_ble_eq_true rfl) rfl rfl ?_
  refine zq_aload_n (q := 12) G dX4_look_11 0 rfl rfl rfl ?_
  refine zq_ldc (q := 14) G zw_X4_c79 dX4_look_12 rfl ?_
  refine zq_put (q := 17) (ws2 := (w_M cyI cyZ h0_0 h0_1 h0_2 h0_3 h0_4 h0_5 h0_6 h0_7 h0_8 h0_9 h0_10 h0_11 (σ0.1, σ0.2.1, (σ0.2.2.1.1, σ0.2.2.1.2.1, σ0.2.2.1.2.2.1, σ0.2.2.1.2.2.2.1, (1000000 : Int32), (0 : Int32), (1000000 : Int32), σ0.2.2.1.2.2.2.2.2.2.2.1, σ0.2.2.1.2.2.2.2.2.2.2.2.1, σ0.2.2.1.2.2.2.2.2.2.2.2.2.1, σ0.2.2.1.2.2.2.2.2.2.2.2.2.2), σ0.2.2.2.1, σ0.2.2.2.2))) G zu_X4 rfl tyX4_ok nmX4 zw_X4_f86 dX4_look_14 0 15 rfl (by decide) ⟨⟨rfl, rfl⟩, rfl⟩ rfl rfl rfl (Nat.le_of_ble_eq_true rfl) rfl rfl ?_
  refine zq_aload_n (q := 18) G dX4_look_17 0 rfl rfl rfl ?_
  refine zq_iconst (q := 19) (v := -1) G dX4_look_18 (by decide) rfl ?_
  refine zq_put (q := 22) (ws2 := (w_M cyI cyZ h0_0 h0_1 h0_2 h0_3 h0_4 h0_5 h0_6 h0_7 h0_8 h0_9 h0_10 h0_11 (σ0.1, σ0.2.1, (σ0.2.2.1.1, σ0.2.2.1.2.1, σ0.2.2.1.2.2.1, σ0.2.2.1.2.2.2.1, (1000000 : Int32), (0 : Int32), (1000000 : Int32), (-1 : Int32), σ0.2.2.1.2.2.2.2.2.2.2.2.1, σ0.2.2.1.2.2.2.2.2.2.2.2.2.1, σ0.2.2.1.2.2.2.2.2.2.2.2.2.2), σ0.2.2.2.1, σ0.2.2.2.2))) G zu_X4 rfl tyX4_ok nmX4 zw_X4_f89 dX4_look_19 0 16 rfl (by decide) ⟨⟨rfl, rfl⟩, rfl⟩ rfl rfl rfl (Nat.le_of_ble_eq_true rfl) rfl rfl ?_
  refine zq_aload_n (q := 23) G dX4_look_22 0 rfl rfl rfl ?_
  refine zq_ldc (q := 25) G zw_X4_c79 dX4_look_23 rfl ?_
  refine zq_put (q := 28) (ws2 := (w_M cyI cyZ h0_0 h0_1 h0_2 h0_3 h0_4 h0_5 h0_6 h0_7 h0_8 h0_9 h0_10 h0_11 (σ0.1, σ0.2.1, (σ0.2.2.1.1, σ0.2.2.1.2.1, σ0.2.2.1.2.2.1, σ0.2.2.1.2.2.2.1, (1000000 : Int32), (0 : Int32), (1000000 : Int32), (-1 : Int32), (1000000 : Int32), σ0.2.2.1.2.2.2.2.2.2.2.2.2.1, σ0.2.2.1.2.2.2.2.2.2.2.2.2.2), σ0.2.2.2.1, σ0.2.2.2.2))) G zu_X4 rfl tyX4_ok nmX4 zw_X4_f92 dX4_look_25 0 17 rfl (by decide) ⟨⟨rfl, rfl⟩, rfl⟩ rfl rfl rfl (Nat.le_of_ble_eq_true rfl) rfl rfl ?_
  refine zq_iconst (q := 29) (v := 0) G dX4_look_28 (by decide) rfl ?_
  refine zq_istore_n (q := 30) (lv2 := [(2, .int (0 : Int32)), (0, .ref h0_0), (1, .int p0)]) G dX4_look_29 rfl (by decide) rfl rfl ?_
  exact zq_sub _ [1, 2, 0] rfl (b30  _ _ _ _ h)
set_option maxHeartbeats 4000000 in
set_option maxRecDepth 100000 in
theorem c_X4_look_ (l : Launch) (D : va_G) (cyI cyZ : ClassId) (h0_0 h0_1 h0_2 h0_3 h0_4 h0_5 h0_6 h0_7 h0_8 h0_9 h0_10 h0_11 : Nat) (σ0 : zM) (o0 : zM) (h : s_X4_look_ σ0 = some o0) (sz : Nat) : zMv l yX4_look_ cX4_look_ 1 14 282 D cyI cyZ sz [.ref h0_0] (w_M cyI cyZ h0_0 h0_1 h0_2 h0_3 h0_4 h0_5 h0_6 h0_7 h0_8 h0_9 h0_10 h0_11 σ0) (w_M cyI cyZ h0_0 h0_1 h0_2 h0_3 h0_4 h0_5 h0_6 h0_7 h0_8 h0_9 h0_10 h0_11 o0) := by
  unfold s_X4_look_ at h
  refine zstartV (lv0 := [(0, .ref h0_0)]) (by decide) (Nat.le_of_ble_eq_true rfl) rfl (fun p e s m args below meth c G hr hlocks => ?_)
  refine zq_aload_n (q := 1) G dX4_look__0 0 rfl rfl rfl ?_
  obtain ⟨z1, hc1, h⟩ := zbd h
  refine zq_callVv (q := 4) (ws2 := (w_M cyI cyZ h0_0 h0_1 h0_2 h0_3 h0_4 h0_5 h0_6 h0_7 h0_8 h0_9 h0_10 h0_11 z1)) (isC := [0, 1, 2, 3, 4, 5, 6, 7, 8, 9, 10, 11]) (isR := []) (perm := [0, 1, 2, 3, 4, 5, 6, 7, 8, 9, 10, 11]) (rest := []) (As := []) G zs_X4_108 dX4_look__1 (fun sz9 => c_X4_take l D cyI cyZ h0_0 h0_1 h0_2 h0_3 h0_4 h0_5 h0_6 h0_7 h0_8 h0_9 h0_10 h0_11 σ0 z1 hc1 sz9) 0 rfl rfl rfl ⟨rfl, rfl, rfl, rfl⟩ rfl (Nat.le_of_ble_eq_true rfl) ⟨Nat.le_of_ble_eq_true rfl, Nat.le_of_ble_eq_true rfl, Nat.zero_le _, Nat.zero_le _⟩ rfl ?_
  refine zq_aload_n (q := 5) G dX4_look__4 0 rfl rfl rfl ?_
  refine zq_aload_n (q := 6) G dX4_look__5 0 rfl rfl rfl ?_
  refine zq_get (q := 9) G zu_X4 rfl zw_X4_f7 dX4_look__6 0 0 rfl (by decide) ⟨⟨rfl, rfl⟩, rfl⟩ rfl rfl ?_
  obtain ⟨z2, hc2, h⟩ := zbd h
  refine zq_callVv (q := 12) (ws2 := (w_M cyI cyZ h0_0 h0_1 h0_2 h0_3 h0_4 h0_5 h0_6 h0_7 h0_8 h0_9 h0_10 h0_11 z2)) (isC := [0, 1, 2, 3, 4, 5, 6, 7, 8, 9, 10, 11]) (isR := []) (perm := [0, 1, 2, 3, 4, 5, 6, 7, 8, 9, 10, 11]) (rest := []) (As := [.int z1.1.1]) G zs_X4_111 dX4_look__9 (fun sz9 => c_X4_look l D cyI cyZ h0_0 h0_1 h0_2 h0_3 h0_4 h0_5 h0_6 h0_7 h0_8 h0_9 h0_10 h0_11 z1 z1.1.1 z2 hc2 sz9) 0 rfl rfl rfl ⟨rfl, rfl, rfl, rfl⟩ rfl (Nat.le_of_ble_eq_true rfl) ⟨Nat.le_of_ble_eq_true rfl, Nat.le_of_ble_eq_true rfl, Nat.zero_le _, Nat.zero_le _⟩ rfl ?_
  refine zq_ws (congrArg (fun w9 => (w_M cyI cyZ h0_0 h0_1 h0_2 h0_3 h0_4 h0_5 h0_6 h0_7 h0_8 h0_9 h0_10 h0_11 w9)) (zsome h)) ?_
  exact zq_vret G hlocks hr dX4_look__12
set_option maxHeartbeats 4000000 in
set_option maxRecDepth 100000 in
theorem c_X4_without (l : Launch) (D : va_G) (cyI cyZ : ClassId) (h0_0 h0_1 h0_2 h0_3 h0_4 h0_5 h0_6 h0_7 h0_8 h0_9 h0_10 h0_11 : Nat) (σ0 : zM) (p0 : Int32) (p1 : Int32) (r : Int32) (h : s_X4_without σ0 p0 p1 = some r) (sz : Nat) : zMi l yX4_without cX4_without 5 .int 0 0 D cyI cyZ sz [.ref h0_0, .int p0, .int p1] (w_M cyI cyZ h0_0 h0_1 h0_2 h0_3 h0_4 h0_5 h0_6 h0_7 h0_8 h0_9 h0_10 h0_11 σ0) r (w_M cyI cyZ h0_0 h0_1 h0_2 h0_3 h0_4 h0_5 h0_6 h0_7 h0_8 h0_9 h0_10 h0_11 σ0) := by
  unfold s_X4_without at h
  refine zstartI (lv0 := [(0, .ref h0_0), (1, .int p0), (2, .int p1)]) (by decide) (Nat.le_of_ble_eq_true rfl) rfl (fun p e s m args below meth c G hr hlocks => ?_)
  have b6 : ∀ (n : Nat) (x1 : Int32) (x2 : Int32) (x3 : Int32) (x4 : Int32), s_X4_without_6 n σ0 x1 x2 x3 x4 = some r → zW p l e ({ frames := 0, cells := 0, slots := 0, locals := 0 } : Room) s m args below meth c D (va_A (w_M cyI cyZ h0_0 h0_1 h0_2 h0_3 h0_4 h0_5 h0_6 h0_7 h0_8 h0_9 h0_10 h0_11 σ0) sz) 5 0 0 (MQ below (zQi D cyI cyZ sz (w_M cyI cyZ h0_0 h0_1 h0_2 h0_3 h0_4 h0_5 h0_6 h0_7 h0_8 h0_9 h0_10 h0_11 σ0) r (w_M cyI cyZ h0_0 h0_1 h0_2 h0_3 h0_4 h0_5 h0_6 h0_7 h0_8 h0_9 h0_10 h0_11 σ0)) args s 0 0 (va_A (w_M cyI cyZ h0_0 h0_1 h0_2 h0_3 h0_4 h0_5 h0_6 h0_7 h0_8 h0_9 h0_10 h0_11 σ0) sz)) 6 [(0, .ref h0_0), (1, .int x1), (2, .int x2), (3, .int x3), (4, .int x4)] [] (w_M cyI cyZ h0_0 h0_1 h0_2 h0_3 h0_4 h0_5 h0_6 h0_7 h0_8 h0_9 h0_10 h0_11 σ0) := by
    intro n
    induction n with
    | zero => intro x1 x2 x3 x4 h; rw [s_X4_without_6] at h; exact nomatch h
    | succ n ih =>
      intro x1 x2 x3 x4 h
      rw [s_X4_without_6] at h
      refine zq_iload (q := 8) G dX4_without_6 4 rfl rfl ?_
      refine zq_aload_n (q := 9) G dX4_without_8 0 rfl rfl rfl ?_
      refine zq_get (q := 12) G zu_X4 rfl zw_X4_f7 dX4_without_9 0 0 rfl (by decide) ⟨⟨rfl, rfl⟩, rfl⟩ rfl rfl ?_
      refine zq_icmp_ge (tgt := 60) (q := 15) G dX4_without_12 (by decide) rfl (fun c1 => ?_) (fun c1 => ?_)
      · have h := zit h c1
        refine zq_iload_n (q := 61) G dX4_without_60 3 rfl rfl rfl ?_
        exact zq_iret G hlocks hr rfl dX4_without_61 (zsome h)
      · have h := zie h c1
        refine zq_iload (q := 17) G dX4_without_15 4 rfl rfl ?_
        refine zq_iload_n (q := 18) G dX4_without_17 2 rfl rfl rfl ?_
        refine zq_icmp_eq (tgt := 52) (q := 21) G dX4_without_18 (by decide) rfl (fun c2 => ?_) (fun c2 => ?_)
        · have h := zit h c2
          refine zq_iload_n (q := 53) G dX4_without_52 3 rfl rfl rfl ?_
          refine zq_istore_n (q := 54) (lv2 := [(3, .int x3), (0, .ref h0_0), (1, .int x1), (2, .int x2), (4, .int x4)]) G dX4_without_53 rfl (by decide) rfl rfl ?_
          refine zq_iinc (q := 57) (v := (x4 + 1)) (lv2 := [(4, .int (x4 + 1)), (3, .int x3), (0, .ref h0_0), (1, .int x1), (2, .int x2)]) G dX4_without_54 4 rfl rfl (by decide) rfl rfl ?_
          refine zq_goto (q := 6) G dX4_without_57 (by decide) ?_
          exact zq_sub _ [2, 3, 4, 1, 0] rfl (ih _ _ _ _ h)
        · have h := zie h c2
          refine zq_aload_n (q := 22) G dX4_without_21 0 rfl rfl rfl ?_
          refine zq_get (q := 25) G zu_X4 rfl zw_X4_f39 dX4_without_22 0 10 rfl (by decide) ⟨⟨rfl, rfl⟩, rfl⟩ rfl rfl ?_
          refine zq_bipush (q := 27) (v := 7) G dX4_without_25 (by decide) rfl ?_
          refine zq_iload_n (q := 28) G dX4_without_27 1 rfl rfl rfl ?_
          refine zq_imul (q := 29) G dX4_without_28 rfl ?_
          refine zq_iload (q := 31) G dX4_without_29 4 rfl rfl ?_
          refine zq_iadd (q := 32) G dX4_without_31 rfl ?_
          obtain ⟨q3, h⟩ := zif h
          refine zq_iald (q := 33) G dX4_without_32 6 rfl q3 rfl ?_
          refine zq_iload_n (q := 34) G dX4_without_33 3 rfl rfl rfl ?_
          refine zq_icmp_ge (tgt := 52) (q := 37) G dX4_without_34 (by decide) rfl (fun c4 => ?_) (fun c4 => ?_)
          · have h := zit h c4
            refine zq_iload_n (q := 53) G dX4_without_52 3 rfl rfl rfl ?_
            refine zq_istore_n (q := 54) (lv2 := [(3, .int x3), (0, .ref h0_0), (1, .int x1), (2, .int x2), (4, .int x4)]) G dX4_without_53 rfl (by decide) rfl rfl ?_
            refine zq_iinc (q := 57) (v := (x4 + 1)) (lv2 := [(4, .int (x4 + 1)), (3, .int x3), (0, .ref h0_0), (1, .int x1), (2, .int x2)]) G dX4_without_54 4 rfl rfl (by decide) rfl rfl ?_
            refine zq_goto (q := 6) G dX4_without_57 (by decide) ?_
            exact zq_sub _ [2, 3, 4, 1, 0] rfl (ih _ _ _ _ h)
          · have h := zie h c4
            refine zq_aload_n (q := 38) G dX4_without_37 0 rfl rfl rfl ?_
            refine zq_get (q := 41) G zu_X4 rfl zw_X4_f39 dX4_without_38 0 10 rfl (by decide) ⟨⟨rfl, rfl⟩, rfl⟩ rfl rfl ?_
            refine zq_bipush (q := 43) (v := 7) G dX4_without_41 (by decide) rfl ?_
            refine zq_iload_n (q := 44) G dX4_without_43 1 rfl rfl rfl ?_
            refine zq_imul (q := 45) G dX4_without_44 rfl ?_
            refine zq_iload (q := 47) G dX4_without_45 4 rfl rfl ?_
            refine zq_iadd (q := 48) G dX4_without_47 rfl ?_
            obtain ⟨q5, h⟩ := zif h
            refine zq_iald (q := 49) G dX4_without_48 6 rfl q5 rfl ?_
            refine zq_goto (q := 53) G dX4_without_49 (by decide) ?_
            refine zq_istore_n (q := 54) (lv2 := [(3, .int (σ0.2.2.1.2.1 (((7 : Int32) * x1) + x4).toNatClampNeg)), (0, .ref h0_0), (1, .int x1), (2, .int x2), (4, .int x4)]) G dX4_without_53 rfl (by decide) rfl rfl ?_
            refine zq_iinc (q := 57) (v := (x4 + 1)) (lv2 := [(4, .int (x4 + 1)), (3, .int (σ0.2.2.1.2.1 (((7 : Int32) * x1) + x4).toNatClampNeg)), (0, .ref h0_0), (1, .int x1), (2, .int x2)]) G dX4_without_54 4 rfl rfl (by decide) rfl rfl ?_
            refine zq_goto (q := 6) G dX4_without_57 (by decide) ?_
            exact zq_sub _ [2, 3, 4, 1, 0] rfl (ih _ _ _ _ h)
  refine zq_ldc (q := 2) G zw_X4_c79 dX4_without_0 rfl ?_
  refine zq_istore_n (q := 3) (lv2 := [(3, .int (1000000 : Int32)), (0, .ref h0_0), (1, .int p0), (2, .int p1)]) G dX4_without_2 rfl (by decide) rfl rfl ?_
  refine zq_iconst (q := 4) (v := 0) G dX4_without_3 (by decide) rfl ?_
  refine zq_istore (q := 6) (lv2 := [(4, .int (0 : Int32)), (3, .int (1000000 : Int32)), (0, .ref h0_0), (1, .int p0), (2, .int p1)]) G dX4_without_4 (by decide) rfl rfl ?_
  exact zq_sub _ [2, 3, 4, 1, 0] rfl (b6  _ _ _ _ _ h)
set_option maxHeartbeats 4000000 in
set_option maxRecDepth 100000 in
theorem c_X4_findPotentials (l : Launch) (D : va_G) (cyI cyZ : ClassId) (h0_0 h0_1 h0_2 h0_3 h0_4 h0_5 h0_6 h0_7 h0_8 h0_9 h0_10 h0_11 : Nat) (σ0 : zM) (o0 : zM) (h : s_X4_findPotentials σ0 = some o0) (sz : Nat) : zMv l yX4_findPotentials cX4_findPotentials 4 15 302 D cyI cyZ sz [.ref h0_0] (w_M cyI cyZ h0_0 h0_1 h0_2 h0_3 h0_4 h0_5 h0_6 h0_7 h0_8 h0_9 h0_10 h0_11 σ0) (w_M cyI cyZ h0_0 h0_1 h0_2 h0_3 h0_4 h0_5 h0_6 h0_7 h0_8 h0_9 h0_10 h0_11 o0) := by
  unfold s_X4_findPotentials at h
  refine zstartV (lv0 := [(0, .ref h0_0)]) (by decide) (Nat.le_of_ble_eq_true rfl) rfl (fun p e s m args below meth c G hr hlocks => ?_)
  have b70 : ∀ (k52 : (zM → Int32 → Option (zM))) (hk52 : ∀ (τ0 : zM) (x1 : Int32), k52 τ0 x1 = some o0 → zW p l e ({ frames := 15, cells := 0, slots := 0, locals := 302 } : Room) s m args below meth c D (va_A (w_M cyI cyZ h0_0 h0_1 h0_2 h0_3 h0_4 h0_5 h0_6 h0_7 h0_8 h0_9 h0_10 h0_11 σ0) sz) 4 0 0 (MQ below (zQv D cyI cyZ sz (w_M cyI cyZ h0_0 h0_1 h0_2 h0_3 h0_4 h0_5 h0_6 h0_7 h0_8 h0_9 h0_10 h0_11 σ0) (w_M cyI cyZ h0_0 h0_1 h0_2 h0_3 h0_4 h0_5 h0_6 h0_7 h0_8 h0_9 h0_10 h0_11 o0)) args s 0 0 (va_A (w_M cyI cyZ h0_0 h0_1 h0_2 h0_3 h0_4 h0_5 h0_6 h0_7 h0_8 h0_9 h0_10 h0_11 σ0) sz)) 52 [(0, .ref h0_0), (1, .int x1)] [] (w_M cyI cyZ h0_0 h0_1 h0_2 h0_3 h0_4 h0_5 h0_6 h0_7 h0_8 h0_9 h0_10 h0_11 τ0)) (n : Nat) (τ0 : zM) (x1 : Int32) (x2 : Int32), s_X4_findPotentials_70 k52 n τ0 x1 x2 = some o0 → zW p l e ({ frames := 15, cells := 0, slots := 0, locals := 302 } : Room) s m args below meth c D (va_A (w_M cyI cyZ h0_0 h0_1 h0_2 h0_3 h0_4 h0_5 h0_6 h0_7 h0_8 h0_9 h0_10 h0_11 σ0) sz) 4 0 0 (MQ below (zQv D cyI cyZ sz (w_M cyI cyZ h0_0 h0_1 h0_2 h0_3 h0_4 h0_5 h0_6 h0_7 h0_8 h0_9 h0_10 h0_11 σ0) (w_M cyI cyZ h0_0 h0_1 h0_2 h0_3 h0_4 h0_5 h0_6 h0_7 h0_8 h0_9 h0_10 h0_11 o0)) args s 0 0 (va_A (w_M cyI cyZ h0_0 h0_1 h0_2 h0_3 h0_4 h0_5 h0_6 h0_7 h0_8 h0_9 h0_10 h0_11 σ0) sz)) 70 [(0, .ref h0_0), (1, .int x1), (2, .int x2)] [] (w_M cyI cyZ h0_0 h0_1 h0_2 h0_3 h0_4 h0_5 h0_6 h0_7 h0_8 h0_9 h0_10 h0_11 τ0) := by
    intro k52 hk52
    intro n
    induction n with
    | zero => intro τ0 x1 x2 h; rw [s_X4_findPotentials_70] at h; exact nomatch h
    | succ n ih =>
      intro τ0 x1 x2 h
      rw [s_X4_findPotentials_70] at h
      refine zq_iload_n (q := 71) G dX4_findPotentials_70 2 rfl rfl rfl ?_
      refine zq_aload_n (q := 72) G dX4_findPotentials_71 0 rfl rfl rfl ?_
      refine zq_get (q := 75) G zu_X4 rfl zw_X4_f7 dX4_findPotentials_72 0 0 rfl (by decide) ⟨⟨rfl, rfl⟩, rfl⟩ rfl rfl ?_
      refine zq_icmp_ge (tgt := 129) (q := 78) G dX4_findPotentials_75 (by decide) rfl (fun c1 => ?_) (fun c1 => ?_)
      · have h := zit h c1
        refine zq_iinc (q := 132) (v := (x1 + 1)) (lv2 := [(1, .int (x1 + 1)), (0, .ref h0_0), (2, .int x2)]) G dX4_findPotentials_129 1 rfl rfl (by decide) rfl rfl ?_
        refine zq_goto (q := 52) G dX4_findPotentials_132 (by decide) ?_
        exact zq_sub _ [1, 0] rfl (hk52 _ _ h)
      · have h := zie h c1
        refine zq_aload_n (q := 79) G dX4_findPotentials_78 0 rfl rfl rfl ?_
        refine zq_get (q := 82) G zu_X4 rfl zw_X4_f36 dX4_findPotentials_79 0 9 rfl (by decide) ⟨⟨rfl, rfl⟩, rfl⟩ rfl rfl ?_
        refine zq_bipush (q := 84) (v := 7) G dX4_findPotentials_82 (by decide) rfl ?_
        refine zq_iload_n (q := 85) G dX4_findPotentials_84 2 rfl rfl rfl ?_
        refine zq_imul (q := 86) G dX4_findPotentials_85 rfl ?_
        refine zq_iload_n (q := 87) G dX4_findPotentials_86 1 rfl rfl rfl ?_
        refine zq_iadd (q := 88) G dX4_findPotentials_87 rfl ?_
        obtain ⟨q2, h⟩ := zif h
        refine zq_iald (q := 89) G dX4_findPotentials_88 5 rfl q2 rfl ?_
        refine zq_aload_n (q := 90) G dX4_findPotentials_89 0 rfl rfl rfl ?_
        refine zq_get (q := 93) G zu_X4 rfl zw_X4_f54 dX4_findPotentials_90 0 22 rfl (by decide) ⟨⟨rfl, rfl⟩, rfl⟩ rfl rfl ?_
        refine zq_iload_n (q := 94) G dX4_findPotentials_93 2 rfl rfl rfl ?_
        obtain ⟨q3, h⟩ := zif h
        refine zq_iald (q := 95) G dX4_findPotentials_94 10 rfl q3 rfl ?_
        refine zq_isub (q := 96) G dX4_findPotentials_95 rfl ?_
        refine zq_istore_n (q := 97) (lv2 := [(3, .int ((τ0.2.2.1.1 (((7 : Int32) * x2) + x1).toNatClampNeg) - (τ0.2.2.1.2.2.2.2.2.2.2.2.2.1 x2.toNatClampNeg))), (0, .ref h0_0), (1, .int x1), (2, .int x2)]) G dX4_findPotentials_96 rfl (by decide) rfl rfl ?_
        refine zq_aload_n (q := 98) G dX4_findPotentials_97 1 rfl rfl rfl ?_
        refine zq_get (q := 101) G zu_X4 rfl zw_X4_f57 dX4_findPotentials_98 0 23 rfl (by decide) ⟨⟨rfl, rfl⟩, rfl⟩ rfl rfl ?_
        refine zq_iload_n (q := 102) G dX4_findPotentials_101 2 rfl rfl rfl ?_
        refine zq_iload_n (q := 103) G dX4_findPotentials_102 0 rfl rfl rfl ?_
        refine zq_aload_n (q := 104) G dX4_findPotentials_103 1 rfl rfl rfl ?_
        refine zq_get (q := 107) G zu_X4 rfl zw_X4_f57 dX4_findPotentials_104 0 23 rfl (by decide) ⟨⟨rfl, rfl⟩, rfl⟩ rfl rfl ?_
        refine zq_iload_n (q := 108) G dX4_findPotentials_107 2 rfl rfl rfl ?_
        obtain ⟨q4, h⟩ := zif h
        refine zq_iald (q := 109) G dX4_findPotentials_108 11 rfl q4 rfl ?_
        refine zq_icmp_ge (tgt := 116) (q := 112) G dX4_findPotentials_109 (by decide) rfl (fun c5 => ?_) (fun c5 => ?_)
        · have h := zit h c5
          refine zq_aload_n (q := 117) G dX4_findPotentials_116 1 rfl rfl rfl ?_
          refine zq_get (q := 120) G zu_X4 rfl zw_X4_f57 dX4_findPotentials_117 0 23 rfl (by decide) ⟨⟨rfl, rfl⟩, rfl⟩ rfl rfl ?_
          refine zq_iload_n (q := 121) G dX4_findPotentials_120 2 rfl rfl rfl ?_
          obtain ⟨q6, h⟩ := zif h
          refine zq_iald (q := 122) G dX4_findPotentials_121 11 rfl q6 rfl ?_
          obtain ⟨q7, h⟩ := zif h
          refine zq_iast (q := 123) (ws2 := (w_M cyI cyZ h0_0 h0_1 h0_2 h0_3 h0_4 h0_5 h0_6 h0_7 h0_8 h0_9 h0_10 h0_11 (τ0.1, τ0.2.1, (τ0.2.2.1.1, τ0.2.2.1.2.1, τ0.2.2.1.2.2.1, τ0.2.2.1.2.2.2.1, τ0.2.2.1.2.2.2.2.1, τ0.2.2.1.2.2.2.2.2.1, τ0.2.2.1.2.2.2.2.2.2.1, τ0.2.2.1.2.2.2.2.2.2.2.1, τ0.2.2.1.2.2.2.2.2.2.2.2.1, τ0.2.2.1.2.2.2.2.2.2.2.2.2.1, (upd τ0.2.2.1.2.2.2.2.2.2.2.2.2.2 x1.toNatClampNeg (τ0.2.2.1.2.2.2.2.2.2.2.2.2.2 x1.toNatClampNeg))), τ0.2.2.2.1, τ0.2.2.2.2))) G dX4_findPotentials_122 11 rfl q7 rfl rfl ?_
          refine zq_iinc (q := 126) (v := (x2 + 1)) (lv2 := [(2, .int (x2 + 1)), (3, .int ((τ0.2.2.1.1 (((7 : Int32) * x2) + x1).toNatClampNeg) - (τ0.2.2.1.2.2.2.2.2.2.2.2.2.1 x2.toNatClampNeg))), (0, .ref h0_0), (1, .int x1)]) G dX4_findPotentials_123 3 rfl rfl (by decide) rfl rfl ?_
          refine zq_goto (q := 70) G dX4_findPotentials_126 (by decide) ?_
          exact zq_sub _ [2, 3, 0] rfl (ih _ _ _ h)
        · have h := zie h c5
          refine zq_iload_n (q := 113) G dX4_findPotentials_112 0 rfl rfl rfl ?_
          refine zq_goto (q := 122) G dX4_findPotentials_113 (by decide) ?_
          obtain ⟨q8, h⟩ := zif h
          refine zq_iast (q := 123) (ws2 := (w_M cyI cyZ h0_0 h0_1 h0_2 h0_3 h0_4 h0_5 h0_6 h0_7 h0_8 h0_9 h0_10 h0_11 (τ0.1, τ0.2.1, (τ0.2.2.1.1, τ0.2.2.1.2.1, τ0.2.2.1.2.2.1, τ0.2.2.1.2.2.2.1, τ0.2.2.1.2.2.2.2.1, τ0.2.2.1.2.2.2.2.2.1, τ0.2.2.1.2.2.2.2.2.2.1, τ0.2.2.1.2.2.2.2.2.2.2.1, τ0.2.2.1.2.2.2.2.2.2.2.2.1, τ0.2.2.1.2.2.2.2.2.2.2.2.2.1, (upd τ0.2.2.1.2.2.2.2.2.2.2.2.2.2 x1.toNatClampNeg ((τ0.2.2.1.1 (((7 : Int32) * x2) + x1).toNatClampNeg) - (τ0.2.2.1.2.2.2.2.2.2.2.2.2.1 x2.toNatClampNeg)))), τ0.2.2.2.1, τ0.2.2.2.2))) G dX4_findPotentials_122 11 rfl q8 rfl rfl ?_
          refine zq_iinc (q := 126) (v := (x2 + 1)) (lv2 := [(2, .int (x2 + 1)), (3, .int ((τ0.2.2.1.1 (((7 : Int32) * x2) + x1).toNatClampNeg) - (τ0.2.2.1.2.2.2.2.2.2.2.2.2.1 x2.toNatClampNeg))), (0, .ref h0_0), (1, .int x1)]) G dX4_findPotentials_123 3 rfl rfl (by decide) rfl rfl ?_
          refine zq_goto (q := 70) G dX4_findPotentials_126 (by decide) ?_
          exact zq_sub _ [2, 3, 0] rfl (ih _ _ _ h)
  have b52 : ∀ (n : Nat) (τ0 : zM) (x1 : Int32), s_X4_findPotentials_52 n τ0 x1 = some o0 → zW p l e ({ frames := 15, cells := 0, slots := 0, locals := 302 } : Room) s m args below meth c D (va_A (w_M cyI cyZ h0_0 h0_1 h0_2 h0_3 h0_4 h0_5 h0_6 h0_7 h0_8 h0_9 h0_10 h0_11 σ0) sz) 4 0 0 (MQ below (zQv D cyI cyZ sz (w_M cyI cyZ h0_0 h0_1 h0_2 h0_3 h0_4 h0_5 h0_6 h0_7 h0_8 h0_9 h0_10 h0_11 σ0) (w_M cyI cyZ h0_0 h0_1 h0_2 h0_3 h0_4 h0_5 h0_6 h0_7 h0_8 h0_9 h0_10 h0_11 o0)) args s 0 0 (va_A (w_M cyI cyZ h0_0 h0_1 h0_2 h0_3 h0_4 h0_5 h0_6 h0_7 h0_8 h0_9 h0_10 h0_11 σ0) sz)) 52 [(0, .ref h0_0), (1, .int x1)] [] (w_M cyI cyZ h0_0 h0_1 h0_2 h0_3 h0_4 h0_5 h0_6 h0_7 h0_8 h0_9 h0_10 h0_11 τ0) := by
    intro n
    induction n with
    | zero => intro τ0 x1 h; rw [s_X4_findPotentials_52] at h; exact nomatch h
    | succ n ih =>
      intro τ0 x1 h
      rw [s_X4_findPotentials_52] at h
      refine zq_iload_n (q := 53) G dX4_findPotentials_52 1 rfl rfl rfl ?_
      refine zq_aload_n (q := 54) G dX4_findPotentials_53 0 rfl rfl rfl ?_
      refine zq_get (q := 57) G zu_X4 rfl zw_X4_f7 dX4_findPotentials_54 0 0 rfl (by decide) ⟨⟨rfl, rfl⟩, rfl⟩ rfl rfl ?_
      refine zq_icmp_ge (tgt := 135) (q := 60) G dX4_findPotentials_57 (by decide) rfl (fun c1 => ?_) (fun c1 => ?_)
      · have h := zit h c1
        refine zq_ws (congrArg (fun w9 => (w_M cyI cyZ h0_0 h0_1 h0_2 h0_3 h0_4 h0_5 h0_6 h0_7 h0_8 h0_9 h0_10 h0_11 w9)) (zsome h)) ?_
        exact zq_vret G hlocks hr dX4_findPotentials_135
      · have h := zie h c1
        refine zq_aload_n (q := 61) G dX4_findPotentials_60 0 rfl rfl rfl ?_
        refine zq_get (q := 64) G zu_X4 rfl zw_X4_f57 dX4_findPotentials_61 0 23 rfl (by decide) ⟨⟨rfl, rfl⟩, rfl⟩ rfl rfl ?_
        refine zq_iload_n (q := 65) G dX4_findPotentials_64 1 rfl rfl rfl ?_
        refine zq_ldc (q := 67) G zw_X4_c79 dX4_findPotentials_65 rfl ?_
        obtain ⟨q2, h⟩ := zif h
        refine zq_iast (q := 68) (ws2 := (w_M cyI cyZ h0_0 h0_1 h0_2 h0_3 h0_4 h0_5 h0_6 h0_7 h0_8 h0_9 h0_10 h0_11 (τ0.1, τ0.2.1, (τ0.2.2.1.1, τ0.2.2.1.2.1, τ0.2.2.1.2.2.1, τ0.2.2.1.2.2.2.1, τ0.2.2.1.2.2.2.2.1, τ0.2.2.1.2.2.2.2.2.1, τ0.2.2.1.2.2.2.2.2.2.1, τ0.2.2.1.2.2.2.2.2.2.2.1, τ0.2.2.1.2.2.2.2.2.2.2.2.1, τ0.2.2.1.2.2.2.2.2.2.2.2.2.1, (upd τ0.2.2.1.2.2.2.2.2.2.2.2.2.2 x1.toNatClampNeg (1000000 : Int32))), τ0.2.2.2.1, τ0.2.2.2.2))) G dX4_findPotentials_67 11 rfl q2 rfl rfl ?_
        refine zq_iconst (q := 69) (v := 0) G dX4_findPotentials_68 (by decide) rfl ?_
        refine zq_istore_n (q := 70) (lv2 := [(2, .int (0 : Int32)), (0, .ref h0_0), (1, .int x1)]) G dX4_findPotentials_69 rfl (by decide) rfl rfl ?_
        exact zq_sub _ [1, 2, 0] rfl (b70 _ ih _ _ _ _ h)
  have b6 : ∀ (n : Nat) (τ0 : zM) (x1 : Int32), s_X4_findPotentials_6 n τ0 x1 = some o0 → zW p l e ({ frames := 15, cells := 0, slots := 0, locals := 302 } : Room) s m args below meth c D (va_A (w_M cyI cyZ h0_0 h0_1 h0_2 h0_3 h0_4 h0_5 h0_6 h0_7 h0_8 h0_9 h0_10 h0_11 σ0) sz) 4 0 0 (MQ below (zQv D cyI cyZ sz (w_M cyI cyZ h0_0 h0_1 h0_2 h0_3 h0_4 h0_5 h0_6 h0_7 h0_8 h0_9 h0_10 h0_11 σ0) (w_M cyI cyZ h0_0 h0_1 h0_2 h0_3 h0_4 h0_5 h0_6 h0_7 h0_8 h0_9 h0_10 h0_11 o0)) args s 0 0 (va_A (w_M cyI cyZ h0_0 h0_1 h0_2 h0_3 h0_4 h0_5 h0_6 h0_7 h0_8 h0_9 h0_10 h0_11 σ0) sz)) 6 [(0, .ref h0_0), (1, .int x1)] [] (w_M cyI cyZ h0_0 h0_1 h0_2 h0_3 h0_4 h0_5 h0_6 h0_7 h0_8 h0_9 h0_10 h0_11 τ0) := by
    intro n
    induction n with
    | zero => intro τ0 x1 h; rw [s_X4_findPotentials_6] at h; exact nomatch h
    | succ n ih =>
      intro τ0 x1 h
      rw [s_X4_findPotentials_6] at h
      refine zq_iload_n (q := 7) G dX4_findPotentials_6 1 rfl rfl rfl ?_
      refine zq_aload_n (q := 8) G dX4_findPotentials_7 0 rfl rfl rfl ?_
      refine zq_get (q := 11) G zu_X4 rfl zw_X4_f7 dX4_findPotentials_8 0 0 rfl (by decide) ⟨⟨rfl, rfl⟩, rfl⟩ rfl rfl ?_
      refine zq_icmp_ge (tgt := 50) (q := 14) G dX4_findPotentials_11 (by decide) rfl (fun c1 => ?_) (fun c1 => ?_)
      · have h := zit h c1
        refine zq_iconst (q := 51) (v := 0) G dX4_findPotentials_50 (by decide) rfl ?_
        refine zq_istore_n (q := 52) (lv2 := [(1, .int (0 : Int32)), (0, .ref h0_0)]) G dX4_findPotentials_51 rfl (by decide) rfl rfl ?_
        exact zq_sub _ [1, 0] rfl (b52  _ _ _ h)
      · have h := zie h c1
        refine zq_aload_n (q := 15) G dX4_findPotentials_14 0 rfl rfl rfl ?_
        refine zq_get (q := 18) G zu_X4 rfl zw_X4_f54 dX4_findPotentials_15 0 22 rfl (by decide) ⟨⟨rfl, rfl⟩, rfl⟩ rfl rfl ?_
        refine zq_iload_n (q := 19) G dX4_findPotentials_18 1 rfl rfl rfl ?_
        refine zq_aload_n (q := 20) G dX4_findPotentials_19 0 rfl rfl rfl ?_
        refine zq_get (q := 23) G zu_X4 rfl zw_X4_f80 dX4_findPotentials_20 0 13 rfl (by decide) ⟨⟨rfl, rfl⟩, rfl⟩ rfl rfl ?_
        refine zq_aload_n (q := 24) G dX4_findPotentials_23 0 rfl rfl rfl ?_
        refine zq_get (q := 27) G zu_X4 rfl zw_X4_f39 dX4_findPotentials_24 0 10 rfl (by decide) ⟨⟨rfl, rfl⟩, rfl⟩ rfl rfl ?_
        refine zq_bipush (q := 29) (v := 7) G dX4_findPotentials_27 (by decide) rfl ?_
        refine zq_iload_n (q := 30) G dX4_findPotentials_29 1 rfl rfl rfl ?_
        refine zq_imul (q := 31) G dX4_findPotentials_30 rfl ?_
        obtain ⟨q2, h⟩ := zif h
        refine zq_iald (q := 32) G dX4_findPotentials_31 6 rfl q2 rfl ?_
        refine zq_aload_n (q := 33) G dX4_findPotentials_32 0 rfl rfl rfl ?_
        refine zq_get (q := 36) G zu_X4 rfl zw_X4_f36 dX4_findPotentials_33 0 9 rfl (by decide) ⟨⟨rfl, rfl⟩, rfl⟩ rfl rfl ?_
        refine zq_bipush (q := 38) (v := 7) G dX4_findPotentials_36 (by decide) rfl ?_
        refine zq_iload_n (q := 39) G dX4_findPotentials_38 1 rfl rfl rfl ?_
        refine zq_imul (q := 40) G dX4_findPotentials_39 rfl ?_
        obtain ⟨q3, h⟩ := zif h
        refine zq_iald (q := 41) G dX4_findPotentials_40 5 rfl q3 rfl ?_
        refine zq_isub (q := 42) G dX4_findPotentials_41 rfl ?_
        refine zq_isub (q := 43) G dX4_findPotentials_42 rfl ?_
        obtain ⟨q4, h⟩ := zif h
        refine zq_iast (q := 44) (ws2 := (w_M cyI cyZ h0_0 h0_1 h0_2 h0_3 h0_4 h0_5 h0_6 h0_7 h0_8 h0_9 h0_10 h0_11 (τ0.1, τ0.2.1, (τ0.2.2.1.1, τ0.2.2.1.2.1, τ0.2.2.1.2.2.1, τ0.2.2.1.2.2.2.1, τ0.2.2.1.2.2.2.2.1, τ0.2.2.1.2.2.2.2.2.1, τ0.2.2.1.2.2.2.2.2.2.1, τ0.2.2.1.2.2.2.2.2.2.2.1, τ0.2.2.1.2.2.2.2.2.2.2.2.1, (upd τ0.2.2.1.2.2.2.2.2.2.2.2.2.1 x1.toNatClampNeg (τ0.2.2.1.2.2.2.2.1 - ((τ0.2.2.1.2.1 ((7 : Int32) * x1).toNatClampNeg) - (τ0.2.2.1.1 ((7 : Int32) * x1).toNatClampNeg)))), τ0.2.2.1.2.2.2.2.2.2.2.2.2.2), τ0.2.2.2.1, τ0.2.2.2.2))) G dX4_findPotentials_43 10 rfl q4 rfl rfl ?_
        refine zq_iinc (q := 47) (v := (x1 + 1)) (lv2 := [(1, .int (x1 + 1)), (0, .ref h0_0)]) G dX4_findPotentials_44 1 rfl rfl (by decide) rfl rfl ?_
        refine zq_goto (q := 6) G dX4_findPotentials_47 (by decide) ?_
        exact zq_sub _ [1, 0] rfl (ih _ _ h)
  refine zq_aload_n (q := 1) G dX4_findPotentials_0 0 rfl rfl rfl ?_
  obtain ⟨z1, hc1, h⟩ := zbd h
  refine zq_callVv (q := 4) (ws2 := (w_M cyI cyZ h0_0 h0_1 h0_2 h0_3 h0_4 h0_5 h0_6 h0_7 h0_8 h0_9 h0_10 h0_11 z1)) (isC := [0, 1, 2, 3, 4, 5, 6, 7, 8, 9, 10, 11]) (isR := []) (perm := [0, 1, 2, 3, 4, 5, 6, 7, 8, 9, 10, 11]) (rest := []) (As := []) G zs_X4_114 dX4_findPotentials_1 (fun sz9 => c_X4_look_ l D cyI cyZ h0_0 h0_1 h0_2 h0_3 h0_4 h0_5 h0_6 h0_7 h0_8 h0_9 h0_10 h0_11 σ0 z1 hc1 sz9) 0 rfl rfl rfl ⟨rfl, rfl, rfl, rfl⟩ rfl (Nat.le_of_ble_eq_true rfl) ⟨Nat.le_of_ble_eq_true rfl, Nat.le_of_ble_eq_true rfl, Nat.zero_le _, Nat.zero_le _⟩ rfl ?_
  refine zq_iconst (q := 5) (v := 0) G dX4_findPotentials_4 (by decide) rfl ?_
  refine zq_istore_n (q := 6) (lv2 := [(1, .int (0 : Int32)), (0, .ref h0_0)]) G dX4_findPotentials_5 rfl (by decide) rfl rfl ?_
  exact zq_sub _ [1, 0] rfl (b6  _ _ _ h)
set_option maxHeartbeats 4000000 in
set_option maxRecDepth 100000 in
theorem c_X4_reduced (l : Launch) (D : va_G) (cyI cyZ : ClassId) (h0_0 h0_1 h0_2 h0_3 h0_4 h0_5 h0_6 h0_7 h0_8 h0_9 h0_10 h0_11 : Nat) (σ0 : zM) (p0 : Int32) (p1 : Int32) (r : Int32) (h : s_X4_reduced σ0 p0 p1 = some r) (sz : Nat) : zMi l yX4_reduced cX4_reduced 3 .int 0 0 D cyI cyZ sz [.ref h0_0, .int p0, .int p1] (w_M cyI cyZ h0_0 h0_1 h0_2 h0_3 h0_4 h0_5 h0_6 h0_7 h0_8 h0_9 h0_10 h0_11 σ0) r (w_M cyI cyZ h0_0 h0_1 h0_2 h0_3 h0_4 h0_5 h0_6 h0_7 h0_8 h0_9 h0_10 h0_11 σ0) := by
  unfold s_X4_reduced at h
  refine zstartI (lv0 := [(0, .ref h0_0), (1, .int p0), (2, .int p1)]) (by decide) (Nat.le_of_ble_eq_true rfl) rfl (fun p e s m args below meth c G hr hlocks => ?_)
  refine zq_aload_n (q := 1) G dX4_reduced_0 0 rfl rfl rfl ?_
  refine zq_get (q := 4) G zu_X4 rfl zw_X4_f36 dX4_reduced_1 0 9 rfl (by decide) ⟨⟨rfl, rfl⟩, rfl⟩ rfl rfl ?_
  refine zq_bipush (q := 6) (v := 7) G dX4_reduced_4 (by decide) rfl ?_
  refine zq_iload_n (q := 7) G dX4_reduced_6 1 rfl rfl rfl ?_
  refine zq_imul (q := 8) G dX4_reduced_7 rfl ?_
  refine zq_iload_n (q := 9) G dX4_reduced_8 2 rfl rfl rfl ?_
  refine zq_iadd (q := 10) G dX4_reduced_9 rfl ?_
  obtain ⟨q1, h⟩ := zif h
  refine zq_iald (q := 11) G dX4_reduced_10 5 rfl q1 rfl ?_
  refine zq_aload_n (q := 12) G dX4_reduced_11 0 rfl rfl rfl ?_
  refine zq_get (q := 15) G zu_X4 rfl zw_X4_f54 dX4_reduced_12 0 22 rfl (by decide) ⟨⟨rfl, rfl⟩, rfl⟩ rfl rfl ?_
  refine zq_iload_n (q := 16) G dX4_reduced_15 1 rfl rfl rfl ?_
  obtain ⟨q2, h⟩ := zif h
  refine zq_iald (q := 17) G dX4_reduced_16 10 rfl q2 rfl ?_
  refine zq_isub (q := 18) G dX4_reduced_17 rfl ?_
  refine zq_aload_n (q := 19) G dX4_reduced_18 0 rfl rfl rfl ?_
  refine zq_get (q := 22) G zu_X4 rfl zw_X4_f57 dX4_reduced_19 0 23 rfl (by decide) ⟨⟨rfl, rfl⟩, rfl⟩ rfl rfl ?_
  refine zq_iload_n (q := 23) G dX4_reduced_22 2 rfl rfl rfl ?_
  obtain ⟨q3, h⟩ := zif h
  refine zq_iald (q := 24) G dX4_reduced_23 11 rfl q3 rfl ?_
  refine zq_isub (q := 25) G dX4_reduced_24 rfl ?_
  exact zq_iret G hlocks hr rfl dX4_reduced_25 (zsome h)
set_option maxHeartbeats 4000000 in
set_option maxRecDepth 100000 in
theorem c_X4_resize (l : Launch) (D : va_G) (cyI cyZ : ClassId) (h0_0 h0_1 h0_2 h0_3 h0_4 h0_5 h0_6 h0_7 h0_8 h0_9 h0_10 h0_11 : Nat) (σ0 : zM) (p0 : Int32) (p1 : Int32) (r : Int32) (o0 : zM) (h : s_X4_resize σ0 p0 p1 = some (r, o0)) (sz : Nat) : zMi l yX4_resize cX4_resize 4 .int 1 25 D cyI cyZ sz [.ref h0_0, .int p0, .int p1] (w_M cyI cyZ h0_0 h0_1 h0_2 h0_3 h0_4 h0_5 h0_6 h0_7 h0_8 h0_9 h0_10 h0_11 σ0) r (w_M cyI cyZ h0_0 h0_1 h0_2 h0_3 h0_4 h0_5 h0_6 h0_7 h0_8 h0_9 h0_10 h0_11 o0) := by
  unfold s_X4_resize at h
  refine zstartI (lv0 := [(0, .ref h0_0), (1, .int p0), (2, .int p1)]) (by decide) (Nat.le_of_ble_eq_true rfl) rfl (fun p e s m args below meth c G hr hlocks => ?_)
  have b49 : ∀ (n : Nat) (τ0 : zM) (x3 : Int32), s_X4_resize_49 n τ0 x3 = some (r, o0) → zW p l e ({ frames := 1, cells := 0, slots := 0, locals := 25 } : Room) s m args below meth c D (va_A (w_M cyI cyZ h0_0 h0_1 h0_2 h0_3 h0_4 h0_5 h0_6 h0_7 h0_8 h0_9 h0_10 h0_11 σ0) sz) 4 0 0 (MQ below (zQi D cyI cyZ sz (w_M cyI cyZ h0_0 h0_1 h0_2 h0_3 h0_4 h0_5 h0_6 h0_7 h0_8 h0_9 h0_10 h0_11 σ0) r (w_M cyI cyZ h0_0 h0_1 h0_2 h0_3 h0_4 h0_5 h0_6 h0_7 h0_8 h0_9 h0_10 h0_11 o0)) args s 0 0 (va_A (w_M cyI cyZ h0_0 h0_1 h0_2 h0_3 h0_4 h0_5 h0_6 h0_7 h0_8 h0_9 h0_10 h0_11 σ0) sz)) 49 [(0, .ref h0_0), (3, .int x3)] [] (w_M cyI cyZ h0_0 h0_1 h0_2 h0_3 h0_4 h0_5 h0_6 h0_7 h0_8 h0_9 h0_10 h0_11 τ0) := by
    intro n
    induction n with
    | zero => intro τ0 x3 h; rw [s_X4_resize_49] at h; exact nomatch h
    | succ n ih =>
      intro τ0 x3 h
      rw [s_X4_resize_49] at h
      refine zq_iload_n (q := 50) G dX4_resize_49 1 rfl rfl rfl ?_
      refine zq_bipush (q := 52) (v := 49) G dX4_resize_50 (by decide) rfl ?_
      refine zq_icmp_ge (tgt := 75) (q := 55) G dX4_resize_52 (by decide) rfl (fun c1 => ?_) (fun c1 => ?_)
      · have h := zit h c1
        refine zq_aload_n (q := 76) G dX4_resize_75 0 rfl rfl rfl ?_
        refine zq_iconst (q := 77) (v := -1) G dX4_resize_76 (by decide) rfl ?_
        refine zq_put (q := 80) (ws2 := (w_M cyI cyZ h0_0 h0_1 h0_2 h0_3 h0_4 h0_5 h0_6 h0_7 h0_8 h0_9 h0_10 h0_11 (τ0.1, τ0.2.1, τ0.2.2.1, ((-1 : Int32), τ0.2.2.2.1.2.1, τ0.2.2.2.1.2.2.1, τ0.2.2.2.1.2.2.2), τ0.2.2.2.2))) G zu_X4 rfl tyX4_ok nmX4 zw_X4_f48 dX4_resize_77 0 18 rfl (by decide) ⟨⟨rfl, rfl⟩, rfl⟩ rfl rfl rfl (Nat.le_of_ble_eq_true rfl) rfl rfl ?_
        refine zq_aload_n (q := 81) G dX4_resize_80 0 rfl rfl rfl ?_
        refine zq_get (q := 84) G zu_X4 rfl zw_X4_f7 dX4_resize_81 0 0 rfl (by decide) ⟨⟨rfl, rfl⟩, rfl⟩ rfl rfl ?_
        refine zq_aload_n (q := 85) G dX4_resize_84 0 rfl rfl rfl ?_
        refine zq_get (q := 88) G zu_X4 rfl zw_X4_f13 dX4_resize_85 0 1 rfl (by decide) ⟨⟨rfl, rfl⟩, rfl⟩ rfl rfl ?_
        refine zq_imul (q := 89) G dX4_resize_88 rfl ?_
        refine zq_ws (congrArg (fun w9 => (w_M cyI cyZ h0_0 h0_1 h0_2 h0_3 h0_4 h0_5 h0_6 h0_7 h0_8 h0_9 h0_10 h0_11 w9.2)) (zsome h)) ?_
        exact zq_iret G hlocks hr rfl dX4_resize_89 (congrArg Prod.fst (zsome h))
      · have h := zie h c1
        refine zq_aload_n (q := 56) G dX4_resize_55 0 rfl rfl rfl ?_
        refine zq_get (q := 59) G zu_X4 rfl zw_X4_f22 dX4_resize_56 0 5 rfl (by decide) ⟨⟨rfl, rfl⟩, rfl⟩ rfl rfl ?_
        refine zq_iload_n (q := 60) G dX4_resize_59 1 rfl rfl rfl ?_
        refine zq_iconst (q := 61) (v := 0) G dX4_resize_60 (by decide) rfl ?_
        obtain ⟨q2, h⟩ := zif h
        refine zq_iast (q := 62) (ws2 := (w_M cyI cyZ h0_0 h0_1 h0_2 h0_3 h0_4 h0_5 h0_6 h0_7 h0_8 h0_9 h0_10 h0_11 ((τ0.1.1, τ0.1.2.1, (upd τ0.1.2.2.1 x3.toNatClampNeg (0 : Int32)), τ0.1.2.2.2), τ0.2.1, τ0.2.2.1, τ0.2.2.2.1, τ0.2.2.2.2))) G dX4_resize_61 1 rfl q2 rfl rfl ?_
        refine zq_aload_n (q := 63) G dX4_resize_62 0 rfl rfl rfl ?_
        refine zq_get (q := 66) G zu_X4 rfl zw_X4_f29 dX4_resize_63 0 7 rfl (by decide) ⟨⟨rfl, rfl⟩, rfl⟩ rfl rfl ?_
        refine zq_iload_n (q := 67) G dX4_resize_66 1 rfl rfl rfl ?_
        refine zq_iconst (q := 68) (v := 0) G dX4_resize_67 (by decide) rfl ?_
        obtain ⟨q3, h⟩ := zif h
        refine zq_zast (q := 69) (ws2 := (w_M cyI cyZ h0_0 h0_1 h0_2 h0_3 h0_4 h0_5 h0_6 h0_7 h0_8 h0_9 h0_10 h0_11 ((τ0.1.1, τ0.1.2.1, (upd τ0.1.2.2.1 x3.toNatClampNeg (0 : Int32)), (upd τ0.1.2.2.2 x3.toNatClampNeg ((0 : Int32) &&& 1))), τ0.2.1, τ0.2.2.1, τ0.2.2.2.1, τ0.2.2.2.2))) G dX4_resize_68 3 rfl q3 rfl rfl ?_
        refine zq_iinc (q := 72) (v := (x3 + 1)) (lv2 := [(3, .int (x3 + 1)), (0, .ref h0_0)]) G dX4_resize_69 1 rfl rfl (by decide) rfl rfl ?_
        refine zq_goto (q := 49) G dX4_resize_72 (by decide) ?_
        exact zq_sub _ [1, 0] rfl (ih _ _ h)
  have b29 : ∀ (τ0 : zM) (x1 : Int32) (x2 : Int32) (y0 : Int32), s_X4_resize_29 τ0 x1 x2 y0 = some (r, o0) → zW p l e ({ frames := 1, cells := 0, slots := 0, locals := 25 } : Room) s m args below meth c D (va_A (w_M cyI cyZ h0_0 h0_1 h0_2 h0_3 h0_4 h0_5 h0_6 h0_7 h0_8 h0_9 h0_10 h0_11 σ0) sz) 4 0 0 (MQ below (zQi D cyI cyZ sz (w_M cyI cyZ h0_0 h0_1 h0_2 h0_3 h0_4 h0_5 h0_6 h0_7 h0_8 h0_9 h0_10 h0_11 σ0) r (w_M cyI cyZ h0_0 h0_1 h0_2 h0_3 h0_4 h0_5 h0_6 h0_7 h0_8 h0_9 h0_10 h0_11 o0)) args s 0 0 (va_A (w_M cyI cyZ h0_0 h0_1 h0_2 h0_3 h0_4 h0_5 h0_6 h0_7 h0_8 h0_9 h0_10 h0_11 σ0) sz)) 29 [(0, .ref h0_0), (1, .int x1), (2, .int x2)] [.int y0, .ref h0_0] (w_M cyI cyZ h0_0 h0_1 h0_2 h0_3 h0_4 h0_5 h0_6 h0_7 h0_8 h0_9 h0_10 h0_11 τ0) := by
    intro τ0 x1 x2 y0 h
    unfold s_X4_resize_29 at h
    obtain ⟨z1, hc1, h⟩ := zbd h
    refine zq_callVi (q := 32) (ws2 := (w_M cyI cyZ h0_0 h0_1 h0_2 h0_3 h0_4 h0_5 h0_6 h0_7 h0_8 h0_9 h0_10 h0_11 z1.2)) (isC := [0, 1, 2, 3, 4, 5, 6, 7, 8, 9, 10, 11]) (isR := []) (perm := [0, 1, 2, 3, 4, 5, 6, 7, 8, 9, 10, 11]) (rest := []) (As := [.int y0]) G zs_X4_118 dX4_resize_29 (fun sz9 => c_X4_isWrong l D cyI cyZ h0_0 h0_1 h0_2 h0_3 h0_4 h0_5 h0_6 h0_7 h0_8 h0_9 h0_10 h0_11 τ0 y0 z1.1 z1.2 hc1 sz9) 0 rfl rfl rfl ⟨rfl, rfl, rfl, rfl⟩ rfl (Nat.le_of_ble_eq_true rfl) ⟨Nat.le_of_ble_eq_true rfl, Nat.le_of_ble_eq_true rfl, Nat.zero_le _, Nat.zero_le _⟩ rfl ?_
    refine zq_if_eq (tgt := 37) (q := 35) G dX4_resize_32 (by decide) rfl (fun c2 => ?_) (fun c2 => ?_)
    · have h := zit h c2
      refine zq_aload_n (q := 38) G dX4_resize_37 0 rfl rfl rfl ?_
      refine zq_iload_n (q := 39) G dX4_resize_38 1 rfl rfl rfl ?_
      refine zq_put (q := 42) (ws2 := (w_M cyI cyZ h0_0 h0_1 h0_2 h0_3 h0_4 h0_5 h0_6 h0_7 h0_8 h0_9 h0_10 h0_11 ((x1, z1.2.1.2.1, z1.2.1.2.2.1, z1.2.1.2.2.2), z1.2.2.1, z1.2.2.2.1, z1.2.2.2.2.1, z1.2.2.2.2.2))) G zu_X4 rfl tyX4_ok nmX4 zw_X4_f7 dX4_resize_39 0 0 rfl (by decide) ⟨⟨rfl, rfl⟩, rfl⟩ rfl rfl rfl (Nat.le_of_ble_eq_true rfl) rfl rfl ?_
      refine zq_aload_n (q := 43) G dX4_resize_42 0 rfl rfl rfl ?_
      refine zq_iload_n (q := 44) G dX4_resize_43 2 rfl rfl rfl ?_
      refine zq_put (q := 47) (ws2 := (w_M cyI cyZ h0_0 h0_1 h0_2 h0_3 h0_4 h0_5 h0_6 h0_7 h0_8 h0_9 h0_10 h0_11 ((x1, x2, z1.2.1.2.2.1, z1.2.1.2.2.2), z1.2.2.1, z1.2.2.2.1, z1.2.2.2.2.1, z1.2.2.2.2.2))) G zu_X4 rfl tyX4_ok nmX4 zw_X4_f13 dX4_resize_44 0 1 rfl (by decide) ⟨⟨rfl, rfl⟩, rfl⟩ rfl rfl rfl (Nat.le_of_ble_eq_true rfl) rfl rfl ?_
      refine zq_iconst (q := 48) (v := 0) G dX4_resize_47 (by decide) rfl ?_
      refine zq_istore_n (q := 49) (lv2 := [(3, .int (0 : Int32)), (0, .ref h0_0), (1, .int x1), (2, .int x2)]) G dX4_resize_48 rfl (by decide) rfl rfl ?_
      exact zq_sub _ [1, 0] rfl (b49  _ _ _ h)
    · have h := zie h c2
      refine zq_iconst (q := 36) (v := 0) G dX4_resize_35 (by decide) rfl ?_
      refine zq_ws (congrArg (fun w9 => (w_M cyI cyZ h0_0 h0_1 h0_2 h0_3 h0_4 h0_5 h0_6 h0_7 h0_8 h0_9 h0_10 h0_11 w9.2)) (zsome h)) ?_
      exact zq_iret G hlocks hr rfl dX4_resize_36 (congrArg Prod.fst (zsome h))
  have b24 : ∀ (τ0 : zM) (x1 : Int32) (x2 : Int32), s_X4_resize_24 τ0 x1 x2 = some (r, o0) → zW p l e ({ frames := 1, cells := 0, slots := 0, locals := 25 } : Room) s m args below meth c D (va_A (w_M cyI cyZ h0_0 h0_1 h0_2 h0_3 h0_4 h0_5 h0_6 h0_7 h0_8 h0_9 h0_10 h0_11 σ0) sz) 4 0 0 (MQ below (zQi D cyI cyZ sz (w_M cyI cyZ h0_0 h0_1 h0_2 h0_3 h0_4 h0_5 h0_6 h0_7 h0_8 h0_9 h0_10 h0_11 σ0) r (w_M cyI cyZ h0_0 h0_1 h0_2 h0_3 h0_4 h0_5 h0_6 h0_7 h0_8 h0_9 h0_10 h0_11 o0)) args s 0 0 (va_A (w_M cyI cyZ h0_0 h0_1 h0_2 h0_3 h0_4 h0_5 h0_6 h0_7 h0_8 h0_9 h0_10 h0_11 σ0) sz)) 24 [(0, .ref h0_0), (1, .int x1), (2, .int x2)] [.ref h0_0] (w_M cyI cyZ h0_0 h0_1 h0_2 h0_3 h0_4 h0_5 h0_6 h0_7 h0_8 h0_9 h0_10 h0_11 τ0) := by
    intro τ0 x1 x2 h
    unfold s_X4_resize_24 at h
    refine zq_iconst (q := 25) (v := 1) G dX4_resize_24 (by decide) rfl ?_
    refine zq_goto (q := 29) G dX4_resize_25 (by decide) ?_
    exact zq_sub _ [0, 1, 2] rfl (b29  _ _ _ _ h)
  refine zq_aload_n (q := 1) G dX4_resize_0 0 rfl rfl rfl ?_
  refine zq_iload_n (q := 2) G dX4_resize_1 1 rfl rfl rfl ?_
  refine zq_i2l (q := 3) G dX4_resize_2 rfl ?_
  refine zq_lconst (q := 4) (v := 1) G dX4_resize_3 (by decide) rfl ?_
  refine zq_ldc2 (q := 7) G zw_X4_c116 dX4_resize_4 rfl ?_
  obtain ⟨z1, hc1, h⟩ := zbd h
  refine zq_callSi (q := 10) (ws2 := (w_M cyI cyZ h0_0 h0_1 h0_2 h0_3 h0_4 h0_5 h0_6 h0_7 h0_8 h0_9 h0_10 h0_11 σ0)) (isC := []) (isR := [0, 1, 2, 3, 4, 5, 6, 7, 8, 9, 10, 11]) (perm := [0, 1, 2, 3, 4, 5, 6, 7, 8, 9, 10, 11]) (rest := [.ref h0_0]) (As := [.long p0.toInt64, .long (1 : Int64), .long (7 : Int64)]) G zs_X4_63 dX4_resize_7 (fun sz9 => c_X4_isIn l D cyI cyZ p0.toInt64 (1 : Int64) (7 : Int64) z1 hc1 sz9) rfl ⟨rfl, rfl, rfl, rfl⟩ rfl (Nat.le_of_ble_eq_true rfl) ⟨Nat.le_of_ble_eq_true rfl, Nat.le_of_ble_eq_true rfl, Nat.zero_le _, Nat.zero_le _⟩ rfl ?_
  refine zq_if_eq (tgt := 24) (q := 13) G dX4_resize_10 (by decide) rfl (fun c2 => ?_) (fun c2 => ?_)
  · have h := zit h c2
    exact zq_sub _ [0, 1, 2] rfl (b24  _ _ _ h)
  · have h := zie h c2
    refine zq_iload_n (q := 14) G dX4_resize_13 2 rfl rfl rfl ?_
    refine zq_i2l (q := 15) G dX4_resize_14 rfl ?_
    refine zq_lconst (q := 16) (v := 1) G dX4_resize_15 (by decide) rfl ?_
    refine zq_iload_n (q := 17) G dX4_resize_16 1 rfl rfl rfl ?_
    refine zq_i2l (q := 18) G dX4_resize_17 rfl ?_
    obtain ⟨z3, hc3, h⟩ := zbd h
    refine zq_callSi (q := 21) (ws2 := (w_M cyI cyZ h0_0 h0_1 h0_2 h0_3 h0_4 h0_5 h0_6 h0_7 h0_8 h0_9 h0_10 h0_11 σ0)) (isC := []) (isR := [0, 1, 2, 3, 4, 5, 6, 7, 8, 9, 10, 11]) (perm := [0, 1, 2, 3, 4, 5, 6, 7, 8, 9, 10, 11]) (rest := [.ref h0_0]) (As := [.long p1.toInt64, .long (1 : Int64), .long p0.toInt64]) G zs_X4_63 dX4_resize_18 (fun sz9 => c_X4_isIn l D cyI cyZ p1.toInt64 (1 : Int64) p0.toInt64 z3 hc3 sz9) rfl ⟨rfl, rfl, rfl, rfl⟩ rfl (Nat.le_of_ble_eq_true rfl) ⟨Nat.le_of_ble_eq_true rfl, Nat.le_of_ble_eq_true rfl, Nat.zero_le _, Nat.zero_le _⟩ rfl ?_
    refine zq_if_ne (tgt := 28) (q := 24) G dX4_resize_21 (by decide) rfl (fun c4 => ?_) (fun c4 => ?_)
    · have h := zie h c4
      refine zq_iconst (q := 29) (v := 0) G dX4_resize_28 (by decide) rfl ?_
      exact zq_sub _ [0, 1, 2] rfl (b29  _ _ _ _ h)
    · have h := zit h c4
      exact zq_sub _ [0, 1, 2] rfl (b24  _ _ _ h)
set_option maxHeartbeats 4000000 in
set_option maxRecDepth 100000 in
theorem c_X4_setCost (l : Launch) (D : va_G) (cyI cyZ : ClassId) (h0_0 h0_1 h0_2 h0_3 h0_4 h0_5 h0_6 h0_7 h0_8 h0_9 h0_10 h0_11 : Nat) (σ0 : zM) (p0 : Int32) (p1 : Int32) (p2 : Int32) (r : Int32) (o0 : zM) (h : s_X4_setCost σ0 p0 p1 p2 = some (r, o0)) (sz : Nat) : zMi l yX4_setCost cX4_setCost 5 .int 2 46 D cyI cyZ sz [.ref h0_0, .int p0, .int p1, .int p2] (w_M cyI cyZ h0_0 h0_1 h0_2 h0_3 h0_4 h0_5 h0_6 h0_7 h0_8 h0_9 h0_10 h0_11 σ0) r (w_M cyI cyZ h0_0 h0_1 h0_2 h0_3 h0_4 h0_5 h0_6 h0_7 h0_8 h0_9 h0_10 h0_11 o0) := by
  unfold s_X4_setCost at h
  refine zstartI (lv0 := [(0, .ref h0_0), (1, .int p0), (2, .int p1), (3, .int p2)]) (by decide) (Nat.le_of_ble_eq_true rfl) rfl (fun p e s m args below meth c G hr hlocks => ?_)
  have b38 : ∀ (τ0 : zM) (x1 : Int32) (x2 : Int32) (x3 : Int32) (y0 : Int32), s_X4_setCost_38 τ0 x1 x2 x3 y0 = some (r, o0) → zW p l e ({ frames := 2, cells := 0, slots := 0, locals := 46 } : Room) s m args below meth c D (va_A (w_M cyI cyZ h0_0 h0_1 h0_2 h0_3 h0_4 h0_5 h0_6 h0_7 h0_8 h0_9 h0_10 h0_11 σ0) sz) 5 0 0 (MQ below (zQi D cyI cyZ sz (w_M cyI cyZ h0_0 h0_1 h0_2 h0_3 h0_4 h0_5 h0_6 h0_7 h0_8 h0_9 h0_10 h0_11 σ0) r (w_M cyI cyZ h0_0 h0_1 h0_2 h0_3 h0_4 h0_5 h0_6 h0_7 h0_8 h0_9 h0_10 h0_11 o0)) args s 0 0 (va_A (w_M cyI cyZ h0_0 h0_1 h0_2 h0_3 h0_4 h0_5 h0_6 h0_7 h0_8 h0_9 h0_10 h0_11 σ0) sz)) 38 [(0, .ref h0_0), (1, .int x1), (2, .int x2), (3, .int x3)] [.int y0, .ref h0_0] (w_M cyI cyZ h0_0 h0_1 h0_2 h0_3 h0_4 h0_5 h0_6 h0_7 h0_8 h0_9 h0_10 h0_11 τ0) := by
    intro τ0 x1 x2 x3 y0 h
    unfold s_X4_setCost_38 at h
    obtain ⟨z1, hc1, h⟩ := zbd h
    refine zq_callVi (q := 41) (ws2 := (w_M cyI cyZ h0_0 h0_1 h0_2 h0_3 h0_4 h0_5 h0_6 h0_7 h0_8 h0_9 h0_10 h0_11 z1.2)) (isC := [0, 1, 2, 3, 4, 5, 6, 7, 8, 9, 10, 11]) (isR := []) (perm := [0, 1, 2, 3, 4, 5, 6, 7, 8, 9, 10, 11]) (rest := []) (As := [.int y0]) G zs_X4_118 dX4_setCost_38 (fun sz9 => c_X4_isWrong l D cyI cyZ h0_0 h0_1 h0_2 h0_3 h0_4 h0_5 h0_6 h0_7 h0_8 h0_9 h0_10 h0_11 τ0 y0 z1.1 z1.2 hc1 sz9) 0 rfl rfl rfl ⟨rfl, rfl, rfl, rfl⟩ rfl (Nat.le_of_ble_eq_true rfl) ⟨Nat.le_of_ble_eq_true rfl, Nat.le_of_ble_eq_true rfl, Nat.zero_le _, Nat.zero_le _⟩ rfl ?_
    refine zq_if_eq (tgt := 46) (q := 44) G dX4_setCost_41 (by decide) rfl (fun c2 => ?_) (fun c2 => ?_)
    · have h := zit h c2
      refine zq_aload_n (q := 47) G dX4_setCost_46 0 rfl rfl rfl ?_
      refine zq_get (q := 50) G zu_X4 rfl zw_X4_f22 dX4_setCost_47 0 5 rfl (by decide) ⟨⟨rfl, rfl⟩, rfl⟩ rfl rfl ?_
      refine zq_bipush (q := 52) (v := 7) G dX4_setCost_50 (by decide) rfl ?_
      refine zq_iload_n (q := 53) G dX4_setCost_52 1 rfl rfl rfl ?_
      refine zq_imul (q := 54) G dX4_setCost_53 rfl ?_
      refine zq_iload_n (q := 55) G dX4_setCost_54 2 rfl rfl rfl ?_
      refine zq_iadd (q := 56) G dX4_setCost_55 rfl ?_
      obtain ⟨q3, h⟩ := zif h
      refine zq_iald (q := 57) G dX4_setCost_56 1 rfl q3 rfl ?_
      refine zq_istore (q := 59) (lv2 := [(4, .int (z1.2.1.2.2.1 (((7 : Int32) * x1) + x2).toNatClampNeg)), (0, .ref h0_0), (1, .int x1), (2, .int x2), (3, .int x3)]) G dX4_setCost_57 (by decide) rfl rfl ?_
      refine zq_aload_n (q := 60) G dX4_setCost_59 1 rfl rfl rfl ?_
      refine zq_get (q := 63) G zu_X4 rfl zw_X4_f22 dX4_setCost_60 0 5 rfl (by decide) ⟨⟨rfl, rfl⟩, rfl⟩ rfl rfl ?_
      refine zq_bipush (q := 65) (v := 7) G dX4_setCost_63 (by decide) rfl ?_
      refine zq_iload_n (q := 66) G dX4_setCost_65 2 rfl rfl rfl ?_
      refine zq_imul (q := 67) G dX4_setCost_66 rfl ?_
      refine zq_iload_n (q := 68) G dX4_setCost_67 3 rfl rfl rfl ?_
      refine zq_iadd (q := 69) G dX4_setCost_68 rfl ?_
      refine zq_iload_n (q := 70) G dX4_setCost_69 4 rfl rfl rfl ?_
      obtain ⟨q4, h⟩ := zif h
      refine zq_iast (q := 71) (ws2 := (w_M cyI cyZ h0_0 h0_1 h0_2 h0_3 h0_4 h0_5 h0_6 h0_7 h0_8 h0_9 h0_10 h0_11 ((z1.2.1.1, z1.2.1.2.1, (upd z1.2.1.2.2.1 (((7 : Int32) * x1) + x2).toNatClampNeg x3), z1.2.1.2.2.2), z1.2.2.1, z1.2.2.2.1, z1.2.2.2.2.1, z1.2.2.2.2.2))) G dX4_setCost_70 1 rfl q4 rfl rfl ?_
      refine zq_aload_n (q := 72) G dX4_setCost_71 1 rfl rfl rfl ?_
      refine zq_iconst (q := 73) (v := -1) G dX4_setCost_72 (by decide) rfl ?_
      refine zq_put (q := 76) (ws2 := (w_M cyI cyZ h0_0 h0_1 h0_2 h0_3 h0_4 h0_5 h0_6 h0_7 h0_8 h0_9 h0_10 h0_11 ((z1.2.1.1, z1.2.1.2.1, (upd z1.2.1.2.2.1 (((7 : Int32) * x1) + x2).toNatClampNeg x3), z1.2.1.2.2.2), z1.2.2.1, z1.2.2.2.1, ((-1 : Int32), z1.2.2.2.2.1.2.1, z1.2.2.2.2.1.2.2.1, z1.2.2.2.2.1.2.2.2), z1.2.2.2.2.2))) G zu_X4 rfl tyX4_ok nmX4 zw_X4_f48 dX4_setCost_73 0 18 rfl (by decide) ⟨⟨rfl, rfl⟩, rfl⟩ rfl rfl rfl (Nat.le_of_ble_eq_true rfl) rfl rfl ?_
      refine zq_iload (q := 78) G dX4_setCost_76 0 rfl rfl ?_
      refine zq_ws (congrArg (fun w9 => (w_M cyI cyZ h0_0 h0_1 h0_2 h0_3 h0_4 h0_5 h0_6 h0_7 h0_8 h0_9 h0_10 h0_11 w9.2)) (zsome h)) ?_
      exact zq_iret G hlocks hr rfl dX4_setCost_78 (congrArg Prod.fst (zsome h))
    · have h := zie h c2
      refine zq_iconst (q := 45) (v := 0) G dX4_setCost_44 (by decide) rfl ?_
      refine zq_ws (congrArg (fun w9 => (w_M cyI cyZ h0_0 h0_1 h0_2 h0_3 h0_4 h0_5 h0_6 h0_7 h0_8 h0_9 h0_10 h0_11 w9.2)) (zsome h)) ?_
      exact zq_iret G hlocks hr rfl dX4_setCost_45 (congrArg Prod.fst (zsome h))
  have b17 : ∀ (τ0 : zM) (x1 : Int32) (x2 : Int32) (x3 : Int32), s_X4_setCost_17 τ0 x1 x2 x3 = some (r, o0) → zW p l e ({ frames := 2, cells := 0, slots := 0, locals := 46 } : Room) s m args below meth c D (va_A (w_M cyI cyZ h0_0 h0_1 h0_2 h0_3 h0_4 h0_5 h0_6 h0_7 h0_8 h0_9 h0_10 h0_11 σ0) sz) 5 0 0 (MQ below (zQi D cyI cyZ sz (w_M cyI cyZ h0_0 h0_1 h0_2 h0_3 h0_4 h0_5 h0_6 h0_7 h0_8 h0_9 h0_10 h0_11 σ0) r (w_M cyI cyZ h0_0 h0_1 h0_2 h0_3 h0_4 h0_5 h0_6 h0_7 h0_8 h0_9 h0_10 h0_11 o0)) args s 0 0 (va_A (w_M cyI cyZ h0_0 h0_1 h0_2 h0_3 h0_4 h0_5 h0_6 h0_7 h0_8 h0_9 h0_10 h0_11 σ0) sz)) 17 [(0, .ref h0_0), (1, .int x1), (2, .int x2), (3, .int x3)] [.ref h0_0] (w_M cyI cyZ h0_0 h0_1 h0_2 h0_3 h0_4 h0_5 h0_6 h0_7 h0_8 h0_9 h0_10 h0_11 τ0) := by
    intro τ0 x1 x2 x3 h
    unfold s_X4_setCost_17 at h
    refine zq_iconst (q := 18) (v := 1) G dX4_setCost_17 (by decide) rfl ?_
    refine zq_goto (q := 38) G dX4_setCost_18 (by decide) ?_
    exact zq_sub _ [0, 1, 2, 3] rfl (b38  _ _ _ _ _ h)
  refine zq_aload_n (q := 1) G dX4_setCost_0 0 rfl rfl rfl ?_
  refine zq_aload_n (q := 2) G dX4_setCost_1 0 rfl rfl rfl ?_
  refine zq_iload_n (q := 3) G dX4_setCost_2 1 rfl rfl rfl ?_
  obtain ⟨z1, hc1, h⟩ := zbd h
  refine zq_callVi (q := 6) (ws2 := (w_M cyI cyZ h0_0 h0_1 h0_2 h0_3 h0_4 h0_5 h0_6 h0_7 h0_8 h0_9 h0_10 h0_11 σ0)) (isC := [0, 1, 2, 3, 4, 5, 6, 7, 8, 9, 10, 11]) (isR := []) (perm := [0, 1, 2, 3, 4, 5, 6, 7, 8, 9, 10, 11]) (rest := [.ref h0_0]) (As := [.int p0]) G zs_X4_122 dX4_setCost_3 (fun sz9 => c_X4_isRow l D cyI cyZ h0_0 h0_1 h0_2 h0_3 h0_4 h0_5 h0_6 h0_7 h0_8 h0_9 h0_10 h0_11 σ0 p0 z1 hc1 sz9) 0 rfl rfl rfl ⟨rfl, rfl, rfl, rfl⟩ rfl (Nat.le_of_ble_eq_true rfl) ⟨Nat.le_of_ble_eq_true rfl, Nat.le_of_ble_eq_true rfl, Nat.zero_le _, Nat.zero_le _⟩ rfl ?_
  refine zq_if_eq (tgt := 17) (q := 9) G dX4_setCost_6 (by decide) rfl (fun c2 => ?_) (fun c2 => ?_)
  · have h := zit h c2
    exact zq_sub _ [0, 1, 2, 3] rfl (b17  _ _ _ _ h)
  · have h := zie h c2
    refine zq_aload_n (q := 10) G dX4_setCost_9 0 rfl rfl rfl ?_
    refine zq_iload_n (q := 11) G dX4_setCost_10 2 rfl rfl rfl ?_
    obtain ⟨z3, hc3, h⟩ := zbd h
    refine zq_callVi (q := 14) (ws2 := (w_M cyI cyZ h0_0 h0_1 h0_2 h0_3 h0_4 h0_5 h0_6 h0_7 h0_8 h0_9 h0_10 h0_11 σ0)) (isC := [0, 1, 2, 3, 4, 5, 6, 7, 8, 9, 10, 11]) (isR := []) (perm := [0, 1, 2, 3, 4, 5, 6, 7, 8, 9, 10, 11]) (rest := [.ref h0_0]) (As := [.int p1]) G zs_X4_125 dX4_setCost_11 (fun sz9 => c_X4_isReal l D cyI cyZ h0_0 h0_1 h0_2 h0_3 h0_4 h0_5 h0_6 h0_7 h0_8 h0_9 h0_10 h0_11 σ0 p1 z3 hc3 sz9) 0 rfl rfl rfl ⟨rfl, rfl, rfl, rfl⟩ rfl (Nat.le_of_ble_eq_true rfl) ⟨Nat.le_of_ble_eq_true rfl, Nat.le_of_ble_eq_true rfl, Nat.zero_le _, Nat.zero_le _⟩ rfl ?_
    refine zq_if_ne (tgt := 21) (q := 17) G dX4_setCost_14 (by decide) rfl (fun c4 => ?_) (fun c4 => ?_)
    · have h := zie h c4
      refine zq_iload_n (q := 22) G dX4_setCost_21 3 rfl rfl rfl ?_
      refine zq_i2l (q := 23) G dX4_setCost_22 rfl ?_
      refine zq_lconst (q := 24) (v := 0) G dX4_setCost_23 (by decide) rfl ?_
      refine zq_ldc2 (q := 27) G zw_X4_c128 dX4_setCost_24 rfl ?_
      obtain ⟨z5, hc5, h⟩ := zbd h
      refine zq_callSi (q := 30) (ws2 := (w_M cyI cyZ h0_0 h0_1 h0_2 h0_3 h0_4 h0_5 h0_6 h0_7 h0_8 h0_9 h0_10 h0_11 σ0)) (isC := []) (isR := [0, 1, 2, 3, 4, 5, 6, 7, 8, 9, 10, 11]) (perm := [0, 1, 2, 3, 4, 5, 6, 7, 8, 9, 10, 11]) (rest := [.ref h0_0]) (As := [.long p2.toInt64, .long (0 : Int64), .long (99 : Int64)]) G zs_X4_63 dX4_setCost_27 (fun sz9 => c_X4_isIn l D cyI cyZ p2.toInt64 (0 : Int64) (99 : Int64) z5 hc5 sz9) rfl ⟨rfl, rfl, rfl, rfl⟩ rfl (Nat.le_of_ble_eq_true rfl) ⟨Nat.le_of_ble_eq_true rfl, Nat.le_of_ble_eq_true rfl, Nat.zero_le _, Nat.zero_le _⟩ rfl ?_
      refine zq_if_ne (tgt := 37) (q := 33) G dX4_setCost_30 (by decide) rfl (fun c6 => ?_) (fun c6 => ?_)
      · have h := zie h c6
        refine zq_iconst (q := 38) (v := 0) G dX4_setCost_37 (by decide) rfl ?_
        exact zq_sub _ [0, 1, 2, 3] rfl (b38  _ _ _ _ _ h)
      · have h := zit h c6
        refine zq_iconst (q := 34) (v := 2) G dX4_setCost_33 (by decide) rfl ?_
        refine zq_goto (q := 38) G dX4_setCost_34 (by decide) ?_
        exact zq_sub _ [0, 1, 2, 3] rfl (b38  _ _ _ _ _ h)
    · have h := zit h c4
      exact zq_sub _ [0, 1, 2, 3] rfl (b17  _ _ _ _ h)
set_option maxHeartbeats 4000000 in
set_option maxRecDepth 100000 in
theorem c_X4_setRow (l : Launch) (D : va_G) (cyI cyZ : ClassId) (h0_0 h0_1 h0_2 h0_3 h0_4 h0_5 h0_6 h0_7 h0_8 h0_9 h0_10 h0_11 : Nat) (σ0 : zM) (p0 : Int32) (p1 : Int64) (r : Int32) (o0 : zM) (h : s_X4_setRow σ0 p0 p1 = some (r, o0)) (sz : Nat) : zMi l yX4_setRow cX4_setRow 11 .int 2 46 D cyI cyZ sz [.ref h0_0, .int p0, .long p1] (w_M cyI cyZ h0_0 h0_1 h0_2 h0_3 h0_4 h0_5 h0_6 h0_7 h0_8 h0_9 h0_10 h0_11 σ0) r (w_M cyI cyZ h0_0 h0_1 h0_2 h0_3 h0_4 h0_5 h0_6 h0_7 h0_8 h0_9 h0_10 h0_11 o0) := by
  unfold s_X4_setRow at h
  refine zstartI (lv0 := [(0, .ref h0_0), (1, .int p0), (2, .long p1)]) (by decide) (Nat.le_of_ble_eq_true rfl) rfl (fun p e s m args below meth c G hr hlocks => ?_)
  have b83 : ∀ (n : Nat) (τ0 : zM) (x1 : Int32) (x6 : Int64) (x8 : Int32) (x9 : Int32), s_X4_setRow_83 n τ0 x1 x6 x8 x9 = some (r, o0) → zW p l e ({ frames := 2, cells := 0, slots := 0, locals := 46 } : Room) s m args below meth c D (va_A (w_M cyI cyZ h0_0 h0_1 h0_2 h0_3 h0_4 h0_5 h0_6 h0_7 h0_8 h0_9 h0_10 h0_11 σ0) sz) 11 0 0 (MQ below (zQi D cyI cyZ sz (w_M cyI cyZ h0_0 h0_1 h0_2 h0_3 h0_4 h0_5 h0_6 h0_7 h0_8 h0_9 h0_10 h0_11 σ0) r (w_M cyI cyZ h0_0 h0_1 h0_2 h0_3 h0_4 h0_5 h0_6 h0_7 h0_8 h0_9 h0_10 h0_11 o0)) args s 0 0 (va_A (w_M cyI cyZ h0_0 h0_1 h0_2 h0_3 h0_4 h0_5 h0_6 h0_7 h0_8 h0_9 h0_10 h0_11 σ0) sz)) 83 [(0, .ref h0_0), (1, .int x1), (6, .long x6), (8, .int x8), (9, .int x9)] [] (w_M cyI cyZ h0_0 h0_1 h0_2 h0_3 h0_4 h0_5 h0_6 h0_7 h0_8 h0_9 h0_10 h0_11 τ0) := by
    intro n
    induction n with
    | zero => intro τ0 x1 x6 x8 x9 h; rw [s_X4_setRow_83] at h; exact nomatch h
    | succ n ih =>
      intro τ0 x1 x6 x8 x9 h
      rw [s_X4_setRow_83] at h
      refine zq_iload (q := 85) G dX4_setRow_83 4 rfl rfl ?_
      refine zq_if_lt (tgt := 141) (q := 88) G dX4_setRow_85 (by decide) rfl (fun c1 => ?_) (fun c1 => ?_)
      · have h := zit h c1
        refine zq_aload_n (q := 142) G dX4_setRow_141 0 rfl rfl rfl ?_
        refine zq_iconst (q := 143) (v := -1) G dX4_setRow_142 (by decide) rfl ?_
        refine zq_put (q := 146) (ws2 := (w_M cyI cyZ h0_0 h0_1 h0_2 h0_3 h0_4 h0_5 h0_6 h0_7 h0_8 h0_9 h0_10 h0_11 (τ0.1, τ0.2.1, τ0.2.2.1, ((-1 : Int32), τ0.2.2.2.1.2.1, τ0.2.2.2.1.2.2.1, τ0.2.2.2.1.2.2.2), τ0.2.2.2.2))) G zu_X4 rfl tyX4_ok nmX4 zw_X4_f48 dX4_setRow_143 0 18 rfl (by decide) ⟨⟨rfl, rfl⟩, rfl⟩ rfl rfl rfl (Nat.le_of_ble_eq_true rfl) rfl rfl ?_
        refine zq_iload (q := 148) G dX4_setRow_146 3 rfl rfl ?_
        refine zq_ws (congrArg (fun w9 => (w_M cyI cyZ h0_0 h0_1 h0_2 h0_3 h0_4 h0_5 h0_6 h0_7 h0_8 h0_9 h0_10 h0_11 w9.2)) (zsome h)) ?_
        exact zq_iret G hlocks hr rfl dX4_setRow_148 (congrArg Prod.fst (zsome h))
      · have h := zie h c1
        refine zq_lload (q := 90) G dX4_setRow_88 2 rfl rfl ?_
        refine zq_ldc2 (q := 93) G zw_X4_c130 dX4_setRow_90 rfl ?_
        refine zq_lrem (q := 94) G dX4_setRow_93 (by decide) rfl ?_
        refine zq_l2i (q := 95) G dX4_setRow_94 rfl ?_
        refine zq_istore (q := 97) (lv2 := [(10, .int ((x6 - x6 / (100 : Int64) * (100 : Int64)).toInt32)), (0, .ref h0_0), (1, .int x1), (6, .long x6), (8, .int x8), (9, .int x9)]) G dX4_setRow_95 (by decide) rfl rfl ?_
        refine zq_lload (q := 99) G dX4_setRow_97 3 rfl rfl ?_
        refine zq_ldc2 (q := 102) G zw_X4_c130 dX4_setRow_99 rfl ?_
        refine zq_ldiv (q := 103) G dX4_setRow_102 (by decide) rfl ?_
        refine zq_lstore (q := 105) (lv2 := [(6, .long (x6 / (100 : Int64))), (10, .int ((x6 - x6 / (100 : Int64) * (100 : Int64)).toInt32)), (0, .ref h0_0), (1, .int x1), (8, .int x8), (9, .int x9)]) G dX4_setRow_103 (by decide) rfl rfl ?_
        refine zq_aload_n (q := 106) G dX4_setRow_105 2 rfl rfl rfl ?_
        refine zq_get (q := 109) G zu_X4 rfl zw_X4_f22 dX4_setRow_106 0 5 rfl (by decide) ⟨⟨rfl, rfl⟩, rfl⟩ rfl rfl ?_
        refine zq_bipush (q := 111) (v := 7) G dX4_setRow_109 (by decide) rfl ?_
        refine zq_iload_n (q := 112) G dX4_setRow_111 3 rfl rfl rfl ?_
        refine zq_imul (q := 113) G dX4_setRow_112 rfl ?_
        refine zq_iload (q := 115) G dX4_setRow_113 5 rfl rfl ?_
        refine zq_iadd (q := 116) G dX4_setRow_115 rfl ?_
        refine zq_iload (q := 118) G dX4_setRow_116 1 rfl rfl ?_
        obtain ⟨q2, h⟩ := zif h
        refine zq_iast (q := 119) (ws2 := (w_M cyI cyZ h0_0 h0_1 h0_2 h0_3 h0_4 h0_5 h0_6 h0_7 h0_8 h0_9 h0_10 h0_11 ((τ0.1.1, τ0.1.2.1, (upd τ0.1.2.2.1 (((7 : Int32) * x1) + x9).toNatClampNeg ((x6 - x6 / (100 : Int64) * (100 : Int64)).toInt32)), τ0.1.2.2.2), τ0.2.1, τ0.2.2.1, τ0.2.2.2.1, τ0.2.2.2.2))) G dX4_setRow_118 1 rfl q2 rfl rfl ?_
        refine zq_iload (q := 121) G dX4_setRow_119 1 rfl rfl ?_
        refine zq_iload (q := 123) G dX4_setRow_121 4 rfl rfl ?_
        refine zq_icmp_ge (tgt := 131) (q := 126) G dX4_setRow_123 (by decide) rfl (fun c3 => ?_) (fun c3 => ?_)
        · have h := zit h c3
          refine zq_iload (q := 133) G dX4_setRow_131 4 rfl rfl ?_
          refine zq_istore (q := 135) (lv2 := [(8, .int x8), (6, .long (x6 / (100 : Int64))), (10, .int ((x6 - x6 / (100 : Int64) * (100 : Int64)).toInt32)), (0, .ref h0_0), (1, .int x1), (9, .int x9)]) G dX4_setRow_133 (by decide) rfl rfl ?_
          refine zq_iinc (q := 138) (v := (x9 + (-1))) (lv2 := [(9, .int (x9 + (-1))), (8, .int x8), (6, .long (x6 / (100 : Int64))), (10, .int ((x6 - x6 / (100 : Int64) * (100 : Int64)).toInt32)), (0, .ref h0_0), (1, .int x1)]) G dX4_setRow_135 5 rfl rfl (by decide) rfl rfl ?_
          refine zq_goto (q := 83) G dX4_setRow_138 (by decide) ?_
          exact zq_sub _ [4, 5, 2, 1, 0] rfl (ih _ _ _ _ _ h)
        · have h := zie h c3
          refine zq_iload (q := 128) G dX4_setRow_126 1 rfl rfl ?_
          refine zq_goto (q := 133) G dX4_setRow_128 (by decide) ?_
          refine zq_istore (q := 135) (lv2 := [(8, .int ((x6 - x6 / (100 : Int64) * (100 : Int64)).toInt32)), (6, .long (x6 / (100 : Int64))), (10, .int ((x6 - x6 / (100 : Int64) * (100 : Int64)).toInt32)), (0, .ref h0_0), (1, .int x1), (9, .int x9)]) G dX4_setRow_133 (by decide) rfl rfl ?_
          refine zq_iinc (q := 138) (v := (x9 + (-1))) (lv2 := [(9, .int (x9 + (-1))), (8, .int ((x6 - x6 / (100 : Int64) * (100 : Int64)).toInt32)), (6, .long (x6 / (100 : Int64))), (10, .int ((x6 - x6 / (100 : Int64) * (100 : Int64)).toInt32)), (0, .ref h0_0), (1, .int x1)]) G dX4_setRow_135 5 rfl rfl (by decide) rfl rfl ?_
          refine zq_goto (q := 83) G dX4_setRow_138 (by decide) ?_
          exact zq_sub _ [4, 5, 2, 1, 0] rfl (ih _ _ _ _ _ h)
  have b60 : ∀ (τ0 : zM) (x1 : Int32) (x2 : Int64) (y0 : Int32), s_X4_setRow_60 τ0 x1 x2 y0 = some (r, o0) → zW p l e ({ frames := 2, cells := 0, slots := 0, locals := 46 } : Room) s m args below meth c D (va_A (w_M cyI cyZ h0_0 h0_1 h0_2 h0_3 h0_4 h0_5 h0_6 h0_7 h0_8 h0_9 h0_10 h0_11 σ0) sz) 11 0 0 (MQ below (zQi D cyI cyZ sz (w_M cyI cyZ h0_0 h0_1 h0_2 h0_3 h0_4 h0_5 h0_6 h0_7 h0_8 h0_9 h0_10 h0_11 σ0) r (w_M cyI cyZ h0_0 h0_1 h0_2 h0_3 h0_4 h0_5 h0_6 h0_7 h0_8 h0_9 h0_10 h0_11 o0)) args s 0 0 (va_A (w_M cyI cyZ h0_0 h0_1 h0_2 h0_3 h0_4 h0_5 h0_6 h0_7 h0_8 h0_9 h0_10 h0_11 σ0) sz)) 60 [(0, .ref h0_0), (1, .int x1), (2, .long x2)] [.int y0, .ref h0_0] (w_M cyI cyZ h0_0 h0_1 h0_2 h0_3 h0_4 h0_5 h0_6 h0_7 h0_8 h0_9 h0_10 h0_11 τ0) := by
    intro τ0 x1 x2 y0 h
    unfold s_X4_setRow_60 at h
    obtain ⟨z1, hc1, h⟩ := zbd h
    refine zq_callVi (q := 63) (ws2 := (w_M cyI cyZ h0_0 h0_1 h0_2 h0_3 h0_4 h0_5 h0_6 h0_7 h0_8 h0_9 h0_10 h0_11 z1.2)) (isC := [0, 1, 2, 3, 4, 5, 6, 7, 8, 9, 10, 11]) (isR := []) (perm := [0, 1, 2, 3, 4, 5, 6, 7, 8, 9, 10, 11]) (rest := []) (As := [.int y0]) G zs_X4_118 dX4_setRow_60 (fun sz9 => c_X4_isWrong l D cyI cyZ h0_0 h0_1 h0_2 h0_3 h0_4 h0_5 h0_6 h0_7 h0_8 h0_9 h0_10 h0_11 τ0 y0 z1.1 z1.2 hc1 sz9) 0 rfl rfl rfl ⟨rfl, rfl, rfl, rfl⟩ rfl (Nat.le_of_ble_eq_true rfl) ⟨Nat.le_of_ble_eq_true rfl, Nat.le_of_ble_eq_true rfl, Nat.zero_le _, Nat.zero_le _⟩ rfl ?_
    refine zq_if_eq (tgt := 68) (q := 66) G dX4_setRow_63 (by decide) rfl (fun c2 => ?_) (fun c2 => ?_)
    · have h := zit h c2
      refine zq_lload_n (q := 69) G dX4_setRow_68 2 rfl rfl rfl ?_
      refine zq_lstore (q := 71) (lv2 := [(6, .long x2), (0, .ref h0_0), (1, .int x1), (2, .long x2)]) G dX4_setRow_69 (by decide) rfl rfl ?_
      refine zq_bipush (q := 73) (v := 99) G dX4_setRow_71 (by decide) rfl ?_
      refine zq_istore (q := 75) (lv2 := [(8, .int (99 : Int32)), (6, .long x2), (0, .ref h0_0), (1, .int x1), (2, .long x2)]) G dX4_setRow_73 (by decide) rfl rfl ?_
      refine zq_aload_n (q := 76) G dX4_setRow_75 2 rfl rfl rfl ?_
      refine zq_get (q := 79) G zu_X4 rfl zw_X4_f13 dX4_setRow_76 0 1 rfl (by decide) ⟨⟨rfl, rfl⟩, rfl⟩ rfl rfl ?_
      refine zq_iconst (q := 80) (v := 1) G dX4_setRow_79 (by decide) rfl ?_
      refine zq_isub (q := 81) G dX4_setRow_80 rfl ?_
      refine zq_istore (q := 83) (lv2 := [(9, .int (z1.2.1.2.1 - (1 : Int32))), (8, .int (99 : Int32)), (6, .long x2), (0, .ref h0_0), (1, .int x1), (2, .long x2)]) G dX4_setRow_81 (by decide) rfl rfl ?_
      exact zq_sub _ [3, 4, 2, 1, 0] rfl (b83  _ _ _ _ _ _ h)
    · have h := zie h c2
      refine zq_iconst (q := 67) (v := 0) G dX4_setRow_66 (by decide) rfl ?_
      refine zq_ws (congrArg (fun w9 => (w_M cyI cyZ h0_0 h0_1 h0_2 h0_3 h0_4 h0_5 h0_6 h0_7 h0_8 h0_9 h0_10 h0_11 w9.2)) (zsome h)) ?_
      exact zq_iret G hlocks hr rfl dX4_setRow_67 (congrArg Prod.fst (zsome h))
  have b55 : ∀ (τ0 : zM) (x1 : Int32) (x2 : Int64), s_X4_setRow_55 τ0 x1 x2 = some (r, o0) → zW p l e ({ frames := 2, cells := 0, slots := 0, locals := 46 } : Room) s m args below meth c D (va_A (w_M cyI cyZ h0_0 h0_1 h0_2 h0_3 h0_4 h0_5 h0_6 h0_7 h0_8 h0_9 h0_10 h0_11 σ0) sz) 11 0 0 (MQ below (zQi D cyI cyZ sz (w_M cyI cyZ h0_0 h0_1 h0_2 h0_3 h0_4 h0_5 h0_6 h0_7 h0_8 h0_9 h0_10 h0_11 σ0) r (w_M cyI cyZ h0_0 h0_1 h0_2 h0_3 h0_4 h0_5 h0_6 h0_7 h0_8 h0_9 h0_10 h0_11 o0)) args s 0 0 (va_A (w_M cyI cyZ h0_0 h0_1 h0_2 h0_3 h0_4 h0_5 h0_6 h0_7 h0_8 h0_9 h0_10 h0_11 σ0) sz)) 55 [(0, .ref h0_0), (1, .int x1), (2, .long x2)] [.ref h0_0] (w_M cyI cyZ h0_0 h0_1 h0_2 h0_3 h0_4 h0_5 h0_6 h0_7 h0_8 h0_9 h0_10 h0_11 τ0) := by
    intro τ0 x1 x2 h
    unfold s_X4_setRow_55 at h
    refine zq_iconst (q := 56) (v := 2) G dX4_setRow_55 (by decide) rfl ?_
    refine zq_goto (q := 60) G dX4_setRow_56 (by decide) ?_
    exact zq_sub _ [0, 1, 2] rfl (b60  _ _ _ _ h)
  have b6 : ∀ (n : Nat) (τ0 : zM) (x1 : Int32) (x2 : Int64) (x4 : Int64) (x6 : Int32), s_X4_setRow_6 n τ0 x1 x2 x4 x6 = some (r, o0) → zW p l e ({ frames := 2, cells := 0, slots := 0, locals := 46 } : Room) s m args below meth c D (va_A (w_M cyI cyZ h0_0 h0_1 h0_2 h0_3 h0_4 h0_5 h0_6 h0_7 h0_8 h0_9 h0_10 h0_11 σ0) sz) 11 0 0 (MQ below (zQi D cyI cyZ sz (w_M cyI cyZ h0_0 h0_1 h0_2 h0_3 h0_4 h0_5 h0_6 h0_7 h0_8 h0_9 h0_10 h0_11 σ0) r (w_M cyI cyZ h0_0 h0_1 h0_2 h0_3 h0_4 h0_5 h0_6 h0_7 h0_8 h0_9 h0_10 h0_11 o0)) args s 0 0 (va_A (w_M cyI cyZ h0_0 h0_1 h0_2 h0_3 h0_4 h0_5 h0_6 h0_7 h0_8 h0_9 h0_10 h0_11 σ0) sz)) 6 [(0, .ref h0_0), (1, .int x1), (2, .long x2), (4, .long x4), (6, .int x6)] [] (w_M cyI cyZ h0_0 h0_1 h0_2 h0_3 h0_4 h0_5 h0_6 h0_7 h0_8 h0_9 h0_10 h0_11 τ0) := by
    intro n
    induction n with
    | zero => intro τ0 x1 x2 x4 x6 h; rw [s_X4_setRow_6] at h; exact nomatch h
    | succ n ih =>
      intro τ0 x1 x2 x4 x6 h
      rw [s_X4_setRow_6] at h
      refine zq_iload (q := 8) G dX4_setRow_6 4 rfl rfl ?_
      refine zq_aload_n (q := 9) G dX4_setRow_8 0 rfl rfl rfl ?_
      refine zq_get (q := 12) G zu_X4 rfl zw_X4_f13 dX4_setRow_9 0 1 rfl (by decide) ⟨⟨rfl, rfl⟩, rfl⟩ rfl rfl ?_
      refine zq_icmp_ge (tgt := 29) (q := 15) G dX4_setRow_12 (by decide) rfl (fun c1 => ?_) (fun c1 => ?_)
      · have h := zit h c1
        refine zq_aload_n (q := 30) G dX4_setRow_29 0 rfl rfl rfl ?_
        refine zq_aload_n (q := 31) G dX4_setRow_30 0 rfl rfl rfl ?_
        refine zq_iload_n (q := 32) G dX4_setRow_31 1 rfl rfl rfl ?_
        obtain ⟨z2, hc2, h⟩ := zbd h
        refine zq_callVi (q := 35) (ws2 := (w_M cyI cyZ h0_0 h0_1 h0_2 h0_3 h0_4 h0_5 h0_6 h0_7 h0_8 h0_9 h0_10 h0_11 τ0)) (isC := [0, 1, 2, 3, 4, 5, 6, 7, 8, 9, 10, 11]) (isR := []) (perm := [0, 1, 2, 3, 4, 5, 6, 7, 8, 9, 10, 11]) (rest := [.ref h0_0]) (As := [.int x1]) G zs_X4_122 dX4_setRow_32 (fun sz9 => c_X4_isRow l D cyI cyZ h0_0 h0_1 h0_2 h0_3 h0_4 h0_5 h0_6 h0_7 h0_8 h0_9 h0_10 h0_11 τ0 x1 z2 hc2 sz9) 0 rfl rfl rfl ⟨rfl, rfl, rfl, rfl⟩ rfl (Nat.le_of_ble_eq_true rfl) ⟨Nat.le_of_ble_eq_true rfl, Nat.le_of_ble_eq_true rfl, Nat.zero_le _, Nat.zero_le _⟩ rfl ?_
        refine zq_if_ne (tgt := 42) (q := 38) G dX4_setRow_35 (by decide) rfl (fun c3 => ?_) (fun c3 => ?_)
        · have h := zie h c3
          refine zq_lload_n (q := 43) G dX4_setRow_42 2 rfl rfl rfl ?_
          refine zq_lconst (q := 44) (v := 0) G dX4_setRow_43 (by decide) rfl ?_
          refine zq_lcmp (q := 45) G dX4_setRow_44 rfl ?_
          refine zq_if_lt (tgt := 55) (q := 48) G dX4_setRow_45 (by decide) rfl (fun c4 => ?_) (fun c4 => ?_)
          · have h := zit h c4
            exact zq_sub _ [0, 1, 2] rfl (b55  _ _ _ h)
          · have h := zie h c4
            refine zq_lload_n (q := 49) G dX4_setRow_48 2 rfl rfl rfl ?_
            refine zq_lload (q := 51) G dX4_setRow_49 3 rfl rfl ?_
            refine zq_lcmp (q := 52) G dX4_setRow_51 rfl ?_
            refine zq_if_lt (tgt := 59) (q := 55) G dX4_setRow_52 (by decide) rfl (fun c5 => ?_) (fun c5 => ?_)
            · have h := zit h c5
              refine zq_iconst (q := 60) (v := 0) G dX4_setRow_59 (by decide) rfl ?_
              exact zq_sub _ [0, 1, 2] rfl (b60  _ _ _ _ h)
            · have h := zie h c5
              exact zq_sub _ [0, 1, 2] rfl (b55  _ _ _ h)
        · have h := zit h c3
          refine zq_iconst (q := 39) (v := 1) G dX4_setRow_38 (by decide) rfl ?_
          refine zq_goto (q := 60) G dX4_setRow_39 (by decide) ?_
          exact zq_sub _ [0, 1, 2] rfl (b60  _ _ _ _ h)
      · have h := zie h c1
        refine zq_lload (q := 17) G dX4_setRow_15 3 rfl rfl ?_
        refine zq_ldc2 (q := 20) G zw_X4_c130 dX4_setRow_17 rfl ?_
        refine zq_lmul (q := 21) G dX4_setRow_20 rfl ?_
        refine zq_lstore (q := 23) (lv2 := [(4, .long (x4 * (100 : Int64))), (0, .ref h0_0), (1, .int x1), (2, .long x2), (6, .int x6)]) G dX4_setRow_21 (by decide) rfl rfl ?_
        refine zq_iinc (q := 26) (v := (x6 + 1)) (lv2 := [(6, .int (x6 + 1)), (4, .long (x4 * (100 : Int64))), (0, .ref h0_0), (1, .int x1), (2, .long x2)]) G dX4_setRow_23 4 rfl rfl (by decide) rfl rfl ?_
        refine zq_goto (q := 6) G dX4_setRow_26 (by decide) ?_
        exact zq_sub _ [2, 3, 4, 1, 0] rfl (ih _ _ _ _ _ h)
  refine zq_lconst (q := 1) (v := 1) G dX4_setRow_0 (by decide) rfl ?_
  refine zq_lstore (q := 3) (lv2 := [(4, .long (1 : Int64)), (0, .ref h0_0), (1, .int p0), (2, .long p1)]) G dX4_setRow_1 (by decide) rfl rfl ?_
  refine zq_iconst (q := 4) (v := 0) G dX4_setRow_3 (by decide) rfl ?_
  refine zq_istore (q := 6) (lv2 := [(6, .int (0 : Int32)), (4, .long (1 : Int64)), (0, .ref h0_0), (1, .int p0), (2, .long p1)]) G dX4_setRow_4 (by decide) rfl rfl ?_
  exact zq_sub _ [2, 3, 4, 1, 0] rfl (b6  _ _ _ _ _ _ h)
set_option maxHeartbeats 4000000 in
set_option maxRecDepth 100000 in
theorem c_X4_fill (l : Launch) (D : va_G) (cyI cyZ : ClassId) (h0_0 h0_1 h0_2 h0_3 h0_4 h0_5 h0_6 h0_7 h0_8 h0_9 h0_10 h0_11 : Nat) (σ0 : zM) (p0 : Int32) (p1 : Int32) (r : Int32) (o0 : zM) (h : s_X4_fill σ0 p0 p1 = some (r, o0)) (sz : Nat) : zMi l yX4_fill cX4_fill 7 .int 1 25 D cyI cyZ sz [.ref h0_0, .int p0, .int p1] (w_M cyI cyZ h0_0 h0_1 h0_2 h0_3 h0_4 h0_5 h0_6 h0_7 h0_8 h0_9 h0_10 h0_11 σ0) r (w_M cyI cyZ h0_0 h0_1 h0_2 h0_3 h0_4 h0_5 h0_6 h0_7 h0_8 h0_9 h0_10 h0_11 o0) := by
  unfold s_X4_fill at h
  refine zstartI (lv0 := [(0, .ref h0_0), (1, .int p0), (2, .int p1)]) (by decide) (Nat.le_of_ble_eq_true rfl) rfl (fun p e s m args below meth c G hr hlocks => ?_)
  have b58 : ∀ (k46 : (zM → Int32 → Int32 → Int32 → Int32 → Option (Int32 × zM))) (hk46 : ∀ (τ0 : zM) (x2 : Int32) (x3 : Int32) (x4 : Int32) (x5 : Int32), k46 τ0 x2 x3 x4 x5 = some (r, o0) → zW p l e ({ frames := 1, cells := 0, slots := 0, locals := 25 } : Room) s m args below meth c D (va_A (w_M cyI cyZ h0_0 h0_1 h0_2 h0_3 h0_4 h0_5 h0_6 h0_7 h0_8 h0_9 h0_10 h0_11 σ0) sz) 7 0 0 (MQ below (zQi D cyI cyZ sz (w_M cyI cyZ h0_0 h0_1 h0_2 h0_3 h0_4 h0_5 h0_6 h0_7 h0_8 h0_9 h0_10 h0_11 σ0) r (w_M cyI cyZ h0_0 h0_1 h0_2 h0_3 h0_4 h0_5 h0_6 h0_7 h0_8 h0_9 h0_10 h0_11 o0)) args s 0 0 (va_A (w_M cyI cyZ h0_0 h0_1 h0_2 h0_3 h0_4 h0_5 h0_6 h0_7 h0_8 h0_9 h0_10 h0_11 σ0) sz)) 46 [(0, .ref h0_0), (2, .int x2), (3, .int x3), (4, .int x4), (5, .int x5)] [] (w_M cyI cyZ h0_0 h0_1 h0_2 h0_3 h0_4 h0_5 h0_6 h0_7 h0_8 h0_9 h0_10 h0_11 τ0)) (n : Nat) (τ0 : zM) (x2 : Int32) (x3 : Int32) (x4 : Int32) (x5 : Int32) (x6 : Int32), s_X4_fill_58 k46 n τ0 x2 x3 x4 x5 x6 = some (r, o0) → zW p l e ({ frames := 1, cells := 0, slots := 0, locals := 25 } : Room) s m args below meth c D (va_A (w_M cyI cyZ h0_0 h0_1 h0_2 h0_3 h0_4 h0_5 h0_6 h0_7 h0_8 h0_9 h0_10 h0_11 σ0) sz) 7 0 0 (MQ below (zQi D cyI cyZ sz (w_M cyI cyZ h0_0 h0_1 h0_2 h0_3 h0_4 h0_5 h0_6 h0_7 h0_8 h0_9 h0_10 h0_11 σ0) r (w_M cyI cyZ h0_0 h0_1 h0_2 h0_3 h0_4 h0_5 h0_6 h0_7 h0_8 h0_9 h0_10 h0_11 o0)) args s 0 0 (va_A (w_M cyI cyZ h0_0 h0_1 h0_2 h0_3 h0_4 h0_5 h0_6 h0_7 h0_8 h0_9 h0_10 h0_11 σ0) sz)) 58 [(0, .ref h0_0), (2, .int x2), (3, .int x3), (4, .int x4), (5, .int x5), (6, .int x6)] [] (w_M cyI cyZ h0_0 h0_1 h0_2 h0_3 h0_4 h0_5 h0_6 h0_7 h0_8 h0_9 h0_10 h0_11 τ0) := by
    intro k46 hk46
    intro n
    induction n with
    | zero => intro τ0 x2 x3 x4 x5 x6 h; rw [s_X4_fill_58] at h; exact nomatch h
    | succ n ih =>
      intro τ0 x2 x3 x4 x5 x6 h
      rw [s_X4_fill_58] at h
      refine zq_iload (q := 60) G dX4_fill_58 5 rfl rfl ?_
      refine zq_aload_n (q := 61) G dX4_fill_60 0 rfl rfl rfl ?_
      refine zq_get (q := 64) G zu_X4 rfl zw_X4_f13 dX4_fill_61 0 1 rfl (by decide) ⟨⟨rfl, rfl⟩, rfl⟩ rfl rfl ?_
      refine zq_icmp_ge (tgt := 135) (q := 67) G dX4_fill_64 (by decide) rfl (fun c1 => ?_) (fun c1 => ?_)
      · have h := zit h c1
        refine zq_iinc (q := 138) (v := (x5 + 1)) (lv2 := [(5, .int (x5 + 1)), (0, .ref h0_0), (2, .int x2), (3, .int x3), (4, .int x4), (6, .int x6)]) G dX4_fill_135 4 rfl rfl (by decide) rfl rfl ?_
        refine zq_goto (q := 46) G dX4_fill_138 (by decide) ?_
        exact zq_sub _ [1, 2, 3, 4, 0] rfl (hk46 _ _ _ _ _ h)
      · have h := zie h c1
        refine zq_bipush (q := 69) (v := 37) G dX4_fill_67 (by decide) rfl ?_
        refine zq_iload_n (q := 70) G dX4_fill_69 2 rfl rfl rfl ?_
        refine zq_imul (q := 71) G dX4_fill_70 rfl ?_
        refine zq_bipush (q := 73) (v := 11) G dX4_fill_71 (by decide) rfl ?_
        refine zq_iadd (q := 74) G dX4_fill_73 rfl ?_
        refine zq_sipush (q := 77) (v := 10007) G dX4_fill_74 (by decide) rfl ?_
        refine zq_irem (q := 78) G dX4_fill_77 (by decide) rfl ?_
        refine zq_istore_n (q := 79) (lv2 := [(3, .int ((((37 : Int32) * x3) + (11 : Int32)) - (((37 : Int32) * x3) + (11 : Int32)) / (10007 : Int32) * (10007 : Int32))), (0, .ref h0_0), (2, .int x2), (4, .int x4), (5, .int x5), (6, .int x6)]) G dX4_fill_78 rfl (by decide) rfl rfl ?_
        refine zq_aload_n (q := 80) G dX4_fill_79 1 rfl rfl rfl ?_
        refine zq_get (q := 83) G zu_X4 rfl zw_X4_f22 dX4_fill_80 0 5 rfl (by decide) ⟨⟨rfl, rfl⟩, rfl⟩ rfl rfl ?_
        refine zq_bipush (q := 85) (v := 7) G dX4_fill_83 (by decide) rfl ?_
        refine zq_iload (q := 87) G dX4_fill_85 4 rfl rfl ?_
        refine zq_imul (q := 88) G dX4_fill_87 rfl ?_
        refine zq_iload (q := 90) G dX4_fill_88 5 rfl rfl ?_
        refine zq_iadd (q := 91) G dX4_fill_90 rfl ?_
        refine zq_iload_n (q := 92) G dX4_fill_91 0 rfl rfl rfl ?_
        refine zq_iload_n (q := 93) G dX4_fill_92 2 rfl rfl rfl ?_
        refine zq_iconst (q := 94) (v := 1) G dX4_fill_93 (by decide) rfl ?_
        refine zq_iadd (q := 95) G dX4_fill_94 rfl ?_
        obtain ⟨q2, h⟩ := zif h
        refine zq_irem (q := 96) G dX4_fill_95 q2 rfl ?_
        obtain ⟨q3, h⟩ := zif h
        refine zq_iast (q := 97) (ws2 := (w_M cyI cyZ h0_0 h0_1 h0_2 h0_3 h0_4 h0_5 h0_6 h0_7 h0_8 h0_9 h0_10 h0_11 ((τ0.1.1, τ0.1.2.1, (upd τ0.1.2.2.1 (((7 : Int32) * x5) + x6).toNatClampNeg (((((37 : Int32) * x3) + (11 : Int32)) - (((37 : Int32) * x3) + (11 : Int32)) / (10007 : Int32) * (10007 : Int32)) - ((((37 : Int32) * x3) + (11 : Int32)) - (((37 : Int32) * x3) + (11 : Int32)) / (10007 : Int32) * (10007 : Int32)) / (x2 + (1 : Int32)) * (x2 + (1 : Int32)))), τ0.1.2.2.2), τ0.2.1, τ0.2.2.1, τ0.2.2.2.1, τ0.2.2.2.2))) G dX4_fill_96 1 rfl q3 rfl rfl ?_
        refine zq_aload_n (q := 98) G dX4_fill_97 1 rfl rfl rfl ?_
        refine zq_get (q := 101) G zu_X4 rfl zw_X4_f29 dX4_fill_98 0 7 rfl (by decide) ⟨⟨rfl, rfl⟩, rfl⟩ rfl rfl ?_
        refine zq_bipush (q := 103) (v := 7) G dX4_fill_101 (by decide) rfl ?_
        refine zq_iload (q := 105) G dX4_fill_103 4 rfl rfl ?_
        refine zq_imul (q := 106) G dX4_fill_105 rfl ?_
        refine zq_iload (q := 108) G dX4_fill_106 5 rfl rfl ?_
        refine zq_iadd (q := 109) G dX4_fill_108 rfl ?_
        refine zq_iconst (q := 110) (v := 0) G dX4_fill_109 (by decide) rfl ?_
        obtain ⟨q4, h⟩ := zif h
        refine zq_zast (q := 111) (ws2 := (w_M cyI cyZ h0_0 h0_1 h0_2 h0_3 h0_4 h0_5 h0_6 h0_7 h0_8 h0_9 h0_10 h0_11 ((τ0.1.1, τ0.1.2.1, (upd τ0.1.2.2.1 (((7 : Int32) * x5) + x6).toNatClampNeg (((((37 : Int32) * x3) + (11 : Int32)) - (((37 : Int32) * x3) + (11 : Int32)) / (10007 : Int32) * (10007 : Int32)) - ((((37 : Int32) * x3) + (11 : Int32)) - (((37 : Int32) * x3) + (11 : Int32)) / (10007 : Int32) * (10007 : Int32)) / (x2 + (1 : Int32)) * (x2 + (1 : Int32)))), (upd τ0.1.2.2.2 (((7 : Int32) * x5) + x6).toNatClampNeg ((0 : Int32) &&& 1))), τ0.2.1, τ0.2.2.1, τ0.2.2.2.1, τ0.2.2.2.2))) G dX4_fill_110 3 rfl q4 rfl rfl ?_
        refine zq_iload (q := 113) G dX4_fill_111 3 rfl rfl ?_
        refine zq_aload_n (q := 114) G dX4_fill_113 1 rfl rfl rfl ?_
        refine zq_get (q := 117) G zu_X4 rfl zw_X4_f22 dX4_fill_114 0 5 rfl (by decide) ⟨⟨rfl, rfl⟩, rfl⟩ rfl rfl ?_
        refine zq_bipush (q := 119) (v := 7) G dX4_fill_117 (by decide) rfl ?_
        refine zq_iload (q := 121) G dX4_fill_119 4 rfl rfl ?_
        refine zq_imul (q := 122) G dX4_fill_121 rfl ?_
        refine zq_iload (q := 124) G dX4_fill_122 5 rfl rfl ?_
        refine zq_iadd (q := 125) G dX4_fill_124 rfl ?_
        obtain ⟨q5, h⟩ := zif h
        refine zq_iald (q := 126) G dX4_fill_125 1 rfl q5 rfl ?_
        refine zq_iadd (q := 127) G dX4_fill_126 rfl ?_
        refine zq_istore (q := 129) (lv2 := [(4, .int (x4 + ((upd τ0.1.2.2.1 (((7 : Int32) * x5) + x6).toNatClampNeg (((((37 : Int32) * x3) + (11 : Int32)) - (((37 : Int32) * x3) + (11 : Int32)) / (10007 : Int32) * (10007 : Int32)) - ((((37 : Int32) * x3) + (11 : Int32)) - (((37 : Int32) * x3) + (11 : Int32)) / (10007 : Int32) * (10007 : Int32)) / (x2 + (1 : Int32)) * (x2 + (1 : Int32)))) (((7 : Int32) * x5) + x6).toNatClampNeg))), (3, .int ((((37 : Int32) * x3) + (11 : Int32)) - (((37 : Int32) * x3) + (11 : Int32)) / (10007 : Int32) * (10007 : Int32))), (0, .ref h0_0), (2, .int x2), (5, .int x5), (6, .int x6)]) G dX4_fill_127 (by decide) rfl rfl ?_
        refine zq_iinc (q := 132) (v := (x6 + 1)) (lv2 := [(6, .int (x6 + 1)), (4, .int (x4 + ((upd τ0.1.2.2.1 (((7 : Int32) * x5) + x6).toNatClampNeg (((((37 : Int32) * x3) + (11 : Int32)) - (((37 : Int32) * x3) + (11 : Int32)) / (10007 : Int32) * (10007 : Int32)) - ((((37 : Int32) * x3) + (11 : Int32)) - (((37 : Int32) * x3) + (11 : Int32)) / (10007 : Int32) * (10007 : Int32)) / (x2 + (1 : Int32)) * (x2 + (1 : Int32)))) (((7 : Int32) * x5) + x6).toNatClampNeg))), (3, .int ((((37 : Int32) * x3) + (11 : Int32)) - (((37 : Int32) * x3) + (11 : Int32)) / (10007 : Int32) * (10007 : Int32))), (0, .ref h0_0), (2, .int x2), (5, .int x5)]) G dX4_fill_129 5 rfl rfl (by decide) rfl rfl ?_
        refine zq_goto (q := 58) G dX4_fill_132 (by decide) ?_
        exact zq_sub _ [3, 4, 2, 1, 5, 0] rfl (ih _ _ _ _ _ _ h)
  have b46 : ∀ (n : Nat) (τ0 : zM) (x2 : Int32) (x3 : Int32) (x4 : Int32) (x5 : Int32), s_X4_fill_46 n τ0 x2 x3 x4 x5 = some (r, o0) → zW p l e ({ frames := 1, cells := 0, slots := 0, locals := 25 } : Room) s m args below meth c D (va_A (w_M cyI cyZ h0_0 h0_1 h0_2 h0_3 h0_4 h0_5 h0_6 h0_7 h0_8 h0_9 h0_10 h0_11 σ0) sz) 7 0 0 (MQ below (zQi D cyI cyZ sz (w_M cyI cyZ h0_0 h0_1 h0_2 h0_3 h0_4 h0_5 h0_6 h0_7 h0_8 h0_9 h0_10 h0_11 σ0) r (w_M cyI cyZ h0_0 h0_1 h0_2 h0_3 h0_4 h0_5 h0_6 h0_7 h0_8 h0_9 h0_10 h0_11 o0)) args s 0 0 (va_A (w_M cyI cyZ h0_0 h0_1 h0_2 h0_3 h0_4 h0_5 h0_6 h0_7 h0_8 h0_9 h0_10 h0_11 σ0) sz)) 46 [(0, .ref h0_0), (2, .int x2), (3, .int x3), (4, .int x4), (5, .int x5)] [] (w_M cyI cyZ h0_0 h0_1 h0_2 h0_3 h0_4 h0_5 h0_6 h0_7 h0_8 h0_9 h0_10 h0_11 τ0) := by
    intro n
    induction n with
    | zero => intro τ0 x2 x3 x4 x5 h; rw [s_X4_fill_46] at h; exact nomatch h
    | succ n ih =>
      intro τ0 x2 x3 x4 x5 h
      rw [s_X4_fill_46] at h
      refine zq_iload (q := 48) G dX4_fill_46 4 rfl rfl ?_
      refine zq_aload_n (q := 49) G dX4_fill_48 0 rfl rfl rfl ?_
      refine zq_get (q := 52) G zu_X4 rfl zw_X4_f7 dX4_fill_49 0 0 rfl (by decide) ⟨⟨rfl, rfl⟩, rfl⟩ rfl rfl ?_
      refine zq_icmp_ge (tgt := 141) (q := 55) G dX4_fill_52 (by decide) rfl (fun c1 => ?_) (fun c1 => ?_)
      · have h := zit h c1
        refine zq_aload_n (q := 142) G dX4_fill_141 0 rfl rfl rfl ?_
        refine zq_iconst (q := 143) (v := -1) G dX4_fill_142 (by decide) rfl ?_
        refine zq_put (q := 146) (ws2 := (w_M cyI cyZ h0_0 h0_1 h0_2 h0_3 h0_4 h0_5 h0_6 h0_7 h0_8 h0_9 h0_10 h0_11 (τ0.1, τ0.2.1, τ0.2.2.1, ((-1 : Int32), τ0.2.2.2.1.2.1, τ0.2.2.2.1.2.2.1, τ0.2.2.2.1.2.2.2), τ0.2.2.2.2))) G zu_X4 rfl tyX4_ok nmX4 zw_X4_f48 dX4_fill_143 0 18 rfl (by decide) ⟨⟨rfl, rfl⟩, rfl⟩ rfl rfl rfl (Nat.le_of_ble_eq_true rfl) rfl rfl ?_
        refine zq_iload (q := 148) G dX4_fill_146 3 rfl rfl ?_
        refine zq_ws (congrArg (fun w9 => (w_M cyI cyZ h0_0 h0_1 h0_2 h0_3 h0_4 h0_5 h0_6 h0_7 h0_8 h0_9 h0_10 h0_11 w9.2)) (zsome h)) ?_
        exact zq_iret G hlocks hr rfl dX4_fill_148 (congrArg Prod.fst (zsome h))
      · have h := zie h c1
        refine zq_iconst (q := 56) (v := 0) G dX4_fill_55 (by decide) rfl ?_
        refine zq_istore (q := 58) (lv2 := [(6, .int (0 : Int32)), (0, .ref h0_0), (2, .int x2), (3, .int x3), (4, .int x4), (5, .int x5)]) G dX4_fill_56 (by decide) rfl rfl ?_
        exact zq_sub _ [1, 2, 3, 4, 5, 0] rfl (b58 _ ih _ _ _ _ _ _ _ h)
  have b30 : ∀ (τ0 : zM) (x1 : Int32) (x2 : Int32) (y0 : Int32), s_X4_fill_30 τ0 x1 x2 y0 = some (r, o0) → zW p l e ({ frames := 1, cells := 0, slots := 0, locals := 25 } : Room) s m args below meth c D (va_A (w_M cyI cyZ h0_0 h0_1 h0_2 h0_3 h0_4 h0_5 h0_6 h0_7 h0_8 h0_9 h0_10 h0_11 σ0) sz) 7 0 0 (MQ below (zQi D cyI cyZ sz (w_M cyI cyZ h0_0 h0_1 h0_2 h0_3 h0_4 h0_5 h0_6 h0_7 h0_8 h0_9 h0_10 h0_11 σ0) r (w_M cyI cyZ h0_0 h0_1 h0_2 h0_3 h0_4 h0_5 h0_6 h0_7 h0_8 h0_9 h0_10 h0_11 o0)) args s 0 0 (va_A (w_M cyI cyZ h0_0 h0_1 h0_2 h0_3 h0_4 h0_5 h0_6 h0_7 h0_8 h0_9 h0_10 h0_11 σ0) sz)) 30 [(0, .ref h0_0), (1, .int x1), (2, .int x2)] [.int y0, .ref h0_0] (w_M cyI cyZ h0_0 h0_1 h0_2 h0_3 h0_4 h0_5 h0_6 h0_7 h0_8 h0_9 h0_10 h0_11 τ0) := by
    intro τ0 x1 x2 y0 h
    unfold s_X4_fill_30 at h
    obtain ⟨z1, hc1, h⟩ := zbd h
    refine zq_callVi (q := 33) (ws2 := (w_M cyI cyZ h0_0 h0_1 h0_2 h0_3 h0_4 h0_5 h0_6 h0_7 h0_8 h0_9 h0_10 h0_11 z1.2)) (isC := [0, 1, 2, 3, 4, 5, 6, 7, 8, 9, 10, 11]) (isR := []) (perm := [0, 1, 2, 3, 4, 5, 6, 7, 8, 9, 10, 11]) (rest := []) (As := [.int y0]) G zs_X4_118 dX4_fill_30 (fun sz9 => c_X4_isWrong l D cyI cyZ h0_0 h0_1 h0_2 h0_3 h0_4 h0_5 h0_6 h0_7 h0_8 h0_9 h0_10 h0_11 τ0 y0 z1.1 z1.2 hc1 sz9) 0 rfl rfl rfl ⟨rfl, rfl, rfl, rfl⟩ rfl (Nat.le_of_ble_eq_true rfl) ⟨Nat.le_of_ble_eq_true rfl, Nat.le_of_ble_eq_true rfl, Nat.zero_le _, Nat.zero_le _⟩ rfl ?_
    refine zq_if_eq (tgt := 38) (q := 36) G dX4_fill_33 (by decide) rfl (fun c2 => ?_) (fun c2 => ?_)
    · have h := zit h c2
      refine zq_iload_n (q := 39) G dX4_fill_38 1 rfl rfl rfl ?_
      refine zq_istore_n (q := 40) (lv2 := [(3, .int x1), (0, .ref h0_0), (1, .int x1), (2, .int x2)]) G dX4_fill_39 rfl (by decide) rfl rfl ?_
      refine zq_iconst (q := 41) (v := 0) G dX4_fill_40 (by decide) rfl ?_
      refine zq_istore (q := 43) (lv2 := [(4, .int (0 : Int32)), (3, .int x1), (0, .ref h0_0), (1, .int x1), (2, .int x2)]) G dX4_fill_41 (by decide) rfl rfl ?_
      refine zq_iconst (q := 44) (v := 0) G dX4_fill_43 (by decide) rfl ?_
      refine zq_istore (q := 46) (lv2 := [(5, .int (0 : Int32)), (4, .int (0 : Int32)), (3, .int x1), (0, .ref h0_0), (1, .int x1), (2, .int x2)]) G dX4_fill_44 (by decide) rfl rfl ?_
      exact zq_sub _ [3, 5, 2, 1, 0] rfl (b46  _ _ _ _ _ _ h)
    · have h := zie h c2
      refine zq_iconst (q := 37) (v := 0) G dX4_fill_36 (by decide) rfl ?_
      refine zq_ws (congrArg (fun w9 => (w_M cyI cyZ h0_0 h0_1 h0_2 h0_3 h0_4 h0_5 h0_6 h0_7 h0_8 h0_9 h0_10 h0_11 w9.2)) (zsome h)) ?_
      exact zq_iret G hlocks hr rfl dX4_fill_37 (congrArg Prod.fst (zsome h))
  have b25 : ∀ (τ0 : zM) (x1 : Int32) (x2 : Int32), s_X4_fill_25 τ0 x1 x2 = some (r, o0) → zW p l e ({ frames := 1, cells := 0, slots := 0, locals := 25 } : Room) s m args below meth c D (va_A (w_M cyI cyZ h0_0 h0_1 h0_2 h0_3 h0_4 h0_5 h0_6 h0_7 h0_8 h0_9 h0_10 h0_11 σ0) sz) 7 0 0 (MQ below (zQi D cyI cyZ sz (w_M cyI cyZ h0_0 h0_1 h0_2 h0_3 h0_4 h0_5 h0_6 h0_7 h0_8 h0_9 h0_10 h0_11 σ0) r (w_M cyI cyZ h0_0 h0_1 h0_2 h0_3 h0_4 h0_5 h0_6 h0_7 h0_8 h0_9 h0_10 h0_11 o0)) args s 0 0 (va_A (w_M cyI cyZ h0_0 h0_1 h0_2 h0_3 h0_4 h0_5 h0_6 h0_7 h0_8 h0_9 h0_10 h0_11 σ0) sz)) 25 [(0, .ref h0_0), (1, .int x1), (2, .int x2)] [.ref h0_0] (w_M cyI cyZ h0_0 h0_1 h0_2 h0_3 h0_4 h0_5 h0_6 h0_7 h0_8 h0_9 h0_10 h0_11 τ0) := by
    intro τ0 x1 x2 h
    unfold s_X4_fill_25 at h
    refine zq_iconst (q := 26) (v := 1) G dX4_fill_25 (by decide) rfl ?_
    refine zq_goto (q := 30) G dX4_fill_26 (by decide) ?_
    exact zq_sub _ [0, 1, 2] rfl (b30  _ _ _ _ h)
  refine zq_aload_n (q := 1) G dX4_fill_0 0 rfl rfl rfl ?_
  refine zq_iload_n (q := 2) G dX4_fill_1 1 rfl rfl rfl ?_
  refine zq_i2l (q := 3) G dX4_fill_2 rfl ?_
  refine zq_lconst (q := 4) (v := 0) G dX4_fill_3 (by decide) rfl ?_
  refine zq_ldc2 (q := 7) G zw_X4_c132 dX4_fill_4 rfl ?_
  obtain ⟨z1, hc1, h⟩ := zbd h
  refine zq_callSi (q := 10) (ws2 := (w_M cyI cyZ h0_0 h0_1 h0_2 h0_3 h0_4 h0_5 h0_6 h0_7 h0_8 h0_9 h0_10 h0_11 σ0)) (isC := []) (isR := [0, 1, 2, 3, 4, 5, 6, 7, 8, 9, 10, 11]) (perm := [0, 1, 2, 3, 4, 5, 6, 7, 8, 9, 10, 11]) (rest := [.ref h0_0]) (As := [.long p0.toInt64, .long (0 : Int64), .long (9999 : Int64)]) G zs_X4_63 dX4_fill_7 (fun sz9 => c_X4_isIn l D cyI cyZ p0.toInt64 (0 : Int64) (9999 : Int64) z1 hc1 sz9) rfl ⟨rfl, rfl, rfl, rfl⟩ rfl (Nat.le_of_ble_eq_true rfl) ⟨Nat.le_of_ble_eq_true rfl, Nat.le_of_ble_eq_true rfl, Nat.zero_le _, Nat.zero_le _⟩ rfl ?_
  refine zq_if_eq (tgt := 25) (q := 13) G dX4_fill_10 (by decide) rfl (fun c2 => ?_) (fun c2 => ?_)
  · have h := zit h c2
    exact zq_sub _ [0, 1, 2] rfl (b25  _ _ _ h)
  · have h := zie h c2
    refine zq_iload_n (q := 14) G dX4_fill_13 2 rfl rfl rfl ?_
    refine zq_i2l (q := 15) G dX4_fill_14 rfl ?_
    refine zq_lconst (q := 16) (v := 0) G dX4_fill_15 (by decide) rfl ?_
    refine zq_ldc2 (q := 19) G zw_X4_c128 dX4_fill_16 rfl ?_
    obtain ⟨z3, hc3, h⟩ := zbd h
    refine zq_callSi (q := 22) (ws2 := (w_M cyI cyZ h0_0 h0_1 h0_2 h0_3 h0_4 h0_5 h0_6 h0_7 h0_8 h0_9 h0_10 h0_11 σ0)) (isC := []) (isR := [0, 1, 2, 3, 4, 5, 6, 7, 8, 9, 10, 11]) (perm := [0, 1, 2, 3, 4, 5, 6, 7, 8, 9, 10, 11]) (rest := [.ref h0_0]) (As := [.long p1.toInt64, .long (0 : Int64), .long (99 : Int64)]) G zs_X4_63 dX4_fill_19 (fun sz9 => c_X4_isIn l D cyI cyZ p1.toInt64 (0 : Int64) (99 : Int64) z3 hc3 sz9) rfl ⟨rfl, rfl, rfl, rfl⟩ rfl (Nat.le_of_ble_eq_true rfl) ⟨Nat.le_of_ble_eq_true rfl, Nat.le_of_ble_eq_true rfl, Nat.zero_le _, Nat.zero_le _⟩ rfl ?_
    refine zq_if_ne (tgt := 29) (q := 25) G dX4_fill_22 (by decide) rfl (fun c4 => ?_) (fun c4 => ?_)
    · have h := zie h c4
      refine zq_iconst (q := 30) (v := 0) G dX4_fill_29 (by decide) rfl ?_
      exact zq_sub _ [0, 1, 2] rfl (b30  _ _ _ _ h)
    · have h := zit h c4
      exact zq_sub _ [0, 1, 2] rfl (b25  _ _ _ h)
set_option maxHeartbeats 4000000 in
set_option maxRecDepth 100000 in
theorem c_X4_forbiddenMany (l : Launch) (D : va_G) (cyI cyZ : ClassId) (h0_0 h0_1 h0_2 h0_3 h0_4 h0_5 h0_6 h0_7 h0_8 h0_9 h0_10 h0_11 : Nat) (σ0 : zM) (r : Int32) (h : s_X4_forbiddenMany σ0 = some r) (sz : Nat) : zMi l yX4_forbiddenMany cX4_forbiddenMany 4 .int 0 0 D cyI cyZ sz [.ref h0_0] (w_M cyI cyZ h0_0 h0_1 h0_2 h0_3 h0_4 h0_5 h0_6 h0_7 h0_8 h0_9 h0_10 h0_11 σ0) r (w_M cyI cyZ h0_0 h0_1 h0_2 h0_3 h0_4 h0_5 h0_6 h0_7 h0_8 h0_9 h0_10 h0_11 σ0) := by
  unfold s_X4_forbiddenMany at h
  refine zstartI (lv0 := [(0, .ref h0_0)]) (by decide) (Nat.le_of_ble_eq_true rfl) rfl (fun p e s m args below meth c G hr hlocks => ?_)
  have b14 : ∀ (k4 : (zM → Int32 → Int32 → Option (Int32))) (hk4 : ∀ (x1 : Int32) (x2 : Int32), k4 σ0 x1 x2 = some r → zW p l e ({ frames := 0, cells := 0, slots := 0, locals := 0 } : Room) s m args below meth c D (va_A (w_M cyI cyZ h0_0 h0_1 h0_2 h0_3 h0_4 h0_5 h0_6 h0_7 h0_8 h0_9 h0_10 h0_11 σ0) sz) 4 0 0 (MQ below (zQi D cyI cyZ sz (w_M cyI cyZ h0_0 h0_1 h0_2 h0_3 h0_4 h0_5 h0_6 h0_7 h0_8 h0_9 h0_10 h0_11 σ0) r (w_M cyI cyZ h0_0 h0_1 h0_2 h0_3 h0_4 h0_5 h0_6 h0_7 h0_8 h0_9 h0_10 h0_11 σ0)) args s 0 0 (va_A (w_M cyI cyZ h0_0 h0_1 h0_2 h0_3 h0_4 h0_5 h0_6 h0_7 h0_8 h0_9 h0_10 h0_11 σ0) sz)) 4 [(0, .ref h0_0), (1, .int x1), (2, .int x2)] [] (w_M cyI cyZ h0_0 h0_1 h0_2 h0_3 h0_4 h0_5 h0_6 h0_7 h0_8 h0_9 h0_10 h0_11 σ0)) (n : Nat) (x1 : Int32) (x2 : Int32) (x3 : Int32), s_X4_forbiddenMany_14 k4 n σ0 x1 x2 x3 = some r → zW p l e ({ frames := 0, cells := 0, slots := 0, locals := 0 } : Room) s m args below meth c D (va_A (w_M cyI cyZ h0_0 h0_1 h0_2 h0_3 h0_4 h0_5 h0_6 h0_7 h0_8 h0_9 h0_10 h0_11 σ0) sz) 4 0 0 (MQ below (zQi D cyI cyZ sz (w_M cyI cyZ h0_0 h0_1 h0_2 h0_3 h0_4 h0_5 h0_6 h0_7 h0_8 h0_9 h0_10 h0_11 σ0) r (w_M cyI cyZ h0_0 h0_1 h0_2 h0_3 h0_4 h0_5 h0_6 h0_7 h0_8 h0_9 h0_10 h0_11 σ0)) args s 0 0 (va_A (w_M cyI cyZ h0_0 h0_1 h0_2 h0_3 h0_4 h0_5 h0_6 h0_7 h0_8 h0_9 h0_10 h0_11 σ0) sz)) 14 [(0, .ref h0_0), (1, .int x1), (2, .int x2), (3, .int x3)] [] (w_M cyI cyZ h0_0 h0_1 h0_2 h0_3 h0_4 h0_5 h0_6 h0_7 h0_8 h0_9 h0_10 h0_11 σ0) := by
    intro k4 hk4
    intro n
    induction n with
    | zero => intro x1 x2 x3 h; rw [s_X4_forbiddenMany_14] at h; exact nomatch h
    | succ n ih =>
      intro x1 x2 x3 h
      rw [s_X4_forbiddenMany_14] at h
      refine zq_iload_n (q := 15) G dX4_forbiddenMany_14 3 rfl rfl rfl ?_
      refine zq_aload_n (q := 16) G dX4_forbiddenMany_15 0 rfl rfl rfl ?_
      refine zq_get (q := 19) G zu_X4 rfl zw_X4_f13 dX4_forbiddenMany_16 0 1 rfl (by decide) ⟨⟨rfl, rfl⟩, rfl⟩ rfl rfl ?_
      refine zq_icmp_ge (tgt := 50) (q := 22) G dX4_forbiddenMany_19 (by decide) rfl (fun c1 => ?_) (fun c1 => ?_)
      · have h := zit h c1
        refine zq_iinc (q := 53) (v := (x2 + 1)) (lv2 := [(2, .int (x2 + 1)), (0, .ref h0_0), (1, .int x1), (3, .int x3)]) G dX4_forbiddenMany_50 2 rfl rfl (by decide) rfl rfl ?_
        refine zq_goto (q := 4) G dX4_forbiddenMany_53 (by decide) ?_
        exact zq_sub _ [1, 2, 0] rfl (hk4 _ _ h)
      · have h := zie h c1
        refine zq_iload_n (q := 23) G dX4_forbiddenMany_22 1 rfl rfl rfl ?_
        refine zq_aload_n (q := 24) G dX4_forbiddenMany_23 0 rfl rfl rfl ?_
        refine zq_get (q := 27) G zu_X4 rfl zw_X4_f29 dX4_forbiddenMany_24 0 7 rfl (by decide) ⟨⟨rfl, rfl⟩, rfl⟩ rfl rfl ?_
        refine zq_bipush (q := 29) (v := 7) G dX4_forbiddenMany_27 (by decide) rfl ?_
        refine zq_iload_n (q := 30) G dX4_forbiddenMany_29 2 rfl rfl rfl ?_
        refine zq_imul (q := 31) G dX4_forbiddenMany_30 rfl ?_
        refine zq_iload_n (q := 32) G dX4_forbiddenMany_31 3 rfl rfl rfl ?_
        refine zq_iadd (q := 33) G dX4_forbiddenMany_32 rfl ?_
        obtain ⟨q2, h⟩ := zif h
        refine zq_zald (q := 34) G dX4_forbiddenMany_33 3 rfl q2 rfl ?_
        refine zq_if_eq (tgt := 41) (q := 37) G dX4_forbiddenMany_34 (by decide) rfl (fun c3 => ?_) (fun c3 => ?_)
        · have h := zit h c3
          refine zq_iconst (q := 42) (v := 0) G dX4_forbiddenMany_41 (by decide) rfl ?_
          refine zq_iadd (q := 43) G dX4_forbiddenMany_42 rfl ?_
          refine zq_istore_n (q := 44) (lv2 := [(1, .int (x1 + (0 : Int32))), (0, .ref h0_0), (2, .int x2), (3, .int x3)]) G dX4_forbiddenMany_43 rfl (by decide) rfl rfl ?_
          refine zq_iinc (q := 47) (v := (x3 + 1)) (lv2 := [(3, .int (x3 + 1)), (1, .int (x1 + (0 : Int32))), (0, .ref h0_0), (2, .int x2)]) G dX4_forbiddenMany_44 3 rfl rfl (by decide) rfl rfl ?_
          refine zq_goto (q := 14) G dX4_forbiddenMany_47 (by decide) ?_
          exact zq_sub _ [2, 1, 3, 0] rfl (ih _ _ _ h)
        · have h := zie h c3
          refine zq_iconst (q := 38) (v := 1) G dX4_forbiddenMany_37 (by decide) rfl ?_
          refine zq_goto (q := 42) G dX4_forbiddenMany_38 (by decide) ?_
          refine zq_iadd (q := 43) G dX4_forbiddenMany_42 rfl ?_
          refine zq_istore_n (q := 44) (lv2 := [(1, .int (x1 + (1 : Int32))), (0, .ref h0_0), (2, .int x2), (3, .int x3)]) G dX4_forbiddenMany_43 rfl (by decide) rfl rfl ?_
          refine zq_iinc (q := 47) (v := (x3 + 1)) (lv2 := [(3, .int (x3 + 1)), (1, .int (x1 + (1 : Int32))), (0, .ref h0_0), (2, .int x2)]) G dX4_forbiddenMany_44 3 rfl rfl (by decide) rfl rfl ?_
          refine zq_goto (q := 14) G dX4_forbiddenMany_47 (by decide) ?_
          exact zq_sub _ [2, 1, 3, 0] rfl (ih _ _ _ h)
  have b4 : ∀ (n : Nat) (x1 : Int32) (x2 : Int32), s_X4_forbiddenMany_4 n σ0 x1 x2 = some r → zW p l e ({ frames := 0, cells := 0, slots := 0, locals := 0 } : Room) s m args below meth c D (va_A (w_M cyI cyZ h0_0 h0_1 h0_2 h0_3 h0_4 h0_5 h0_6 h0_7 h0_8 h0_9 h0_10 h0_11 σ0) sz) 4 0 0 (MQ below (zQi D cyI cyZ sz (w_M cyI cyZ h0_0 h0_1 h0_2 h0_3 h0_4 h0_5 h0_6 h0_7 h0_8 h0_9 h0_10 h0_11 σ0) r (w_M cyI cyZ h0_0 h0_1 h0_2 h0_3 h0_4 h0_5 h0_6 h0_7 h0_8 h0_9 h0_10 h0_11 σ0)) args s 0 0 (va_A (w_M cyI cyZ h0_0 h0_1 h0_2 h0_3 h0_4 h0_5 h0_6 h0_7 h0_8 h0_9 h0_10 h0_11 σ0) sz)) 4 [(0, .ref h0_0), (1, .int x1), (2, .int x2)] [] (w_M cyI cyZ h0_0 h0_1 h0_2 h0_3 h0_4 h0_5 h0_6 h0_7 h0_8 h0_9 h0_10 h0_11 σ0) := by
    intro n
    induction n with
    | zero => intro x1 x2 h; rw [s_X4_forbiddenMany_4] at h; exact nomatch h
    | succ n ih =>
      intro x1 x2 h
      rw [s_X4_forbiddenMany_4] at h
      refine zq_iload_n (q := 5) G dX4_forbiddenMany_4 2 rfl rfl rfl ?_
      refine zq_aload_n (q := 6) G dX4_forbiddenMany_5 0 rfl rfl rfl ?_
      refine zq_get (q := 9) G zu_X4 rfl zw_X4_f7 dX4_forbiddenMany_6 0 0 rfl (by decide) ⟨⟨rfl, rfl⟩, rfl⟩ rfl rfl ?_
      refine zq_icmp_ge (tgt := 56) (q := 12) G dX4_forbiddenMany_9 (by decide) rfl (fun c1 => ?_) (fun c1 => ?_)
      · have h := zit h c1
        refine zq_iload_n (q := 57) G dX4_forbiddenMany_56 1 rfl rfl rfl ?_
        exact zq_iret G hlocks hr rfl dX4_forbiddenMany_57 (zsome h)
      · have h := zie h c1
        refine zq_iconst (q := 13) (v := 0) G dX4_forbiddenMany_12 (by decide) rfl ?_
        refine zq_istore_n (q := 14) (lv2 := [(3, .int (0 : Int32)), (0, .ref h0_0), (1, .int x1), (2, .int x2)]) G dX4_forbiddenMany_13 rfl (by decide) rfl rfl ?_
        exact zq_sub _ [1, 2, 3, 0] rfl (b14 _ ih _ _ _ _ h)
  refine zq_iconst (q := 1) (v := 0) G dX4_forbiddenMany_0 (by decide) rfl ?_
  refine zq_istore_n (q := 2) (lv2 := [(1, .int (0 : Int32)), (0, .ref h0_0)]) G dX4_forbiddenMany_1 rfl (by decide) rfl rfl ?_
  refine zq_iconst (q := 3) (v := 0) G dX4_forbiddenMany_2 (by decide) rfl ?_
  refine zq_istore_n (q := 4) (lv2 := [(2, .int (0 : Int32)), (1, .int (0 : Int32)), (0, .ref h0_0)]) G dX4_forbiddenMany_3 rfl (by decide) rfl rfl ?_
  exact zq_sub _ [2, 1, 0] rfl (b4  _ _ _ h)
set_option maxHeartbeats 4000000 in
set_option maxRecDepth 100000 in
theorem c_X4_setForbidden (l : Launch) (D : va_G) (cyI cyZ : ClassId) (h0_0 h0_1 h0_2 h0_3 h0_4 h0_5 h0_6 h0_7 h0_8 h0_9 h0_10 h0_11 : Nat) (σ0 : zM) (p0 : Int32) (p1 : Int32) (p2 : Int32) (r : Int32) (o0 : zM) (h : s_X4_setForbidden σ0 p0 p1 p2 = some (r, o0)) (sz : Nat) : zMi l yX4_setForbidden cX4_setForbidden 4 .int 2 46 D cyI cyZ sz [.ref h0_0, .int p0, .int p1, .int p2] (w_M cyI cyZ h0_0 h0_1 h0_2 h0_3 h0_4 h0_5 h0_6 h0_7 h0_8 h0_9 h0_10 h0_11 σ0) r (w_M cyI cyZ h0_0 h0_1 h0_2 h0_3 h0_4 h0_5 h0_6 h0_7 h0_8 h0_9 h0_10 h0_11 o0) := by
  unfold s_X4_setForbidden at h
  refine zstartI (lv0 := [(0, .ref h0_0), (1, .int p0), (2, .int p1), (3, .int p2)]) (by decide) (Nat.le_of_ble_eq_true rfl) rfl (fun p e s m args below meth c G hr hlocks => ?_)
  have b22 : ∀ (τ0 : zM) (x1 : Int32) (x2 : Int32) (x3 : Int32) (y0 : Int32), s_X4_setForbidden_22 τ0 x1 x2 x3 y0 = some (r, o0) → zW p l e ({ frames := 2, cells := 0, slots := 0, locals := 46 } : Room) s m args below meth c D (va_A (w_M cyI cyZ h0_0 h0_1 h0_2 h0_3 h0_4 h0_5 h0_6 h0_7 h0_8 h0_9 h0_10 h0_11 σ0) sz) 4 0 0 (MQ below (zQi D cyI cyZ sz (w_M cyI cyZ h0_0 h0_1 h0_2 h0_3 h0_4 h0_5 h0_6 h0_7 h0_8 h0_9 h0_10 h0_11 σ0) r (w_M cyI cyZ h0_0 h0_1 h0_2 h0_3 h0_4 h0_5 h0_6 h0_7 h0_8 h0_9 h0_10 h0_11 o0)) args s 0 0 (va_A (w_M cyI cyZ h0_0 h0_1 h0_2 h0_3 h0_4 h0_5 h0_6 h0_7 h0_8 h0_9 h0_10 h0_11 σ0) sz)) 22 [(0, .ref h0_0), (1, .int x1), (2, .int x2), (3, .int x3)] [.int y0, .ref h0_0] (w_M cyI cyZ h0_0 h0_1 h0_2 h0_3 h0_4 h0_5 h0_6 h0_7 h0_8 h0_9 h0_10 h0_11 τ0) := by
    intro τ0 x1 x2 x3 y0 h
    unfold s_X4_setForbidden_22 at h
    obtain ⟨z1, hc1, h⟩ := zbd h
    refine zq_callVi (q := 25) (ws2 := (w_M cyI cyZ h0_0 h0_1 h0_2 h0_3 h0_4 h0_5 h0_6 h0_7 h0_8 h0_9 h0_10 h0_11 z1.2)) (isC := [0, 1, 2, 3, 4, 5, 6, 7, 8, 9, 10, 11]) (isR := []) (perm := [0, 1, 2, 3, 4, 5, 6, 7, 8, 9, 10, 11]) (rest := []) (As := [.int y0]) G zs_X4_118 dX4_setForbidden_22 (fun sz9 => c_X4_isWrong l D cyI cyZ h0_0 h0_1 h0_2 h0_3 h0_4 h0_5 h0_6 h0_7 h0_8 h0_9 h0_10 h0_11 τ0 y0 z1.1 z1.2 hc1 sz9) 0 rfl rfl rfl ⟨rfl, rfl, rfl, rfl⟩ rfl (Nat.le_of_ble_eq_true rfl) ⟨Nat.le_of_ble_eq_true rfl, Nat.le_of_ble_eq_true rfl, Nat.zero_le _, Nat.zero_le _⟩ rfl ?_
    refine zq_if_eq (tgt := 30) (q := 28) G dX4_setForbidden_25 (by decide) rfl (fun c2 => ?_) (fun c2 => ?_)
    · have h := zit h c2
      refine zq_aload_n (q := 31) G dX4_setForbidden_30 0 rfl rfl rfl ?_
      refine zq_get (q := 34) G zu_X4 rfl zw_X4_f29 dX4_setForbidden_31 0 7 rfl (by decide) ⟨⟨rfl, rfl⟩, rfl⟩ rfl rfl ?_
      refine zq_bipush (q := 36) (v := 7) G dX4_setForbidden_34 (by decide) rfl ?_
      refine zq_iload_n (q := 37) G dX4_setForbidden_36 1 rfl rfl rfl ?_
      refine zq_imul (q := 38) G dX4_setForbidden_37 rfl ?_
      refine zq_iload_n (q := 39) G dX4_setForbidden_38 2 rfl rfl rfl ?_
      refine zq_iadd (q := 40) G dX4_setForbidden_39 rfl ?_
      refine zq_iload_n (q := 41) G dX4_setForbidden_40 3 rfl rfl rfl ?_
      obtain ⟨q3, h⟩ := zif h
      refine zq_zast (q := 42) (ws2 := (w_M cyI cyZ h0_0 h0_1 h0_2 h0_3 h0_4 h0_5 h0_6 h0_7 h0_8 h0_9 h0_10 h0_11 ((z1.2.1.1, z1.2.1.2.1, z1.2.1.2.2.1, (upd z1.2.1.2.2.2 (((7 : Int32) * x1) + x2).toNatClampNeg (x3 &&& 1))), z1.2.2.1, z1.2.2.2.1, z1.2.2.2.2.1, z1.2.2.2.2.2))) G dX4_setForbidden_41 3 rfl q3 rfl rfl ?_
      refine zq_aload_n (q := 43) G dX4_setForbidden_42 0 rfl rfl rfl ?_
      refine zq_iconst (q := 44) (v := -1) G dX4_setForbidden_43 (by decide) rfl ?_
      refine zq_put (q := 47) (ws2 := (w_M cyI cyZ h0_0 h0_1 h0_2 h0_3 h0_4 h0_5 h0_6 h0_7 h0_8 h0_9 h0_10 h0_11 ((z1.2.1.1, z1.2.1.2.1, z1.2.1.2.2.1, (upd z1.2.1.2.2.2 (((7 : Int32) * x1) + x2).toNatClampNeg (x3 &&& 1))), z1.2.2.1, z1.2.2.2.1, ((-1 : Int32), z1.2.2.2.2.1.2.1, z1.2.2.2.2.1.2.2.1, z1.2.2.2.2.1.2.2.2), z1.2.2.2.2.2))) G zu_X4 rfl tyX4_ok nmX4 zw_X4_f48 dX4_setForbidden_44 0 18 rfl (by decide) ⟨⟨rfl, rfl⟩, rfl⟩ rfl rfl rfl (Nat.le_of_ble_eq_true rfl) rfl rfl ?_
      refine zq_aload_n (q := 48) G dX4_setForbidden_47 0 rfl rfl rfl ?_
      obtain ⟨z4, hc4, h⟩ := zbd h
      refine zq_callVi (q := 51) (ws2 := (w_M cyI cyZ h0_0 h0_1 h0_2 h0_3 h0_4 h0_5 h0_6 h0_7 h0_8 h0_9 h0_10 h0_11 ((z1.2.1.1, z1.2.1.2.1, z1.2.1.2.2.1, (upd z1.2.1.2.2.2 (((7 : Int32) * x1) + x2).toNatClampNeg (x3 &&& 1))), z1.2.2.1, z1.2.2.2.1, ((-1 : Int32), z1.2.2.2.2.1.2.1, z1.2.2.2.2.1.2.2.1, z1.2.2.2.2.1.2.2.2), z1.2.2.2.2.2))) (isC := [0, 1, 2, 3, 4, 5, 6, 7, 8, 9, 10, 11]) (isR := []) (perm := [0, 1, 2, 3, 4, 5, 6, 7, 8, 9, 10, 11]) (rest := []) (As := []) G zs_X4_134 dX4_setForbidden_48 (fun sz9 => c_X4_forbiddenMany l D cyI cyZ h0_0 h0_1 h0_2 h0_3 h0_4 h0_5 h0_6 h0_7 h0_8 h0_9 h0_10 h0_11 ((z1.2.1.1, z1.2.1.2.1, z1.2.1.2.2.1, (upd z1.2.1.2.2.2 (((7 : Int32) * x1) + x2).toNatClampNeg (x3 &&& 1))), z1.2.2.1, z1.2.2.2.1, ((-1 : Int32), z1.2.2.2.2.1.2.1, z1.2.2.2.2.1.2.2.1, z1.2.2.2.2.1.2.2.2), z1.2.2.2.2.2) z4 hc4 sz9) 0 rfl rfl rfl ⟨rfl, rfl, rfl, rfl⟩ rfl (Nat.le_of_ble_eq_true rfl) ⟨Nat.le_of_ble_eq_true rfl, Nat.le_of_ble_eq_true rfl, Nat.zero_le _, Nat.zero_le _⟩ rfl ?_
      refine zq_ws (congrArg (fun w9 => (w_M cyI cyZ h0_0 h0_1 h0_2 h0_3 h0_4 h0_5 h0_6 h0_7 h0_8 h0_9 h0_10 h0_11 w9.2)) (zsome h)) ?_
      exact zq_iret G hlocks hr rfl dX4_setForbidden_51 (congrArg Prod.fst (zsome h))
    · have h := zie h c2
      refine zq_iconst (q := 29) (v := 0) G dX4_setForbidden_28 (by decide) rfl ?_
      refine zq_ws (congrArg (fun w9 => (w_M cyI cyZ h0_0 h0_1 h0_2 h0_3 h0_4 h0_5 h0_6 h0_7 h0_8 h0_9 h0_10 h0_11 w9.2)) (zsome h)) ?_
      exact zq_iret G hlocks hr rfl dX4_setForbidden_29 (congrArg Prod.fst (zsome h))
  have b17 : ∀ (τ0 : zM) (x1 : Int32) (x2 : Int32) (x3 : Int32), s_X4_setForbidden_17 τ0 x1 x2 x3 = some (r, o0) → zW p l e ({ frames := 2, cells := 0, slots := 0, locals := 46 } : Room) s m args below meth c D (va_A (w_M cyI cyZ h0_0 h0_1 h0_2 h0_3 h0_4 h0_5 h0_6 h0_7 h0_8 h0_9 h0_10 h0_11 σ0) sz) 4 0 0 (MQ below (zQi D cyI cyZ sz (w_M cyI cyZ h0_0 h0_1 h0_2 h0_3 h0_4 h0_5 h0_6 h0_7 h0_8 h0_9 h0_10 h0_11 σ0) r (w_M cyI cyZ h0_0 h0_1 h0_2 h0_3 h0_4 h0_5 h0_6 h0_7 h0_8 h0_9 h0_10 h0_11 o0)) args s 0 0 (va_A (w_M cyI cyZ h0_0 h0_1 h0_2 h0_3 h0_4 h0_5 h0_6 h0_7 h0_8 h0_9 h0_10 h0_11 σ0) sz)) 17 [(0, .ref h0_0), (1, .int x1), (2, .int x2), (3, .int x3)] [.ref h0_0] (w_M cyI cyZ h0_0 h0_1 h0_2 h0_3 h0_4 h0_5 h0_6 h0_7 h0_8 h0_9 h0_10 h0_11 τ0) := by
    intro τ0 x1 x2 x3 h
    unfold s_X4_setForbidden_17 at h
    refine zq_iconst (q := 18) (v := 1) G dX4_setForbidden_17 (by decide) rfl ?_
    refine zq_goto (q := 22) G dX4_setForbidden_18 (by decide) ?_
    exact zq_sub _ [0, 1, 2, 3] rfl (b22  _ _ _ _ _ h)
  refine zq_aload_n (q := 1) G dX4_setForbidden_0 0 rfl rfl rfl ?_
  refine zq_aload_n (q := 2) G dX4_setForbidden_1 0 rfl rfl rfl ?_
  refine zq_iload_n (q := 3) G dX4_setForbidden_2 1 rfl rfl rfl ?_
  obtain ⟨z1, hc1, h⟩ := zbd h
  refine zq_callVi (q := 6) (ws2 := (w_M cyI cyZ h0_0 h0_1 h0_2 h0_3 h0_4 h0_5 h0_6 h0_7 h0_8 h0_9 h0_10 h0_11 σ0)) (isC := [0, 1, 2, 3, 4, 5, 6, 7, 8, 9, 10, 11]) (isR := []) (perm := [0, 1, 2, 3, 4, 5, 6, 7, 8, 9, 10, 11]) (rest := [.ref h0_0]) (As := [.int p0]) G zs_X4_122 dX4_setForbidden_3 (fun sz9 => c_X4_isRow l D cyI cyZ h0_0 h0_1 h0_2 h0_3 h0_4 h0_5 h0_6 h0_7 h0_8 h0_9 h0_10 h0_11 σ0 p0 z1 hc1 sz9) 0 rfl rfl rfl ⟨rfl, rfl, rfl, rfl⟩ rfl (Nat.le_of_ble_eq_true rfl) ⟨Nat.le_of_ble_eq_true rfl, Nat.le_of_ble_eq_true rfl, Nat.zero_le _, Nat.zero_le _⟩ rfl ?_
  refine zq_if_eq (tgt := 17) (q := 9) G dX4_setForbidden_6 (by decide) rfl (fun c2 => ?_) (fun c2 => ?_)
  · have h := zit h c2
    exact zq_sub _ [0, 1, 2, 3] rfl (b17  _ _ _ _ h)
  · have h := zie h c2
    refine zq_aload_n (q := 10) G dX4_setForbidden_9 0 rfl rfl rfl ?_
    refine zq_iload_n (q := 11) G dX4_setForbidden_10 2 rfl rfl rfl ?_
    obtain ⟨z3, hc3, h⟩ := zbd h
    refine zq_callVi (q := 14) (ws2 := (w_M cyI cyZ h0_0 h0_1 h0_2 h0_3 h0_4 h0_5 h0_6 h0_7 h0_8 h0_9 h0_10 h0_11 σ0)) (isC := [0, 1, 2, 3, 4, 5, 6, 7, 8, 9, 10, 11]) (isR := []) (perm := [0, 1, 2, 3, 4, 5, 6, 7, 8, 9, 10, 11]) (rest := [.ref h0_0]) (As := [.int p1]) G zs_X4_125 dX4_setForbidden_11 (fun sz9 => c_X4_isReal l D cyI cyZ h0_0 h0_1 h0_2 h0_3 h0_4 h0_5 h0_6 h0_7 h0_8 h0_9 h0_10 h0_11 σ0 p1 z3 hc3 sz9) 0 rfl rfl rfl ⟨rfl, rfl, rfl, rfl⟩ rfl (Nat.le_of_ble_eq_true rfl) ⟨Nat.le_of_ble_eq_true rfl, Nat.le_of_ble_eq_true rfl, Nat.zero_le _, Nat.zero_le _⟩ rfl ?_
    refine zq_if_ne (tgt := 21) (q := 17) G dX4_setForbidden_14 (by decide) rfl (fun c4 => ?_) (fun c4 => ?_)
    · have h := zie h c4
      refine zq_iconst (q := 22) (v := 0) G dX4_setForbidden_21 (by decide) rfl ?_
      exact zq_sub _ [0, 1, 2, 3] rfl (b22  _ _ _ _ _ h)
    · have h := zit h c4
      exact zq_sub _ [0, 1, 2, 3] rfl (b17  _ _ _ _ h)
set_option maxHeartbeats 4000000 in
set_option maxRecDepth 100000 in
theorem c_X4_costAt (l : Launch) (D : va_G) (cyI cyZ : ClassId) (h0_0 h0_1 h0_2 h0_3 h0_4 h0_5 h0_6 h0_7 h0_8 h0_9 h0_10 h0_11 : Nat) (σ0 : zM) (p0 : Int32) (p1 : Int32) (r : Int32) (o0 : zM) (h : s_X4_costAt σ0 p0 p1 = some (r, o0)) (sz : Nat) : zMi l yX4_costAt cX4_costAt 3 .int 2 46 D cyI cyZ sz [.ref h0_0, .int p0, .int p1] (w_M cyI cyZ h0_0 h0_1 h0_2 h0_3 h0_4 h0_5 h0_6 h0_7 h0_8 h0_9 h0_10 h0_11 σ0) r (w_M cyI cyZ h0_0 h0_1 h0_2 h0_3 h0_4 h0_5 h0_6 h0_7 h0_8 h0_9 h0_10 h0_11 o0) := by
  unfold s_X4_costAt at h
  refine zstartI (lv0 := [(0, .ref h0_0), (1, .int p0), (2, .int p1)]) (by decide) (Nat.le_of_ble_eq_true rfl) rfl (fun p e s m args below meth c G hr hlocks => ?_)
  have b17 : ∀ (τ0 : zM) (x1 : Int32) (x2 : Int32), s_X4_costAt_17 τ0 x1 x2 = some (r, o0) → zW p l e ({ frames := 2, cells := 0, slots := 0, locals := 46 } : Room) s m args below meth c D (va_A (w_M cyI cyZ h0_0 h0_1 h0_2 h0_3 h0_4 h0_5 h0_6 h0_7 h0_8 h0_9 h0_10 h0_11 σ0) sz) 3 0 0 (MQ below (zQi D cyI cyZ sz (w_M cyI cyZ h0_0 h0_1 h0_2 h0_3 h0_4 h0_5 h0_6 h0_7 h0_8 h0_9 h0_10 h0_11 σ0) r (w_M cyI cyZ h0_0 h0_1 h0_2 h0_3 h0_4 h0_5 h0_6 h0_7 h0_8 h0_9 h0_10 h0_11 o0)) args s 0 0 (va_A (w_M cyI cyZ h0_0 h0_1 h0_2 h0_3 h0_4 h0_5 h0_6 h0_7 h0_8 h0_9 h0_10 h0_11 σ0) sz)) 17 [(0, .ref h0_0), (1, .int x1), (2, .int x2)] [.ref h0_0] (w_M cyI cyZ h0_0 h0_1 h0_2 h0_3 h0_4 h0_5 h0_6 h0_7 h0_8 h0_9 h0_10 h0_11 τ0) := by
    intro τ0 x1 x2 h
    unfold s_X4_costAt_17 at h
    refine zq_iconst (q := 18) (v := 1) G dX4_costAt_17 (by decide) rfl ?_
    refine zq_goto (q := 22) G dX4_costAt_18 (by decide) ?_
    obtain ⟨z1, hc1, h⟩ := zbd h
    refine zq_callVi (q := 25) (ws2 := (w_M cyI cyZ h0_0 h0_1 h0_2 h0_3 h0_4 h0_5 h0_6 h0_7 h0_8 h0_9 h0_10 h0_11 z1.2)) (isC := [0, 1, 2, 3, 4, 5, 6, 7, 8, 9, 10, 11]) (isR := []) (perm := [0, 1, 2, 3, 4, 5, 6, 7, 8, 9, 10, 11]) (rest := []) (As := [.int (1 : Int32)]) G zs_X4_118 dX4_costAt_22 (fun sz9 => c_X4_isWrong l D cyI cyZ h0_0 h0_1 h0_2 h0_3 h0_4 h0_5 h0_6 h0_7 h0_8 h0_9 h0_10 h0_11 τ0 (1 : Int32) z1.1 z1.2 hc1 sz9) 0 rfl rfl rfl ⟨rfl, rfl, rfl, rfl⟩ rfl (Nat.le_of_ble_eq_true rfl) ⟨Nat.le_of_ble_eq_true rfl, Nat.le_of_ble_eq_true rfl, Nat.zero_le _, Nat.zero_le _⟩ rfl ?_
    refine zq_if_eq (tgt := 32) (q := 28) G dX4_costAt_25 (by decide) rfl (fun c2 => ?_) (fun c2 => ?_)
    · have h := zit h c2
      refine zq_aload_n (q := 33) G dX4_costAt_32 0 rfl rfl rfl ?_
      refine zq_iload_n (q := 34) G dX4_costAt_33 1 rfl rfl rfl ?_
      refine zq_iload_n (q := 35) G dX4_costAt_34 2 rfl rfl rfl ?_
      obtain ⟨z3, hc3, h⟩ := zbd h
      refine zq_callVi (q := 38) (ws2 := (w_M cyI cyZ h0_0 h0_1 h0_2 h0_3 h0_4 h0_5 h0_6 h0_7 h0_8 h0_9 h0_10 h0_11 z1.2)) (isC := [0, 1, 2, 3, 4, 5, 6, 7, 8, 9, 10, 11]) (isR := []) (perm := [0, 1, 2, 3, 4, 5, 6, 7, 8, 9, 10, 11]) (rest := []) (As := [.int x1, .int x2]) G zs_X4_75 dX4_costAt_35 (fun sz9 => c_X4_cost l D cyI cyZ h0_0 h0_1 h0_2 h0_3 h0_4 h0_5 h0_6 h0_7 h0_8 h0_9 h0_10 h0_11 z1.2 x1 x2 z3 hc3 sz9) 0 rfl rfl rfl ⟨rfl, rfl, rfl, rfl⟩ rfl (Nat.le_of_ble_eq_true rfl) ⟨Nat.le_of_ble_eq_true rfl, Nat.le_of_ble_eq_true rfl, Nat.zero_le _, Nat.zero_le _⟩ rfl ?_
      refine zq_ws (congrArg (fun w9 => (w_M cyI cyZ h0_0 h0_1 h0_2 h0_3 h0_4 h0_5 h0_6 h0_7 h0_8 h0_9 h0_10 h0_11 w9.2)) (zsome h)) ?_
      exact zq_iret G hlocks hr rfl dX4_costAt_38 (congrArg Prod.fst (zsome h))
    · have h := zie h c2
      refine zq_iconst (q := 29) (v := 0) G dX4_costAt_28 (by decide) rfl ?_
      refine zq_goto (q := 38) G dX4_costAt_29 (by decide) ?_
      refine zq_ws (congrArg (fun w9 => (w_M cyI cyZ h0_0 h0_1 h0_2 h0_3 h0_4 h0_5 h0_6 h0_7 h0_8 h0_9 h0_10 h0_11 w9.2)) (zsome h)) ?_
      exact zq_iret G hlocks hr rfl dX4_costAt_38 (congrArg Prod.fst (zsome h))
  refine zq_aload_n (q := 1) G dX4_costAt_0 0 rfl rfl rfl ?_
  refine zq_aload_n (q := 2) G dX4_costAt_1 0 rfl rfl rfl ?_
  refine zq_iload_n (q := 3) G dX4_costAt_2 1 rfl rfl rfl ?_
  obtain ⟨z1, hc1, h⟩ := zbd h
  refine zq_callVi (q := 6) (ws2 := (w_M cyI cyZ h0_0 h0_1 h0_2 h0_3 h0_4 h0_5 h0_6 h0_7 h0_8 h0_9 h0_10 h0_11 σ0)) (isC := [0, 1, 2, 3, 4, 5, 6, 7, 8, 9, 10, 11]) (isR := []) (perm := [0, 1, 2, 3, 4, 5, 6, 7, 8, 9, 10, 11]) (rest := [.ref h0_0]) (As := [.int p0]) G zs_X4_122 dX4_costAt_3 (fun sz9 => c_X4_isRow l D cyI cyZ h0_0 h0_1 h0_2 h0_3 h0_4 h0_5 h0_6 h0_7 h0_8 h0_9 h0_10 h0_11 σ0 p0 z1 hc1 sz9) 0 rfl rfl rfl ⟨rfl, rfl, rfl, rfl⟩ rfl (Nat.le_of_ble_eq_true rfl) ⟨Nat.le_of_ble_eq_true rfl, Nat.le_of_ble_eq_true rfl, Nat.zero_le _, Nat.zero_le _⟩ rfl ?_
  refine zq_if_eq (tgt := 17) (q := 9) G dX4_costAt_6 (by decide) rfl (fun c2 => ?_) (fun c2 => ?_)
  · have h := zit h c2
    exact zq_sub _ [0, 1, 2] rfl (b17  _ _ _ h)
  · have h := zie h c2
    refine zq_aload_n (q := 10) G dX4_costAt_9 0 rfl rfl rfl ?_
    refine zq_iload_n (q := 11) G dX4_costAt_10 2 rfl rfl rfl ?_
    obtain ⟨z3, hc3, h⟩ := zbd h
    refine zq_callVi (q := 14) (ws2 := (w_M cyI cyZ h0_0 h0_1 h0_2 h0_3 h0_4 h0_5 h0_6 h0_7 h0_8 h0_9 h0_10 h0_11 σ0)) (isC := [0, 1, 2, 3, 4, 5, 6, 7, 8, 9, 10, 11]) (isR := []) (perm := [0, 1, 2, 3, 4, 5, 6, 7, 8, 9, 10, 11]) (rest := [.ref h0_0]) (As := [.int p1]) G zs_X4_122 dX4_costAt_11 (fun sz9 => c_X4_isRow l D cyI cyZ h0_0 h0_1 h0_2 h0_3 h0_4 h0_5 h0_6 h0_7 h0_8 h0_9 h0_10 h0_11 σ0 p1 z3 hc3 sz9) 0 rfl rfl rfl ⟨rfl, rfl, rfl, rfl⟩ rfl (Nat.le_of_ble_eq_true rfl) ⟨Nat.le_of_ble_eq_true rfl, Nat.le_of_ble_eq_true rfl, Nat.zero_le _, Nat.zero_le _⟩ rfl ?_
    refine zq_if_ne (tgt := 21) (q := 17) G dX4_costAt_14 (by decide) rfl (fun c4 => ?_) (fun c4 => ?_)
    · have h := zie h c4
      refine zq_iconst (q := 22) (v := 0) G dX4_costAt_21 (by decide) rfl ?_
      obtain ⟨z5, hc5, h⟩ := zbd h
      refine zq_callVi (q := 25) (ws2 := (w_M cyI cyZ h0_0 h0_1 h0_2 h0_3 h0_4 h0_5 h0_6 h0_7 h0_8 h0_9 h0_10 h0_11 z5.2)) (isC := [0, 1, 2, 3, 4, 5, 6, 7, 8, 9, 10, 11]) (isR := []) (perm := [0, 1, 2, 3, 4, 5, 6, 7, 8, 9, 10, 11]) (rest := []) (As := [.int (0 : Int32)]) G zs_X4_118 dX4_costAt_22 (fun sz9 => c_X4_isWrong l D cyI cyZ h0_0 h0_1 h0_2 h0_3 h0_4 h0_5 h0_6 h0_7 h0_8 h0_9 h0_10 h0_11 σ0 (0 : Int32) z5.1 z5.2 hc5 sz9) 0 rfl rfl rfl ⟨rfl, rfl, rfl, rfl⟩ rfl (Nat.le_of_ble_eq_true rfl) ⟨Nat.le_of_ble_eq_true rfl, Nat.le_of_ble_eq_true rfl, Nat.zero_le _, Nat.zero_le _⟩ rfl ?_
      refine zq_if_eq (tgt := 32) (q := 28) G dX4_costAt_25 (by decide) rfl (fun c6 => ?_) (fun c6 => ?_)
      · have h := zit h c6
        refine zq_aload_n (q := 33) G dX4_costAt_32 0 rfl rfl rfl ?_
        refine zq_iload_n (q := 34) G dX4_costAt_33 1 rfl rfl rfl ?_
        refine zq_iload_n (q := 35) G dX4_costAt_34 2 rfl rfl rfl ?_
        obtain ⟨z7, hc7, h⟩ := zbd h
        refine zq_callVi (q := 38) (ws2 := (w_M cyI cyZ h0_0 h0_1 h0_2 h0_3 h0_4 h0_5 h0_6 h0_7 h0_8 h0_9 h0_10 h0_11 z5.2)) (isC := [0, 1, 2, 3, 4, 5, 6, 7, 8, 9, 10, 11]) (isR := []) (perm := [0, 1, 2, 3, 4, 5, 6, 7, 8, 9, 10, 11]) (rest := []) (As := [.int p0, .int p1]) G zs_X4_75 dX4_costAt_35 (fun sz9 => c_X4_cost l D cyI cyZ h0_0 h0_1 h0_2 h0_3 h0_4 h0_5 h0_6 h0_7 h0_8 h0_9 h0_10 h0_11 z5.2 p0 p1 z7 hc7 sz9) 0 rfl rfl rfl ⟨rfl, rfl, rfl, rfl⟩ rfl (Nat.le_of_ble_eq_true rfl) ⟨Nat.le_of_ble_eq_true rfl, Nat.le_of_ble_eq_true rfl, Nat.zero_le _, Nat.zero_le _⟩ rfl ?_
        refine zq_ws (congrArg (fun w9 => (w_M cyI cyZ h0_0 h0_1 h0_2 h0_3 h0_4 h0_5 h0_6 h0_7 h0_8 h0_9 h0_10 h0_11 w9.2)) (zsome h)) ?_
        exact zq_iret G hlocks hr rfl dX4_costAt_38 (congrArg Prod.fst (zsome h))
      · have h := zie h c6
        refine zq_iconst (q := 29) (v := 0) G dX4_costAt_28 (by decide) rfl ?_
        refine zq_goto (q := 38) G dX4_costAt_29 (by decide) ?_
        refine zq_ws (congrArg (fun w9 => (w_M cyI cyZ h0_0 h0_1 h0_2 h0_3 h0_4 h0_5 h0_6 h0_7 h0_8 h0_9 h0_10 h0_11 w9.2)) (zsome h)) ?_
        exact zq_iret G hlocks hr rfl dX4_costAt_38 (congrArg Prod.fst (zsome h))
    · have h := zit h c4
      exact zq_sub _ [0, 1, 2] rfl (b17  _ _ _ h)
set_option maxHeartbeats 4000000 in
set_option maxRecDepth 100000 in
theorem c_X4_rowSum (l : Launch) (D : va_G) (cyI cyZ : ClassId) (h0_0 h0_1 h0_2 h0_3 h0_4 h0_5 h0_6 h0_7 h0_8 h0_9 h0_10 h0_11 : Nat) (σ0 : zM) (p0 : Int32) (r : Int32) (h : s_X4_rowSum σ0 p0 = some r) (sz : Nat) : zMi l yX4_rowSum cX4_rowSum 4 .int 1 22 D cyI cyZ sz [.ref h0_0, .int p0] (w_M cyI cyZ h0_0 h0_1 h0_2 h0_3 h0_4 h0_5 h0_6 h0_7 h0_8 h0_9 h0_10 h0_11 σ0) r (w_M cyI cyZ h0_0 h0_1 h0_2 h0_3 h0_4 h0_5 h0_6 h0_7 h0_8 h0_9 h0_10 h0_11 σ0) := by
  unfold s_X4_rowSum at h
  refine zstartI (lv0 := [(0, .ref h0_0), (1, .int p0)]) (by decide) (Nat.le_of_ble_eq_true rfl) rfl (fun p e s m args below meth c G hr hlocks => ?_)
  have b4 : ∀ (n : Nat) (x1 : Int32) (x2 : Int32) (x3 : Int32), s_X4_rowSum_4 n σ0 x1 x2 x3 = some r → zW p l e ({ frames := 1, cells := 0, slots := 0, locals := 22 } : Room) s m args below meth c D (va_A (w_M cyI cyZ h0_0 h0_1 h0_2 h0_3 h0_4 h0_5 h0_6 h0_7 h0_8 h0_9 h0_10 h0_11 σ0) sz) 4 0 0 (MQ below (zQi D cyI cyZ sz (w_M cyI cyZ h0_0 h0_1 h0_2 h0_3 h0_4 h0_5 h0_6 h0_7 h0_8 h0_9 h0_10 h0_11 σ0) r (w_M cyI cyZ h0_0 h0_1 h0_2 h0_3 h0_4 h0_5 h0_6 h0_7 h0_8 h0_9 h0_10 h0_11 σ0)) args s 0 0 (va_A (w_M cyI cyZ h0_0 h0_1 h0_2 h0_3 h0_4 h0_5 h0_6 h0_7 h0_8 h0_9 h0_10 h0_11 σ0) sz)) 4 [(0, .ref h0_0), (1, .int x1), (2, .int x2), (3, .int x3)] [] (w_M cyI cyZ h0_0 h0_1 h0_2 h0_3 h0_4 h0_5 h0_6 h0_7 h0_8 h0_9 h0_10 h0_11 σ0) := by
    intro n
    induction n with
    | zero => intro x1 x2 x3 h; rw [s_X4_rowSum_4] at h; exact nomatch h
    | succ n ih =>
      intro x1 x2 x3 h
      rw [s_X4_rowSum_4] at h
      refine zq_iload_n (q := 5) G dX4_rowSum_4 3 rfl rfl rfl ?_
      refine zq_aload_n (q := 6) G dX4_rowSum_5 0 rfl rfl rfl ?_
      refine zq_get (q := 9) G zu_X4 rfl zw_X4_f7 dX4_rowSum_6 0 0 rfl (by decide) ⟨⟨rfl, rfl⟩, rfl⟩ rfl rfl ?_
      refine zq_icmp_ge (tgt := 27) (q := 12) G dX4_rowSum_9 (by decide) rfl (fun c1 => ?_) (fun c1 => ?_)
      · have h := zit h c1
        refine zq_iload_n (q := 28) G dX4_rowSum_27 2 rfl rfl rfl ?_
        exact zq_iret G hlocks hr rfl dX4_rowSum_28 (zsome h)
      · have h := zie h c1
        refine zq_iload_n (q := 13) G dX4_rowSum_12 2 rfl rfl rfl ?_
        refine zq_aload_n (q := 14) G dX4_rowSum_13 0 rfl rfl rfl ?_
        refine zq_iload_n (q := 15) G dX4_rowSum_14 1 rfl rfl rfl ?_
        refine zq_iload_n (q := 16) G dX4_rowSum_15 3 rfl rfl rfl ?_
        obtain ⟨z2, hc2, h⟩ := zbd h
        refine zq_callVi (q := 19) (ws2 := (w_M cyI cyZ h0_0 h0_1 h0_2 h0_3 h0_4 h0_5 h0_6 h0_7 h0_8 h0_9 h0_10 h0_11 σ0)) (isC := [0, 1, 2, 3, 4, 5, 6, 7, 8, 9, 10, 11]) (isR := []) (perm := [0, 1, 2, 3, 4, 5, 6, 7, 8, 9, 10, 11]) (rest := [.int x2]) (As := [.int x1, .int x3]) G zs_X4_75 dX4_rowSum_16 (fun sz9 => c_X4_cost l D cyI cyZ h0_0 h0_1 h0_2 h0_3 h0_4 h0_5 h0_6 h0_7 h0_8 h0_9 h0_10 h0_11 σ0 x1 x3 z2 hc2 sz9) 0 rfl rfl rfl ⟨rfl, rfl, rfl, rfl⟩ rfl (Nat.le_of_ble_eq_true rfl) ⟨Nat.le_of_ble_eq_true rfl, Nat.le_of_ble_eq_true rfl, Nat.zero_le _, Nat.zero_le _⟩ rfl ?_
        refine zq_iadd (q := 20) G dX4_rowSum_19 rfl ?_
        refine zq_istore_n (q := 21) (lv2 := [(2, .int (x2 + z2)), (0, .ref h0_0), (1, .int x1), (3, .int x3)]) G dX4_rowSum_20 rfl (by decide) rfl rfl ?_
        refine zq_iinc (q := 24) (v := (x3 + 1)) (lv2 := [(3, .int (x3 + 1)), (2, .int (x2 + z2)), (0, .ref h0_0), (1, .int x1)]) G dX4_rowSum_21 3 rfl rfl (by decide) rfl rfl ?_
        refine zq_goto (q := 4) G dX4_rowSum_24 (by decide) ?_
        exact zq_sub _ [2, 3, 1, 0] rfl (ih _ _ _ h)
  refine zq_iconst (q := 1) (v := 0) G dX4_rowSum_0 (by decide) rfl ?_
  refine zq_istore_n (q := 2) (lv2 := [(2, .int (0 : Int32)), (0, .ref h0_0), (1, .int p0)]) G dX4_rowSum_1 rfl (by decide) rfl rfl ?_
  refine zq_iconst (q := 3) (v := 0) G dX4_rowSum_2 (by decide) rfl ?_
  refine zq_istore_n (q := 4) (lv2 := [(3, .int (0 : Int32)), (2, .int (0 : Int32)), (0, .ref h0_0), (1, .int p0)]) G dX4_rowSum_3 rfl (by decide) rfl rfl ?_
  exact zq_sub _ [2, 3, 1, 0] rfl (b4  _ _ _ _ h)
set_option maxHeartbeats 4000000 in
set_option maxRecDepth 100000 in
theorem c_X4_columnSum (l : Launch) (D : va_G) (cyI cyZ : ClassId) (h0_0 h0_1 h0_2 h0_3 h0_4 h0_5 h0_6 h0_7 h0_8 h0_9 h0_10 h0_11 : Nat) (σ0 : zM) (p0 : Int32) (r : Int32) (h : s_X4_columnSum σ0 p0 = some r) (sz : Nat) : zMi l yX4_columnSum cX4_columnSum 4 .int 1 22 D cyI cyZ sz [.ref h0_0, .int p0] (w_M cyI cyZ h0_0 h0_1 h0_2 h0_3 h0_4 h0_5 h0_6 h0_7 h0_8 h0_9 h0_10 h0_11 σ0) r (w_M cyI cyZ h0_0 h0_1 h0_2 h0_3 h0_4 h0_5 h0_6 h0_7 h0_8 h0_9 h0_10 h0_11 σ0) := by
  unfold s_X4_columnSum at h
  refine zstartI (lv0 := [(0, .ref h0_0), (1, .int p0)]) (by decide) (Nat.le_of_ble_eq_true rfl) rfl (fun p e s m args below meth c G hr hlocks => ?_)
  have b4 : ∀ (n : Nat) (x1 : Int32) (x2 : Int32) (x3 : Int32), s_X4_columnSum_4 n σ0 x1 x2 x3 = some r → zW p l e ({ frames := 1, cells := 0, slots := 0, locals := 22 } : Room) s m args below meth c D (va_A (w_M cyI cyZ h0_0 h0_1 h0_2 h0_3 h0_4 h0_5 h0_6 h0_7 h0_8 h0_9 h0_10 h0_11 σ0) sz) 4 0 0 (MQ below (zQi D cyI cyZ sz (w_M cyI cyZ h0_0 h0_1 h0_2 h0_3 h0_4 h0_5 h0_6 h0_7 h0_8 h0_9 h0_10 h0_11 σ0) r (w_M cyI cyZ h0_0 h0_1 h0_2 h0_3 h0_4 h0_5 h0_6 h0_7 h0_8 h0_9 h0_10 h0_11 σ0)) args s 0 0 (va_A (w_M cyI cyZ h0_0 h0_1 h0_2 h0_3 h0_4 h0_5 h0_6 h0_7 h0_8 h0_9 h0_10 h0_11 σ0) sz)) 4 [(0, .ref h0_0), (1, .int x1), (2, .int x2), (3, .int x3)] [] (w_M cyI cyZ h0_0 h0_1 h0_2 h0_3 h0_4 h0_5 h0_6 h0_7 h0_8 h0_9 h0_10 h0_11 σ0) := by
    intro n
    induction n with
    | zero => intro x1 x2 x3 h; rw [s_X4_columnSum_4] at h; exact nomatch h
    | succ n ih =>
      intro x1 x2 x3 h
      rw [s_X4_columnSum_4] at h
      refine zq_iload_n (q := 5) G dX4_columnSum_4 3 rfl rfl rfl ?_
      refine zq_aload_n (q := 6) G dX4_columnSum_5 0 rfl rfl rfl ?_
      refine zq_get (q := 9) G zu_X4 rfl zw_X4_f7 dX4_columnSum_6 0 0 rfl (by decide) ⟨⟨rfl, rfl⟩, rfl⟩ rfl rfl ?_
      refine zq_icmp_ge (tgt := 27) (q := 12) G dX4_columnSum_9 (by decide) rfl (fun c1 => ?_) (fun c1 => ?_)
      · have h := zit h c1
        refine zq_iload_n (q := 28) G dX4_columnSum_27 2 rfl rfl rfl ?_
        exact zq_iret G hlocks hr rfl dX4_columnSum_28 (zsome h)
      · have h := zie h c1
        refine zq_iload_n (q := 13) G dX4_columnSum_12 2 rfl rfl rfl ?_
        refine zq_aload_n (q := 14) G dX4_columnSum_13 0 rfl rfl rfl ?_
        refine zq_iload_n (q := 15) G dX4_columnSum_14 3 rfl rfl rfl ?_
        refine zq_iload_n (q := 16) G dX4_columnSum_15 1 rfl rfl rfl ?_
        obtain ⟨z2, hc2, h⟩ := zbd h
        refine zq_callVi (q := 19) (ws2 := (w_M cyI cyZ h0_0 h0_1 h0_2 h0_3 h0_4 h0_5 h0_6 h0_7 h0_8 h0_9 h0_10 h0_11 σ0)) (isC := [0, 1, 2, 3, 4, 5, 6, 7, 8, 9, 10, 11]) (isR := []) (perm := [0, 1, 2, 3, 4, 5, 6, 7, 8, 9, 10, 11]) (rest := [.int x2]) (As := [.int x3, .int x1]) G zs_X4_75 dX4_columnSum_16 (fun sz9 => c_X4_cost l D cyI cyZ h0_0 h0_1 h0_2 h0_3 h0_4 h0_5 h0_6 h0_7 h0_8 h0_9 h0_10 h0_11 σ0 x3 x1 z2 hc2 sz9) 0 rfl rfl rfl ⟨rfl, rfl, rfl, rfl⟩ rfl (Nat.le_of_ble_eq_true rfl) ⟨Nat.le_of_ble_eq_true rfl, Nat.le_of_ble_eq_true rfl, Nat.zero_le _, Nat.zero_le _⟩ rfl ?_
        refine zq_iadd (q := 20) G dX4_columnSum_19 rfl ?_
        refine zq_istore_n (q := 21) (lv2 := [(2, .int (x2 + z2)), (0, .ref h0_0), (1, .int x1), (3, .int x3)]) G dX4_columnSum_20 rfl (by decide) rfl rfl ?_
        refine zq_iinc (q := 24) (v := (x3 + 1)) (lv2 := [(3, .int (x3 + 1)), (2, .int (x2 + z2)), (0, .ref h0_0), (1, .int x1)]) G dX4_columnSum_21 3 rfl rfl (by decide) rfl rfl ?_
        refine zq_goto (q := 4) G dX4_columnSum_24 (by decide) ?_
        exact zq_sub _ [2, 3, 1, 0] rfl (ih _ _ _ h)
  refine zq_iconst (q := 1) (v := 0) G dX4_columnSum_0 (by decide) rfl ?_
  refine zq_istore_n (q := 2) (lv2 := [(2, .int (0 : Int32)), (0, .ref h0_0), (1, .int p0)]) G dX4_columnSum_1 rfl (by decide) rfl rfl ?_
  refine zq_iconst (q := 3) (v := 0) G dX4_columnSum_2 (by decide) rfl ?_
  refine zq_istore_n (q := 4) (lv2 := [(3, .int (0 : Int32)), (2, .int (0 : Int32)), (0, .ref h0_0), (1, .int p0)]) G dX4_columnSum_3 rfl (by decide) rfl rfl ?_
  exact zq_sub _ [2, 3, 1, 0] rfl (b4  _ _ _ _ h)
set_option maxHeartbeats 4000000 in
set_option maxRecDepth 100000 in
theorem c_X4_takes (l : Launch) (D : va_G) (cyI cyZ : ClassId) (h0_0 h0_1 h0_2 h0_3 h0_4 h0_5 h0_6 h0_7 h0_8 h0_9 h0_10 h0_11 : Nat) (σ0 : zM) (p0 : Int32) (p1 : Int32) (p2 : Int32) (r : Int32) (h : s_X4_takes σ0 p0 p1 p2 = some r) (sz : Nat) : zMi l yX4_takes cX4_takes 4 .boolean 1 25 D cyI cyZ sz [.ref h0_0, .int p0, .int p1, .int p2] (w_M cyI cyZ h0_0 h0_1 h0_2 h0_3 h0_4 h0_5 h0_6 h0_7 h0_8 h0_9 h0_10 h0_11 σ0) r (w_M cyI cyZ h0_0 h0_1 h0_2 h0_3 h0_4 h0_5 h0_6 h0_7 h0_8 h0_9 h0_10 h0_11 σ0) := by
  unfold s_X4_takes at h
  refine zstartI (lv0 := [(0, .ref h0_0), (1, .int p0), (2, .int p1), (3, .int p2)]) (by decide) (Nat.le_of_ble_eq_true rfl) rfl (fun p e s m args below meth c G hr hlocks => ?_)
  refine zq_aload_n (q := 1) G dX4_takes_0 0 rfl rfl rfl ?_
  refine zq_get (q := 4) G zu_X4 rfl zw_X4_f29 dX4_takes_1 0 7 rfl (by decide) ⟨⟨rfl, rfl⟩, rfl⟩ rfl rfl ?_
  refine zq_bipush (q := 6) (v := 7) G dX4_takes_4 (by decide) rfl ?_
  refine zq_iload_n (q := 7) G dX4_takes_6 1 rfl rfl rfl ?_
  refine zq_imul (q := 8) G dX4_takes_7 rfl ?_
  refine zq_iload_n (q := 9) G dX4_takes_8 2 rfl rfl rfl ?_
  refine zq_iadd (q := 10) G dX4_takes_9 rfl ?_
  obtain ⟨q1, h⟩ := zif h
  refine zq_zald (q := 11) G dX4_takes_10 3 rfl q1 rfl ?_
  refine zq_if_ne (tgt := 42) (q := 14) G dX4_takes_11 (by decide) rfl (fun c2 => ?_) (fun c2 => ?_)
  · have h := zie h c2
    refine zq_iconst (q := 43) (v := 0) G dX4_takes_42 (by decide) rfl ?_
    exact zq_iret G hlocks hr rfl dX4_takes_43 (zsome h)
  · have h := zit h c2
    refine zq_aload_n (q := 15) G dX4_takes_14 0 rfl rfl rfl ?_
    refine zq_get (q := 18) G zu_X4 rfl zw_X4_f22 dX4_takes_15 0 5 rfl (by decide) ⟨⟨rfl, rfl⟩, rfl⟩ rfl rfl ?_
    refine zq_bipush (q := 20) (v := 7) G dX4_takes_18 (by decide) rfl ?_
    refine zq_iload_n (q := 21) G dX4_takes_20 1 rfl rfl rfl ?_
    refine zq_imul (q := 22) G dX4_takes_21 rfl ?_
    refine zq_iload_n (q := 23) G dX4_takes_22 2 rfl rfl rfl ?_
    refine zq_iadd (q := 24) G dX4_takes_23 rfl ?_
    obtain ⟨q3, h⟩ := zif h
    refine zq_iald (q := 25) G dX4_takes_24 1 rfl q3 rfl ?_
    refine zq_iload_n (q := 26) G dX4_takes_25 3 rfl rfl rfl ?_
    refine zq_iadd (q := 27) G dX4_takes_26 rfl ?_
    refine zq_i2l (q := 28) G dX4_takes_27 rfl ?_
    refine zq_lconst (q := 29) (v := 0) G dX4_takes_28 (by decide) rfl ?_
    refine zq_ldc2 (q := 32) G zw_X4_c128 dX4_takes_29 rfl ?_
    obtain ⟨z4, hc4, h⟩ := zbd h
    refine zq_callSi (q := 35) (ws2 := (w_M cyI cyZ h0_0 h0_1 h0_2 h0_3 h0_4 h0_5 h0_6 h0_7 h0_8 h0_9 h0_10 h0_11 σ0)) (isC := []) (isR := [0, 1, 2, 3, 4, 5, 6, 7, 8, 9, 10, 11]) (perm := [0, 1, 2, 3, 4, 5, 6, 7, 8, 9, 10, 11]) (rest := []) (As := [.long (((σ0.1.2.2.1 (((7 : Int32) * p0) + p1).toNatClampNeg) + p2).toInt64), .long (0 : Int64), .long (99 : Int64)]) G zs_X4_63 dX4_takes_32 (fun sz9 => c_X4_isIn l D cyI cyZ (((σ0.1.2.2.1 (((7 : Int32) * p0) + p1).toNatClampNeg) + p2).toInt64) (0 : Int64) (99 : Int64) z4 hc4 sz9) rfl ⟨rfl, rfl, rfl, rfl⟩ rfl (Nat.le_of_ble_eq_true rfl) ⟨Nat.le_of_ble_eq_true rfl, Nat.le_of_ble_eq_true rfl, Nat.zero_le _, Nat.zero_le _⟩ rfl ?_
    refine zq_if_eq (tgt := 42) (q := 38) G dX4_takes_35 (by decide) rfl (fun c5 => ?_) (fun c5 => ?_)
    · have h := zit h c5
      refine zq_iconst (q := 43) (v := 0) G dX4_takes_42 (by decide) rfl ?_
      exact zq_iret G hlocks hr rfl dX4_takes_43 (zsome h)
    · have h := zie h c5
      refine zq_iconst (q := 39) (v := 1) G dX4_takes_38 (by decide) rfl ?_
      refine zq_goto (q := 43) G dX4_takes_39 (by decide) ?_
      exact zq_iret G hlocks hr rfl dX4_takes_43 (zsome h)
set_option maxHeartbeats 4000000 in
set_option maxRecDepth 100000 in
theorem c_X4_addToRow (l : Launch) (D : va_G) (cyI cyZ : ClassId) (h0_0 h0_1 h0_2 h0_3 h0_4 h0_5 h0_6 h0_7 h0_8 h0_9 h0_10 h0_11 : Nat) (σ0 : zM) (p0 : Int32) (p1 : Int32) (r : Int32) (o0 : zM) (h : s_X4_addToRow σ0 p0 p1 = some (r, o0)) (sz : Nat) : zMi l yX4_addToRow cX4_addToRow 5 .int 2 48 D cyI cyZ sz [.ref h0_0, .int p0, .int p1] (w_M cyI cyZ h0_0 h0_1 h0_2 h0_3 h0_4 h0_5 h0_6 h0_7 h0_8 h0_9 h0_10 h0_11 σ0) r (w_M cyI cyZ h0_0 h0_1 h0_2 h0_3 h0_4 h0_5 h0_6 h0_7 h0_8 h0_9 h0_10 h0_11 o0) := by
  unfold s_X4_addToRow at h
  refine zstartI (lv0 := [(0, .ref h0_0), (1, .int p0), (2, .int p1)]) (by decide) (Nat.le_of_ble_eq_true rfl) rfl (fun p e s m args below meth c G hr hlocks => ?_)
  have b119 : ∀ (n : Nat) (τ0 : zM) (x1 : Int32) (x2 : Int32) (x4 : Int32), s_X4_addToRow_119 n τ0 x1 x2 x4 = some (r, o0) → zW p l e ({ frames := 2, cells := 0, slots := 0, locals := 48 } : Room) s m args below meth c D (va_A (w_M cyI cyZ h0_0 h0_1 h0_2 h0_3 h0_4 h0_5 h0_6 h0_7 h0_8 h0_9 h0_10 h0_11 σ0) sz) 5 0 0 (MQ below (zQi D cyI cyZ sz (w_M cyI cyZ h0_0 h0_1 h0_2 h0_3 h0_4 h0_5 h0_6 h0_7 h0_8 h0_9 h0_10 h0_11 σ0) r (w_M cyI cyZ h0_0 h0_1 h0_2 h0_3 h0_4 h0_5 h0_6 h0_7 h0_8 h0_9 h0_10 h0_11 o0)) args s 0 0 (va_A (w_M cyI cyZ h0_0 h0_1 h0_2 h0_3 h0_4 h0_5 h0_6 h0_7 h0_8 h0_9 h0_10 h0_11 σ0) sz)) 119 [(0, .ref h0_0), (1, .int x1), (2, .int x2), (4, .int x4)] [] (w_M cyI cyZ h0_0 h0_1 h0_2 h0_3 h0_4 h0_5 h0_6 h0_7 h0_8 h0_9 h0_10 h0_11 τ0) := by
    intro n
    induction n with
    | zero => intro τ0 x1 x2 x4 h; rw [s_X4_addToRow_119] at h; exact nomatch h
    | succ n ih =>
      intro τ0 x1 x2 x4 h
      rw [s_X4_addToRow_119] at h
      refine zq_iload (q := 121) G dX4_addToRow_119 3 rfl rfl ?_
      refine zq_aload_n (q := 122) G dX4_addToRow_121 0 rfl rfl rfl ?_
      refine zq_get (q := 125) G zu_X4 rfl zw_X4_f13 dX4_addToRow_122 0 1 rfl (by decide) ⟨⟨rfl, rfl⟩, rfl⟩ rfl rfl ?_
      refine zq_icmp_ge (tgt := 150) (q := 128) G dX4_addToRow_125 (by decide) rfl (fun c1 => ?_) (fun c1 => ?_)
      · have h := zit h c1
        refine zq_aload_n (q := 151) G dX4_addToRow_150 0 rfl rfl rfl ?_
        refine zq_iconst (q := 152) (v := -1) G dX4_addToRow_151 (by decide) rfl ?_
        refine zq_put (q := 155) (ws2 := (w_M cyI cyZ h0_0 h0_1 h0_2 h0_3 h0_4 h0_5 h0_6 h0_7 h0_8 h0_9 h0_10 h0_11 (τ0.1, τ0.2.1, τ0.2.2.1, ((-1 : Int32), τ0.2.2.2.1.2.1, τ0.2.2.2.1.2.2.1, τ0.2.2.2.1.2.2.2), τ0.2.2.2.2))) G zu_X4 rfl tyX4_ok nmX4 zw_X4_f48 dX4_addToRow_152 0 18 rfl (by decide) ⟨⟨rfl, rfl⟩, rfl⟩ rfl rfl rfl (Nat.le_of_ble_eq_true rfl) rfl rfl ?_
        refine zq_aload_n (q := 156) G dX4_addToRow_155 0 rfl rfl rfl ?_
        refine zq_iload_n (q := 157) G dX4_addToRow_156 1 rfl rfl rfl ?_
        obtain ⟨z2, hc2, h⟩ := zbd h
        refine zq_callVi (q := 160) (ws2 := (w_M cyI cyZ h0_0 h0_1 h0_2 h0_3 h0_4 h0_5 h0_6 h0_7 h0_8 h0_9 h0_10 h0_11 (τ0.1, τ0.2.1, τ0.2.2.1, ((-1 : Int32), τ0.2.2.2.1.2.1, τ0.2.2.2.1.2.2.1, τ0.2.2.2.1.2.2.2), τ0.2.2.2.2))) (isC := [0, 1, 2, 3, 4, 5, 6, 7, 8, 9, 10, 11]) (isR := []) (perm := [0, 1, 2, 3, 4, 5, 6, 7, 8, 9, 10, 11]) (rest := []) (As := [.int x1]) G zs_X4_144 dX4_addToRow_157 (fun sz9 => c_X4_rowSum l D cyI cyZ h0_0 h0_1 h0_2 h0_3 h0_4 h0_5 h0_6 h0_7 h0_8 h0_9 h0_10 h0_11 (τ0.1, τ0.2.1, τ0.2.2.1, ((-1 : Int32), τ0.2.2.2.1.2.1, τ0.2.2.2.1.2.2.1, τ0.2.2.2.1.2.2.2), τ0.2.2.2.2) x1 z2 hc2 sz9) 0 rfl rfl rfl ⟨rfl, rfl, rfl, rfl⟩ rfl (Nat.le_of_ble_eq_true rfl) ⟨Nat.le_of_ble_eq_true rfl, Nat.le_of_ble_eq_true rfl, Nat.zero_le _, Nat.zero_le _⟩ rfl ?_
        refine zq_ws (congrArg (fun w9 => (w_M cyI cyZ h0_0 h0_1 h0_2 h0_3 h0_4 h0_5 h0_6 h0_7 h0_8 h0_9 h0_10 h0_11 w9.2)) (zsome h)) ?_
        exact zq_iret G hlocks hr rfl dX4_addToRow_160 (congrArg Prod.fst (zsome h))
      · have h := zie h c1
        refine zq_aload_n (q := 129) G dX4_addToRow_128 0 rfl rfl rfl ?_
        refine zq_get (q := 132) G zu_X4 rfl zw_X4_f22 dX4_addToRow_129 0 5 rfl (by decide) ⟨⟨rfl, rfl⟩, rfl⟩ rfl rfl ?_
        refine zq_bipush (q := 134) (v := 7) G dX4_addToRow_132 (by decide) rfl ?_
        refine zq_iload_n (q := 135) G dX4_addToRow_134 1 rfl rfl rfl ?_
        refine zq_imul (q := 136) G dX4_addToRow_135 rfl ?_
        refine zq_iload (q := 138) G dX4_addToRow_136 3 rfl rfl ?_
        refine zq_iadd (q := 139) G dX4_addToRow_138 rfl ?_
        refine zq_dup2 (q := 140) G dX4_addToRow_139 rfl rfl rfl ?_
        obtain ⟨q3, h⟩ := zif h
        refine zq_iald (q := 141) G dX4_addToRow_140 1 rfl q3 rfl ?_
        refine zq_iload_n (q := 142) G dX4_addToRow_141 2 rfl rfl rfl ?_
        refine zq_iadd (q := 143) G dX4_addToRow_142 rfl ?_
        obtain ⟨q4, h⟩ := zif h
        refine zq_iast (q := 144) (ws2 := (w_M cyI cyZ h0_0 h0_1 h0_2 h0_3 h0_4 h0_5 h0_6 h0_7 h0_8 h0_9 h0_10 h0_11 ((τ0.1.1, τ0.1.2.1, (upd τ0.1.2.2.1 (((7 : Int32) * x1) + x4).toNatClampNeg ((τ0.1.2.2.1 (((7 : Int32) * x1) + x4).toNatClampNeg) + x2)), τ0.1.2.2.2), τ0.2.1, τ0.2.2.1, τ0.2.2.2.1, τ0.2.2.2.2))) G dX4_addToRow_143 1 rfl q4 rfl rfl ?_
        refine zq_iinc (q := 147) (v := (x4 + 1)) (lv2 := [(4, .int (x4 + 1)), (0, .ref h0_0), (1, .int x1), (2, .int x2)]) G dX4_addToRow_144 3 rfl rfl (by decide) rfl rfl ?_
        refine zq_goto (q := 119) G dX4_addToRow_147 (by decide) ?_
        exact zq_sub _ [1, 2, 3, 0] rfl (ih _ _ _ _ h)
  have b68 : ∀ (τ0 : zM) (x1 : Int32) (x2 : Int32) (x3 : Int32), s_X4_addToRow_68 τ0 x1 x2 x3 = some (r, o0) → zW p l e ({ frames := 2, cells := 0, slots := 0, locals := 48 } : Room) s m args below meth c D (va_A (w_M cyI cyZ h0_0 h0_1 h0_2 h0_3 h0_4 h0_5 h0_6 h0_7 h0_8 h0_9 h0_10 h0_11 σ0) sz) 5 0 0 (MQ below (zQi D cyI cyZ sz (w_M cyI cyZ h0_0 h0_1 h0_2 h0_3 h0_4 h0_5 h0_6 h0_7 h0_8 h0_9 h0_10 h0_11 σ0) r (w_M cyI cyZ h0_0 h0_1 h0_2 h0_3 h0_4 h0_5 h0_6 h0_7 h0_8 h0_9 h0_10 h0_11 o0)) args s 0 0 (va_A (w_M cyI cyZ h0_0 h0_1 h0_2 h0_3 h0_4 h0_5 h0_6 h0_7 h0_8 h0_9 h0_10 h0_11 σ0) sz)) 68 [(0, .ref h0_0), (1, .int x1), (2, .int x2), (3, .int x3)] [] (w_M cyI cyZ h0_0 h0_1 h0_2 h0_3 h0_4 h0_5 h0_6 h0_7 h0_8 h0_9 h0_10 h0_11 τ0) := by
    intro τ0 x1 x2 x3 h
    unfold s_X4_addToRow_68 at h
    refine zq_aload_n (q := 69) G dX4_addToRow_68 0 rfl rfl rfl ?_
    refine zq_aload_n (q := 70) G dX4_addToRow_69 0 rfl rfl rfl ?_
    refine zq_iload_n (q := 71) G dX4_addToRow_70 1 rfl rfl rfl ?_
    obtain ⟨z1, hc1, h⟩ := zbd h
    refine zq_callVi (q := 74) (ws2 := (w_M cyI cyZ h0_0 h0_1 h0_2 h0_3 h0_4 h0_5 h0_6 h0_7 h0_8 h0_9 h0_10 h0_11 τ0)) (isC := [0, 1, 2, 3, 4, 5, 6, 7, 8, 9, 10, 11]) (isR := []) (perm := [0, 1, 2, 3, 4, 5, 6, 7, 8, 9, 10, 11]) (rest := [.ref h0_0]) (As := [.int x1]) G zs_X4_122 dX4_addToRow_71 (fun sz9 => c_X4_isRow l D cyI cyZ h0_0 h0_1 h0_2 h0_3 h0_4 h0_5 h0_6 h0_7 h0_8 h0_9 h0_10 h0_11 τ0 x1 z1 hc1 sz9) 0 rfl rfl rfl ⟨rfl, rfl, rfl, rfl⟩ rfl (Nat.le_of_ble_eq_true rfl) ⟨Nat.le_of_ble_eq_true rfl, Nat.le_of_ble_eq_true rfl, Nat.zero_le _, Nat.zero_le _⟩ rfl ?_
    refine zq_if_ne (tgt := 81) (q := 77) G dX4_addToRow_74 (by decide) rfl (fun c2 => ?_) (fun c2 => ?_)
    · have h := zie h c2
      refine zq_iload_n (q := 82) G dX4_addToRow_81 2 rfl rfl rfl ?_
      refine zq_i2l (q := 83) G dX4_addToRow_82 rfl ?_
      refine zq_ldc2 (q := 86) G zw_X4_c138 dX4_addToRow_83 rfl ?_
      refine zq_ldc2 (q := 89) G zw_X4_c128 dX4_addToRow_86 rfl ?_
      obtain ⟨z3, hc3, h⟩ := zbd h
      refine zq_callSi (q := 92) (ws2 := (w_M cyI cyZ h0_0 h0_1 h0_2 h0_3 h0_4 h0_5 h0_6 h0_7 h0_8 h0_9 h0_10 h0_11 τ0)) (isC := []) (isR := [0, 1, 2, 3, 4, 5, 6, 7, 8, 9, 10, 11]) (perm := [0, 1, 2, 3, 4, 5, 6, 7, 8, 9, 10, 11]) (rest := [.ref h0_0]) (As := [.long x2.toInt64, .long (-99 : Int64), .long (99 : Int64)]) G zs_X4_63 dX4_addToRow_89 (fun sz9 => c_X4_isIn l D cyI cyZ x2.toInt64 (-99 : Int64) (99 : Int64) z3 hc3 sz9) rfl ⟨rfl, rfl, rfl, rfl⟩ rfl (Nat.le_of_ble_eq_true rfl) ⟨Nat.le_of_ble_eq_true rfl, Nat.le_of_ble_eq_true rfl, Nat.zero_le _, Nat.zero_le _⟩ rfl ?_
      refine zq_if_ne (tgt := 99) (q := 95) G dX4_addToRow_92 (by decide) rfl (fun c4 => ?_) (fun c4 => ?_)
      · have h := zie h c4
        refine zq_iload_n (q := 100) G dX4_addToRow_99 3 rfl rfl rfl ?_
        refine zq_if_ne (tgt := 107) (q := 103) G dX4_addToRow_100 (by decide) rfl (fun c5 => ?_) (fun c5 => ?_)
        · have h := zie h c5
          refine zq_iconst (q := 108) (v := 0) G dX4_addToRow_107 (by decide) rfl ?_
          obtain ⟨z6, hc6, h⟩ := zbd h
          refine zq_callVi (q := 111) (ws2 := (w_M cyI cyZ h0_0 h0_1 h0_2 h0_3 h0_4 h0_5 h0_6 h0_7 h0_8 h0_9 h0_10 h0_11 z6.2)) (isC := [0, 1, 2, 3, 4, 5, 6, 7, 8, 9, 10, 11]) (isR := []) (perm := [0, 1, 2, 3, 4, 5, 6, 7, 8, 9, 10, 11]) (rest := []) (As := [.int (0 : Int32)]) G zs_X4_118 dX4_addToRow_108 (fun sz9 => c_X4_isWrong l D cyI cyZ h0_0 h0_1 h0_2 h0_3 h0_4 h0_5 h0_6 h0_7 h0_8 h0_9 h0_10 h0_11 τ0 (0 : Int32) z6.1 z6.2 hc6 sz9) 0 rfl rfl rfl ⟨rfl, rfl, rfl, rfl⟩ rfl (Nat.le_of_ble_eq_true rfl) ⟨Nat.le_of_ble_eq_true rfl, Nat.le_of_ble_eq_true rfl, Nat.zero_le _, Nat.zero_le _⟩ rfl ?_
          refine zq_if_eq (tgt := 116) (q := 114) G dX4_addToRow_111 (by decide) rfl (fun c7 => ?_) (fun c7 => ?_)
          · have h := zit h c7
            refine zq_iconst (q := 117) (v := 0) G dX4_addToRow_116 (by decide) rfl ?_
            refine zq_istore (q := 119) (lv2 := [(4, .int (0 : Int32)), (0, .ref h0_0), (1, .int x1), (2, .int x2), (3, .int x3)]) G dX4_addToRow_117 (by decide) rfl rfl ?_
            exact zq_sub _ [1, 2, 3, 0] rfl (b119  _ _ _ _ _ h)
          · have h := zie h c7
            refine zq_iconst (q := 115) (v := 0) G dX4_addToRow_114 (by decide) rfl ?_
            refine zq_ws (congrArg (fun w9 => (w_M cyI cyZ h0_0 h0_1 h0_2 h0_3 h0_4 h0_5 h0_6 h0_7 h0_8 h0_9 h0_10 h0_11 w9.2)) (zsome h)) ?_
            exact zq_iret G hlocks hr rfl dX4_addToRow_115 (congrArg Prod.fst (zsome h))
        · have h := zit h c5
          refine zq_iconst (q := 104) (v := 3) G dX4_addToRow_103 (by decide) rfl ?_
          refine zq_goto (q := 108) G dX4_addToRow_104 (by decide) ?_
          obtain ⟨z8, hc8, h⟩ := zbd h
          refine zq_callVi (q := 111) (ws2 := (w_M cyI cyZ h0_0 h0_1 h0_2 h0_3 h0_4 h0_5 h0_6 h0_7 h0_8 h0_9 h0_10 h0_11 z8.2)) (isC := [0, 1, 2, 3, 4, 5, 6, 7, 8, 9, 10, 11]) (isR := []) (perm := [0, 1, 2, 3, 4, 5, 6, 7, 8, 9, 10, 11]) (rest := []) (As := [.int (3 : Int32)]) G zs_X4_118 dX4_addToRow_108 (fun sz9 => c_X4_isWrong l D cyI cyZ h0_0 h0_1 h0_2 h0_3 h0_4 h0_5 h0_6 h0_7 h0_8 h0_9 h0_10 h0_11 τ0 (3 : Int32) z8.1 z8.2 hc8 sz9) 0 rfl rfl rfl ⟨rfl, rfl, rfl, rfl⟩ rfl (Nat.le_of_ble_eq_true rfl) ⟨Nat.le_of_ble_eq_true rfl, Nat.le_of_ble_eq_true rfl, Nat.zero_le _, Nat.zero_le _⟩ rfl ?_
          refine zq_if_eq (tgt := 116) (q := 114) G dX4_addToRow_111 (by decide) rfl (fun c9 => ?_) (fun c9 => ?_)
          · have h := zit h c9
            refine zq_iconst (q := 117) (v := 0) G dX4_addToRow_116 (by decide) rfl ?_
            refine zq_istore (q := 119) (lv2 := [(4, .int (0 : Int32)), (0, .ref h0_0), (1, .int x1), (2, .int x2), (3, .int x3)]) G dX4_addToRow_117 (by decide) rfl rfl ?_
            exact zq_sub _ [1, 2, 3, 0] rfl (b119  _ _ _ _ _ h)
          · have h := zie h c9
            refine zq_iconst (q := 115) (v := 0) G dX4_addToRow_114 (by decide) rfl ?_
            refine zq_ws (congrArg (fun w9 => (w_M cyI cyZ h0_0 h0_1 h0_2 h0_3 h0_4 h0_5 h0_6 h0_7 h0_8 h0_9 h0_10 h0_11 w9.2)) (zsome h)) ?_
            exact zq_iret G hlocks hr rfl dX4_addToRow_115 (congrArg Prod.fst (zsome h))
      · have h := zit h c4
        refine zq_iconst (q := 96) (v := 2) G dX4_addToRow_95 (by decide) rfl ?_
        refine zq_goto (q := 108) G dX4_addToRow_96 (by decide) ?_
        obtain ⟨z10, hc10, h⟩ := zbd h
        refine zq_callVi (q := 111) (ws2 := (w_M cyI cyZ h0_0 h0_1 h0_2 h0_3 h0_4 h0_5 h0_6 h0_7 h0_8 h0_9 h0_10 h0_11 z10.2)) (isC := [0, 1, 2, 3, 4, 5, 6, 7, 8, 9, 10, 11]) (isR := []) (perm := [0, 1, 2, 3, 4, 5, 6, 7, 8, 9, 10, 11]) (rest := []) (As := [.int (2 : Int32)]) G zs_X4_118 dX4_addToRow_108 (fun sz9 => c_X4_isWrong l D cyI cyZ h0_0 h0_1 h0_2 h0_3 h0_4 h0_5 h0_6 h0_7 h0_8 h0_9 h0_10 h0_11 τ0 (2 : Int32) z10.1 z10.2 hc10 sz9) 0 rfl rfl rfl ⟨rfl, rfl, rfl, rfl⟩ rfl (Nat.le_of_ble_eq_true rfl) ⟨Nat.le_of_ble_eq_true rfl, Nat.le_of_ble_eq_true rfl, Nat.zero_le _, Nat.zero_le _⟩ rfl ?_
        refine zq_if_eq (tgt := 116) (q := 114) G dX4_addToRow_111 (by decide) rfl (fun c11 => ?_) (fun c11 => ?_)
        · have h := zit h c11
          refine zq_iconst (q := 117) (v := 0) G dX4_addToRow_116 (by decide) rfl ?_
          refine zq_istore (q := 119) (lv2 := [(4, .int (0 : Int32)), (0, .ref h0_0), (1, .int x1), (2, .int x2), (3, .int x3)]) G dX4_addToRow_117 (by decide) rfl rfl ?_
          exact zq_sub _ [1, 2, 3, 0] rfl (b119  _ _ _ _ _ h)
        · have h := zie h c11
          refine zq_iconst (q := 115) (v := 0) G dX4_addToRow_114 (by decide) rfl ?_
          refine zq_ws (congrArg (fun w9 => (w_M cyI cyZ h0_0 h0_1 h0_2 h0_3 h0_4 h0_5 h0_6 h0_7 h0_8 h0_9 h0_10 h0_11 w9.2)) (zsome h)) ?_
          exact zq_iret G hlocks hr rfl dX4_addToRow_115 (congrArg Prod.fst (zsome h))
    · have h := zit h c2
      refine zq_iconst (q := 78) (v := 1) G dX4_addToRow_77 (by decide) rfl ?_
      refine zq_goto (q := 108) G dX4_addToRow_78 (by decide) ?_
      obtain ⟨z12, hc12, h⟩ := zbd h
      refine zq_callVi (q := 111) (ws2 := (w_M cyI cyZ h0_0 h0_1 h0_2 h0_3 h0_4 h0_5 h0_6 h0_7 h0_8 h0_9 h0_10 h0_11 z12.2)) (isC := [0, 1, 2, 3, 4, 5, 6, 7, 8, 9, 10, 11]) (isR := []) (perm := [0, 1, 2, 3, 4, 5, 6, 7, 8, 9, 10, 11]) (rest := []) (As := [.int (1 : Int32)]) G zs_X4_118 dX4_addToRow_108 (fun sz9 => c_X4_isWrong l D cyI cyZ h0_0 h0_1 h0_2 h0_3 h0_4 h0_5 h0_6 h0_7 h0_8 h0_9 h0_10 h0_11 τ0 (1 : Int32) z12.1 z12.2 hc12 sz9) 0 rfl rfl rfl ⟨rfl, rfl, rfl, rfl⟩ rfl (Nat.le_of_ble_eq_true rfl) ⟨Nat.le_of_ble_eq_true rfl, Nat.le_of_ble_eq_true rfl, Nat.zero_le _, Nat.zero_le _⟩ rfl ?_
      refine zq_if_eq (tgt := 116) (q := 114) G dX4_addToRow_111 (by decide) rfl (fun c13 => ?_) (fun c13 => ?_)
      · have h := zit h c13
        refine zq_iconst (q := 117) (v := 0) G dX4_addToRow_116 (by decide) rfl ?_
        refine zq_istore (q := 119) (lv2 := [(4, .int (0 : Int32)), (0, .ref h0_0), (1, .int x1), (2, .int x2), (3, .int x3)]) G dX4_addToRow_117 (by decide) rfl rfl ?_
        exact zq_sub _ [1, 2, 3, 0] rfl (b119  _ _ _ _ _ h)
      · have h := zie h c13
        refine zq_iconst (q := 115) (v := 0) G dX4_addToRow_114 (by decide) rfl ?_
        refine zq_ws (congrArg (fun w9 => (w_M cyI cyZ h0_0 h0_1 h0_2 h0_3 h0_4 h0_5 h0_6 h0_7 h0_8 h0_9 h0_10 h0_11 w9.2)) (zsome h)) ?_
        exact zq_iret G hlocks hr rfl dX4_addToRow_115 (congrArg Prod.fst (zsome h))
  have b20 : ∀ (n : Nat) (τ0 : zM) (x1 : Int32) (x2 : Int32) (x3 : Int32) (x4 : Int32), s_X4_addToRow_20 n τ0 x1 x2 x3 x4 = some (r, o0) → zW p l e ({ frames := 2, cells := 0, slots := 0, locals := 48 } : Room) s m args below meth c D (va_A (w_M cyI cyZ h0_0 h0_1 h0_2 h0_3 h0_4 h0_5 h0_6 h0_7 h0_8 h0_9 h0_10 h0_11 σ0) sz) 5 0 0 (MQ below (zQi D cyI cyZ sz (w_M cyI cyZ h0_0 h0_1 h0_2 h0_3 h0_4 h0_5 h0_6 h0_7 h0_8 h0_9 h0_10 h0_11 σ0) r (w_M cyI cyZ h0_0 h0_1 h0_2 h0_3 h0_4 h0_5 h0_6 h0_7 h0_8 h0_9 h0_10 h0_11 o0)) args s 0 0 (va_A (w_M cyI cyZ h0_0 h0_1 h0_2 h0_3 h0_4 h0_5 h0_6 h0_7 h0_8 h0_9 h0_10 h0_11 σ0) sz)) 20 [(0, .ref h0_0), (1, .int x1), (2, .int x2), (3, .int x3), (4, .int x4)] [] (w_M cyI cyZ h0_0 h0_1 h0_2 h0_3 h0_4 h0_5 h0_6 h0_7 h0_8 h0_9 h0_10 h0_11 τ0) := by
    intro n
    induction n with
    | zero => intro τ0 x1 x2 x3 x4 h; rw [s_X4_addToRow_20] at h; exact nomatch h
    | succ n ih =>
      intro τ0 x1 x2 x3 x4 h
      rw [s_X4_addToRow_20] at h
      refine zq_aload_n (q := 21) G dX4_addToRow_20 0 rfl rfl rfl ?_
      refine zq_iload_n (q := 22) G dX4_addToRow_21 1 rfl rfl rfl ?_
      obtain ⟨z1, hc1, h⟩ := zbd h
      refine zq_callVi (q := 25) (ws2 := (w_M cyI cyZ h0_0 h0_1 h0_2 h0_3 h0_4 h0_5 h0_6 h0_7 h0_8 h0_9 h0_10 h0_11 τ0)) (isC := [0, 1, 2, 3, 4, 5, 6, 7, 8, 9, 10, 11]) (isR := []) (perm := [0, 1, 2, 3, 4, 5, 6, 7, 8, 9, 10, 11]) (rest := []) (As := [.int x1]) G zs_X4_122 dX4_addToRow_22 (fun sz9 => c_X4_isRow l D cyI cyZ h0_0 h0_1 h0_2 h0_3 h0_4 h0_5 h0_6 h0_7 h0_8 h0_9 h0_10 h0_11 τ0 x1 z1 hc1 sz9) 0 rfl rfl rfl ⟨rfl, rfl, rfl, rfl⟩ rfl (Nat.le_of_ble_eq_true rfl) ⟨Nat.le_of_ble_eq_true rfl, Nat.le_of_ble_eq_true rfl, Nat.zero_le _, Nat.zero_le _⟩ rfl ?_
      refine zq_if_eq (tgt := 68) (q := 28) G dX4_addToRow_25 (by decide) rfl (fun c2 => ?_) (fun c2 => ?_)
      · have h := zit h c2
        exact zq_sub _ [0, 1, 2, 3] rfl (b68  _ _ _ _ h)
      · have h := zie h c2
        refine zq_iload_n (q := 29) G dX4_addToRow_28 2 rfl rfl rfl ?_
        refine zq_i2l (q := 30) G dX4_addToRow_29 rfl ?_
        refine zq_ldc2 (q := 33) G zw_X4_c138 dX4_addToRow_30 rfl ?_
        refine zq_ldc2 (q := 36) G zw_X4_c128 dX4_addToRow_33 rfl ?_
        obtain ⟨z3, hc3, h⟩ := zbd h
        refine zq_callSi (q := 39) (ws2 := (w_M cyI cyZ h0_0 h0_1 h0_2 h0_3 h0_4 h0_5 h0_6 h0_7 h0_8 h0_9 h0_10 h0_11 τ0)) (isC := []) (isR := [0, 1, 2, 3, 4, 5, 6, 7, 8, 9, 10, 11]) (perm := [0, 1, 2, 3, 4, 5, 6, 7, 8, 9, 10, 11]) (rest := []) (As := [.long x2.toInt64, .long (-99 : Int64), .long (99 : Int64)]) G zs_X4_63 dX4_addToRow_36 (fun sz9 => c_X4_isIn l D cyI cyZ x2.toInt64 (-99 : Int64) (99 : Int64) z3 hc3 sz9) rfl ⟨rfl, rfl, rfl, rfl⟩ rfl (Nat.le_of_ble_eq_true rfl) ⟨Nat.le_of_ble_eq_true rfl, Nat.le_of_ble_eq_true rfl, Nat.zero_le _, Nat.zero_le _⟩ rfl ?_
        refine zq_if_eq (tgt := 68) (q := 42) G dX4_addToRow_39 (by decide) rfl (fun c4 => ?_) (fun c4 => ?_)
        · have h := zit h c4
          exact zq_sub _ [0, 1, 2, 3] rfl (b68  _ _ _ _ h)
        · have h := zie h c4
          refine zq_iload (q := 44) G dX4_addToRow_42 4 rfl rfl ?_
          refine zq_aload_n (q := 45) G dX4_addToRow_44 0 rfl rfl rfl ?_
          refine zq_get (q := 48) G zu_X4 rfl zw_X4_f13 dX4_addToRow_45 0 1 rfl (by decide) ⟨⟨rfl, rfl⟩, rfl⟩ rfl rfl ?_
          refine zq_icmp_ge (tgt := 68) (q := 51) G dX4_addToRow_48 (by decide) rfl (fun c5 => ?_) (fun c5 => ?_)
          · have h := zit h c5
            exact zq_sub _ [0, 1, 2, 3] rfl (b68  _ _ _ _ h)
          · have h := zie h c5
            refine zq_iload_n (q := 52) G dX4_addToRow_51 3 rfl rfl rfl ?_
            refine zq_aload_n (q := 53) G dX4_addToRow_52 0 rfl rfl rfl ?_
            refine zq_iload_n (q := 54) G dX4_addToRow_53 1 rfl rfl rfl ?_
            refine zq_iload (q := 56) G dX4_addToRow_54 4 rfl rfl ?_
            refine zq_iload_n (q := 57) G dX4_addToRow_56 2 rfl rfl rfl ?_
            obtain ⟨z6, hc6, h⟩ := zbd h
            refine zq_callVi (q := 60) (ws2 := (w_M cyI cyZ h0_0 h0_1 h0_2 h0_3 h0_4 h0_5 h0_6 h0_7 h0_8 h0_9 h0_10 h0_11 τ0)) (isC := [0, 1, 2, 3, 4, 5, 6, 7, 8, 9, 10, 11]) (isR := []) (perm := [0, 1, 2, 3, 4, 5, 6, 7, 8, 9, 10, 11]) (rest := [.int x3]) (As := [.int x1, .int x4, .int x2]) G zs_X4_140 dX4_addToRow_57 (fun sz9 => c_X4_takes l D cyI cyZ h0_0 h0_1 h0_2 h0_3 h0_4 h0_5 h0_6 h0_7 h0_8 h0_9 h0_10 h0_11 τ0 x1 x4 x2 z6 hc6 sz9) 0 rfl rfl rfl ⟨rfl, rfl, rfl, rfl⟩ rfl (Nat.le_of_ble_eq_true rfl) ⟨Nat.le_of_ble_eq_true rfl, Nat.le_of_ble_eq_true rfl, Nat.zero_le _, Nat.zero_le _⟩ rfl ?_
            refine zq_iand (q := 61) G dX4_addToRow_60 rfl ?_
            refine zq_istore_n (q := 62) (lv2 := [(3, .int (x3 &&& z6)), (0, .ref h0_0), (1, .int x1), (2, .int x2), (4, .int x4)]) G dX4_addToRow_61 rfl (by decide) rfl rfl ?_
            refine zq_iinc (q := 65) (v := (x4 + 1)) (lv2 := [(4, .int (x4 + 1)), (3, .int (x3 &&& z6)), (0, .ref h0_0), (1, .int x1), (2, .int x2)]) G dX4_addToRow_62 4 rfl rfl (by decide) rfl rfl ?_
            refine zq_goto (q := 20) G dX4_addToRow_65 (by decide) ?_
            exact zq_sub _ [2, 3, 4, 1, 0] rfl (ih _ _ _ _ _ h)
  refine zq_aload_n (q := 1) G dX4_addToRow_0 0 rfl rfl rfl ?_
  refine zq_get (q := 4) G zu_X4 rfl zw_X4_f13 dX4_addToRow_1 0 1 rfl (by decide) ⟨⟨rfl, rfl⟩, rfl⟩ rfl rfl ?_
  refine zq_aload_n (q := 5) G dX4_addToRow_4 0 rfl rfl rfl ?_
  refine zq_get (q := 8) G zu_X4 rfl zw_X4_f7 dX4_addToRow_5 0 0 rfl (by decide) ⟨⟨rfl, rfl⟩, rfl⟩ rfl rfl ?_
  refine zq_icmp_ne (tgt := 15) (q := 11) G dX4_addToRow_8 (by decide) rfl (fun c1 => ?_) (fun c1 => ?_)
  · have h := zie h c1
    refine zq_iconst (q := 16) (v := 0) G dX4_addToRow_15 (by decide) rfl ?_
    refine zq_istore_n (q := 17) (lv2 := [(3, .int (0 : Int32)), (0, .ref h0_0), (1, .int p0), (2, .int p1)]) G dX4_addToRow_16 rfl (by decide) rfl rfl ?_
    refine zq_iconst (q := 18) (v := 0) G dX4_addToRow_17 (by decide) rfl ?_
    refine zq_istore (q := 20) (lv2 := [(4, .int (0 : Int32)), (3, .int (0 : Int32)), (0, .ref h0_0), (1, .int p0), (2, .int p1)]) G dX4_addToRow_18 (by decide) rfl rfl ?_
    exact zq_sub _ [2, 3, 4, 1, 0] rfl (b20  _ _ _ _ _ _ h)
  · have h := zit h c1
    refine zq_iconst (q := 12) (v := 1) G dX4_addToRow_11 (by decide) rfl ?_
    refine zq_goto (q := 16) G dX4_addToRow_12 (by decide) ?_
    refine zq_istore_n (q := 17) (lv2 := [(3, .int (1 : Int32)), (0, .ref h0_0), (1, .int p0), (2, .int p1)]) G dX4_addToRow_16 rfl (by decide) rfl rfl ?_
    refine zq_iconst (q := 18) (v := 0) G dX4_addToRow_17 (by decide) rfl ?_
    refine zq_istore (q := 20) (lv2 := [(4, .int (0 : Int32)), (3, .int (1 : Int32)), (0, .ref h0_0), (1, .int p0), (2, .int p1)]) G dX4_addToRow_18 (by decide) rfl rfl ?_
    exact zq_sub _ [2, 3, 4, 1, 0] rfl (b20  _ _ _ _ _ _ h)
set_option maxHeartbeats 4000000 in
set_option maxRecDepth 100000 in
theorem c_X4_addToColumn (l : Launch) (D : va_G) (cyI cyZ : ClassId) (h0_0 h0_1 h0_2 h0_3 h0_4 h0_5 h0_6 h0_7 h0_8 h0_9 h0_10 h0_11 : Nat) (σ0 : zM) (p0 : Int32) (p1 : Int32) (r : Int32) (o0 : zM) (h : s_X4_addToColumn σ0 p0 p1 = some (r, o0)) (sz : Nat) : zMi l yX4_addToColumn cX4_addToColumn 5 .int 2 48 D cyI cyZ sz [.ref h0_0, .int p0, .int p1] (w_M cyI cyZ h0_0 h0_1 h0_2 h0_3 h0_4 h0_5 h0_6 h0_7 h0_8 h0_9 h0_10 h0_11 σ0) r (w_M cyI cyZ h0_0 h0_1 h0_2 h0_3 h0_4 h0_5 h0_6 h0_7 h0_8 h0_9 h0_10 h0_11 o0) := by
  unfold s_X4_addToColumn at h
  refine zstartI (lv0 := [(0, .ref h0_0), (1, .int p0), (2, .int p1)]) (by decide) (Nat.le_of_ble_eq_true rfl) rfl (fun p e s m args below meth c G hr hlocks => ?_)
  have b104 : ∀ (n : Nat) (τ0 : zM) (x1 : Int32) (x2 : Int32) (x4 : Int32), s_X4_addToColumn_104 n τ0 x1 x2 x4 = some (r, o0) → zW p l e ({ frames := 2, cells := 0, slots := 0, locals := 48 } : Room) s m args below meth c D (va_A (w_M cyI cyZ h0_0 h0_1 h0_2 h0_3 h0_4 h0_5 h0_6 h0_7 h0_8 h0_9 h0_10 h0_11 σ0) sz) 5 0 0 (MQ below (zQi D cyI cyZ sz (w_M cyI cyZ h0_0 h0_1 h0_2 h0_3 h0_4 h0_5 h0_6 h0_7 h0_8 h0_9 h0_10 h0_11 σ0) r (w_M cyI cyZ h0_0 h0_1 h0_2 h0_3 h0_4 h0_5 h0_6 h0_7 h0_8 h0_9 h0_10 h0_11 o0)) args s 0 0 (va_A (w_M cyI cyZ h0_0 h0_1 h0_2 h0_3 h0_4 h0_5 h0_6 h0_7 h0_8 h0_9 h0_10 h0_11 σ0) sz)) 104 [(0, .ref h0_0), (1, .int x1), (2, .int x2), (4, .int x4)] [] (w_M cyI cyZ h0_0 h0_1 h0_2 h0_3 h0_4 h0_5 h0_6 h0_7 h0_8 h0_9 h0_10 h0_11 τ0) := by
    intro n
    induction n with
    | zero => intro τ0 x1 x2 x4 h; rw [s_X4_addToColumn_104] at h; exact nomatch h
    | succ n ih =>
      intro τ0 x1 x2 x4 h
      rw [s_X4_addToColumn_104] at h
      refine zq_iload (q := 106) G dX4_addToColumn_104 3 rfl rfl ?_
      refine zq_aload_n (q := 107) G dX4_addToColumn_106 0 rfl rfl rfl ?_
      refine zq_get (q := 110) G zu_X4 rfl zw_X4_f7 dX4_addToColumn_107 0 0 rfl (by decide) ⟨⟨rfl, rfl⟩, rfl⟩ rfl rfl ?_
      refine zq_icmp_ge (tgt := 135) (q := 113) G dX4_addToColumn_110 (by decide) rfl (fun c1 => ?_) (fun c1 => ?_)
      · have h := zit h c1
        refine zq_aload_n (q := 136) G dX4_addToColumn_135 0 rfl rfl rfl ?_
        refine zq_iconst (q := 137) (v := -1) G dX4_addToColumn_136 (by decide) rfl ?_
        refine zq_put (q := 140) (ws2 := (w_M cyI cyZ h0_0 h0_1 h0_2 h0_3 h0_4 h0_5 h0_6 h0_7 h0_8 h0_9 h0_10 h0_11 (τ0.1, τ0.2.1, τ0.2.2.1, ((-1 : Int32), τ0.2.2.2.1.2.1, τ0.2.2.2.1.2.2.1, τ0.2.2.2.1.2.2.2), τ0.2.2.2.2))) G zu_X4 rfl tyX4_ok nmX4 zw_X4_f48 dX4_addToColumn_137 0 18 rfl (by decide) ⟨⟨rfl, rfl⟩, rfl⟩ rfl rfl rfl (Nat.le_of_ble_eq_true rfl) rfl rfl ?_
        refine zq_aload_n (q := 141) G dX4_addToColumn_140 0 rfl rfl rfl ?_
        refine zq_iload_n (q := 142) G dX4_addToColumn_141 1 rfl rfl rfl ?_
        obtain ⟨z2, hc2, h⟩ := zbd h
        refine zq_callVi (q := 145) (ws2 := (w_M cyI cyZ h0_0 h0_1 h0_2 h0_3 h0_4 h0_5 h0_6 h0_7 h0_8 h0_9 h0_10 h0_11 (τ0.1, τ0.2.1, τ0.2.2.1, ((-1 : Int32), τ0.2.2.2.1.2.1, τ0.2.2.2.1.2.2.1, τ0.2.2.2.1.2.2.2), τ0.2.2.2.2))) (isC := [0, 1, 2, 3, 4, 5, 6, 7, 8, 9, 10, 11]) (isR := []) (perm := [0, 1, 2, 3, 4, 5, 6, 7, 8, 9, 10, 11]) (rest := []) (As := [.int x1]) G zs_X4_147 dX4_addToColumn_142 (fun sz9 => c_X4_columnSum l D cyI cyZ h0_0 h0_1 h0_2 h0_3 h0_4 h0_5 h0_6 h0_7 h0_8 h0_9 h0_10 h0_11 (τ0.1, τ0.2.1, τ0.2.2.1, ((-1 : Int32), τ0.2.2.2.1.2.1, τ0.2.2.2.1.2.2.1, τ0.2.2.2.1.2.2.2), τ0.2.2.2.2) x1 z2 hc2 sz9) 0 rfl rfl rfl ⟨rfl, rfl, rfl, rfl⟩ rfl (Nat.le_of_ble_eq_true rfl) ⟨Nat.le_of_ble_eq_true rfl, Nat.le_of_ble_eq_true rfl, Nat.zero_le _, Nat.zero_le _⟩ rfl ?_
        refine zq_ws (congrArg (fun w9 => (w_M cyI cyZ h0_0 h0_1 h0_2 h0_3 h0_4 h0_5 h0_6 h0_7 h0_8 h0_9 h0_10 h0_11 w9.2)) (zsome h)) ?_
        exact zq_iret G hlocks hr rfl dX4_addToColumn_145 (congrArg Prod.fst (zsome h))
      · have h := zie h c1
        refine zq_aload_n (q := 114) G dX4_addToColumn_113 0 rfl rfl rfl ?_
        refine zq_get (q := 117) G zu_X4 rfl zw_X4_f22 dX4_addToColumn_114 0 5 rfl (by decide) ⟨⟨rfl, rfl⟩, rfl⟩ rfl rfl ?_
        refine zq_bipush (q := 119) (v := 7) G dX4_addToColumn_117 (by decide) rfl ?_
        refine zq_iload (q := 121) G dX4_addToColumn_119 3 rfl rfl ?_
        refine zq_imul (q := 122) G dX4_addToColumn_121 rfl ?_
        refine zq_iload_n (q := 123) G dX4_addToColumn_122 1 rfl rfl rfl ?_
        refine zq_iadd (q := 124) G dX4_addToColumn_123 rfl ?_
        refine zq_dup2 (q := 125) G dX4_addToColumn_124 rfl rfl rfl ?_
        obtain ⟨q3, h⟩ := zif h
        refine zq_iald (q := 126) G dX4_addToColumn_125 1 rfl q3 rfl ?_
        refine zq_iload_n (q := 127) G dX4_addToColumn_126 2 rfl rfl rfl ?_
        refine zq_iadd (q := 128) G dX4_addToColumn_127 rfl ?_
        obtain ⟨q4, h⟩ := zif h
        refine zq_iast (q := 129) (ws2 := (w_M cyI cyZ h0_0 h0_1 h0_2 h0_3 h0_4 h0_5 h0_6 h0_7 h0_8 h0_9 h0_10 h0_11 ((τ0.1.1, τ0.1.2.1, (upd τ0.1.2.2.1 (((7 : Int32) * x4) + x1).toNatClampNeg ((τ0.1.2.2.1 (((7 : Int32) * x4) + x1).toNatClampNeg) + x2)), τ0.1.2.2.2), τ0.2.1, τ0.2.2.1, τ0.2.2.2.1, τ0.2.2.2.2))) G dX4_addToColumn_128 1 rfl q4 rfl rfl ?_
        refine zq_iinc (q := 132) (v := (x4 + 1)) (lv2 := [(4, .int (x4 + 1)), (0, .ref h0_0), (1, .int x1), (2, .int x2)]) G dX4_addToColumn_129 3 rfl rfl (by decide) rfl rfl ?_
        refine zq_goto (q := 104) G dX4_addToColumn_132 (by decide) ?_
        exact zq_sub _ [1, 2, 3, 0] rfl (ih _ _ _ _ h)
  have b53 : ∀ (τ0 : zM) (x1 : Int32) (x2 : Int32) (x3 : Int32), s_X4_addToColumn_53 τ0 x1 x2 x3 = some (r, o0) → zW p l e ({ frames := 2, cells := 0, slots := 0, locals := 48 } : Room) s m args below meth c D (va_A (w_M cyI cyZ h0_0 h0_1 h0_2 h0_3 h0_4 h0_5 h0_6 h0_7 h0_8 h0_9 h0_10 h0_11 σ0) sz) 5 0 0 (MQ below (zQi D cyI cyZ sz (w_M cyI cyZ h0_0 h0_1 h0_2 h0_3 h0_4 h0_5 h0_6 h0_7 h0_8 h0_9 h0_10 h0_11 σ0) r (w_M cyI cyZ h0_0 h0_1 h0_2 h0_3 h0_4 h0_5 h0_6 h0_7 h0_8 h0_9 h0_10 h0_11 o0)) args s 0 0 (va_A (w_M cyI cyZ h0_0 h0_1 h0_2 h0_3 h0_4 h0_5 h0_6 h0_7 h0_8 h0_9 h0_10 h0_11 σ0) sz)) 53 [(0, .ref h0_0), (1, .int x1), (2, .int x2), (3, .int x3)] [] (w_M cyI cyZ h0_0 h0_1 h0_2 h0_3 h0_4 h0_5 h0_6 h0_7 h0_8 h0_9 h0_10 h0_11 τ0) := by
    intro τ0 x1 x2 x3 h
    unfold s_X4_addToColumn_53 at h
    refine zq_aload_n (q := 54) G dX4_addToColumn_53 0 rfl rfl rfl ?_
    refine zq_aload_n (q := 55) G dX4_addToColumn_54 0 rfl rfl rfl ?_
    refine zq_iload_n (q := 56) G dX4_addToColumn_55 1 rfl rfl rfl ?_
    obtain ⟨z1, hc1, h⟩ := zbd h
    refine zq_callVi (q := 59) (ws2 := (w_M cyI cyZ h0_0 h0_1 h0_2 h0_3 h0_4 h0_5 h0_6 h0_7 h0_8 h0_9 h0_10 h0_11 τ0)) (isC := [0, 1, 2, 3, 4, 5, 6, 7, 8, 9, 10, 11]) (isR := []) (perm := [0, 1, 2, 3, 4, 5, 6, 7, 8, 9, 10, 11]) (rest := [.ref h0_0]) (As := [.int x1]) G zs_X4_125 dX4_addToColumn_56 (fun sz9 => c_X4_isReal l D cyI cyZ h0_0 h0_1 h0_2 h0_3 h0_4 h0_5 h0_6 h0_7 h0_8 h0_9 h0_10 h0_11 τ0 x1 z1 hc1 sz9) 0 rfl rfl rfl ⟨rfl, rfl, rfl, rfl⟩ rfl (Nat.le_of_ble_eq_true rfl) ⟨Nat.le_of_ble_eq_true rfl, Nat.le_of_ble_eq_true rfl, Nat.zero_le _, Nat.zero_le _⟩ rfl ?_
    refine zq_if_ne (tgt := 66) (q := 62) G dX4_addToColumn_59 (by decide) rfl (fun c2 => ?_) (fun c2 => ?_)
    · have h := zie h c2
      refine zq_iload_n (q := 67) G dX4_addToColumn_66 2 rfl rfl rfl ?_
      refine zq_i2l (q := 68) G dX4_addToColumn_67 rfl ?_
      refine zq_ldc2 (q := 71) G zw_X4_c138 dX4_addToColumn_68 rfl ?_
      refine zq_ldc2 (q := 74) G zw_X4_c128 dX4_addToColumn_71 rfl ?_
      obtain ⟨z3, hc3, h⟩ := zbd h
      refine zq_callSi (q := 77) (ws2 := (w_M cyI cyZ h0_0 h0_1 h0_2 h0_3 h0_4 h0_5 h0_6 h0_7 h0_8 h0_9 h0_10 h0_11 τ0)) (isC := []) (isR := [0, 1, 2, 3, 4, 5, 6, 7, 8, 9, 10, 11]) (perm := [0, 1, 2, 3, 4, 5, 6, 7, 8, 9, 10, 11]) (rest := [.ref h0_0]) (As := [.long x2.toInt64, .long (-99 : Int64), .long (99 : Int64)]) G zs_X4_63 dX4_addToColumn_74 (fun sz9 => c_X4_isIn l D cyI cyZ x2.toInt64 (-99 : Int64) (99 : Int64) z3 hc3 sz9) rfl ⟨rfl, rfl, rfl, rfl⟩ rfl (Nat.le_of_ble_eq_true rfl) ⟨Nat.le_of_ble_eq_true rfl, Nat.le_of_ble_eq_true rfl, Nat.zero_le _, Nat.zero_le _⟩ rfl ?_
      refine zq_if_ne (tgt := 84) (q := 80) G dX4_addToColumn_77 (by decide) rfl (fun c4 => ?_) (fun c4 => ?_)
      · have h := zie h c4
        refine zq_iload_n (q := 85) G dX4_addToColumn_84 3 rfl rfl rfl ?_
        refine zq_if_ne (tgt := 92) (q := 88) G dX4_addToColumn_85 (by decide) rfl (fun c5 => ?_) (fun c5 => ?_)
        · have h := zie h c5
          refine zq_iconst (q := 93) (v := 0) G dX4_addToColumn_92 (by decide) rfl ?_
          obtain ⟨z6, hc6, h⟩ := zbd h
          refine zq_callVi (q := 96) (ws2 := (w_M cyI cyZ h0_0 h0_1 h0_2 h0_3 h0_4 h0_5 h0_6 h0_7 h0_8 h0_9 h0_10 h0_11 z6.2)) (isC := [0, 1, 2, 3, 4, 5, 6, 7, 8, 9, 10, 11]) (isR := []) (perm := [0, 1, 2, 3, 4, 5, 6, 7, 8, 9, 10, 11]) (rest := []) (As := [.int (0 : Int32)]) G zs_X4_118 dX4_addToColumn_93 (fun sz9 => c_X4_isWrong l D cyI cyZ h0_0 h0_1 h0_2 h0_3 h0_4 h0_5 h0_6 h0_7 h0_8 h0_9 h0_10 h0_11 τ0 (0 : Int32) z6.1 z6.2 hc6 sz9) 0 rfl rfl rfl ⟨rfl, rfl, rfl, rfl⟩ rfl (Nat.le_of_ble_eq_true rfl) ⟨Nat.le_of_ble_eq_true rfl, Nat.le_of_ble_eq_true rfl, Nat.zero_le _, Nat.zero_le _⟩ rfl ?_
          refine zq_if_eq (tgt := 101) (q := 99) G dX4_addToColumn_96 (by decide) rfl (fun c7 => ?_) (fun c7 => ?_)
          · have h := zit h c7
            refine zq_iconst (q := 102) (v := 0) G dX4_addToColumn_101 (by decide) rfl ?_
            refine zq_istore (q := 104) (lv2 := [(4, .int (0 : Int32)), (0, .ref h0_0), (1, .int x1), (2, .int x2), (3, .int x3)]) G dX4_addToColumn_102 (by decide) rfl rfl ?_
            exact zq_sub _ [1, 2, 3, 0] rfl (b104  _ _ _ _ _ h)
          · have h := zie h c7
            refine zq_iconst (q := 100) (v := 0) G dX4_addToColumn_99 (by decide) rfl ?_
            refine zq_ws (congrArg (fun w9 => (w_M cyI cyZ h0_0 h0_1 h0_2 h0_3 h0_4 h0_5 h0_6 h0_7 h0_8 h0_9 h0_10 h0_11 w9.2)) (zsome h)) ?_
            exact zq_iret G hlocks hr rfl dX4_addToColumn_100 (congrArg Prod.fst (zsome h))
        · have h := zit h c5
          refine zq_iconst (q := 89) (v := 3) G dX4_addToColumn_88 (by decide) rfl ?_
          refine zq_goto (q := 93) G dX4_addToColumn_89 (by decide) ?_
          obtain ⟨z8, hc8, h⟩ := zbd h
          refine zq_callVi (q := 96) (ws2 := (w_M cyI cyZ h0_0 h0_1 h0_2 h0_3 h0_4 h0_5 h0_6 h0_7 h0_8 h0_9 h0_10 h0_11 z8.2)) (isC := [0, 1, 2, 3, 4, 5, 6, 7, 8, 9, 10, 11]) (isR := []) (perm := [0, 1, 2, 3, 4, 5, 6, 7, 8, 9, 10, 11]) (rest := []) (As := [.int (3 : Int32)]) G zs_X4_118 dX4_addToColumn_93 (fun sz9 => c_X4_isWrong l D cyI cyZ h0_0 h0_1 h0_2 h0_3 h0_4 h0_5 h0_6 h0_7 h0_8 h0_9 h0_10 h0_11 τ0 (3 : Int32) z8.1 z8.2 hc8 sz9) 0 rfl rfl rfl ⟨rfl, rfl, rfl, rfl⟩ rfl (Nat.le_of_ble_eq_true rfl) ⟨Nat.le_of_ble_eq_true rfl, Nat.le_of_ble_eq_true rfl, Nat.zero_le _, Nat.zero_le _⟩ rfl ?_
          refine zq_if_eq (tgt := 101) (q := 99) G dX4_addToColumn_96 (by decide) rfl (fun c9 => ?_) (fun c9 => ?_)
          · have h := zit h c9
            refine zq_iconst (q := 102) (v := 0) G dX4_addToColumn_101 (by decide) rfl ?_
            refine zq_istore (q := 104) (lv2 := [(4, .int (0 : Int32)), (0, .ref h0_0), (1, .int x1), (2, .int x2), (3, .int x3)]) G dX4_addToColumn_102 (by decide) rfl rfl ?_
            exact zq_sub _ [1, 2, 3, 0] rfl (b104  _ _ _ _ _ h)
          · have h := zie h c9
            refine zq_iconst (q := 100) (v := 0) G dX4_addToColumn_99 (by decide) rfl ?_
            refine zq_ws (congrArg (fun w9 => (w_M cyI cyZ h0_0 h0_1 h0_2 h0_3 h0_4 h0_5 h0_6 h0_7 h0_8 h0_9 h0_10 h0_11 w9.2)) (zsome h)) ?_
            exact zq_iret G hlocks hr rfl dX4_addToColumn_100 (congrArg Prod.fst (zsome h))
      · have h := zit h c4
        refine zq_iconst (q := 81) (v := 2) G dX4_addToColumn_80 (by decide) rfl ?_
        refine zq_goto (q := 93) G dX4_addToColumn_81 (by decide) ?_
        obtain ⟨z10, hc10, h⟩ := zbd h
        refine zq_callVi (q := 96) (ws2 := (w_M cyI cyZ h0_0 h0_1 h0_2 h0_3 h0_4 h0_5 h0_6 h0_7 h0_8 h0_9 h0_10 h0_11 z10.2)) (isC := [0, 1, 2, 3, 4, 5, 6, 7, 8, 9, 10, 11]) (isR := []) (perm := [0, 1, 2, 3, 4, 5, 6, 7, 8, 9, 10, 11]) (rest := []) (As := [.int (2 : Int32)]) G zs_X4_118 dX4_addToColumn_93 (fun sz9 => c_X4_isWrong l D cyI cyZ h0_0 h0_1 h0_2 h0_3 h0_4 h0_5 h0_6 h0_7 h0_8 h0_9 h0_10 h0_11 τ0 (2 : Int32) z10.1 z10.2 hc10 sz9) 0 rfl rfl rfl ⟨rfl, rfl, rfl, rfl⟩ rfl (Nat.le_of_ble_eq_true rfl) ⟨Nat.le_of_ble_eq_true rfl, Nat.le_of_ble_eq_true rfl, Nat.zero_le _, Nat.zero_le _⟩ rfl ?_
        refine zq_if_eq (tgt := 101) (q := 99) G dX4_addToColumn_96 (by decide) rfl (fun c11 => ?_) (fun c11 => ?_)
        · have h := zit h c11
          refine zq_iconst (q := 102) (v := 0) G dX4_addToColumn_101 (by decide) rfl ?_
          refine zq_istore (q := 104) (lv2 := [(4, .int (0 : Int32)), (0, .ref h0_0), (1, .int x1), (2, .int x2), (3, .int x3)]) G dX4_addToColumn_102 (by decide) rfl rfl ?_
          exact zq_sub _ [1, 2, 3, 0] rfl (b104  _ _ _ _ _ h)
        · have h := zie h c11
          refine zq_iconst (q := 100) (v := 0) G dX4_addToColumn_99 (by decide) rfl ?_
          refine zq_ws (congrArg (fun w9 => (w_M cyI cyZ h0_0 h0_1 h0_2 h0_3 h0_4 h0_5 h0_6 h0_7 h0_8 h0_9 h0_10 h0_11 w9.2)) (zsome h)) ?_
          exact zq_iret G hlocks hr rfl dX4_addToColumn_100 (congrArg Prod.fst (zsome h))
    · have h := zit h c2
      refine zq_iconst (q := 63) (v := 1) G dX4_addToColumn_62 (by decide) rfl ?_
      refine zq_goto (q := 93) G dX4_addToColumn_63 (by decide) ?_
      obtain ⟨z12, hc12, h⟩ := zbd h
      refine zq_callVi (q := 96) (ws2 := (w_M cyI cyZ h0_0 h0_1 h0_2 h0_3 h0_4 h0_5 h0_6 h0_7 h0_8 h0_9 h0_10 h0_11 z12.2)) (isC := [0, 1, 2, 3, 4, 5, 6, 7, 8, 9, 10, 11]) (isR := []) (perm := [0, 1, 2, 3, 4, 5, 6, 7, 8, 9, 10, 11]) (rest := []) (As := [.int (1 : Int32)]) G zs_X4_118 dX4_addToColumn_93 (fun sz9 => c_X4_isWrong l D cyI cyZ h0_0 h0_1 h0_2 h0_3 h0_4 h0_5 h0_6 h0_7 h0_8 h0_9 h0_10 h0_11 τ0 (1 : Int32) z12.1 z12.2 hc12 sz9) 0 rfl rfl rfl ⟨rfl, rfl, rfl, rfl⟩ rfl (Nat.le_of_ble_eq_true rfl) ⟨Nat.le_of_ble_eq_true rfl, Nat.le_of_ble_eq_true rfl, Nat.zero_le _, Nat.zero_le _⟩ rfl ?_
      refine zq_if_eq (tgt := 101) (q := 99) G dX4_addToColumn_96 (by decide) rfl (fun c13 => ?_) (fun c13 => ?_)
      · have h := zit h c13
        refine zq_iconst (q := 102) (v := 0) G dX4_addToColumn_101 (by decide) rfl ?_
        refine zq_istore (q := 104) (lv2 := [(4, .int (0 : Int32)), (0, .ref h0_0), (1, .int x1), (2, .int x2), (3, .int x3)]) G dX4_addToColumn_102 (by decide) rfl rfl ?_
        exact zq_sub _ [1, 2, 3, 0] rfl (b104  _ _ _ _ _ h)
      · have h := zie h c13
        refine zq_iconst (q := 100) (v := 0) G dX4_addToColumn_99 (by decide) rfl ?_
        refine zq_ws (congrArg (fun w9 => (w_M cyI cyZ h0_0 h0_1 h0_2 h0_3 h0_4 h0_5 h0_6 h0_7 h0_8 h0_9 h0_10 h0_11 w9.2)) (zsome h)) ?_
        exact zq_iret G hlocks hr rfl dX4_addToColumn_100 (congrArg Prod.fst (zsome h))
  have b5 : ∀ (n : Nat) (τ0 : zM) (x1 : Int32) (x2 : Int32) (x3 : Int32) (x4 : Int32), s_X4_addToColumn_5 n τ0 x1 x2 x3 x4 = some (r, o0) → zW p l e ({ frames := 2, cells := 0, slots := 0, locals := 48 } : Room) s m args below meth c D (va_A (w_M cyI cyZ h0_0 h0_1 h0_2 h0_3 h0_4 h0_5 h0_6 h0_7 h0_8 h0_9 h0_10 h0_11 σ0) sz) 5 0 0 (MQ below (zQi D cyI cyZ sz (w_M cyI cyZ h0_0 h0_1 h0_2 h0_3 h0_4 h0_5 h0_6 h0_7 h0_8 h0_9 h0_10 h0_11 σ0) r (w_M cyI cyZ h0_0 h0_1 h0_2 h0_3 h0_4 h0_5 h0_6 h0_7 h0_8 h0_9 h0_10 h0_11 o0)) args s 0 0 (va_A (w_M cyI cyZ h0_0 h0_1 h0_2 h0_3 h0_4 h0_5 h0_6 h0_7 h0_8 h0_9 h0_10 h0_11 σ0) sz)) 5 [(0, .ref h0_0), (1, .int x1), (2, .int x2), (3, .int x3), (4, .int x4)] [] (w_M cyI cyZ h0_0 h0_1 h0_2 h0_3 h0_4 h0_5 h0_6 h0_7 h0_8 h0_9 h0_10 h0_11 τ0) := by
    intro n
    induction n with
    | zero => intro τ0 x1 x2 x3 x4 h; rw [s_X4_addToColumn_5] at h; exact nomatch h
    | succ n ih =>
      intro τ0 x1 x2 x3 x4 h
      rw [s_X4_addToColumn_5] at h
      refine zq_aload_n (q := 6) G dX4_addToColumn_5 0 rfl rfl rfl ?_
      refine zq_iload_n (q := 7) G dX4_addToColumn_6 1 rfl rfl rfl ?_
      obtain ⟨z1, hc1, h⟩ := zbd h
      refine zq_callVi (q := 10) (ws2 := (w_M cyI cyZ h0_0 h0_1 h0_2 h0_3 h0_4 h0_5 h0_6 h0_7 h0_8 h0_9 h0_10 h0_11 τ0)) (isC := [0, 1, 2, 3, 4, 5, 6, 7, 8, 9, 10, 11]) (isR := []) (perm := [0, 1, 2, 3, 4, 5, 6, 7, 8, 9, 10, 11]) (rest := []) (As := [.int x1]) G zs_X4_125 dX4_addToColumn_7 (fun sz9 => c_X4_isReal l D cyI cyZ h0_0 h0_1 h0_2 h0_3 h0_4 h0_5 h0_6 h0_7 h0_8 h0_9 h0_10 h0_11 τ0 x1 z1 hc1 sz9) 0 rfl rfl rfl ⟨rfl, rfl, rfl, rfl⟩ rfl (Nat.le_of_ble_eq_true rfl) ⟨Nat.le_of_ble_eq_true rfl, Nat.le_of_ble_eq_true rfl, Nat.zero_le _, Nat.zero_le _⟩ rfl ?_
      refine zq_if_eq (tgt := 53) (q := 13) G dX4_addToColumn_10 (by decide) rfl (fun c2 => ?_) (fun c2 => ?_)
      · have h := zit h c2
        exact zq_sub _ [0, 1, 2, 3] rfl (b53  _ _ _ _ h)
      · have h := zie h c2
        refine zq_iload_n (q := 14) G dX4_addToColumn_13 2 rfl rfl rfl ?_
        refine zq_i2l (q := 15) G dX4_addToColumn_14 rfl ?_
        refine zq_ldc2 (q := 18) G zw_X4_c138 dX4_addToColumn_15 rfl ?_
        refine zq_ldc2 (q := 21) G zw_X4_c128 dX4_addToColumn_18 rfl ?_
        obtain ⟨z3, hc3, h⟩ := zbd h
        refine zq_callSi (q := 24) (ws2 := (w_M cyI cyZ h0_0 h0_1 h0_2 h0_3 h0_4 h0_5 h0_6 h0_7 h0_8 h0_9 h0_10 h0_11 τ0)) (isC := []) (isR := [0, 1, 2, 3, 4, 5, 6, 7, 8, 9, 10, 11]) (perm := [0, 1, 2, 3, 4, 5, 6, 7, 8, 9, 10, 11]) (rest := []) (As := [.long x2.toInt64, .long (-99 : Int64), .long (99 : Int64)]) G zs_X4_63 dX4_addToColumn_21 (fun sz9 => c_X4_isIn l D cyI cyZ x2.toInt64 (-99 : Int64) (99 : Int64) z3 hc3 sz9) rfl ⟨rfl, rfl, rfl, rfl⟩ rfl (Nat.le_of_ble_eq_true rfl) ⟨Nat.le_of_ble_eq_true rfl, Nat.le_of_ble_eq_true rfl, Nat.zero_le _, Nat.zero_le _⟩ rfl ?_
        refine zq_if_eq (tgt := 53) (q := 27) G dX4_addToColumn_24 (by decide) rfl (fun c4 => ?_) (fun c4 => ?_)
        · have h := zit h c4
          exact zq_sub _ [0, 1, 2, 3] rfl (b53  _ _ _ _ h)
        · have h := zie h c4
          refine zq_iload (q := 29) G dX4_addToColumn_27 4 rfl rfl ?_
          refine zq_aload_n (q := 30) G dX4_addToColumn_29 0 rfl rfl rfl ?_
          refine zq_get (q := 33) G zu_X4 rfl zw_X4_f7 dX4_addToColumn_30 0 0 rfl (by decide) ⟨⟨rfl, rfl⟩, rfl⟩ rfl rfl ?_
          refine zq_icmp_ge (tgt := 53) (q := 36) G dX4_addToColumn_33 (by decide) rfl (fun c5 => ?_) (fun c5 => ?_)
          · have h := zit h c5
            exact zq_sub _ [0, 1, 2, 3] rfl (b53  _ _ _ _ h)
          · have h := zie h c5
            refine zq_iload_n (q := 37) G dX4_addToColumn_36 3 rfl rfl rfl ?_
            refine zq_aload_n (q := 38) G dX4_addToColumn_37 0 rfl rfl rfl ?_
            refine zq_iload (q := 40) G dX4_addToColumn_38 4 rfl rfl ?_
            refine zq_iload_n (q := 41) G dX4_addToColumn_40 1 rfl rfl rfl ?_
            refine zq_iload_n (q := 42) G dX4_addToColumn_41 2 rfl rfl rfl ?_
            obtain ⟨z6, hc6, h⟩ := zbd h
            refine zq_callVi (q := 45) (ws2 := (w_M cyI cyZ h0_0 h0_1 h0_2 h0_3 h0_4 h0_5 h0_6 h0_7 h0_8 h0_9 h0_10 h0_11 τ0)) (isC := [0, 1, 2, 3, 4, 5, 6, 7, 8, 9, 10, 11]) (isR := []) (perm := [0, 1, 2, 3, 4, 5, 6, 7, 8, 9, 10, 11]) (rest := [.int x3]) (As := [.int x4, .int x1, .int x2]) G zs_X4_140 dX4_addToColumn_42 (fun sz9 => c_X4_takes l D cyI cyZ h0_0 h0_1 h0_2 h0_3 h0_4 h0_5 h0_6 h0_7 h0_8 h0_9 h0_10 h0_11 τ0 x4 x1 x2 z6 hc6 sz9) 0 rfl rfl rfl ⟨rfl, rfl, rfl, rfl⟩ rfl (Nat.le_of_ble_eq_true rfl) ⟨Nat.le_of_ble_eq_true rfl, Nat.le_of_ble_eq_true rfl, Nat.zero_le _, Nat.zero_le _⟩ rfl ?_
            refine zq_iand (q := 46) G dX4_addToColumn_45 rfl ?_
            refine zq_istore_n (q := 47) (lv2 := [(3, .int (x3 &&& z6)), (0, .ref h0_0), (1, .int x1), (2, .int x2), (4, .int x4)]) G dX4_addToColumn_46 rfl (by decide) rfl rfl ?_
            refine zq_iinc (q := 50) (v := (x4 + 1)) (lv2 := [(4, .int (x4 + 1)), (3, .int (x3 &&& z6)), (0, .ref h0_0), (1, .int x1), (2, .int x2)]) G dX4_addToColumn_47 4 rfl rfl (by decide) rfl rfl ?_
            refine zq_goto (q := 5) G dX4_addToColumn_50 (by decide) ?_
            exact zq_sub _ [2, 3, 4, 1, 0] rfl (ih _ _ _ _ _ h)
  refine zq_iconst (q := 1) (v := 1) G dX4_addToColumn_0 (by decide) rfl ?_
  refine zq_istore_n (q := 2) (lv2 := [(3, .int (1 : Int32)), (0, .ref h0_0), (1, .int p0), (2, .int p1)]) G dX4_addToColumn_1 rfl (by decide) rfl rfl ?_
  refine zq_iconst (q := 3) (v := 0) G dX4_addToColumn_2 (by decide) rfl ?_
  refine zq_istore (q := 5) (lv2 := [(4, .int (0 : Int32)), (3, .int (1 : Int32)), (0, .ref h0_0), (1, .int p0), (2, .int p1)]) G dX4_addToColumn_3 (by decide) rfl rfl ?_
  exact zq_sub _ [2, 3, 4, 1, 0] rfl (b5  _ _ _ _ _ _ h)
set_option maxHeartbeats 4000000 in
set_option maxRecDepth 100000 in
theorem c_X4_exchangeCells (l : Launch) (D : va_G) (cyI cyZ : ClassId) (h0_0 h0_1 h0_2 h0_3 h0_4 h0_5 h0_6 h0_7 h0_8 h0_9 h0_10 h0_11 : Nat) (σ0 : zM) (p0 : Int32) (p1 : Int32) (o0 : zM) (h : s_X4_exchangeCells σ0 p0 p1 = some o0) (sz : Nat) : zMv l yX4_exchangeCells cX4_exchangeCells 5 0 0 D cyI cyZ sz [.ref h0_0, .int p0, .int p1] (w_M cyI cyZ h0_0 h0_1 h0_2 h0_3 h0_4 h0_5 h0_6 h0_7 h0_8 h0_9 h0_10 h0_11 σ0) (w_M cyI cyZ h0_0 h0_1 h0_2 h0_3 h0_4 h0_5 h0_6 h0_7 h0_8 h0_9 h0_10 h0_11 o0) := by
  unfold s_X4_exchangeCells at h
  refine zstartV (lv0 := [(0, .ref h0_0), (1, .int p0), (2, .int p1)]) (by decide) (Nat.le_of_ble_eq_true rfl) rfl (fun p e s m args below meth c G hr hlocks => ?_)
  refine zq_aload_n (q := 1) G dX4_exchangeCells_0 0 rfl rfl rfl ?_
  refine zq_get (q := 4) G zu_X4 rfl zw_X4_f22 dX4_exchangeCells_1 0 5 rfl (by decide) ⟨⟨rfl, rfl⟩, rfl⟩ rfl rfl ?_
  refine zq_iload_n (q := 5) G dX4_exchangeCells_4 1 rfl rfl rfl ?_
  obtain ⟨q1, h⟩ := zif h
  refine zq_iald (q := 6) G dX4_exchangeCells_5 1 rfl q1 rfl ?_
  refine zq_istore_n (q := 7) (lv2 := [(3, .int (σ0.1.2.2.1 p0.toNatClampNeg)), (0, .ref h0_0), (1, .int p0), (2, .int p1)]) G dX4_exchangeCells_6 rfl (by decide) rfl rfl ?_
  refine zq_aload_n (q := 8) G dX4_exchangeCells_7 1 rfl rfl rfl ?_
  refine zq_get (q := 11) G zu_X4 rfl zw_X4_f29 dX4_exchangeCells_8 0 7 rfl (by decide) ⟨⟨rfl, rfl⟩, rfl⟩ rfl rfl ?_
  refine zq_iload_n (q := 12) G dX4_exchangeCells_11 2 rfl rfl rfl ?_
  obtain ⟨q2, h⟩ := zif h
  refine zq_zald (q := 13) G dX4_exchangeCells_12 3 rfl q2 rfl ?_
  refine zq_istore (q := 15) (lv2 := [(4, .int (σ0.1.2.2.2 p0.toNatClampNeg)), (3, .int (σ0.1.2.2.1 p0.toNatClampNeg)), (0, .ref h0_0), (1, .int p0), (2, .int p1)]) G dX4_exchangeCells_13 (by decide) rfl rfl ?_
  refine zq_aload_n (q := 16) G dX4_exchangeCells_15 2 rfl rfl rfl ?_
  refine zq_get (q := 19) G zu_X4 rfl zw_X4_f22 dX4_exchangeCells_16 0 5 rfl (by decide) ⟨⟨rfl, rfl⟩, rfl⟩ rfl rfl ?_
  refine zq_iload_n (q := 20) G dX4_exchangeCells_19 3 rfl rfl rfl ?_
  refine zq_aload_n (q := 21) G dX4_exchangeCells_20 2 rfl rfl rfl ?_
  refine zq_get (q := 24) G zu_X4 rfl zw_X4_f22 dX4_exchangeCells_21 0 5 rfl (by decide) ⟨⟨rfl, rfl⟩, rfl⟩ rfl rfl ?_
  refine zq_iload_n (q := 25) G dX4_exchangeCells_24 4 rfl rfl rfl ?_
  obtain ⟨q3, h⟩ := zif h
  refine zq_iald (q := 26) G dX4_exchangeCells_25 1 rfl q3 rfl ?_
  obtain ⟨q4, h⟩ := zif h
  refine zq_iast (q := 27) (ws2 := (w_M cyI cyZ h0_0 h0_1 h0_2 h0_3 h0_4 h0_5 h0_6 h0_7 h0_8 h0_9 h0_10 h0_11 ((σ0.1.1, σ0.1.2.1, (upd σ0.1.2.2.1 p0.toNatClampNeg (σ0.1.2.2.1 p1.toNatClampNeg)), σ0.1.2.2.2), σ0.2.1, σ0.2.2.1, σ0.2.2.2.1, σ0.2.2.2.2))) G dX4_exchangeCells_26 1 rfl q4 rfl rfl ?_
  refine zq_aload_n (q := 28) G dX4_exchangeCells_27 2 rfl rfl rfl ?_
  refine zq_get (q := 31) G zu_X4 rfl zw_X4_f29 dX4_exchangeCells_28 0 7 rfl (by decide) ⟨⟨rfl, rfl⟩, rfl⟩ rfl rfl ?_
  refine zq_iload_n (q := 32) G dX4_exchangeCells_31 3 rfl rfl rfl ?_
  refine zq_aload_n (q := 33) G dX4_exchangeCells_32 2 rfl rfl rfl ?_
  refine zq_get (q := 36) G zu_X4 rfl zw_X4_f29 dX4_exchangeCells_33 0 7 rfl (by decide) ⟨⟨rfl, rfl⟩, rfl⟩ rfl rfl ?_
  refine zq_iload_n (q := 37) G dX4_exchangeCells_36 4 rfl rfl rfl ?_
  obtain ⟨q5, h⟩ := zif h
  refine zq_zald (q := 38) G dX4_exchangeCells_37 3 rfl q5 rfl ?_
  obtain ⟨q6, h⟩ := zif h
  refine zq_zast (q := 39) (ws2 := (w_M cyI cyZ h0_0 h0_1 h0_2 h0_3 h0_4 h0_5 h0_6 h0_7 h0_8 h0_9 h0_10 h0_11 ((σ0.1.1, σ0.1.2.1, (upd σ0.1.2.2.1 p0.toNatClampNeg (σ0.1.2.2.1 p1.toNatClampNeg)), (upd σ0.1.2.2.2 p0.toNatClampNeg ((σ0.1.2.2.2 p1.toNatClampNeg) &&& 1))), σ0.2.1, σ0.2.2.1, σ0.2.2.2.1, σ0.2.2.2.2))) G dX4_exchangeCells_38 3 rfl q6 rfl rfl ?_
  refine zq_aload_n (q := 40) G dX4_exchangeCells_39 2 rfl rfl rfl ?_
  refine zq_get (q := 43) G zu_X4 rfl zw_X4_f22 dX4_exchangeCells_40 0 5 rfl (by decide) ⟨⟨rfl, rfl⟩, rfl⟩ rfl rfl ?_
  refine zq_iload_n (q := 44) G dX4_exchangeCells_43 4 rfl rfl rfl ?_
  refine zq_iload_n (q := 45) G dX4_exchangeCells_44 1 rfl rfl rfl ?_
  obtain ⟨q7, h⟩ := zif h
  refine zq_iast (q := 46) (ws2 := (w_M cyI cyZ h0_0 h0_1 h0_2 h0_3 h0_4 h0_5 h0_6 h0_7 h0_8 h0_9 h0_10 h0_11 ((σ0.1.1, σ0.1.2.1, (upd (upd σ0.1.2.2.1 p0.toNatClampNeg (σ0.1.2.2.1 p1.toNatClampNeg)) p1.toNatClampNeg (σ0.1.2.2.1 p0.toNatClampNeg)), (upd σ0.1.2.2.2 p0.toNatClampNeg ((σ0.1.2.2.2 p1.toNatClampNeg) &&& 1))), σ0.2.1, σ0.2.2.1, σ0.2.2.2.1, σ0.2.2.2.2))) G dX4_exchangeCells_45 1 rfl q7 rfl rfl ?_
  refine zq_aload_n (q := 47) G dX4_exchangeCells_46 2 rfl rfl rfl ?_
  refine zq_get (q := 50) G zu_X4 rfl zw_X4_f29 dX4_exchangeCells_47 0 7 rfl (by decide) ⟨⟨rfl, rfl⟩, rfl⟩ rfl rfl ?_
  refine zq_iload_n (q := 51) G dX4_exchangeCells_50 4 rfl rfl rfl ?_
  refine zq_iload (q := 53) G dX4_exchangeCells_51 0 rfl rfl ?_
  obtain ⟨q8, h⟩ := zif h
  refine zq_zast (q := 54) (ws2 := (w_M cyI cyZ h0_0 h0_1 h0_2 h0_3 h0_4 h0_5 h0_6 h0_7 h0_8 h0_9 h0_10 h0_11 ((σ0.1.1, σ0.1.2.1, (upd (upd σ0.1.2.2.1 p0.toNatClampNeg (σ0.1.2.2.1 p1.toNatClampNeg)) p1.toNatClampNeg (σ0.1.2.2.1 p0.toNatClampNeg)), (upd (upd σ0.1.2.2.2 p0.toNatClampNeg ((σ0.1.2.2.2 p1.toNatClampNeg) &&& 1)) p1.toNatClampNeg ((σ0.1.2.2.2 p0.toNatClampNeg) &&& 1))), σ0.2.1, σ0.2.2.1, σ0.2.2.2.1, σ0.2.2.2.2))) G dX4_exchangeCells_53 3 rfl q8 rfl rfl ?_
  refine zq_ws (congrArg (fun w9 => (w_M cyI cyZ h0_0 h0_1 h0_2 h0_3 h0_4 h0_5 h0_6 h0_7 h0_8 h0_9 h0_10 h0_11 w9)) (zsome h)) ?_
  exact zq_vret G hlocks hr dX4_exchangeCells_54
set_option maxHeartbeats 4000000 in
set_option maxRecDepth 100000 in
theorem c_X4_swapRows (l : Launch) (D : va_G) (cyI cyZ : ClassId) (h0_0 h0_1 h0_2 h0_3 h0_4 h0_5 h0_6 h0_7 h0_8 h0_9 h0_10 h0_11 : Nat) (σ0 : zM) (p0 : Int32) (p1 : Int32) (r : Int32) (o0 : zM) (h : s_X4_swapRows σ0 p0 p1 = some (r, o0)) (sz : Nat) : zMi l yX4_swapRows cX4_swapRows 4 .int 2 46 D cyI cyZ sz [.ref h0_0, .int p0, .int p1] (w_M cyI cyZ h0_0 h0_1 h0_2 h0_3 h0_4 h0_5 h0_6 h0_7 h0_8 h0_9 h0_10 h0_11 σ0) r (w_M cyI cyZ h0_0 h0_1 h0_2 h0_3 h0_4 h0_5 h0_6 h0_7 h0_8 h0_9 h0_10 h0_11 o0) := by
  unfold s_X4_swapRows at h
  refine zstartI (lv0 := [(0, .ref h0_0), (1, .int p0), (2, .int p1)]) (by decide) (Nat.le_of_ble_eq_true rfl) rfl (fun p e s m args below meth c G hr hlocks => ?_)
  have b32 : ∀ (n : Nat) (τ0 : zM) (x1 : Int32) (x2 : Int32) (x3 : Int32), s_X4_swapRows_32 n τ0 x1 x2 x3 = some (r, o0) → zW p l e ({ frames := 2, cells := 0, slots := 0, locals := 46 } : Room) s m args below meth c D (va_A (w_M cyI cyZ h0_0 h0_1 h0_2 h0_3 h0_4 h0_5 h0_6 h0_7 h0_8 h0_9 h0_10 h0_11 σ0) sz) 4 0 0 (MQ below (zQi D cyI cyZ sz (w_M cyI cyZ h0_0 h0_1 h0_2 h0_3 h0_4 h0_5 h0_6 h0_7 h0_8 h0_9 h0_10 h0_11 σ0) r (w_M cyI cyZ h0_0 h0_1 h0_2 h0_3 h0_4 h0_5 h0_6 h0_7 h0_8 h0_9 h0_10 h0_11 o0)) args s 0 0 (va_A (w_M cyI cyZ h0_0 h0_1 h0_2 h0_3 h0_4 h0_5 h0_6 h0_7 h0_8 h0_9 h0_10 h0_11 σ0) sz)) 32 [(0, .ref h0_0), (1, .int x1), (2, .int x2), (3, .int x3)] [] (w_M cyI cyZ h0_0 h0_1 h0_2 h0_3 h0_4 h0_5 h0_6 h0_7 h0_8 h0_9 h0_10 h0_11 τ0) := by
    intro n
    induction n with
    | zero => intro τ0 x1 x2 x3 h; rw [s_X4_swapRows_32] at h; exact nomatch h
    | succ n ih =>
      intro τ0 x1 x2 x3 h
      rw [s_X4_swapRows_32] at h
      refine zq_iload_n (q := 33) G dX4_swapRows_32 3 rfl rfl rfl ?_
      refine zq_aload_n (q := 34) G dX4_swapRows_33 0 rfl rfl rfl ?_
      refine zq_get (q := 37) G zu_X4 rfl zw_X4_f13 dX4_swapRows_34 0 1 rfl (by decide) ⟨⟨rfl, rfl⟩, rfl⟩ rfl rfl ?_
      refine zq_icmp_ge (tgt := 62) (q := 40) G dX4_swapRows_37 (by decide) rfl (fun c1 => ?_) (fun c1 => ?_)
      · have h := zit h c1
        refine zq_aload_n (q := 63) G dX4_swapRows_62 0 rfl rfl rfl ?_
        refine zq_iconst (q := 64) (v := -1) G dX4_swapRows_63 (by decide) rfl ?_
        refine zq_put (q := 67) (ws2 := (w_M cyI cyZ h0_0 h0_1 h0_2 h0_3 h0_4 h0_5 h0_6 h0_7 h0_8 h0_9 h0_10 h0_11 (τ0.1, τ0.2.1, τ0.2.2.1, ((-1 : Int32), τ0.2.2.2.1.2.1, τ0.2.2.2.1.2.2.1, τ0.2.2.2.1.2.2.2), τ0.2.2.2.2))) G zu_X4 rfl tyX4_ok nmX4 zw_X4_f48 dX4_swapRows_64 0 18 rfl (by decide) ⟨⟨rfl, rfl⟩, rfl⟩ rfl rfl rfl (Nat.le_of_ble_eq_true rfl) rfl rfl ?_
        refine zq_aload_n (q := 68) G dX4_swapRows_67 0 rfl rfl rfl ?_
        refine zq_iload_n (q := 69) G dX4_swapRows_68 1 rfl rfl rfl ?_
        obtain ⟨z2, hc2, h⟩ := zbd h
        refine zq_callVi (q := 72) (ws2 := (w_M cyI cyZ h0_0 h0_1 h0_2 h0_3 h0_4 h0_5 h0_6 h0_7 h0_8 h0_9 h0_10 h0_11 (τ0.1, τ0.2.1, τ0.2.2.1, ((-1 : Int32), τ0.2.2.2.1.2.1, τ0.2.2.2.1.2.2.1, τ0.2.2.2.1.2.2.2), τ0.2.2.2.2))) (isC := [0, 1, 2, 3, 4, 5, 6, 7, 8, 9, 10, 11]) (isR := []) (perm := [0, 1, 2, 3, 4, 5, 6, 7, 8, 9, 10, 11]) (rest := []) (As := [.int x1]) G zs_X4_144 dX4_swapRows_69 (fun sz9 => c_X4_rowSum l D cyI cyZ h0_0 h0_1 h0_2 h0_3 h0_4 h0_5 h0_6 h0_7 h0_8 h0_9 h0_10 h0_11 (τ0.1, τ0.2.1, τ0.2.2.1, ((-1 : Int32), τ0.2.2.2.1.2.1, τ0.2.2.2.1.2.2.1, τ0.2.2.2.1.2.2.2), τ0.2.2.2.2) x1 z2 hc2 sz9) 0 rfl rfl rfl ⟨rfl, rfl, rfl, rfl⟩ rfl (Nat.le_of_ble_eq_true rfl) ⟨Nat.le_of_ble_eq_true rfl, Nat.le_of_ble_eq_true rfl, Nat.zero_le _, Nat.zero_le _⟩ rfl ?_
        refine zq_ws (congrArg (fun w9 => (w_M cyI cyZ h0_0 h0_1 h0_2 h0_3 h0_4 h0_5 h0_6 h0_7 h0_8 h0_9 h0_10 h0_11 w9.2)) (zsome h)) ?_
        exact zq_iret G hlocks hr rfl dX4_swapRows_72 (congrArg Prod.fst (zsome h))
      · have h := zie h c1
        refine zq_aload_n (q := 41) G dX4_swapRows_40 0 rfl rfl rfl ?_
        refine zq_bipush (q := 43) (v := 7) G dX4_swapRows_41 (by decide) rfl ?_
        refine zq_iload_n (q := 44) G dX4_swapRows_43 1 rfl rfl rfl ?_
        refine zq_imul (q := 45) G dX4_swapRows_44 rfl ?_
        refine zq_iload_n (q := 46) G dX4_swapRows_45 3 rfl rfl rfl ?_
        refine zq_iadd (q := 47) G dX4_swapRows_46 rfl ?_
        refine zq_bipush (q := 49) (v := 7) G dX4_swapRows_47 (by decide) rfl ?_
        refine zq_iload_n (q := 50) G dX4_swapRows_49 2 rfl rfl rfl ?_
        refine zq_imul (q := 51) G dX4_swapRows_50 rfl ?_
        refine zq_iload_n (q := 52) G dX4_swapRows_51 3 rfl rfl rfl ?_
        refine zq_iadd (q := 53) G dX4_swapRows_52 rfl ?_
        obtain ⟨z3, hc3, h⟩ := zbd h
        refine zq_callVv (q := 56) (ws2 := (w_M cyI cyZ h0_0 h0_1 h0_2 h0_3 h0_4 h0_5 h0_6 h0_7 h0_8 h0_9 h0_10 h0_11 z3)) (isC := [0, 1, 2, 3, 4, 5, 6, 7, 8, 9, 10, 11]) (isR := []) (perm := [0, 1, 2, 3, 4, 5, 6, 7, 8, 9, 10, 11]) (rest := []) (As := [.int (((7 : Int32) * x1) + x3), .int (((7 : Int32) * x2) + x3)]) G zs_X4_150 dX4_swapRows_53 (fun sz9 => c_X4_exchangeCells l D cyI cyZ h0_0 h0_1 h0_2 h0_3 h0_4 h0_5 h0_6 h0_7 h0_8 h0_9 h0_10 h0_11 τ0 (((7 : Int32) * x1) + x3) (((7 : Int32) * x2) + x3) z3 hc3 sz9) 0 rfl rfl rfl ⟨rfl, rfl, rfl, rfl⟩ rfl (Nat.le_of_ble_eq_true rfl) ⟨Nat.le_of_ble_eq_true rfl, Nat.le_of_ble_eq_true rfl, Nat.zero_le _, Nat.zero_le _⟩ rfl ?_
        refine zq_iinc (q := 59) (v := (x3 + 1)) (lv2 := [(3, .int (x3 + 1)), (0, .ref h0_0), (1, .int x1), (2, .int x2)]) G dX4_swapRows_56 3 rfl rfl (by decide) rfl rfl ?_
        refine zq_goto (q := 32) G dX4_swapRows_59 (by decide) ?_
        exact zq_sub _ [1, 2, 3, 0] rfl (ih _ _ _ _ h)
  refine zq_aload_n (q := 1) G dX4_swapRows_0 0 rfl rfl rfl ?_
  refine zq_aload_n (q := 2) G dX4_swapRows_1 0 rfl rfl rfl ?_
  refine zq_iload_n (q := 3) G dX4_swapRows_2 1 rfl rfl rfl ?_
  obtain ⟨z1, hc1, h⟩ := zbd h
  refine zq_callVi (q := 6) (ws2 := (w_M cyI cyZ h0_0 h0_1 h0_2 h0_3 h0_4 h0_5 h0_6 h0_7 h0_8 h0_9 h0_10 h0_11 σ0)) (isC := [0, 1, 2, 3, 4, 5, 6, 7, 8, 9, 10, 11]) (isR := []) (perm := [0, 1, 2, 3, 4, 5, 6, 7, 8, 9, 10, 11]) (rest := [.ref h0_0]) (As := [.int p0]) G zs_X4_122 dX4_swapRows_3 (fun sz9 => c_X4_isRow l D cyI cyZ h0_0 h0_1 h0_2 h0_3 h0_4 h0_5 h0_6 h0_7 h0_8 h0_9 h0_10 h0_11 σ0 p0 z1 hc1 sz9) 0 rfl rfl rfl ⟨rfl, rfl, rfl, rfl⟩ rfl (Nat.le_of_ble_eq_true rfl) ⟨Nat.le_of_ble_eq_true rfl, Nat.le_of_ble_eq_true rfl, Nat.zero_le _, Nat.zero_le _⟩ rfl ?_
  refine zq_if_eq (tgt := 17) (q := 9) G dX4_swapRows_6 (by decide) rfl (fun c2 => ?_) (fun c2 => ?_)
  · have h := zit h c2
    refine zq_iconst (q := 18) (v := 1) G dX4_swapRows_17 (by decide) rfl ?_
    refine zq_goto (q := 22) G dX4_swapRows_18 (by decide) ?_
    obtain ⟨z3, hc3, h⟩ := zbd h
    refine zq_callVi (q := 25) (ws2 := (w_M cyI cyZ h0_0 h0_1 h0_2 h0_3 h0_4 h0_5 h0_6 h0_7 h0_8 h0_9 h0_10 h0_11 z3.2)) (isC := [0, 1, 2, 3, 4, 5, 6, 7, 8, 9, 10, 11]) (isR := []) (perm := [0, 1, 2, 3, 4, 5, 6, 7, 8, 9, 10, 11]) (rest := []) (As := [.int (1 : Int32)]) G zs_X4_118 dX4_swapRows_22 (fun sz9 => c_X4_isWrong l D cyI cyZ h0_0 h0_1 h0_2 h0_3 h0_4 h0_5 h0_6 h0_7 h0_8 h0_9 h0_10 h0_11 σ0 (1 : Int32) z3.1 z3.2 hc3 sz9) 0 rfl rfl rfl ⟨rfl, rfl, rfl, rfl⟩ rfl (Nat.le_of_ble_eq_true rfl) ⟨Nat.le_of_ble_eq_true rfl, Nat.le_of_ble_eq_true rfl, Nat.zero_le _, Nat.zero_le _⟩ rfl ?_
    refine zq_if_eq (tgt := 30) (q := 28) G dX4_swapRows_25 (by decide) rfl (fun c4 => ?_) (fun c4 => ?_)
    · have h := zit h c4
      refine zq_iconst (q := 31) (v := 0) G dX4_swapRows_30 (by decide) rfl ?_
      refine zq_istore_n (q := 32) (lv2 := [(3, .int (0 : Int32)), (0, .ref h0_0), (1, .int p0), (2, .int p1)]) G dX4_swapRows_31 rfl (by decide) rfl rfl ?_
      exact zq_sub _ [1, 2, 3, 0] rfl (b32  _ _ _ _ _ h)
    · have h := zie h c4
      refine zq_iconst (q := 29) (v := 0) G dX4_swapRows_28 (by decide) rfl ?_
      refine zq_ws (congrArg (fun w9 => (w_M cyI cyZ h0_0 h0_1 h0_2 h0_3 h0_4 h0_5 h0_6 h0_7 h0_8 h0_9 h0_10 h0_11 w9.2)) (zsome h)) ?_
      exact zq_iret G hlocks hr rfl dX4_swapRows_29 (congrArg Prod.fst (zsome h))
  · have h := zie h c2
    refine zq_aload_n (q := 10) G dX4_swapRows_9 0 rfl rfl rfl ?_
    refine zq_iload_n (q := 11) G dX4_swapRows_10 2 rfl rfl rfl ?_
    obtain ⟨z5, hc5, h⟩ := zbd h
    refine zq_callVi (q := 14) (ws2 := (w_M cyI cyZ h0_0 h0_1 h0_2 h0_3 h0_4 h0_5 h0_6 h0_7 h0_8 h0_9 h0_10 h0_11 σ0)) (isC := [0, 1, 2, 3, 4, 5, 6, 7, 8, 9, 10, 11]) (isR := []) (perm := [0, 1, 2, 3, 4, 5, 6, 7, 8, 9, 10, 11]) (rest := [.ref h0_0]) (As := [.int p1]) G zs_X4_122 dX4_swapRows_11 (fun sz9 => c_X4_isRow l D cyI cyZ h0_0 h0_1 h0_2 h0_3 h0_4 h0_5 h0_6 h0_7 h0_8 h0_9 h0_10 h0_11 σ0 p1 z5 hc5 sz9) 0 rfl rfl rfl ⟨rfl, rfl, rfl, rfl⟩ rfl (Nat.le_of_ble_eq_true rfl) ⟨Nat.le_of_ble_eq_true rfl, Nat.le_of_ble_eq_true rfl, Nat.zero_le _, Nat.zero_le _⟩ rfl ?_
    refine zq_if_ne (tgt := 21) (q := 17) G dX4_swapRows_14 (by decide) rfl (fun c6 => ?_) (fun c6 => ?_)
    · have h := zie h c6
      refine zq_iconst (q := 22) (v := 0) G dX4_swapRows_21 (by decide) rfl ?_
      obtain ⟨z7, hc7, h⟩ := zbd h
      refine zq_callVi (q := 25) (ws2 := (w_M cyI cyZ h0_0 h0_1 h0_2 h0_3 h0_4 h0_5 h0_6 h0_7 h0_8 h0_9 h0_10 h0_11 z7.2)) (isC := [0, 1, 2, 3, 4, 5, 6, 7, 8, 9, 10, 11]) (isR := []) (perm := [0, 1, 2, 3, 4, 5, 6, 7, 8, 9, 10, 11]) (rest := []) (As := [.int (0 : Int32)]) G zs_X4_118 dX4_swapRows_22 (fun sz9 => c_X4_isWrong l D cyI cyZ h0_0 h0_1 h0_2 h0_3 h0_4 h0_5 h0_6 h0_7 h0_8 h0_9 h0_10 h0_11 σ0 (0 : Int32) z7.1 z7.2 hc7 sz9) 0 rfl rfl rfl ⟨rfl, rfl, rfl, rfl⟩ rfl (Nat.le_of_ble_eq_true rfl) ⟨Nat.le_of_ble_eq_true rfl, Nat.le_of_ble_eq_true rfl, Nat.zero_le _, Nat.zero_le _⟩ rfl ?_
      refine zq_if_eq (tgt := 30) (q := 28) G dX4_swapRows_25 (by decide) rfl (fun c8 => ?_) (fun c8 => ?_)
      · have h := zit h c8
        refine zq_iconst (q := 31) (v := 0) G dX4_swapRows_30 (by decide) rfl ?_
        refine zq_istore_n (q := 32) (lv2 := [(3, .int (0 : Int32)), (0, .ref h0_0), (1, .int p0), (2, .int p1)]) G dX4_swapRows_31 rfl (by decide) rfl rfl ?_
        exact zq_sub _ [1, 2, 3, 0] rfl (b32  _ _ _ _ _ h)
      · have h := zie h c8
        refine zq_iconst (q := 29) (v := 0) G dX4_swapRows_28 (by decide) rfl ?_
        refine zq_ws (congrArg (fun w9 => (w_M cyI cyZ h0_0 h0_1 h0_2 h0_3 h0_4 h0_5 h0_6 h0_7 h0_8 h0_9 h0_10 h0_11 w9.2)) (zsome h)) ?_
        exact zq_iret G hlocks hr rfl dX4_swapRows_29 (congrArg Prod.fst (zsome h))
    · have h := zit h c6
      refine zq_iconst (q := 18) (v := 1) G dX4_swapRows_17 (by decide) rfl ?_
      refine zq_goto (q := 22) G dX4_swapRows_18 (by decide) ?_
      obtain ⟨z9, hc9, h⟩ := zbd h
      refine zq_callVi (q := 25) (ws2 := (w_M cyI cyZ h0_0 h0_1 h0_2 h0_3 h0_4 h0_5 h0_6 h0_7 h0_8 h0_9 h0_10 h0_11 z9.2)) (isC := [0, 1, 2, 3, 4, 5, 6, 7, 8, 9, 10, 11]) (isR := []) (perm := [0, 1, 2, 3, 4, 5, 6, 7, 8, 9, 10, 11]) (rest := []) (As := [.int (1 : Int32)]) G zs_X4_118 dX4_swapRows_22 (fun sz9 => c_X4_isWrong l D cyI cyZ h0_0 h0_1 h0_2 h0_3 h0_4 h0_5 h0_6 h0_7 h0_8 h0_9 h0_10 h0_11 σ0 (1 : Int32) z9.1 z9.2 hc9 sz9) 0 rfl rfl rfl ⟨rfl, rfl, rfl, rfl⟩ rfl (Nat.le_of_ble_eq_true rfl) ⟨Nat.le_of_ble_eq_true rfl, Nat.le_of_ble_eq_true rfl, Nat.zero_le _, Nat.zero_le _⟩ rfl ?_
      refine zq_if_eq (tgt := 30) (q := 28) G dX4_swapRows_25 (by decide) rfl (fun c10 => ?_) (fun c10 => ?_)
      · have h := zit h c10
        refine zq_iconst (q := 31) (v := 0) G dX4_swapRows_30 (by decide) rfl ?_
        refine zq_istore_n (q := 32) (lv2 := [(3, .int (0 : Int32)), (0, .ref h0_0), (1, .int p0), (2, .int p1)]) G dX4_swapRows_31 rfl (by decide) rfl rfl ?_
        exact zq_sub _ [1, 2, 3, 0] rfl (b32  _ _ _ _ _ h)
      · have h := zie h c10
        refine zq_iconst (q := 29) (v := 0) G dX4_swapRows_28 (by decide) rfl ?_
        refine zq_ws (congrArg (fun w9 => (w_M cyI cyZ h0_0 h0_1 h0_2 h0_3 h0_4 h0_5 h0_6 h0_7 h0_8 h0_9 h0_10 h0_11 w9.2)) (zsome h)) ?_
        exact zq_iret G hlocks hr rfl dX4_swapRows_29 (congrArg Prod.fst (zsome h))
set_option maxHeartbeats 4000000 in
set_option maxRecDepth 100000 in
theorem c_X4_swapColumns (l : Launch) (D : va_G) (cyI cyZ : ClassId) (h0_0 h0_1 h0_2 h0_3 h0_4 h0_5 h0_6 h0_7 h0_8 h0_9 h0_10 h0_11 : Nat) (σ0 : zM) (p0 : Int32) (p1 : Int32) (r : Int32) (o0 : zM) (h : s_X4_swapColumns σ0 p0 p1 = some (r, o0)) (sz : Nat) : zMi l yX4_swapColumns cX4_swapColumns 4 .int 2 46 D cyI cyZ sz [.ref h0_0, .int p0, .int p1] (w_M cyI cyZ h0_0 h0_1 h0_2 h0_3 h0_4 h0_5 h0_6 h0_7 h0_8 h0_9 h0_10 h0_11 σ0) r (w_M cyI cyZ h0_0 h0_1 h0_2 h0_3 h0_4 h0_5 h0_6 h0_7 h0_8 h0_9 h0_10 h0_11 o0) := by
  unfold s_X4_swapColumns at h
  refine zstartI (lv0 := [(0, .ref h0_0), (1, .int p0), (2, .int p1)]) (by decide) (Nat.le_of_ble_eq_true rfl) rfl (fun p e s m args below meth c G hr hlocks => ?_)
  have b32 : ∀ (n : Nat) (τ0 : zM) (x1 : Int32) (x2 : Int32) (x3 : Int32), s_X4_swapColumns_32 n τ0 x1 x2 x3 = some (r, o0) → zW p l e ({ frames := 2, cells := 0, slots := 0, locals := 46 } : Room) s m args below meth c D (va_A (w_M cyI cyZ h0_0 h0_1 h0_2 h0_3 h0_4 h0_5 h0_6 h0_7 h0_8 h0_9 h0_10 h0_11 σ0) sz) 4 0 0 (MQ below (zQi D cyI cyZ sz (w_M cyI cyZ h0_0 h0_1 h0_2 h0_3 h0_4 h0_5 h0_6 h0_7 h0_8 h0_9 h0_10 h0_11 σ0) r (w_M cyI cyZ h0_0 h0_1 h0_2 h0_3 h0_4 h0_5 h0_6 h0_7 h0_8 h0_9 h0_10 h0_11 o0)) args s 0 0 (va_A (w_M cyI cyZ h0_0 h0_1 h0_2 h0_3 h0_4 h0_5 h0_6 h0_7 h0_8 h0_9 h0_10 h0_11 σ0) sz)) 32 [(0, .ref h0_0), (1, .int x1), (2, .int x2), (3, .int x3)] [] (w_M cyI cyZ h0_0 h0_1 h0_2 h0_3 h0_4 h0_5 h0_6 h0_7 h0_8 h0_9 h0_10 h0_11 τ0) := by
    intro n
    induction n with
    | zero => intro τ0 x1 x2 x3 h; rw [s_X4_swapColumns_32] at h; exact nomatch h
    | succ n ih =>
      intro τ0 x1 x2 x3 h
      rw [s_X4_swapColumns_32] at h
      refine zq_iload_n (q := 33) G dX4_swapColumns_32 3 rfl rfl rfl ?_
      refine zq_aload_n (q := 34) G dX4_swapColumns_33 0 rfl rfl rfl ?_
      refine zq_get (q := 37) G zu_X4 rfl zw_X4_f7 dX4_swapColumns_34 0 0 rfl (by decide) ⟨⟨rfl, rfl⟩, rfl⟩ rfl rfl ?_
      refine zq_icmp_ge (tgt := 62) (q := 40) G dX4_swapColumns_37 (by decide) rfl (fun c1 => ?_) (fun c1 => ?_)
      · have h := zit h c1
        refine zq_aload_n (q := 63) G dX4_swapColumns_62 0 rfl rfl rfl ?_
        refine zq_iconst (q := 64) (v := -1) G dX4_swapColumns_63 (by decide) rfl ?_
        refine zq_put (q := 67) (ws2 := (w_M cyI cyZ h0_0 h0_1 h0_2 h0_3 h0_4 h0_5 h0_6 h0_7 h0_8 h0_9 h0_10 h0_11 (τ0.1, τ0.2.1, τ0.2.2.1, ((-1 : Int32), τ0.2.2.2.1.2.1, τ0.2.2.2.1.2.2.1, τ0.2.2.2.1.2.2.2), τ0.2.2.2.2))) G zu_X4 rfl tyX4_ok nmX4 zw_X4_f48 dX4_swapColumns_64 0 18 rfl (by decide) ⟨⟨rfl, rfl⟩, rfl⟩ rfl rfl rfl (Nat.le_of_ble_eq_true rfl) rfl rfl ?_
        refine zq_aload_n (q := 68) G dX4_swapColumns_67 0 rfl rfl rfl ?_
        refine zq_iload_n (q := 69) G dX4_swapColumns_68 1 rfl rfl rfl ?_
        obtain ⟨z2, hc2, h⟩ := zbd h
        refine zq_callVi (q := 72) (ws2 := (w_M cyI cyZ h0_0 h0_1 h0_2 h0_3 h0_4 h0_5 h0_6 h0_7 h0_8 h0_9 h0_10 h0_11 (τ0.1, τ0.2.1, τ0.2.2.1, ((-1 : Int32), τ0.2.2.2.1.2.1, τ0.2.2.2.1.2.2.1, τ0.2.2.2.1.2.2.2), τ0.2.2.2.2))) (isC := [0, 1, 2, 3, 4, 5, 6, 7, 8, 9, 10, 11]) (isR := []) (perm := [0, 1, 2, 3, 4, 5, 6, 7, 8, 9, 10, 11]) (rest := []) (As := [.int x1]) G zs_X4_147 dX4_swapColumns_69 (fun sz9 => c_X4_columnSum l D cyI cyZ h0_0 h0_1 h0_2 h0_3 h0_4 h0_5 h0_6 h0_7 h0_8 h0_9 h0_10 h0_11 (τ0.1, τ0.2.1, τ0.2.2.1, ((-1 : Int32), τ0.2.2.2.1.2.1, τ0.2.2.2.1.2.2.1, τ0.2.2.2.1.2.2.2), τ0.2.2.2.2) x1 z2 hc2 sz9) 0 rfl rfl rfl ⟨rfl, rfl, rfl, rfl⟩ rfl (Nat.le_of_ble_eq_true rfl) ⟨Nat.le_of_ble_eq_true rfl, Nat.le_of_ble_eq_true rfl, Nat.zero_le _, Nat.zero_le _⟩ rfl ?_
        refine zq_ws (congrArg (fun w9 => (w_M cyI cyZ h0_0 h0_1 h0_2 h0_3 h0_4 h0_5 h0_6 h0_7 h0_8 h0_9 h0_10 h0_11 w9.2)) (zsome h)) ?_
        exact zq_iret G hlocks hr rfl dX4_swapColumns_72 (congrArg Prod.fst (zsome h))
      · have h := zie h c1
        refine zq_aload_n (q := 41) G dX4_swapColumns_40 0 rfl rfl rfl ?_
        refine zq_bipush (q := 43) (v := 7) G dX4_swapColumns_41 (by decide) rfl ?_
        refine zq_iload_n (q := 44) G dX4_swapColumns_43 3 rfl rfl rfl ?_
        refine zq_imul (q := 45) G dX4_swapColumns_44 rfl ?_
        refine zq_iload_n (q := 46) G dX4_swapColumns_45 1 rfl rfl rfl ?_
        refine zq_iadd (q := 47) G dX4_swapColumns_46 rfl ?_
        refine zq_bipush (q := 49) (v := 7) G dX4_swapColumns_47 (by decide) rfl ?_
        refine zq_iload_n (q := 50) G dX4_swapColumns_49 3 rfl rfl rfl ?_
        refine zq_imul (q := 51) G dX4_swapColumns_50 rfl ?_
        refine zq_iload_n (q := 52) G dX4_swapColumns_51 2 rfl rfl rfl ?_
        refine zq_iadd (q := 53) G dX4_swapColumns_52 rfl ?_
        obtain ⟨z3, hc3, h⟩ := zbd h
        refine zq_callVv (q := 56) (ws2 := (w_M cyI cyZ h0_0 h0_1 h0_2 h0_3 h0_4 h0_5 h0_6 h0_7 h0_8 h0_9 h0_10 h0_11 z3)) (isC := [0, 1, 2, 3, 4, 5, 6, 7, 8, 9, 10, 11]) (isR := []) (perm := [0, 1, 2, 3, 4, 5, 6, 7, 8, 9, 10, 11]) (rest := []) (As := [.int (((7 : Int32) * x3) + x1), .int (((7 : Int32) * x3) + x2)]) G zs_X4_150 dX4_swapColumns_53 (fun sz9 => c_X4_exchangeCells l D cyI cyZ h0_0 h0_1 h0_2 h0_3 h0_4 h0_5 h0_6 h0_7 h0_8 h0_9 h0_10 h0_11 τ0 (((7 : Int32) * x3) + x1) (((7 : Int32) * x3) + x2) z3 hc3 sz9) 0 rfl rfl rfl ⟨rfl, rfl, rfl, rfl⟩ rfl (Nat.le_of_ble_eq_true rfl) ⟨Nat.le_of_ble_eq_true rfl, Nat.le_of_ble_eq_true rfl, Nat.zero_le _, Nat.zero_le _⟩ rfl ?_
        refine zq_iinc (q := 59) (v := (x3 + 1)) (lv2 := [(3, .int (x3 + 1)), (0, .ref h0_0), (1, .int x1), (2, .int x2)]) G dX4_swapColumns_56 3 rfl rfl (by decide) rfl rfl ?_
        refine zq_goto (q := 32) G dX4_swapColumns_59 (by decide) ?_
        exact zq_sub _ [1, 2, 3, 0] rfl (ih _ _ _ _ h)
  refine zq_aload_n (q := 1) G dX4_swapColumns_0 0 rfl rfl rfl ?_
  refine zq_aload_n (q := 2) G dX4_swapColumns_1 0 rfl rfl rfl ?_
  refine zq_iload_n (q := 3) G dX4_swapColumns_2 1 rfl rfl rfl ?_
  obtain ⟨z1, hc1, h⟩ := zbd h
  refine zq_callVi (q := 6) (ws2 := (w_M cyI cyZ h0_0 h0_1 h0_2 h0_3 h0_4 h0_5 h0_6 h0_7 h0_8 h0_9 h0_10 h0_11 σ0)) (isC := [0, 1, 2, 3, 4, 5, 6, 7, 8, 9, 10, 11]) (isR := []) (perm := [0, 1, 2, 3, 4, 5, 6, 7, 8, 9, 10, 11]) (rest := [.ref h0_0]) (As := [.int p0]) G zs_X4_125 dX4_swapColumns_3 (fun sz9 => c_X4_isReal l D cyI cyZ h0_0 h0_1 h0_2 h0_3 h0_4 h0_5 h0_6 h0_7 h0_8 h0_9 h0_10 h0_11 σ0 p0 z1 hc1 sz9) 0 rfl rfl rfl ⟨rfl, rfl, rfl, rfl⟩ rfl (Nat.le_of_ble_eq_true rfl) ⟨Nat.le_of_ble_eq_true rfl, Nat.le_of_ble_eq_true rfl, Nat.zero_le _, Nat.zero_le _⟩ rfl ?_
  refine zq_if_eq (tgt := 17) (q := 9) G dX4_swapColumns_6 (by decide) rfl (fun c2 => ?_) (fun c2 => ?_)
  · have h := zit h c2
    refine zq_iconst (q := 18) (v := 1) G dX4_swapColumns_17 (by decide) rfl ?_
    refine zq_goto (q := 22) G dX4_swapColumns_18 (by decide) ?_
    obtain ⟨z3, hc3, h⟩ := zbd h
    refine zq_callVi (q := 25) (ws2 := (w_M cyI cyZ h0_0 h0_1 h0_2 h0_3 h0_4 h0_5 h0_6 h0_7 h0_8 h0_9 h0_10 h0_11 z3.2)) (isC := [0, 1, 2, 3, 4, 5, 6, 7, 8, 9, 10, 11]) (isR := []) (perm := [0, 1, 2, 3, 4, 5, 6, 7, 8, 9, 10, 11]) (rest := []) (As := [.int (1 : Int32)]) G zs_X4_118 dX4_swapColumns_22 (fun sz9 => c_X4_isWrong l D cyI cyZ h0_0 h0_1 h0_2 h0_3 h0_4 h0_5 h0_6 h0_7 h0_8 h0_9 h0_10 h0_11 σ0 (1 : Int32) z3.1 z3.2 hc3 sz9) 0 rfl rfl rfl ⟨rfl, rfl, rfl, rfl⟩ rfl (Nat.le_of_ble_eq_true rfl) ⟨Nat.le_of_ble_eq_true rfl, Nat.le_of_ble_eq_true rfl, Nat.zero_le _, Nat.zero_le _⟩ rfl ?_
    refine zq_if_eq (tgt := 30) (q := 28) G dX4_swapColumns_25 (by decide) rfl (fun c4 => ?_) (fun c4 => ?_)
    · have h := zit h c4
      refine zq_iconst (q := 31) (v := 0) G dX4_swapColumns_30 (by decide) rfl ?_
      refine zq_istore_n (q := 32) (lv2 := [(3, .int (0 : Int32)), (0, .ref h0_0), (1, .int p0), (2, .int p1)]) G dX4_swapColumns_31 rfl (by decide) rfl rfl ?_
      exact zq_sub _ [1, 2, 3, 0] rfl (b32  _ _ _ _ _ h)
    · have h := zie h c4
      refine zq_iconst (q := 29) (v := 0) G dX4_swapColumns_28 (by decide) rfl ?_
      refine zq_ws (congrArg (fun w9 => (w_M cyI cyZ h0_0 h0_1 h0_2 h0_3 h0_4 h0_5 h0_6 h0_7 h0_8 h0_9 h0_10 h0_11 w9.2)) (zsome h)) ?_
      exact zq_iret G hlocks hr rfl dX4_swapColumns_29 (congrArg Prod.fst (zsome h))
  · have h := zie h c2
    refine zq_aload_n (q := 10) G dX4_swapColumns_9 0 rfl rfl rfl ?_
    refine zq_iload_n (q := 11) G dX4_swapColumns_10 2 rfl rfl rfl ?_
    obtain ⟨z5, hc5, h⟩ := zbd h
    refine zq_callVi (q := 14) (ws2 := (w_M cyI cyZ h0_0 h0_1 h0_2 h0_3 h0_4 h0_5 h0_6 h0_7 h0_8 h0_9 h0_10 h0_11 σ0)) (isC := [0, 1, 2, 3, 4, 5, 6, 7, 8, 9, 10, 11]) (isR := []) (perm := [0, 1, 2, 3, 4, 5, 6, 7, 8, 9, 10, 11]) (rest := [.ref h0_0]) (As := [.int p1]) G zs_X4_125 dX4_swapColumns_11 (fun sz9 => c_X4_isReal l D cyI cyZ h0_0 h0_1 h0_2 h0_3 h0_4 h0_5 h0_6 h0_7 h0_8 h0_9 h0_10 h0_11 σ0 p1 z5 hc5 sz9) 0 rfl rfl rfl ⟨rfl, rfl, rfl, rfl⟩ rfl (Nat.le_of_ble_eq_true rfl) ⟨Nat.le_of_ble_eq_true rfl, Nat.le_of_ble_eq_true rfl, Nat.zero_le _, Nat.zero_le _⟩ rfl ?_
    refine zq_if_ne (tgt := 21) (q := 17) G dX4_swapColumns_14 (by decide) rfl (fun c6 => ?_) (fun c6 => ?_)
    · have h := zie h c6
      refine zq_iconst (q := 22) (v := 0) G dX4_swapColumns_21 (by decide) rfl ?_
      obtain ⟨z7, hc7, h⟩ := zbd h
      refine zq_callVi (q := 25) (ws2 := (w_M cyI cyZ h0_0 h0_1 h0_2 h0_3 h0_4 h0_5 h0_6 h0_7 h0_8 h0_9 h0_10 h0_11 z7.2)) (isC := [0, 1, 2, 3, 4, 5, 6, 7, 8, 9, 10, 11]) (isR := []) (perm := [0, 1, 2, 3, 4, 5, 6, 7, 8, 9, 10, 11]) (rest := []) (As := [.int (0 : Int32)]) G zs_X4_118 dX4_swapColumns_22 (fun sz9 => c_X4_isWrong l D cyI cyZ h0_0 h0_1 h0_2 h0_3 h0_4 h0_5 h0_6 h0_7 h0_8 h0_9 h0_10 h0_11 σ0 (0 : Int32) z7.1 z7.2 hc7 sz9) 0 rfl rfl rfl ⟨rfl, rfl, rfl, rfl⟩ rfl (Nat.le_of_ble_eq_true rfl) ⟨Nat.le_of_ble_eq_true rfl, Nat.le_of_ble_eq_true rfl, Nat.zero_le _, Nat.zero_le _⟩ rfl ?_
      refine zq_if_eq (tgt := 30) (q := 28) G dX4_swapColumns_25 (by decide) rfl (fun c8 => ?_) (fun c8 => ?_)
      · have h := zit h c8
        refine zq_iconst (q := 31) (v := 0) G dX4_swapColumns_30 (by decide) rfl ?_
        refine zq_istore_n (q := 32) (lv2 := [(3, .int (0 : Int32)), (0, .ref h0_0), (1, .int p0), (2, .int p1)]) G dX4_swapColumns_31 rfl (by decide) rfl rfl ?_
        exact zq_sub _ [1, 2, 3, 0] rfl (b32  _ _ _ _ _ h)
      · have h := zie h c8
        refine zq_iconst (q := 29) (v := 0) G dX4_swapColumns_28 (by decide) rfl ?_
        refine zq_ws (congrArg (fun w9 => (w_M cyI cyZ h0_0 h0_1 h0_2 h0_3 h0_4 h0_5 h0_6 h0_7 h0_8 h0_9 h0_10 h0_11 w9.2)) (zsome h)) ?_
        exact zq_iret G hlocks hr rfl dX4_swapColumns_29 (congrArg Prod.fst (zsome h))
    · have h := zit h c6
      refine zq_iconst (q := 18) (v := 1) G dX4_swapColumns_17 (by decide) rfl ?_
      refine zq_goto (q := 22) G dX4_swapColumns_18 (by decide) ?_
      obtain ⟨z9, hc9, h⟩ := zbd h
      refine zq_callVi (q := 25) (ws2 := (w_M cyI cyZ h0_0 h0_1 h0_2 h0_3 h0_4 h0_5 h0_6 h0_7 h0_8 h0_9 h0_10 h0_11 z9.2)) (isC := [0, 1, 2, 3, 4, 5, 6, 7, 8, 9, 10, 11]) (isR := []) (perm := [0, 1, 2, 3, 4, 5, 6, 7, 8, 9, 10, 11]) (rest := []) (As := [.int (1 : Int32)]) G zs_X4_118 dX4_swapColumns_22 (fun sz9 => c_X4_isWrong l D cyI cyZ h0_0 h0_1 h0_2 h0_3 h0_4 h0_5 h0_6 h0_7 h0_8 h0_9 h0_10 h0_11 σ0 (1 : Int32) z9.1 z9.2 hc9 sz9) 0 rfl rfl rfl ⟨rfl, rfl, rfl, rfl⟩ rfl (Nat.le_of_ble_eq_true rfl) ⟨Nat.le_of_ble_eq_true rfl, Nat.le_of_ble_eq_true rfl, Nat.zero_le _, Nat.zero_le _⟩ rfl ?_
      refine zq_if_eq (tgt := 30) (q := 28) G dX4_swapColumns_25 (by decide) rfl (fun c10 => ?_) (fun c10 => ?_)
      · have h := zit h c10
        refine zq_iconst (q := 31) (v := 0) G dX4_swapColumns_30 (by decide) rfl ?_
        refine zq_istore_n (q := 32) (lv2 := [(3, .int (0 : Int32)), (0, .ref h0_0), (1, .int p0), (2, .int p1)]) G dX4_swapColumns_31 rfl (by decide) rfl rfl ?_
        exact zq_sub _ [1, 2, 3, 0] rfl (b32  _ _ _ _ _ h)
      · have h := zie h c10
        refine zq_iconst (q := 29) (v := 0) G dX4_swapColumns_28 (by decide) rfl ?_
        refine zq_ws (congrArg (fun w9 => (w_M cyI cyZ h0_0 h0_1 h0_2 h0_3 h0_4 h0_5 h0_6 h0_7 h0_8 h0_9 h0_10 h0_11 w9.2)) (zsome h)) ?_
        exact zq_iret G hlocks hr rfl dX4_swapColumns_29 (congrArg Prod.fst (zsome h))
set_option maxHeartbeats 4000000 in
set_option maxRecDepth 100000 in
theorem c_X4_transpose (l : Launch) (D : va_G) (cyI cyZ : ClassId) (h0_0 h0_1 h0_2 h0_3 h0_4 h0_5 h0_6 h0_7 h0_8 h0_9 h0_10 h0_11 : Nat) (σ0 : zM) (r : Int32) (o0 : zM) (h : s_X4_transpose σ0 = some (r, o0)) (sz : Nat) : zMi l yX4_transpose cX4_transpose 3 .int 1 24 D cyI cyZ sz [.ref h0_0] (w_M cyI cyZ h0_0 h0_1 h0_2 h0_3 h0_4 h0_5 h0_6 h0_7 h0_8 h0_9 h0_10 h0_11 σ0) r (w_M cyI cyZ h0_0 h0_1 h0_2 h0_3 h0_4 h0_5 h0_6 h0_7 h0_8 h0_9 h0_10 h0_11 o0) := by
  unfold s_X4_transpose at h
  refine zstartI (lv0 := [(0, .ref h0_0)]) (by decide) (Nat.le_of_ble_eq_true rfl) rfl (fun p e s m args below meth c G hr hlocks => ?_)
  have b37 : ∀ (k27 : (zM → Int32 → Option (Int32 × zM))) (hk27 : ∀ (τ0 : zM) (x1 : Int32), k27 τ0 x1 = some (r, o0) → zW p l e ({ frames := 1, cells := 0, slots := 0, locals := 24 } : Room) s m args below meth c D (va_A (w_M cyI cyZ h0_0 h0_1 h0_2 h0_3 h0_4 h0_5 h0_6 h0_7 h0_8 h0_9 h0_10 h0_11 σ0) sz) 3 0 0 (MQ below (zQi D cyI cyZ sz (w_M cyI cyZ h0_0 h0_1 h0_2 h0_3 h0_4 h0_5 h0_6 h0_7 h0_8 h0_9 h0_10 h0_11 σ0) r (w_M cyI cyZ h0_0 h0_1 h0_2 h0_3 h0_4 h0_5 h0_6 h0_7 h0_8 h0_9 h0_10 h0_11 o0)) args s 0 0 (va_A (w_M cyI cyZ h0_0 h0_1 h0_2 h0_3 h0_4 h0_5 h0_6 h0_7 h0_8 h0_9 h0_10 h0_11 σ0) sz)) 27 [(0, .ref h0_0), (1, .int x1)] [] (w_M cyI cyZ h0_0 h0_1 h0_2 h0_3 h0_4 h0_5 h0_6 h0_7 h0_8 h0_9 h0_10 h0_11 τ0)) (n : Nat) (τ0 : zM) (x1 : Int32) (x2 : Int32), s_X4_transpose_37 k27 n τ0 x1 x2 = some (r, o0) → zW p l e ({ frames := 1, cells := 0, slots := 0, locals := 24 } : Room) s m args below meth c D (va_A (w_M cyI cyZ h0_0 h0_1 h0_2 h0_3 h0_4 h0_5 h0_6 h0_7 h0_8 h0_9 h0_10 h0_11 σ0) sz) 3 0 0 (MQ below (zQi D cyI cyZ sz (w_M cyI cyZ h0_0 h0_1 h0_2 h0_3 h0_4 h0_5 h0_6 h0_7 h0_8 h0_9 h0_10 h0_11 σ0) r (w_M cyI cyZ h0_0 h0_1 h0_2 h0_3 h0_4 h0_5 h0_6 h0_7 h0_8 h0_9 h0_10 h0_11 o0)) args s 0 0 (va_A (w_M cyI cyZ h0_0 h0_1 h0_2 h0_3 h0_4 h0_5 h0_6 h0_7 h0_8 h0_9 h0_10 h0_11 σ0) sz)) 37 [(0, .ref h0_0), (1, .int x1), (2, .int x2)] [] (w_M cyI cyZ h0_0 h0_1 h0_2 h0_3 h0_4 h0_5 h0_6 h0_7 h0_8 h0_9 h0_10 h0_11 τ0) := by
    intro k27 hk27
    intro n
    induction n with
    | zero => intro τ0 x1 x2 h; rw [s_X4_transpose_37] at h; exact nomatch h
    | succ n ih =>
      intro τ0 x1 x2 h
      rw [s_X4_transpose_37] at h
      refine zq_iload_n (q := 38) G dX4_transpose_37 2 rfl rfl rfl ?_
      refine zq_iload_n (q := 39) G dX4_transpose_38 1 rfl rfl rfl ?_
      refine zq_icmp_ge (tgt := 64) (q := 42) G dX4_transpose_39 (by decide) rfl (fun c1 => ?_) (fun c1 => ?_)
      · have h := zit h c1
        refine zq_iinc (q := 67) (v := (x1 + 1)) (lv2 := [(1, .int (x1 + 1)), (0, .ref h0_0), (2, .int x2)]) G dX4_transpose_64 1 rfl rfl (by decide) rfl rfl ?_
        refine zq_goto (q := 27) G dX4_transpose_67 (by decide) ?_
        exact zq_sub _ [1, 0] rfl (hk27 _ _ h)
      · have h := zie h c1
        refine zq_aload_n (q := 43) G dX4_transpose_42 0 rfl rfl rfl ?_
        refine zq_bipush (q := 45) (v := 7) G dX4_transpose_43 (by decide) rfl ?_
        refine zq_iload_n (q := 46) G dX4_transpose_45 1 rfl rfl rfl ?_
        refine zq_imul (q := 47) G dX4_transpose_46 rfl ?_
        refine zq_iload_n (q := 48) G dX4_transpose_47 2 rfl rfl rfl ?_
        refine zq_iadd (q := 49) G dX4_transpose_48 rfl ?_
        refine zq_bipush (q := 51) (v := 7) G dX4_transpose_49 (by decide) rfl ?_
        refine zq_iload_n (q := 52) G dX4_transpose_51 2 rfl rfl rfl ?_
        refine zq_imul (q := 53) G dX4_transpose_52 rfl ?_
        refine zq_iload_n (q := 54) G dX4_transpose_53 1 rfl rfl rfl ?_
        refine zq_iadd (q := 55) G dX4_transpose_54 rfl ?_
        obtain ⟨z2, hc2, h⟩ := zbd h
        refine zq_callVv (q := 58) (ws2 := (w_M cyI cyZ h0_0 h0_1 h0_2 h0_3 h0_4 h0_5 h0_6 h0_7 h0_8 h0_9 h0_10 h0_11 z2)) (isC := [0, 1, 2, 3, 4, 5, 6, 7, 8, 9, 10, 11]) (isR := []) (perm := [0, 1, 2, 3, 4, 5, 6, 7, 8, 9, 10, 11]) (rest := []) (As := [.int (((7 : Int32) * x1) + x2), .int (((7 : Int32) * x2) + x1)]) G zs_X4_150 dX4_transpose_55 (fun sz9 => c_X4_exchangeCells l D cyI cyZ h0_0 h0_1 h0_2 h0_3 h0_4 h0_5 h0_6 h0_7 h0_8 h0_9 h0_10 h0_11 τ0 (((7 : Int32) * x1) + x2) (((7 : Int32) * x2) + x1) z2 hc2 sz9) 0 rfl rfl rfl ⟨rfl, rfl, rfl, rfl⟩ rfl (Nat.le_of_ble_eq_true rfl) ⟨Nat.le_of_ble_eq_true rfl, Nat.le_of_ble_eq_true rfl, Nat.zero_le _, Nat.zero_le _⟩ rfl ?_
        refine zq_iinc (q := 61) (v := (x2 + 1)) (lv2 := [(2, .int (x2 + 1)), (0, .ref h0_0), (1, .int x1)]) G dX4_transpose_58 2 rfl rfl (by decide) rfl rfl ?_
        refine zq_goto (q := 37) G dX4_transpose_61 (by decide) ?_
        exact zq_sub _ [1, 2, 0] rfl (ih _ _ _ h)
  have b27 : ∀ (n : Nat) (τ0 : zM) (x1 : Int32), s_X4_transpose_27 n τ0 x1 = some (r, o0) → zW p l e ({ frames := 1, cells := 0, slots := 0, locals := 24 } : Room) s m args below meth c D (va_A (w_M cyI cyZ h0_0 h0_1 h0_2 h0_3 h0_4 h0_5 h0_6 h0_7 h0_8 h0_9 h0_10 h0_11 σ0) sz) 3 0 0 (MQ below (zQi D cyI cyZ sz (w_M cyI cyZ h0_0 h0_1 h0_2 h0_3 h0_4 h0_5 h0_6 h0_7 h0_8 h0_9 h0_10 h0_11 σ0) r (w_M cyI cyZ h0_0 h0_1 h0_2 h0_3 h0_4 h0_5 h0_6 h0_7 h0_8 h0_9 h0_10 h0_11 o0)) args s 0 0 (va_A (w_M cyI cyZ h0_0 h0_1 h0_2 h0_3 h0_4 h0_5 h0_6 h0_7 h0_8 h0_9 h0_10 h0_11 σ0) sz)) 27 [(0, .ref h0_0), (1, .int x1)] [] (w_M cyI cyZ h0_0 h0_1 h0_2 h0_3 h0_4 h0_5 h0_6 h0_7 h0_8 h0_9 h0_10 h0_11 τ0) := by
    intro n
    induction n with
    | zero => intro τ0 x1 h; rw [s_X4_transpose_27] at h; exact nomatch h
    | succ n ih =>
      intro τ0 x1 h
      rw [s_X4_transpose_27] at h
      refine zq_iload_n (q := 28) G dX4_transpose_27 1 rfl rfl rfl ?_
      refine zq_aload_n (q := 29) G dX4_transpose_28 0 rfl rfl rfl ?_
      refine zq_get (q := 32) G zu_X4 rfl zw_X4_f7 dX4_transpose_29 0 0 rfl (by decide) ⟨⟨rfl, rfl⟩, rfl⟩ rfl rfl ?_
      refine zq_icmp_ge (tgt := 70) (q := 35) G dX4_transpose_32 (by decide) rfl (fun c1 => ?_) (fun c1 => ?_)
      · have h := zit h c1
        refine zq_aload_n (q := 71) G dX4_transpose_70 0 rfl rfl rfl ?_
        refine zq_iconst (q := 72) (v := -1) G dX4_transpose_71 (by decide) rfl ?_
        refine zq_put (q := 75) (ws2 := (w_M cyI cyZ h0_0 h0_1 h0_2 h0_3 h0_4 h0_5 h0_6 h0_7 h0_8 h0_9 h0_10 h0_11 (τ0.1, τ0.2.1, τ0.2.2.1, ((-1 : Int32), τ0.2.2.2.1.2.1, τ0.2.2.2.1.2.2.1, τ0.2.2.2.1.2.2.2), τ0.2.2.2.2))) G zu_X4 rfl tyX4_ok nmX4 zw_X4_f48 dX4_transpose_72 0 18 rfl (by decide) ⟨⟨rfl, rfl⟩, rfl⟩ rfl rfl rfl (Nat.le_of_ble_eq_true rfl) rfl rfl ?_
        refine zq_aload_n (q := 76) G dX4_transpose_75 0 rfl rfl rfl ?_
        refine zq_get (q := 79) G zu_X4 rfl zw_X4_f7 dX4_transpose_76 0 0 rfl (by decide) ⟨⟨rfl, rfl⟩, rfl⟩ rfl rfl ?_
        refine zq_ws (congrArg (fun w9 => (w_M cyI cyZ h0_0 h0_1 h0_2 h0_3 h0_4 h0_5 h0_6 h0_7 h0_8 h0_9 h0_10 h0_11 w9.2)) (zsome h)) ?_
        exact zq_iret G hlocks hr rfl dX4_transpose_79 (congrArg Prod.fst (zsome h))
      · have h := zie h c1
        refine zq_iconst (q := 36) (v := 0) G dX4_transpose_35 (by decide) rfl ?_
        refine zq_istore_n (q := 37) (lv2 := [(2, .int (0 : Int32)), (0, .ref h0_0), (1, .int x1)]) G dX4_transpose_36 rfl (by decide) rfl rfl ?_
        exact zq_sub _ [1, 2, 0] rfl (b37 _ ih _ _ _ _ h)
  refine zq_aload_n (q := 1) G dX4_transpose_0 0 rfl rfl rfl ?_
  refine zq_aload_n (q := 2) G dX4_transpose_1 0 rfl rfl rfl ?_
  refine zq_get (q := 5) G zu_X4 rfl zw_X4_f13 dX4_transpose_2 0 1 rfl (by decide) ⟨⟨rfl, rfl⟩, rfl⟩ rfl rfl ?_
  refine zq_aload_n (q := 6) G dX4_transpose_5 0 rfl rfl rfl ?_
  refine zq_get (q := 9) G zu_X4 rfl zw_X4_f7 dX4_transpose_6 0 0 rfl (by decide) ⟨⟨rfl, rfl⟩, rfl⟩ rfl rfl ?_
  refine zq_icmp_ge (tgt := 16) (q := 12) G dX4_transpose_9 (by decide) rfl (fun c1 => ?_) (fun c1 => ?_)
  · have h := zit h c1
    refine zq_iconst (q := 17) (v := 0) G dX4_transpose_16 (by decide) rfl ?_
    obtain ⟨z2, hc2, h⟩ := zbd h
    refine zq_callVi (q := 20) (ws2 := (w_M cyI cyZ h0_0 h0_1 h0_2 h0_3 h0_4 h0_5 h0_6 h0_7 h0_8 h0_9 h0_10 h0_11 z2.2)) (isC := [0, 1, 2, 3, 4, 5, 6, 7, 8, 9, 10, 11]) (isR := []) (perm := [0, 1, 2, 3, 4, 5, 6, 7, 8, 9, 10, 11]) (rest := []) (As := [.int (0 : Int32)]) G zs_X4_118 dX4_transpose_17 (fun sz9 => c_X4_isWrong l D cyI cyZ h0_0 h0_1 h0_2 h0_3 h0_4 h0_5 h0_6 h0_7 h0_8 h0_9 h0_10 h0_11 σ0 (0 : Int32) z2.1 z2.2 hc2 sz9) 0 rfl rfl rfl ⟨rfl, rfl, rfl, rfl⟩ rfl (Nat.le_of_ble_eq_true rfl) ⟨Nat.le_of_ble_eq_true rfl, Nat.le_of_ble_eq_true rfl, Nat.zero_le _, Nat.zero_le _⟩ rfl ?_
    refine zq_if_eq (tgt := 25) (q := 23) G dX4_transpose_20 (by decide) rfl (fun c3 => ?_) (fun c3 => ?_)
    · have h := zit h c3
      refine zq_iconst (q := 26) (v := 0) G dX4_transpose_25 (by decide) rfl ?_
      refine zq_istore_n (q := 27) (lv2 := [(1, .int (0 : Int32)), (0, .ref h0_0)]) G dX4_transpose_26 rfl (by decide) rfl rfl ?_
      exact zq_sub _ [1, 0] rfl (b27  _ _ _ h)
    · have h := zie h c3
      refine zq_iconst (q := 24) (v := 0) G dX4_transpose_23 (by decide) rfl ?_
      refine zq_ws (congrArg (fun w9 => (w_M cyI cyZ h0_0 h0_1 h0_2 h0_3 h0_4 h0_5 h0_6 h0_7 h0_8 h0_9 h0_10 h0_11 w9.2)) (zsome h)) ?_
      exact zq_iret G hlocks hr rfl dX4_transpose_24 (congrArg Prod.fst (zsome h))
  · have h := zie h c1
    refine zq_iconst (q := 13) (v := 1) G dX4_transpose_12 (by decide) rfl ?_
    refine zq_goto (q := 17) G dX4_transpose_13 (by decide) ?_
    obtain ⟨z4, hc4, h⟩ := zbd h
    refine zq_callVi (q := 20) (ws2 := (w_M cyI cyZ h0_0 h0_1 h0_2 h0_3 h0_4 h0_5 h0_6 h0_7 h0_8 h0_9 h0_10 h0_11 z4.2)) (isC := [0, 1, 2, 3, 4, 5, 6, 7, 8, 9, 10, 11]) (isR := []) (perm := [0, 1, 2, 3, 4, 5, 6, 7, 8, 9, 10, 11]) (rest := []) (As := [.int (1 : Int32)]) G zs_X4_118 dX4_transpose_17 (fun sz9 => c_X4_isWrong l D cyI cyZ h0_0 h0_1 h0_2 h0_3 h0_4 h0_5 h0_6 h0_7 h0_8 h0_9 h0_10 h0_11 σ0 (1 : Int32) z4.1 z4.2 hc4 sz9) 0 rfl rfl rfl ⟨rfl, rfl, rfl, rfl⟩ rfl (Nat.le_of_ble_eq_true rfl) ⟨Nat.le_of_ble_eq_true rfl, Nat.le_of_ble_eq_true rfl, Nat.zero_le _, Nat.zero_le _⟩ rfl ?_
    refine zq_if_eq (tgt := 25) (q := 23) G dX4_transpose_20 (by decide) rfl (fun c5 => ?_) (fun c5 => ?_)
    · have h := zit h c5
      refine zq_iconst (q := 26) (v := 0) G dX4_transpose_25 (by decide) rfl ?_
      refine zq_istore_n (q := 27) (lv2 := [(1, .int (0 : Int32)), (0, .ref h0_0)]) G dX4_transpose_26 rfl (by decide) rfl rfl ?_
      exact zq_sub _ [1, 0] rfl (b27  _ _ _ h)
    · have h := zie h c5
      refine zq_iconst (q := 24) (v := 0) G dX4_transpose_23 (by decide) rfl ?_
      refine zq_ws (congrArg (fun w9 => (w_M cyI cyZ h0_0 h0_1 h0_2 h0_3 h0_4 h0_5 h0_6 h0_7 h0_8 h0_9 h0_10 h0_11 w9.2)) (zsome h)) ?_
      exact zq_iret G hlocks hr rfl dX4_transpose_24 (congrArg Prod.fst (zsome h))
set_option maxHeartbeats 4000000 in
set_option maxRecDepth 100000 in
theorem c_X4_total (l : Launch) (D : va_G) (cyI cyZ : ClassId) (h0_0 h0_1 h0_2 h0_3 h0_4 h0_5 h0_6 h0_7 h0_8 h0_9 h0_10 h0_11 : Nat) (σ0 : zM) (r : Int32) (h : s_X4_total σ0 = some r) (sz : Nat) : zMi l yX4_total cX4_total 3 .int 2 45 D cyI cyZ sz [.ref h0_0] (w_M cyI cyZ h0_0 h0_1 h0_2 h0_3 h0_4 h0_5 h0_6 h0_7 h0_8 h0_9 h0_10 h0_11 σ0) r (w_M cyI cyZ h0_0 h0_1 h0_2 h0_3 h0_4 h0_5 h0_6 h0_7 h0_8 h0_9 h0_10 h0_11 σ0) := by
  unfold s_X4_total at h
  refine zstartI (lv0 := [(0, .ref h0_0)]) (by decide) (Nat.le_of_ble_eq_true rfl) rfl (fun p e s m args below meth c G hr hlocks => ?_)
  have b4 : ∀ (n : Nat) (x1 : Int32) (x2 : Int32), s_X4_total_4 n σ0 x1 x2 = some r → zW p l e ({ frames := 2, cells := 0, slots := 0, locals := 45 } : Room) s m args below meth c D (va_A (w_M cyI cyZ h0_0 h0_1 h0_2 h0_3 h0_4 h0_5 h0_6 h0_7 h0_8 h0_9 h0_10 h0_11 σ0) sz) 3 0 0 (MQ below (zQi D cyI cyZ sz (w_M cyI cyZ h0_0 h0_1 h0_2 h0_3 h0_4 h0_5 h0_6 h0_7 h0_8 h0_9 h0_10 h0_11 σ0) r (w_M cyI cyZ h0_0 h0_1 h0_2 h0_3 h0_4 h0_5 h0_6 h0_7 h0_8 h0_9 h0_10 h0_11 σ0)) args s 0 0 (va_A (w_M cyI cyZ h0_0 h0_1 h0_2 h0_3 h0_4 h0_5 h0_6 h0_7 h0_8 h0_9 h0_10 h0_11 σ0) sz)) 4 [(0, .ref h0_0), (1, .int x1), (2, .int x2)] [] (w_M cyI cyZ h0_0 h0_1 h0_2 h0_3 h0_4 h0_5 h0_6 h0_7 h0_8 h0_9 h0_10 h0_11 σ0) := by
    intro n
    induction n with
    | zero => intro x1 x2 h; rw [s_X4_total_4] at h; exact nomatch h
    | succ n ih =>
      intro x1 x2 h
      rw [s_X4_total_4] at h
      refine zq_iload_n (q := 5) G dX4_total_4 2 rfl rfl rfl ?_
      refine zq_aload_n (q := 6) G dX4_total_5 0 rfl rfl rfl ?_
      refine zq_get (q := 9) G zu_X4 rfl zw_X4_f7 dX4_total_6 0 0 rfl (by decide) ⟨⟨rfl, rfl⟩, rfl⟩ rfl rfl ?_
      refine zq_icmp_ge (tgt := 26) (q := 12) G dX4_total_9 (by decide) rfl (fun c1 => ?_) (fun c1 => ?_)
      · have h := zit h c1
        refine zq_iload_n (q := 27) G dX4_total_26 1 rfl rfl rfl ?_
        exact zq_iret G hlocks hr rfl dX4_total_27 (zsome h)
      · have h := zie h c1
        refine zq_iload_n (q := 13) G dX4_total_12 1 rfl rfl rfl ?_
        refine zq_aload_n (q := 14) G dX4_total_13 0 rfl rfl rfl ?_
        refine zq_iload_n (q := 15) G dX4_total_14 2 rfl rfl rfl ?_
        obtain ⟨z2, hc2, h⟩ := zbd h
        refine zq_callVi (q := 18) (ws2 := (w_M cyI cyZ h0_0 h0_1 h0_2 h0_3 h0_4 h0_5 h0_6 h0_7 h0_8 h0_9 h0_10 h0_11 σ0)) (isC := [0, 1, 2, 3, 4, 5, 6, 7, 8, 9, 10, 11]) (isR := []) (perm := [0, 1, 2, 3, 4, 5, 6, 7, 8, 9, 10, 11]) (rest := [.int x1]) (As := [.int x2]) G zs_X4_144 dX4_total_15 (fun sz9 => c_X4_rowSum l D cyI cyZ h0_0 h0_1 h0_2 h0_3 h0_4 h0_5 h0_6 h0_7 h0_8 h0_9 h0_10 h0_11 σ0 x2 z2 hc2 sz9) 0 rfl rfl rfl ⟨rfl, rfl, rfl, rfl⟩ rfl (Nat.le_of_ble_eq_true rfl) ⟨Nat.le_of_ble_eq_true rfl, Nat.le_of_ble_eq_true rfl, Nat.zero_le _, Nat.zero_le _⟩ rfl ?_
        refine zq_iadd (q := 19) G dX4_total_18 rfl ?_
        refine zq_istore_n (q := 20) (lv2 := [(1, .int (x1 + z2)), (0, .ref h0_0), (2, .int x2)]) G dX4_total_19 rfl (by decide) rfl rfl ?_
        refine zq_iinc (q := 23) (v := (x2 + 1)) (lv2 := [(2, .int (x2 + 1)), (1, .int (x1 + z2)), (0, .ref h0_0)]) G dX4_total_20 2 rfl rfl (by decide) rfl rfl ?_
        refine zq_goto (q := 4) G dX4_total_23 (by decide) ?_
        exact zq_sub _ [2, 1, 0] rfl (ih _ _ h)
  refine zq_iconst (q := 1) (v := 0) G dX4_total_0 (by decide) rfl ?_
  refine zq_istore_n (q := 2) (lv2 := [(1, .int (0 : Int32)), (0, .ref h0_0)]) G dX4_total_1 rfl (by decide) rfl rfl ?_
  refine zq_iconst (q := 3) (v := 0) G dX4_total_2 (by decide) rfl ?_
  refine zq_istore_n (q := 4) (lv2 := [(2, .int (0 : Int32)), (1, .int (0 : Int32)), (0, .ref h0_0)]) G dX4_total_3 rfl (by decide) rfl rfl ?_
  exact zq_sub _ [2, 1, 0] rfl (b4  _ _ _ h)
set_option maxHeartbeats 4000000 in
set_option maxRecDepth 100000 in
theorem c_X4_save (l : Launch) (D : va_G) (cyI cyZ : ClassId) (h0_0 h0_1 h0_2 h0_3 h0_4 h0_5 h0_6 h0_7 h0_8 h0_9 h0_10 h0_11 : Nat) (σ0 : zM) (r : Int32) (o0 : zM) (h : s_X4_save σ0 = some (r, o0)) (sz : Nat) : zMi l yX4_save cX4_save 2 .int 3 67 D cyI cyZ sz [.ref h0_0] (w_M cyI cyZ h0_0 h0_1 h0_2 h0_3 h0_4 h0_5 h0_6 h0_7 h0_8 h0_9 h0_10 h0_11 σ0) r (w_M cyI cyZ h0_0 h0_1 h0_2 h0_3 h0_4 h0_5 h0_6 h0_7 h0_8 h0_9 h0_10 h0_11 o0) := by
  unfold s_X4_save at h
  refine zstartI (lv0 := [(0, .ref h0_0)]) (by decide) (Nat.le_of_ble_eq_true rfl) rfl (fun p e s m args below meth c G hr hlocks => ?_)
  have b18 : ∀ (n : Nat) (τ0 : zM) (x1 : Int32), s_X4_save_18 n τ0 x1 = some (r, o0) → zW p l e ({ frames := 3, cells := 0, slots := 0, locals := 67 } : Room) s m args below meth c D (va_A (w_M cyI cyZ h0_0 h0_1 h0_2 h0_3 h0_4 h0_5 h0_6 h0_7 h0_8 h0_9 h0_10 h0_11 σ0) sz) 2 0 0 (MQ below (zQi D cyI cyZ sz (w_M cyI cyZ h0_0 h0_1 h0_2 h0_3 h0_4 h0_5 h0_6 h0_7 h0_8 h0_9 h0_10 h0_11 σ0) r (w_M cyI cyZ h0_0 h0_1 h0_2 h0_3 h0_4 h0_5 h0_6 h0_7 h0_8 h0_9 h0_10 h0_11 o0)) args s 0 0 (va_A (w_M cyI cyZ h0_0 h0_1 h0_2 h0_3 h0_4 h0_5 h0_6 h0_7 h0_8 h0_9 h0_10 h0_11 σ0) sz)) 18 [(0, .ref h0_0), (1, .int x1)] [] (w_M cyI cyZ h0_0 h0_1 h0_2 h0_3 h0_4 h0_5 h0_6 h0_7 h0_8 h0_9 h0_10 h0_11 τ0) := by
    intro n
    induction n with
    | zero => intro τ0 x1 h; rw [s_X4_save_18] at h; exact nomatch h
    | succ n ih =>
      intro τ0 x1 h
      rw [s_X4_save_18] at h
      refine zq_iload_n (q := 19) G dX4_save_18 1 rfl rfl rfl ?_
      refine zq_bipush (q := 21) (v := 49) G dX4_save_19 (by decide) rfl ?_
      refine zq_icmp_ge (tgt := 54) (q := 24) G dX4_save_21 (by decide) rfl (fun c1 => ?_) (fun c1 => ?_)
      · have h := zit h c1
        refine zq_aload_n (q := 55) G dX4_save_54 0 rfl rfl rfl ?_
        obtain ⟨z2, hc2, h⟩ := zbd h
        refine zq_callVi (q := 58) (ws2 := (w_M cyI cyZ h0_0 h0_1 h0_2 h0_3 h0_4 h0_5 h0_6 h0_7 h0_8 h0_9 h0_10 h0_11 τ0)) (isC := [0, 1, 2, 3, 4, 5, 6, 7, 8, 9, 10, 11]) (isR := []) (perm := [0, 1, 2, 3, 4, 5, 6, 7, 8, 9, 10, 11]) (rest := []) (As := []) G zs_X4_153 dX4_save_55 (fun sz9 => c_X4_total l D cyI cyZ h0_0 h0_1 h0_2 h0_3 h0_4 h0_5 h0_6 h0_7 h0_8 h0_9 h0_10 h0_11 τ0 z2 hc2 sz9) 0 rfl rfl rfl ⟨rfl, rfl, rfl, rfl⟩ rfl (Nat.le_of_ble_eq_true rfl) ⟨Nat.le_of_ble_eq_true rfl, Nat.le_of_ble_eq_true rfl, Nat.zero_le _, Nat.zero_le _⟩ rfl ?_
        refine zq_ws (congrArg (fun w9 => (w_M cyI cyZ h0_0 h0_1 h0_2 h0_3 h0_4 h0_5 h0_6 h0_7 h0_8 h0_9 h0_10 h0_11 w9.2)) (zsome h)) ?_
        exact zq_iret G hlocks hr rfl dX4_save_58 (congrArg Prod.fst (zsome h))
      · have h := zie h c1
        refine zq_aload_n (q := 25) G dX4_save_24 0 rfl rfl rfl ?_
        refine zq_get (q := 28) G zu_X4 rfl zw_X4_f26 dX4_save_25 0 6 rfl (by decide) ⟨⟨rfl, rfl⟩, rfl⟩ rfl rfl ?_
        refine zq_iload_n (q := 29) G dX4_save_28 1 rfl rfl rfl ?_
        refine zq_aload_n (q := 30) G dX4_save_29 0 rfl rfl rfl ?_
        refine zq_get (q := 33) G zu_X4 rfl zw_X4_f22 dX4_save_30 0 5 rfl (by decide) ⟨⟨rfl, rfl⟩, rfl⟩ rfl rfl ?_
        refine zq_iload_n (q := 34) G dX4_save_33 1 rfl rfl rfl ?_
        obtain ⟨q3, h⟩ := zif h
        refine zq_iald (q := 35) G dX4_save_34 1 rfl q3 rfl ?_
        obtain ⟨q4, h⟩ := zif h
        refine zq_iast (q := 36) (ws2 := (w_M cyI cyZ h0_0 h0_1 h0_2 h0_3 h0_4 h0_5 h0_6 h0_7 h0_8 h0_9 h0_10 h0_11 (τ0.1, (τ0.2.1.1, τ0.2.1.2.1, (upd τ0.2.1.2.2.1 x1.toNatClampNeg (τ0.1.2.2.1 x1.toNatClampNeg)), τ0.2.1.2.2.2), τ0.2.2.1, τ0.2.2.2.1, τ0.2.2.2.2))) G dX4_save_35 2 rfl q4 rfl rfl ?_
        refine zq_aload_n (q := 37) G dX4_save_36 0 rfl rfl rfl ?_
        refine zq_get (q := 40) G zu_X4 rfl zw_X4_f33 dX4_save_37 0 8 rfl (by decide) ⟨⟨rfl, rfl⟩, rfl⟩ rfl rfl ?_
        refine zq_iload_n (q := 41) G dX4_save_40 1 rfl rfl rfl ?_
        refine zq_aload_n (q := 42) G dX4_save_41 0 rfl rfl rfl ?_
        refine zq_get (q := 45) G zu_X4 rfl zw_X4_f29 dX4_save_42 0 7 rfl (by decide) ⟨⟨rfl, rfl⟩, rfl⟩ rfl rfl ?_
        refine zq_iload_n (q := 46) G dX4_save_45 1 rfl rfl rfl ?_
        obtain ⟨q5, h⟩ := zif h
        refine zq_zald (q := 47) G dX4_save_46 3 rfl q5 rfl ?_
        obtain ⟨q6, h⟩ := zif h
        refine zq_zast (q := 48) (ws2 := (w_M cyI cyZ h0_0 h0_1 h0_2 h0_3 h0_4 h0_5 h0_6 h0_7 h0_8 h0_9 h0_10 h0_11 (τ0.1, (τ0.2.1.1, τ0.2.1.2.1, (upd τ0.2.1.2.2.1 x1.toNatClampNeg (τ0.1.2.2.1 x1.toNatClampNeg)), (upd τ0.2.1.2.2.2 x1.toNatClampNeg ((τ0.1.2.2.2 x1.toNatClampNeg) &&& 1))), τ0.2.2.1, τ0.2.2.2.1, τ0.2.2.2.2))) G dX4_save_47 4 rfl q6 rfl rfl ?_
        refine zq_iinc (q := 51) (v := (x1 + 1)) (lv2 := [(1, .int (x1 + 1)), (0, .ref h0_0)]) G dX4_save_48 1 rfl rfl (by decide) rfl rfl ?_
        refine zq_goto (q := 18) G dX4_save_51 (by decide) ?_
        exact zq_sub _ [1, 0] rfl (ih _ _ h)
  refine zq_aload_n (q := 1) G dX4_save_0 0 rfl rfl rfl ?_
  refine zq_aload_n (q := 2) G dX4_save_1 0 rfl rfl rfl ?_
  refine zq_get (q := 5) G zu_X4 rfl zw_X4_f7 dX4_save_2 0 0 rfl (by decide) ⟨⟨rfl, rfl⟩, rfl⟩ rfl rfl ?_
  refine zq_put (q := 8) (ws2 := (w_M cyI cyZ h0_0 h0_1 h0_2 h0_3 h0_4 h0_5 h0_6 h0_7 h0_8 h0_9 h0_10 h0_11 (σ0.1, (σ0.1.1, σ0.2.1.2.1, σ0.2.1.2.2.1, σ0.2.1.2.2.2), σ0.2.2.1, σ0.2.2.2.1, σ0.2.2.2.2))) G zu_X4 rfl tyX4_ok nmX4 zw_X4_f16 dX4_save_5 0 2 rfl (by decide) ⟨⟨rfl, rfl⟩, rfl⟩ rfl rfl rfl (Nat.le_of_ble_eq_true rfl) rfl rfl ?_
  refine zq_aload_n (q := 9) G dX4_save_8 0 rfl rfl rfl ?_
  refine zq_aload_n (q := 10) G dX4_save_9 0 rfl rfl rfl ?_
  refine zq_get (q := 13) G zu_X4 rfl zw_X4_f13 dX4_save_10 0 1 rfl (by decide) ⟨⟨rfl, rfl⟩, rfl⟩ rfl rfl ?_
  refine zq_put (q := 16) (ws2 := (w_M cyI cyZ h0_0 h0_1 h0_2 h0_3 h0_4 h0_5 h0_6 h0_7 h0_8 h0_9 h0_10 h0_11 (σ0.1, (σ0.1.1, σ0.1.2.1, σ0.2.1.2.2.1, σ0.2.1.2.2.2), σ0.2.2.1, σ0.2.2.2.1, σ0.2.2.2.2))) G zu_X4 rfl tyX4_ok nmX4 zw_X4_f19 dX4_save_13 0 3 rfl (by decide) ⟨⟨rfl, rfl⟩, rfl⟩ rfl rfl rfl (Nat.le_of_ble_eq_true rfl) rfl rfl ?_
  refine zq_iconst (q := 17) (v := 0) G dX4_save_16 (by decide) rfl ?_
  refine zq_istore_n (q := 18) (lv2 := [(1, .int (0 : Int32)), (0, .ref h0_0)]) G dX4_save_17 rfl (by decide) rfl rfl ?_
  exact zq_sub _ [1, 0] rfl (b18  _ _ _ h)
set_option maxHeartbeats 4000000 in
set_option maxRecDepth 100000 in
theorem c_X4_restore (l : Launch) (D : va_G) (cyI cyZ : ClassId) (h0_0 h0_1 h0_2 h0_3 h0_4 h0_5 h0_6 h0_7 h0_8 h0_9 h0_10 h0_11 : Nat) (σ0 : zM) (r : Int32) (o0 : zM) (h : s_X4_restore σ0 = some (r, o0)) (sz : Nat) : zMi l yX4_restore cX4_restore 2 .int 0 0 D cyI cyZ sz [.ref h0_0] (w_M cyI cyZ h0_0 h0_1 h0_2 h0_3 h0_4 h0_5 h0_6 h0_7 h0_8 h0_9 h0_10 h0_11 σ0) r (w_M cyI cyZ h0_0 h0_1 h0_2 h0_3 h0_4 h0_5 h0_6 h0_7 h0_8 h0_9 h0_10 h0_11 o0) := by
  unfold s_X4_restore at h
  refine zstartI (lv0 := [(0, .ref h0_0)]) (by decide) (Nat.le_of_ble_eq_true rfl) rfl (fun p e s m args below meth c G hr hlocks => ?_)
  have b18 : ∀ (n : Nat) (τ0 : zM) (x1 : Int32), s_X4_restore_18 n τ0 x1 = some (r, o0) → zW p l e ({ frames := 0, cells := 0, slots := 0, locals := 0 } : Room) s m args below meth c D (va_A (w_M cyI cyZ h0_0 h0_1 h0_2 h0_3 h0_4 h0_5 h0_6 h0_7 h0_8 h0_9 h0_10 h0_11 σ0) sz) 2 0 0 (MQ below (zQi D cyI cyZ sz (w_M cyI cyZ h0_0 h0_1 h0_2 h0_3 h0_4 h0_5 h0_6 h0_7 h0_8 h0_9 h0_10 h0_11 σ0) r (w_M cyI cyZ h0_0 h0_1 h0_2 h0_3 h0_4 h0_5 h0_6 h0_7 h0_8 h0_9 h0_10 h0_11 o0)) args s 0 0 (va_A (w_M cyI cyZ h0_0 h0_1 h0_2 h0_3 h0_4 h0_5 h0_6 h0_7 h0_8 h0_9 h0_10 h0_11 σ0) sz)) 18 [(0, .ref h0_0), (1, .int x1)] [] (w_M cyI cyZ h0_0 h0_1 h0_2 h0_3 h0_4 h0_5 h0_6 h0_7 h0_8 h0_9 h0_10 h0_11 τ0) := by
    intro n
    induction n with
    | zero => intro τ0 x1 h; rw [s_X4_restore_18] at h; exact nomatch h
    | succ n ih =>
      intro τ0 x1 h
      rw [s_X4_restore_18] at h
      refine zq_iload_n (q := 19) G dX4_restore_18 1 rfl rfl rfl ?_
      refine zq_bipush (q := 21) (v := 49) G dX4_restore_19 (by decide) rfl ?_
      refine zq_icmp_ge (tgt := 54) (q := 24) G dX4_restore_21 (by decide) rfl (fun c1 => ?_) (fun c1 => ?_)
      · have h := zit h c1
        refine zq_aload_n (q := 55) G dX4_restore_54 0 rfl rfl rfl ?_
        refine zq_iconst (q := 56) (v := -1) G dX4_restore_55 (by decide) rfl ?_
        refine zq_put (q := 59) (ws2 := (w_M cyI cyZ h0_0 h0_1 h0_2 h0_3 h0_4 h0_5 h0_6 h0_7 h0_8 h0_9 h0_10 h0_11 (τ0.1, τ0.2.1, τ0.2.2.1, ((-1 : Int32), τ0.2.2.2.1.2.1, τ0.2.2.2.1.2.2.1, τ0.2.2.2.1.2.2.2), τ0.2.2.2.2))) G zu_X4 rfl tyX4_ok nmX4 zw_X4_f48 dX4_restore_56 0 18 rfl (by decide) ⟨⟨rfl, rfl⟩, rfl⟩ rfl rfl rfl (Nat.le_of_ble_eq_true rfl) rfl rfl ?_
        refine zq_aload_n (q := 60) G dX4_restore_59 0 rfl rfl rfl ?_
        refine zq_get (q := 63) G zu_X4 rfl zw_X4_f7 dX4_restore_60 0 0 rfl (by decide) ⟨⟨rfl, rfl⟩, rfl⟩ rfl rfl ?_
        refine zq_ws (congrArg (fun w9 => (w_M cyI cyZ h0_0 h0_1 h0_2 h0_3 h0_4 h0_5 h0_6 h0_7 h0_8 h0_9 h0_10 h0_11 w9.2)) (zsome h)) ?_
        exact zq_iret G hlocks hr rfl dX4_restore_63 (congrArg Prod.fst (zsome h))
      · have h := zie h c1
        refine zq_aload_n (q := 25) G dX4_restore_24 0 rfl rfl rfl ?_
        refine zq_get (q := 28) G zu_X4 rfl zw_X4_f22 dX4_restore_25 0 5 rfl (by decide) ⟨⟨rfl, rfl⟩, rfl⟩ rfl rfl ?_
        refine zq_iload_n (q := 29) G dX4_restore_28 1 rfl rfl rfl ?_
        refine zq_aload_n (q := 30) G dX4_restore_29 0 rfl rfl rfl ?_
        refine zq_get (q := 33) G zu_X4 rfl zw_X4_f26 dX4_restore_30 0 6 rfl (by decide) ⟨⟨rfl, rfl⟩, rfl⟩ rfl rfl ?_
        refine zq_iload_n (q := 34) G dX4_restore_33 1 rfl rfl rfl ?_
        obtain ⟨q2, h⟩ := zif h
        refine zq_iald (q := 35) G dX4_restore_34 2 rfl q2 rfl ?_
        obtain ⟨q3, h⟩ := zif h
        refine zq_iast (q := 36) (ws2 := (w_M cyI cyZ h0_0 h0_1 h0_2 h0_3 h0_4 h0_5 h0_6 h0_7 h0_8 h0_9 h0_10 h0_11 ((τ0.1.1, τ0.1.2.1, (upd τ0.1.2.2.1 x1.toNatClampNeg (τ0.2.1.2.2.1 x1.toNatClampNeg)), τ0.1.2.2.2), τ0.2.1, τ0.2.2.1, τ0.2.2.2.1, τ0.2.2.2.2))) G dX4_restore_35 1 rfl q3 rfl rfl ?_
        refine zq_aload_n (q := 37) G dX4_restore_36 0 rfl rfl rfl ?_
        refine zq_get (q := 40) G zu_X4 rfl zw_X4_f29 dX4_restore_37 0 7 rfl (by decide) ⟨⟨rfl, rfl⟩, rfl⟩ rfl rfl ?_
        refine zq_iload_n (q := 41) G dX4_restore_40 1 rfl rfl rfl ?_
        refine zq_aload_n (q := 42) G dX4_restore_41 0 rfl rfl rfl ?_
        refine zq_get (q := 45) G zu_X4 rfl zw_X4_f33 dX4_restore_42 0 8 rfl (by decide) ⟨⟨rfl, rfl⟩, rfl⟩ rfl rfl ?_
        refine zq_iload_n (q := 46) G dX4_restore_45 1 rfl rfl rfl ?_
        obtain ⟨q4, h⟩ := zif h
        refine zq_zald (q := 47) G dX4_restore_46 4 rfl q4 rfl ?_
        obtain ⟨q5, h⟩ := zif h
        refine zq_zast (q := 48) (ws2 := (w_M cyI cyZ h0_0 h0_1 h0_2 h0_3 h0_4 h0_5 h0_6 h0_7 h0_8 h0_9 h0_10 h0_11 ((τ0.1.1, τ0.1.2.1, (upd τ0.1.2.2.1 x1.toNatClampNeg (τ0.2.1.2.2.1 x1.toNatClampNeg)), (upd τ0.1.2.2.2 x1.toNatClampNeg ((τ0.2.1.2.2.2 x1.toNatClampNeg) &&& 1))), τ0.2.1, τ0.2.2.1, τ0.2.2.2.1, τ0.2.2.2.2))) G dX4_restore_47 3 rfl q5 rfl rfl ?_
        refine zq_iinc (q := 51) (v := (x1 + 1)) (lv2 := [(1, .int (x1 + 1)), (0, .ref h0_0)]) G dX4_restore_48 1 rfl rfl (by decide) rfl rfl ?_
        refine zq_goto (q := 18) G dX4_restore_51 (by decide) ?_
        exact zq_sub _ [1, 0] rfl (ih _ _ h)
  refine zq_aload_n (q := 1) G dX4_restore_0 0 rfl rfl rfl ?_
  refine zq_aload_n (q := 2) G dX4_restore_1 0 rfl rfl rfl ?_
  refine zq_get (q := 5) G zu_X4 rfl zw_X4_f16 dX4_restore_2 0 2 rfl (by decide) ⟨⟨rfl, rfl⟩, rfl⟩ rfl rfl ?_
  refine zq_put (q := 8) (ws2 := (w_M cyI cyZ h0_0 h0_1 h0_2 h0_3 h0_4 h0_5 h0_6 h0_7 h0_8 h0_9 h0_10 h0_11 ((σ0.2.1.1, σ0.1.2.1, σ0.1.2.2.1, σ0.1.2.2.2), σ0.2.1, σ0.2.2.1, σ0.2.2.2.1, σ0.2.2.2.2))) G zu_X4 rfl tyX4_ok nmX4 zw_X4_f7 dX4_restore_5 0 0 rfl (by decide) ⟨⟨rfl, rfl⟩, rfl⟩ rfl rfl rfl (Nat.le_of_ble_eq_true rfl) rfl rfl ?_
  refine zq_aload_n (q := 9) G dX4_restore_8 0 rfl rfl rfl ?_
  refine zq_aload_n (q := 10) G dX4_restore_9 0 rfl rfl rfl ?_
  refine zq_get (q := 13) G zu_X4 rfl zw_X4_f19 dX4_restore_10 0 3 rfl (by decide) ⟨⟨rfl, rfl⟩, rfl⟩ rfl rfl ?_
  refine zq_put (q := 16) (ws2 := (w_M cyI cyZ h0_0 h0_1 h0_2 h0_3 h0_4 h0_5 h0_6 h0_7 h0_8 h0_9 h0_10 h0_11 ((σ0.2.1.1, σ0.2.1.2.1, σ0.1.2.2.1, σ0.1.2.2.2), σ0.2.1, σ0.2.2.1, σ0.2.2.2.1, σ0.2.2.2.2))) G zu_X4 rfl tyX4_ok nmX4 zw_X4_f13 dX4_restore_13 0 1 rfl (by decide) ⟨⟨rfl, rfl⟩, rfl⟩ rfl rfl rfl (Nat.le_of_ble_eq_true rfl) rfl rfl ?_
  refine zq_iconst (q := 17) (v := 0) G dX4_restore_16 (by decide) rfl ?_
  refine zq_istore_n (q := 18) (lv2 := [(1, .int (0 : Int32)), (0, .ref h0_0)]) G dX4_restore_17 rfl (by decide) rfl rfl ?_
  exact zq_sub _ [1, 0] rfl (b18  _ _ _ h)
set_option maxHeartbeats 4000000 in
set_option maxRecDepth 100000 in
theorem c_X4_distance (l : Launch) (D : va_G) (cyI cyZ : ClassId) (h0_0 h0_1 h0_2 h0_3 h0_4 h0_5 h0_6 h0_7 h0_8 h0_9 h0_10 h0_11 : Nat) (σ0 : zM) (r : Int32) (h : s_X4_distance σ0 = some r) (sz : Nat) : zMi l yX4_distance cX4_distance 5 .int 1 22 D cyI cyZ sz [.ref h0_0] (w_M cyI cyZ h0_0 h0_1 h0_2 h0_3 h0_4 h0_5 h0_6 h0_7 h0_8 h0_9 h0_10 h0_11 σ0) r (w_M cyI cyZ h0_0 h0_1 h0_2 h0_3 h0_4 h0_5 h0_6 h0_7 h0_8 h0_9 h0_10 h0_11 σ0) := by
  unfold s_X4_distance at h
  refine zstartI (lv0 := [(0, .ref h0_0)]) (by decide) (Nat.le_of_ble_eq_true rfl) rfl (fun p e s m args below meth c G hr hlocks => ?_)
  have b38 : ∀ (k28 : (zM → Int32 → Int32 → Option (Int32))) (hk28 : ∀ (x1 : Int32) (x2 : Int32), k28 σ0 x1 x2 = some r → zW p l e ({ frames := 1, cells := 0, slots := 0, locals := 22 } : Room) s m args below meth c D (va_A (w_M cyI cyZ h0_0 h0_1 h0_2 h0_3 h0_4 h0_5 h0_6 h0_7 h0_8 h0_9 h0_10 h0_11 σ0) sz) 5 0 0 (MQ below (zQi D cyI cyZ sz (w_M cyI cyZ h0_0 h0_1 h0_2 h0_3 h0_4 h0_5 h0_6 h0_7 h0_8 h0_9 h0_10 h0_11 σ0) r (w_M cyI cyZ h0_0 h0_1 h0_2 h0_3 h0_4 h0_5 h0_6 h0_7 h0_8 h0_9 h0_10 h0_11 σ0)) args s 0 0 (va_A (w_M cyI cyZ h0_0 h0_1 h0_2 h0_3 h0_4 h0_5 h0_6 h0_7 h0_8 h0_9 h0_10 h0_11 σ0) sz)) 28 [(0, .ref h0_0), (1, .int x1), (2, .int x2)] [] (w_M cyI cyZ h0_0 h0_1 h0_2 h0_3 h0_4 h0_5 h0_6 h0_7 h0_8 h0_9 h0_10 h0_11 σ0)) (n : Nat) (x1 : Int32) (x2 : Int32) (x3 : Int32), s_X4_distance_38 k28 n σ0 x1 x2 x3 = some r → zW p l e ({ frames := 1, cells := 0, slots := 0, locals := 22 } : Room) s m args below meth c D (va_A (w_M cyI cyZ h0_0 h0_1 h0_2 h0_3 h0_4 h0_5 h0_6 h0_7 h0_8 h0_9 h0_10 h0_11 σ0) sz) 5 0 0 (MQ below (zQi D cyI cyZ sz (w_M cyI cyZ h0_0 h0_1 h0_2 h0_3 h0_4 h0_5 h0_6 h0_7 h0_8 h0_9 h0_10 h0_11 σ0) r (w_M cyI cyZ h0_0 h0_1 h0_2 h0_3 h0_4 h0_5 h0_6 h0_7 h0_8 h0_9 h0_10 h0_11 σ0)) args s 0 0 (va_A (w_M cyI cyZ h0_0 h0_1 h0_2 h0_3 h0_4 h0_5 h0_6 h0_7 h0_8 h0_9 h0_10 h0_11 σ0) sz)) 38 [(0, .ref h0_0), (1, .int x1), (2, .int x2), (3, .int x3)] [] (w_M cyI cyZ h0_0 h0_1 h0_2 h0_3 h0_4 h0_5 h0_6 h0_7 h0_8 h0_9 h0_10 h0_11 σ0) := by
    intro k28 hk28
    intro n
    induction n with
    | zero => intro x1 x2 x3 h; rw [s_X4_distance_38] at h; exact nomatch h
    | succ n ih =>
      intro x1 x2 x3 h
      rw [s_X4_distance_38] at h
      refine zq_iload_n (q := 39) G dX4_distance_38 3 rfl rfl rfl ?_
      refine zq_aload_n (q := 40) G dX4_distance_39 0 rfl rfl rfl ?_
      refine zq_get (q := 43) G zu_X4 rfl zw_X4_f7 dX4_distance_40 0 0 rfl (by decide) ⟨⟨rfl, rfl⟩, rfl⟩ rfl rfl ?_
      refine zq_icmp_ge (tgt := 83) (q := 46) G dX4_distance_43 (by decide) rfl (fun c1 => ?_) (fun c1 => ?_)
      · have h := zit h c1
        refine zq_iinc (q := 86) (v := (x2 + 1)) (lv2 := [(2, .int (x2 + 1)), (0, .ref h0_0), (1, .int x1), (3, .int x3)]) G dX4_distance_83 2 rfl rfl (by decide) rfl rfl ?_
        refine zq_goto (q := 28) G dX4_distance_86 (by decide) ?_
        exact zq_sub _ [1, 2, 0] rfl (hk28 _ _ h)
      · have h := zie h c1
        refine zq_aload_n (q := 47) G dX4_distance_46 0 rfl rfl rfl ?_
        refine zq_iload_n (q := 48) G dX4_distance_47 2 rfl rfl rfl ?_
        refine zq_iload_n (q := 49) G dX4_distance_48 3 rfl rfl rfl ?_
        obtain ⟨z2, hc2, h⟩ := zbd h
        refine zq_callVi (q := 52) (ws2 := (w_M cyI cyZ h0_0 h0_1 h0_2 h0_3 h0_4 h0_5 h0_6 h0_7 h0_8 h0_9 h0_10 h0_11 σ0)) (isC := [0, 1, 2, 3, 4, 5, 6, 7, 8, 9, 10, 11]) (isR := []) (perm := [0, 1, 2, 3, 4, 5, 6, 7, 8, 9, 10, 11]) (rest := []) (As := [.int x2, .int x3]) G zs_X4_75 dX4_distance_49 (fun sz9 => c_X4_cost l D cyI cyZ h0_0 h0_1 h0_2 h0_3 h0_4 h0_5 h0_6 h0_7 h0_8 h0_9 h0_10 h0_11 σ0 x2 x3 z2 hc2 sz9) 0 rfl rfl rfl ⟨rfl, rfl, rfl, rfl⟩ rfl (Nat.le_of_ble_eq_true rfl) ⟨Nat.le_of_ble_eq_true rfl, Nat.le_of_ble_eq_true rfl, Nat.zero_le _, Nat.zero_le _⟩ rfl ?_
        refine zq_aload_n (q := 53) G dX4_distance_52 0 rfl rfl rfl ?_
        refine zq_iload_n (q := 54) G dX4_distance_53 2 rfl rfl rfl ?_
        refine zq_iload_n (q := 55) G dX4_distance_54 3 rfl rfl rfl ?_
        obtain ⟨z3, hc3, h⟩ := zbd h
        refine zq_callVi (q := 58) (ws2 := (w_M cyI cyZ h0_0 h0_1 h0_2 h0_3 h0_4 h0_5 h0_6 h0_7 h0_8 h0_9 h0_10 h0_11 σ0)) (isC := [0, 1, 2, 3, 4, 5, 6, 7, 8, 9, 10, 11]) (isR := []) (perm := [0, 1, 2, 3, 4, 5, 6, 7, 8, 9, 10, 11]) (rest := [.int z2]) (As := [.int x2, .int x3]) G zs_X4_156 dX4_distance_55 (fun sz9 => c_X4_savedCost l D cyI cyZ h0_0 h0_1 h0_2 h0_3 h0_4 h0_5 h0_6 h0_7 h0_8 h0_9 h0_10 h0_11 σ0 x2 x3 z3 hc3 sz9) 0 rfl rfl rfl ⟨rfl, rfl, rfl, rfl⟩ rfl (Nat.le_of_ble_eq_true rfl) ⟨Nat.le_of_ble_eq_true rfl, Nat.le_of_ble_eq_true rfl, Nat.zero_le _, Nat.zero_le _⟩ rfl ?_
        refine zq_isub (q := 59) G dX4_distance_58 rfl ?_
        refine zq_istore (q := 61) (lv2 := [(4, .int (z2 - z3)), (0, .ref h0_0), (1, .int x1), (2, .int x2), (3, .int x3)]) G dX4_distance_59 (by decide) rfl rfl ?_
        refine zq_iload_n (q := 62) G dX4_distance_61 2 rfl rfl rfl ?_
        refine zq_iload (q := 64) G dX4_distance_62 0 rfl rfl ?_
        refine zq_if_ge (tgt := 73) (q := 67) G dX4_distance_64 (by decide) rfl (fun c4 => ?_) (fun c4 => ?_)
        · have h := zit h c4
          refine zq_iload (q := 75) G dX4_distance_73 0 rfl rfl ?_
          refine zq_iadd (q := 76) G dX4_distance_75 rfl ?_
          refine zq_istore_n (q := 77) (lv2 := [(1, .int (x1 + (z2 - z3))), (4, .int (z2 - z3)), (0, .ref h0_0), (2, .int x2), (3, .int x3)]) G dX4_distance_76 rfl (by decide) rfl rfl ?_
          refine zq_iinc (q := 80) (v := (x3 + 1)) (lv2 := [(3, .int (x3 + 1)), (1, .int (x1 + (z2 - z3))), (4, .int (z2 - z3)), (0, .ref h0_0), (2, .int x2)]) G dX4_distance_77 4 rfl rfl (by decide) rfl rfl ?_
          refine zq_goto (q := 38) G dX4_distance_80 (by decide) ?_
          exact zq_sub _ [3, 1, 4, 0] rfl (ih _ _ _ h)
        · have h := zie h c4
          refine zq_iload (q := 69) G dX4_distance_67 0 rfl rfl ?_
          refine zq_ineg (q := 70) G dX4_distance_69 rfl ?_
          refine zq_goto (q := 75) G dX4_distance_70 (by decide) ?_
          refine zq_iadd (q := 76) G dX4_distance_75 rfl ?_
          refine zq_istore_n (q := 77) (lv2 := [(1, .int (x1 + (-(z2 - z3)))), (4, .int (z2 - z3)), (0, .ref h0_0), (2, .int x2), (3, .int x3)]) G dX4_distance_76 rfl (by decide) rfl rfl ?_
          refine zq_iinc (q := 80) (v := (x3 + 1)) (lv2 := [(3, .int (x3 + 1)), (1, .int (x1 + (-(z2 - z3)))), (4, .int (z2 - z3)), (0, .ref h0_0), (2, .int x2)]) G dX4_distance_77 4 rfl rfl (by decide) rfl rfl ?_
          refine zq_goto (q := 38) G dX4_distance_80 (by decide) ?_
          exact zq_sub _ [3, 1, 4, 0] rfl (ih _ _ _ h)
  have b28 : ∀ (n : Nat) (x1 : Int32) (x2 : Int32), s_X4_distance_28 n σ0 x1 x2 = some r → zW p l e ({ frames := 1, cells := 0, slots := 0, locals := 22 } : Room) s m args below meth c D (va_A (w_M cyI cyZ h0_0 h0_1 h0_2 h0_3 h0_4 h0_5 h0_6 h0_7 h0_8 h0_9 h0_10 h0_11 σ0) sz) 5 0 0 (MQ below (zQi D cyI cyZ sz (w_M cyI cyZ h0_0 h0_1 h0_2 h0_3 h0_4 h0_5 h0_6 h0_7 h0_8 h0_9 h0_10 h0_11 σ0) r (w_M cyI cyZ h0_0 h0_1 h0_2 h0_3 h0_4 h0_5 h0_6 h0_7 h0_8 h0_9 h0_10 h0_11 σ0)) args s 0 0 (va_A (w_M cyI cyZ h0_0 h0_1 h0_2 h0_3 h0_4 h0_5 h0_6 h0_7 h0_8 h0_9 h0_10 h0_11 σ0) sz)) 28 [(0, .ref h0_0), (1, .int x1), (2, .int x2)] [] (w_M cyI cyZ h0_0 h0_1 h0_2 h0_3 h0_4 h0_5 h0_6 h0_7 h0_8 h0_9 h0_10 h0_11 σ0) := by
    intro n
    induction n with
    | zero => intro x1 x2 h; rw [s_X4_distance_28] at h; exact nomatch h
    | succ n ih =>
      intro x1 x2 h
      rw [s_X4_distance_28] at h
      refine zq_iload_n (q := 29) G dX4_distance_28 2 rfl rfl rfl ?_
      refine zq_aload_n (q := 30) G dX4_distance_29 0 rfl rfl rfl ?_
      refine zq_get (q := 33) G zu_X4 rfl zw_X4_f7 dX4_distance_30 0 0 rfl (by decide) ⟨⟨rfl, rfl⟩, rfl⟩ rfl rfl ?_
      refine zq_icmp_ge (tgt := 89) (q := 36) G dX4_distance_33 (by decide) rfl (fun c1 => ?_) (fun c1 => ?_)
      · have h := zit h c1
        refine zq_iload_n (q := 90) G dX4_distance_89 1 rfl rfl rfl ?_
        exact zq_iret G hlocks hr rfl dX4_distance_90 (zsome h)
      · have h := zie h c1
        refine zq_iconst (q := 37) (v := 0) G dX4_distance_36 (by decide) rfl ?_
        refine zq_istore_n (q := 38) (lv2 := [(3, .int (0 : Int32)), (0, .ref h0_0), (1, .int x1), (2, .int x2)]) G dX4_distance_37 rfl (by decide) rfl rfl ?_
        exact zq_sub _ [1, 2, 3, 0] rfl (b38 _ ih _ _ _ _ h)
  refine zq_aload_n (q := 1) G dX4_distance_0 0 rfl rfl rfl ?_
  refine zq_get (q := 4) G zu_X4 rfl zw_X4_f7 dX4_distance_1 0 0 rfl (by decide) ⟨⟨rfl, rfl⟩, rfl⟩ rfl rfl ?_
  refine zq_aload_n (q := 5) G dX4_distance_4 0 rfl rfl rfl ?_
  refine zq_get (q := 8) G zu_X4 rfl zw_X4_f16 dX4_distance_5 0 2 rfl (by decide) ⟨⟨rfl, rfl⟩, rfl⟩ rfl rfl ?_
  refine zq_icmp_ne (tgt := 22) (q := 11) G dX4_distance_8 (by decide) rfl (fun c1 => ?_) (fun c1 => ?_)
  · have h := zie h c1
    refine zq_iconst (q := 23) (v := -1) G dX4_distance_22 (by decide) rfl ?_
    exact zq_iret G hlocks hr rfl dX4_distance_23 (zsome h)
  · have h := zit h c1
    refine zq_aload_n (q := 12) G dX4_distance_11 0 rfl rfl rfl ?_
    refine zq_get (q := 15) G zu_X4 rfl zw_X4_f13 dX4_distance_12 0 1 rfl (by decide) ⟨⟨rfl, rfl⟩, rfl⟩ rfl rfl ?_
    refine zq_aload_n (q := 16) G dX4_distance_15 0 rfl rfl rfl ?_
    refine zq_get (q := 19) G zu_X4 rfl zw_X4_f19 dX4_distance_16 0 3 rfl (by decide) ⟨⟨rfl, rfl⟩, rfl⟩ rfl rfl ?_
    refine zq_icmp_eq (tgt := 24) (q := 22) G dX4_distance_19 (by decide) rfl (fun c2 => ?_) (fun c2 => ?_)
    · have h := zit h c2
      refine zq_iconst (q := 25) (v := 0) G dX4_distance_24 (by decide) rfl ?_
      refine zq_istore_n (q := 26) (lv2 := [(1, .int (0 : Int32)), (0, .ref h0_0)]) G dX4_distance_25 rfl (by decide) rfl rfl ?_
      refine zq_iconst (q := 27) (v := 0) G dX4_distance_26 (by decide) rfl ?_
      refine zq_istore_n (q := 28) (lv2 := [(2, .int (0 : Int32)), (1, .int (0 : Int32)), (0, .ref h0_0)]) G dX4_distance_27 rfl (by decide) rfl rfl ?_
      exact zq_sub _ [2, 1, 0] rfl (b28  _ _ _ h)
    · have h := zie h c2
      refine zq_iconst (q := 23) (v := -1) G dX4_distance_22 (by decide) rfl ?_
      exact zq_iret G hlocks hr rfl dX4_distance_23 (zsome h)
set_option maxHeartbeats 4000000 in
set_option maxRecDepth 100000 in
theorem c_X4_rows (l : Launch) (D : va_G) (cyI cyZ : ClassId) (h0_0 h0_1 h0_2 h0_3 h0_4 h0_5 h0_6 h0_7 h0_8 h0_9 h0_10 h0_11 : Nat) (σ0 : zM) (r : Int32) (h : s_X4_rows σ0 = some r) (sz : Nat) : zMi l yX4_rows cX4_rows 1 .int 0 0 D cyI cyZ sz [.ref h0_0] (w_M cyI cyZ h0_0 h0_1 h0_2 h0_3 h0_4 h0_5 h0_6 h0_7 h0_8 h0_9 h0_10 h0_11 σ0) r (w_M cyI cyZ h0_0 h0_1 h0_2 h0_3 h0_4 h0_5 h0_6 h0_7 h0_8 h0_9 h0_10 h0_11 σ0) := by
  unfold s_X4_rows at h
  refine zstartI (lv0 := [(0, .ref h0_0)]) (by decide) (Nat.le_of_ble_eq_true rfl) rfl (fun p e s m args below meth c G hr hlocks => ?_)
  refine zq_aload_n (q := 1) G dX4_rows_0 0 rfl rfl rfl ?_
  refine zq_get (q := 4) G zu_X4 rfl zw_X4_f7 dX4_rows_1 0 0 rfl (by decide) ⟨⟨rfl, rfl⟩, rfl⟩ rfl rfl ?_
  exact zq_iret G hlocks hr rfl dX4_rows_4 (zsome h)
set_option maxHeartbeats 4000000 in
set_option maxRecDepth 100000 in
theorem c_X4_columns (l : Launch) (D : va_G) (cyI cyZ : ClassId) (h0_0 h0_1 h0_2 h0_3 h0_4 h0_5 h0_6 h0_7 h0_8 h0_9 h0_10 h0_11 : Nat) (σ0 : zM) (r : Int32) (h : s_X4_columns σ0 = some r) (sz : Nat) : zMi l yX4_columns cX4_columns 1 .int 0 0 D cyI cyZ sz [.ref h0_0] (w_M cyI cyZ h0_0 h0_1 h0_2 h0_3 h0_4 h0_5 h0_6 h0_7 h0_8 h0_9 h0_10 h0_11 σ0) r (w_M cyI cyZ h0_0 h0_1 h0_2 h0_3 h0_4 h0_5 h0_6 h0_7 h0_8 h0_9 h0_10 h0_11 σ0) := by
  unfold s_X4_columns at h
  refine zstartI (lv0 := [(0, .ref h0_0)]) (by decide) (Nat.le_of_ble_eq_true rfl) rfl (fun p e s m args below meth c G hr hlocks => ?_)
  refine zq_aload_n (q := 1) G dX4_columns_0 0 rfl rfl rfl ?_
  refine zq_get (q := 4) G zu_X4 rfl zw_X4_f13 dX4_columns_1 0 1 rfl (by decide) ⟨⟨rfl, rfl⟩, rfl⟩ rfl rfl ?_
  exact zq_iret G hlocks hr rfl dX4_columns_4 (zsome h)
set_option maxHeartbeats 4000000 in
set_option maxRecDepth 100000 in
theorem c_X4_forbiddenCount (l : Launch) (D : va_G) (cyI cyZ : ClassId) (h0_0 h0_1 h0_2 h0_3 h0_4 h0_5 h0_6 h0_7 h0_8 h0_9 h0_10 h0_11 : Nat) (σ0 : zM) (r : Int32) (h : s_X4_forbiddenCount σ0 = some r) (sz : Nat) : zMi l yX4_forbiddenCount cX4_forbiddenCount 1 .int 1 23 D cyI cyZ sz [.ref h0_0] (w_M cyI cyZ h0_0 h0_1 h0_2 h0_3 h0_4 h0_5 h0_6 h0_7 h0_8 h0_9 h0_10 h0_11 σ0) r (w_M cyI cyZ h0_0 h0_1 h0_2 h0_3 h0_4 h0_5 h0_6 h0_7 h0_8 h0_9 h0_10 h0_11 σ0) := by
  unfold s_X4_forbiddenCount at h
  refine zstartI (lv0 := [(0, .ref h0_0)]) (by decide) (Nat.le_of_ble_eq_true rfl) rfl (fun p e s m args below meth c G hr hlocks => ?_)
  refine zq_aload_n (q := 1) G dX4_forbiddenCount_0 0 rfl rfl rfl ?_
  obtain ⟨z1, hc1, h⟩ := zbd h
  refine zq_callVi (q := 4) (ws2 := (w_M cyI cyZ h0_0 h0_1 h0_2 h0_3 h0_4 h0_5 h0_6 h0_7 h0_8 h0_9 h0_10 h0_11 σ0)) (isC := [0, 1, 2, 3, 4, 5, 6, 7, 8, 9, 10, 11]) (isR := []) (perm := [0, 1, 2, 3, 4, 5, 6, 7, 8, 9, 10, 11]) (rest := []) (As := []) G zs_X4_134 dX4_forbiddenCount_1 (fun sz9 => c_X4_forbiddenMany l D cyI cyZ h0_0 h0_1 h0_2 h0_3 h0_4 h0_5 h0_6 h0_7 h0_8 h0_9 h0_10 h0_11 σ0 z1 hc1 sz9) 0 rfl rfl rfl ⟨rfl, rfl, rfl, rfl⟩ rfl (Nat.le_of_ble_eq_true rfl) ⟨Nat.le_of_ble_eq_true rfl, Nat.le_of_ble_eq_true rfl, Nat.zero_le _, Nat.zero_le _⟩ rfl ?_
  exact zq_iret G hlocks hr rfl dX4_forbiddenCount_4 (zsome h)
set_option maxHeartbeats 4000000 in
set_option maxRecDepth 100000 in
theorem c_X4_totalCost (l : Launch) (D : va_G) (cyI cyZ : ClassId) (h0_0 h0_1 h0_2 h0_3 h0_4 h0_5 h0_6 h0_7 h0_8 h0_9 h0_10 h0_11 : Nat) (σ0 : zM) (r : Int32) (h : s_X4_totalCost σ0 = some r) (sz : Nat) : zMi l yX4_totalCost cX4_totalCost 1 .int 3 67 D cyI cyZ sz [.ref h0_0] (w_M cyI cyZ h0_0 h0_1 h0_2 h0_3 h0_4 h0_5 h0_6 h0_7 h0_8 h0_9 h0_10 h0_11 σ0) r (w_M cyI cyZ h0_0 h0_1 h0_2 h0_3 h0_4 h0_5 h0_6 h0_7 h0_8 h0_9 h0_10 h0_11 σ0) := by
  unfold s_X4_totalCost at h
  refine zstartI (lv0 := [(0, .ref h0_0)]) (by decide) (Nat.le_of_ble_eq_true rfl) rfl (fun p e s m args below meth c G hr hlocks => ?_)
  refine zq_aload_n (q := 1) G dX4_totalCost_0 0 rfl rfl rfl ?_
  obtain ⟨z1, hc1, h⟩ := zbd h
  refine zq_callVi (q := 4) (ws2 := (w_M cyI cyZ h0_0 h0_1 h0_2 h0_3 h0_4 h0_5 h0_6 h0_7 h0_8 h0_9 h0_10 h0_11 σ0)) (isC := [0, 1, 2, 3, 4, 5, 6, 7, 8, 9, 10, 11]) (isR := []) (perm := [0, 1, 2, 3, 4, 5, 6, 7, 8, 9, 10, 11]) (rest := []) (As := []) G zs_X4_153 dX4_totalCost_1 (fun sz9 => c_X4_total l D cyI cyZ h0_0 h0_1 h0_2 h0_3 h0_4 h0_5 h0_6 h0_7 h0_8 h0_9 h0_10 h0_11 σ0 z1 hc1 sz9) 0 rfl rfl rfl ⟨rfl, rfl, rfl, rfl⟩ rfl (Nat.le_of_ble_eq_true rfl) ⟨Nat.le_of_ble_eq_true rfl, Nat.le_of_ble_eq_true rfl, Nat.zero_le _, Nat.zero_le _⟩ rfl ?_
  exact zq_iret G hlocks hr rfl dX4_totalCost_4 (zsome h)
set_option maxHeartbeats 4000000 in
set_option maxRecDepth 100000 in
theorem c_X4_minimum (l : Launch) (D : va_G) (cyI cyZ : ClassId) (h0_0 h0_1 h0_2 h0_3 h0_4 h0_5 h0_6 h0_7 h0_8 h0_9 h0_10 h0_11 : Nat) (σ0 : zM) (r : Int32) (o0 : zM) (h : s_X4_minimum σ0 = some (r, o0)) (sz : Nat) : zMi l yX4_minimum cX4_minimum 1 .int 15 302 D cyI cyZ sz [.ref h0_0] (w_M cyI cyZ h0_0 h0_1 h0_2 h0_3 h0_4 h0_5 h0_6 h0_7 h0_8 h0_9 h0_10 h0_11 σ0) r (w_M cyI cyZ h0_0 h0_1 h0_2 h0_3 h0_4 h0_5 h0_6 h0_7 h0_8 h0_9 h0_10 h0_11 o0) := by
  unfold s_X4_minimum at h
  refine zstartI (lv0 := [(0, .ref h0_0)]) (by decide) (Nat.le_of_ble_eq_true rfl) rfl (fun p e s m args below meth c G hr hlocks => ?_)
  refine zq_aload_n (q := 1) G dX4_minimum_0 0 rfl rfl rfl ?_
  obtain ⟨z1, hc1, h⟩ := zbd h
  refine zq_callVv (q := 4) (ws2 := (w_M cyI cyZ h0_0 h0_1 h0_2 h0_3 h0_4 h0_5 h0_6 h0_7 h0_8 h0_9 h0_10 h0_11 z1)) (isC := [0, 1, 2, 3, 4, 5, 6, 7, 8, 9, 10, 11]) (isR := []) (perm := [0, 1, 2, 3, 4, 5, 6, 7, 8, 9, 10, 11]) (rest := []) (As := []) G zs_X4_114 dX4_minimum_1 (fun sz9 => c_X4_look_ l D cyI cyZ h0_0 h0_1 h0_2 h0_3 h0_4 h0_5 h0_6 h0_7 h0_8 h0_9 h0_10 h0_11 σ0 z1 hc1 sz9) 0 rfl rfl rfl ⟨rfl, rfl, rfl, rfl⟩ rfl (Nat.le_of_ble_eq_true rfl) ⟨Nat.le_of_ble_eq_true rfl, Nat.le_of_ble_eq_true rfl, Nat.zero_le _, Nat.zero_le _⟩ rfl ?_
  refine zq_aload_n (q := 5) G dX4_minimum_4 0 rfl rfl rfl ?_
  refine zq_get (q := 8) G zu_X4 rfl zw_X4_f80 dX4_minimum_5 0 13 rfl (by decide) ⟨⟨rfl, rfl⟩, rfl⟩ rfl rfl ?_
  refine zq_ws (congrArg (fun w9 => (w_M cyI cyZ h0_0 h0_1 h0_2 h0_3 h0_4 h0_5 h0_6 h0_7 h0_8 h0_9 h0_10 h0_11 w9.2)) (zsome h)) ?_
  exact zq_iret G hlocks hr rfl dX4_minimum_8 (congrArg Prod.fst (zsome h))
set_option maxHeartbeats 4000000 in
set_option maxRecDepth 100000 in
theorem c_X4_savedMinimum (l : Launch) (D : va_G) (cyI cyZ : ClassId) (h0_0 h0_1 h0_2 h0_3 h0_4 h0_5 h0_6 h0_7 h0_8 h0_9 h0_10 h0_11 : Nat) (σ0 : zM) (r : Int32) (o0 : zM) (h : s_X4_savedMinimum σ0 = some (r, o0)) (sz : Nat) : zMi l yX4_savedMinimum cX4_savedMinimum 3 .int 14 282 D cyI cyZ sz [.ref h0_0] (w_M cyI cyZ h0_0 h0_1 h0_2 h0_3 h0_4 h0_5 h0_6 h0_7 h0_8 h0_9 h0_10 h0_11 σ0) r (w_M cyI cyZ h0_0 h0_1 h0_2 h0_3 h0_4 h0_5 h0_6 h0_7 h0_8 h0_9 h0_10 h0_11 o0) := by
  unfold s_X4_savedMinimum at h
  refine zstartI (lv0 := [(0, .ref h0_0)]) (by decide) (Nat.le_of_ble_eq_true rfl) rfl (fun p e s m args below meth c G hr hlocks => ?_)
  have b12 : ∀ (k2 : (zM → Int32 → Option (Int32 × zM))) (hk2 : ∀ (τ0 : zM) (x1 : Int32), k2 τ0 x1 = some (r, o0) → zW p l e ({ frames := 14, cells := 0, slots := 0, locals := 282 } : Room) s m args below meth c D (va_A (w_M cyI cyZ h0_0 h0_1 h0_2 h0_3 h0_4 h0_5 h0_6 h0_7 h0_8 h0_9 h0_10 h0_11 σ0) sz) 3 0 0 (MQ below (zQi D cyI cyZ sz (w_M cyI cyZ h0_0 h0_1 h0_2 h0_3 h0_4 h0_5 h0_6 h0_7 h0_8 h0_9 h0_10 h0_11 σ0) r (w_M cyI cyZ h0_0 h0_1 h0_2 h0_3 h0_4 h0_5 h0_6 h0_7 h0_8 h0_9 h0_10 h0_11 o0)) args s 0 0 (va_A (w_M cyI cyZ h0_0 h0_1 h0_2 h0_3 h0_4 h0_5 h0_6 h0_7 h0_8 h0_9 h0_10 h0_11 σ0) sz)) 2 [(0, .ref h0_0), (1, .int x1)] [] (w_M cyI cyZ h0_0 h0_1 h0_2 h0_3 h0_4 h0_5 h0_6 h0_7 h0_8 h0_9 h0_10 h0_11 τ0)) (n : Nat) (τ0 : zM) (x1 : Int32) (x2 : Int32), s_X4_savedMinimum_12 k2 n τ0 x1 x2 = some (r, o0) → zW p l e ({ frames := 14, cells := 0, slots := 0, locals := 282 } : Room) s m args below meth c D (va_A (w_M cyI cyZ h0_0 h0_1 h0_2 h0_3 h0_4 h0_5 h0_6 h0_7 h0_8 h0_9 h0_10 h0_11 σ0) sz) 3 0 0 (MQ below (zQi D cyI cyZ sz (w_M cyI cyZ h0_0 h0_1 h0_2 h0_3 h0_4 h0_5 h0_6 h0_7 h0_8 h0_9 h0_10 h0_11 σ0) r (w_M cyI cyZ h0_0 h0_1 h0_2 h0_3 h0_4 h0_5 h0_6 h0_7 h0_8 h0_9 h0_10 h0_11 o0)) args s 0 0 (va_A (w_M cyI cyZ h0_0 h0_1 h0_2 h0_3 h0_4 h0_5 h0_6 h0_7 h0_8 h0_9 h0_10 h0_11 σ0) sz)) 12 [(0, .ref h0_0), (1, .int x1), (2, .int x2)] [] (w_M cyI cyZ h0_0 h0_1 h0_2 h0_3 h0_4 h0_5 h0_6 h0_7 h0_8 h0_9 h0_10 h0_11 τ0) := by
    intro k2 hk2
    intro n
    induction n with
    | zero => intro τ0 x1 x2 h; rw [s_X4_savedMinimum_12] at h; exact nomatch h
    | succ n ih =>
      intro τ0 x1 x2 h
      rw [s_X4_savedMinimum_12] at h
      refine zq_iload_n (q := 13) G dX4_savedMinimum_12 2 rfl rfl rfl ?_
      refine zq_aload_n (q := 14) G dX4_savedMinimum_13 0 rfl rfl rfl ?_
      refine zq_get (q := 17) G zu_X4 rfl zw_X4_f16 dX4_savedMinimum_14 0 2 rfl (by decide) ⟨⟨rfl, rfl⟩, rfl⟩ rfl rfl ?_
      refine zq_icmp_ge (tgt := 43) (q := 20) G dX4_savedMinimum_17 (by decide) rfl (fun c1 => ?_) (fun c1 => ?_)
      · have h := zit h c1
        refine zq_iinc (q := 46) (v := (x1 + 1)) (lv2 := [(1, .int (x1 + 1)), (0, .ref h0_0), (2, .int x2)]) G dX4_savedMinimum_43 1 rfl rfl (by decide) rfl rfl ?_
        refine zq_goto (q := 2) G dX4_savedMinimum_46 (by decide) ?_
        exact zq_sub _ [1, 0] rfl (hk2 _ _ h)
      · have h := zie h c1
        refine zq_aload_n (q := 21) G dX4_savedMinimum_20 0 rfl rfl rfl ?_
        refine zq_get (q := 24) G zu_X4 rfl zw_X4_f36 dX4_savedMinimum_21 0 9 rfl (by decide) ⟨⟨rfl, rfl⟩, rfl⟩ rfl rfl ?_
        refine zq_bipush (q := 26) (v := 7) G dX4_savedMinimum_24 (by decide) rfl ?_
        refine zq_iload_n (q := 27) G dX4_savedMinimum_26 1 rfl rfl rfl ?_
        refine zq_imul (q := 28) G dX4_savedMinimum_27 rfl ?_
        refine zq_iload_n (q := 29) G dX4_savedMinimum_28 2 rfl rfl rfl ?_
        refine zq_iadd (q := 30) G dX4_savedMinimum_29 rfl ?_
        refine zq_aload_n (q := 31) G dX4_savedMinimum_30 0 rfl rfl rfl ?_
        refine zq_iload_n (q := 32) G dX4_savedMinimum_31 1 rfl rfl rfl ?_
        refine zq_iload_n (q := 33) G dX4_savedMinimum_32 2 rfl rfl rfl ?_
        obtain ⟨z2, hc2, h⟩ := zbd h
        refine zq_callVi (q := 36) (ws2 := (w_M cyI cyZ h0_0 h0_1 h0_2 h0_3 h0_4 h0_5 h0_6 h0_7 h0_8 h0_9 h0_10 h0_11 τ0)) (isC := [0, 1, 2, 3, 4, 5, 6, 7, 8, 9, 10, 11]) (isR := []) (perm := [0, 1, 2, 3, 4, 5, 6, 7, 8, 9, 10, 11]) (rest := [.int (((7 : Int32) * x1) + x2), .ref h0_5]) (As := [.int x1, .int x2]) G zs_X4_156 dX4_savedMinimum_33 (fun sz9 => c_X4_savedCost l D cyI cyZ h0_0 h0_1 h0_2 h0_3 h0_4 h0_5 h0_6 h0_7 h0_8 h0_9 h0_10 h0_11 τ0 x1 x2 z2 hc2 sz9) 0 rfl rfl rfl ⟨rfl, rfl, rfl, rfl⟩ rfl (Nat.le_of_ble_eq_true rfl) ⟨Nat.le_of_ble_eq_true rfl, Nat.le_of_ble_eq_true rfl, Nat.zero_le _, Nat.zero_le _⟩ rfl ?_
        obtain ⟨q3, h⟩ := zif h
        refine zq_iast (q := 37) (ws2 := (w_M cyI cyZ h0_0 h0_1 h0_2 h0_3 h0_4 h0_5 h0_6 h0_7 h0_8 h0_9 h0_10 h0_11 (τ0.1, τ0.2.1, ((upd τ0.2.2.1.1 (((7 : Int32) * x1) + x2).toNatClampNeg z2), τ0.2.2.1.2.1, τ0.2.2.1.2.2.1, τ0.2.2.1.2.2.2.1, τ0.2.2.1.2.2.2.2.1, τ0.2.2.1.2.2.2.2.2.1, τ0.2.2.1.2.2.2.2.2.2.1, τ0.2.2.1.2.2.2.2.2.2.2.1, τ0.2.2.1.2.2.2.2.2.2.2.2.1, τ0.2.2.1.2.2.2.2.2.2.2.2.2.1, τ0.2.2.1.2.2.2.2.2.2.2.2.2.2), τ0.2.2.2.1, τ0.2.2.2.2))) G dX4_savedMinimum_36 5 rfl q3 rfl rfl ?_
        refine zq_iinc (q := 40) (v := (x2 + 1)) (lv2 := [(2, .int (x2 + 1)), (0, .ref h0_0), (1, .int x1)]) G dX4_savedMinimum_37 2 rfl rfl (by decide) rfl rfl ?_
        refine zq_goto (q := 12) G dX4_savedMinimum_40 (by decide) ?_
        exact zq_sub _ [1, 2, 0] rfl (ih _ _ _ h)
  have b2 : ∀ (n : Nat) (τ0 : zM) (x1 : Int32), s_X4_savedMinimum_2 n τ0 x1 = some (r, o0) → zW p l e ({ frames := 14, cells := 0, slots := 0, locals := 282 } : Room) s m args below meth c D (va_A (w_M cyI cyZ h0_0 h0_1 h0_2 h0_3 h0_4 h0_5 h0_6 h0_7 h0_8 h0_9 h0_10 h0_11 σ0) sz) 3 0 0 (MQ below (zQi D cyI cyZ sz (w_M cyI cyZ h0_0 h0_1 h0_2 h0_3 h0_4 h0_5 h0_6 h0_7 h0_8 h0_9 h0_10 h0_11 σ0) r (w_M cyI cyZ h0_0 h0_1 h0_2 h0_3 h0_4 h0_5 h0_6 h0_7 h0_8 h0_9 h0_10 h0_11 o0)) args s 0 0 (va_A (w_M cyI cyZ h0_0 h0_1 h0_2 h0_3 h0_4 h0_5 h0_6 h0_7 h0_8 h0_9 h0_10 h0_11 σ0) sz)) 2 [(0, .ref h0_0), (1, .int x1)] [] (w_M cyI cyZ h0_0 h0_1 h0_2 h0_3 h0_4 h0_5 h0_6 h0_7 h0_8 h0_9 h0_10 h0_11 τ0) := by
    intro n
    induction n with
    | zero => intro τ0 x1 h; rw [s_X4_savedMinimum_2] at h; exact nomatch h
    | succ n ih =>
      intro τ0 x1 h
      rw [s_X4_savedMinimum_2] at h
      refine zq_iload_n (q := 3) G dX4_savedMinimum_2 1 rfl rfl rfl ?_
      refine zq_aload_n (q := 4) G dX4_savedMinimum_3 0 rfl rfl rfl ?_
      refine zq_get (q := 7) G zu_X4 rfl zw_X4_f16 dX4_savedMinimum_4 0 2 rfl (by decide) ⟨⟨rfl, rfl⟩, rfl⟩ rfl rfl ?_
      refine zq_icmp_ge (tgt := 49) (q := 10) G dX4_savedMinimum_7 (by decide) rfl (fun c1 => ?_) (fun c1 => ?_)
      · have h := zit h c1
        refine zq_aload_n (q := 50) G dX4_savedMinimum_49 0 rfl rfl rfl ?_
        refine zq_aload_n (q := 51) G dX4_savedMinimum_50 0 rfl rfl rfl ?_
        refine zq_get (q := 54) G zu_X4 rfl zw_X4_f16 dX4_savedMinimum_51 0 2 rfl (by decide) ⟨⟨rfl, rfl⟩, rfl⟩ rfl rfl ?_
        obtain ⟨z2, hc2, h⟩ := zbd h
        refine zq_callVv (q := 57) (ws2 := (w_M cyI cyZ h0_0 h0_1 h0_2 h0_3 h0_4 h0_5 h0_6 h0_7 h0_8 h0_9 h0_10 h0_11 z2)) (isC := [0, 1, 2, 3, 4, 5, 6, 7, 8, 9, 10, 11]) (isR := []) (perm := [0, 1, 2, 3, 4, 5, 6, 7, 8, 9, 10, 11]) (rest := []) (As := [.int τ0.2.1.1]) G zs_X4_111 dX4_savedMinimum_54 (fun sz9 => c_X4_look l D cyI cyZ h0_0 h0_1 h0_2 h0_3 h0_4 h0_5 h0_6 h0_7 h0_8 h0_9 h0_10 h0_11 τ0 τ0.2.1.1 z2 hc2 sz9) 0 rfl rfl rfl ⟨rfl, rfl, rfl, rfl⟩ rfl (Nat.le_of_ble_eq_true rfl) ⟨Nat.le_of_ble_eq_true rfl, Nat.le_of_ble_eq_true rfl, Nat.zero_le _, Nat.zero_le _⟩ rfl ?_
        refine zq_aload_n (q := 58) G dX4_savedMinimum_57 0 rfl rfl rfl ?_
        refine zq_get (q := 61) G zu_X4 rfl zw_X4_f80 dX4_savedMinimum_58 0 13 rfl (by decide) ⟨⟨rfl, rfl⟩, rfl⟩ rfl rfl ?_
        refine zq_ws (congrArg (fun w9 => (w_M cyI cyZ h0_0 h0_1 h0_2 h0_3 h0_4 h0_5 h0_6 h0_7 h0_8 h0_9 h0_10 h0_11 w9.2)) (zsome h)) ?_
        exact zq_iret G hlocks hr rfl dX4_savedMinimum_61 (congrArg Prod.fst (zsome h))
      · have h := zie h c1
        refine zq_iconst (q := 11) (v := 0) G dX4_savedMinimum_10 (by decide) rfl ?_
        refine zq_istore_n (q := 12) (lv2 := [(2, .int (0 : Int32)), (0, .ref h0_0), (1, .int x1)]) G dX4_savedMinimum_11 rfl (by decide) rfl rfl ?_
        exact zq_sub _ [1, 2, 0] rfl (b12 _ ih _ _ _ _ h)
  refine zq_iconst (q := 1) (v := 0) G dX4_savedMinimum_0 (by decide) rfl ?_
  refine zq_istore_n (q := 2) (lv2 := [(1, .int (0 : Int32)), (0, .ref h0_0)]) G dX4_savedMinimum_1 rfl (by decide) rfl rfl ?_
  exact zq_sub _ [1, 0] rfl (b2  _ _ _ h)
set_option maxHeartbeats 4000000 in
set_option maxRecDepth 100000 in
theorem c_X4_assigned (l : Launch) (D : va_G) (cyI cyZ : ClassId) (h0_0 h0_1 h0_2 h0_3 h0_4 h0_5 h0_6 h0_7 h0_8 h0_9 h0_10 h0_11 : Nat) (σ0 : zM) (p0 : Int32) (r : Int32) (o0 : zM) (h : s_X4_assigned σ0 p0 = some (r, o0)) (sz : Nat) : zMi l yX4_assigned cX4_assigned 2 .int 15 302 D cyI cyZ sz [.ref h0_0, .int p0] (w_M cyI cyZ h0_0 h0_1 h0_2 h0_3 h0_4 h0_5 h0_6 h0_7 h0_8 h0_9 h0_10 h0_11 σ0) r (w_M cyI cyZ h0_0 h0_1 h0_2 h0_3 h0_4 h0_5 h0_6 h0_7 h0_8 h0_9 h0_10 h0_11 o0) := by
  unfold s_X4_assigned at h
  refine zstartI (lv0 := [(0, .ref h0_0), (1, .int p0)]) (by decide) (Nat.le_of_ble_eq_true rfl) rfl (fun p e s m args below meth c G hr hlocks => ?_)
  have b14 : ∀ (τ0 : zM) (x1 : Int32) (y0 : Int32), s_X4_assigned_14 τ0 x1 y0 = some (r, o0) → zW p l e ({ frames := 15, cells := 0, slots := 0, locals := 302 } : Room) s m args below meth c D (va_A (w_M cyI cyZ h0_0 h0_1 h0_2 h0_3 h0_4 h0_5 h0_6 h0_7 h0_8 h0_9 h0_10 h0_11 σ0) sz) 2 0 0 (MQ below (zQi D cyI cyZ sz (w_M cyI cyZ h0_0 h0_1 h0_2 h0_3 h0_4 h0_5 h0_6 h0_7 h0_8 h0_9 h0_10 h0_11 σ0) r (w_M cyI cyZ h0_0 h0_1 h0_2 h0_3 h0_4 h0_5 h0_6 h0_7 h0_8 h0_9 h0_10 h0_11 o0)) args s 0 0 (va_A (w_M cyI cyZ h0_0 h0_1 h0_2 h0_3 h0_4 h0_5 h0_6 h0_7 h0_8 h0_9 h0_10 h0_11 σ0) sz)) 14 [(0, .ref h0_0), (1, .int x1)] [.int y0, .ref h0_0] (w_M cyI cyZ h0_0 h0_1 h0_2 h0_3 h0_4 h0_5 h0_6 h0_7 h0_8 h0_9 h0_10 h0_11 τ0) := by
    intro τ0 x1 y0 h
    unfold s_X4_assigned_14 at h
    obtain ⟨z1, hc1, h⟩ := zbd h
    refine zq_callVi (q := 17) (ws2 := (w_M cyI cyZ h0_0 h0_1 h0_2 h0_3 h0_4 h0_5 h0_6 h0_7 h0_8 h0_9 h0_10 h0_11 z1.2)) (isC := [0, 1, 2, 3, 4, 5, 6, 7, 8, 9, 10, 11]) (isR := []) (perm := [0, 1, 2, 3, 4, 5, 6, 7, 8, 9, 10, 11]) (rest := []) (As := [.int y0]) G zs_X4_118 dX4_assigned_14 (fun sz9 => c_X4_isWrong l D cyI cyZ h0_0 h0_1 h0_2 h0_3 h0_4 h0_5 h0_6 h0_7 h0_8 h0_9 h0_10 h0_11 τ0 y0 z1.1 z1.2 hc1 sz9) 0 rfl rfl rfl ⟨rfl, rfl, rfl, rfl⟩ rfl (Nat.le_of_ble_eq_true rfl) ⟨Nat.le_of_ble_eq_true rfl, Nat.le_of_ble_eq_true rfl, Nat.zero_le _, Nat.zero_le _⟩ rfl ?_
    refine zq_if_eq (tgt := 22) (q := 20) G dX4_assigned_17 (by decide) rfl (fun c2 => ?_) (fun c2 => ?_)
    · have h := zit h c2
      refine zq_aload_n (q := 23) G dX4_assigned_22 0 rfl rfl rfl ?_
      obtain ⟨z3, hc3, h⟩ := zbd h
      refine zq_callVv (q := 26) (ws2 := (w_M cyI cyZ h0_0 h0_1 h0_2 h0_3 h0_4 h0_5 h0_6 h0_7 h0_8 h0_9 h0_10 h0_11 z3)) (isC := [0, 1, 2, 3, 4, 5, 6, 7, 8, 9, 10, 11]) (isR := []) (perm := [0, 1, 2, 3, 4, 5, 6, 7, 8, 9, 10, 11]) (rest := []) (As := []) G zs_X4_114 dX4_assigned_23 (fun sz9 => c_X4_look_ l D cyI cyZ h0_0 h0_1 h0_2 h0_3 h0_4 h0_5 h0_6 h0_7 h0_8 h0_9 h0_10 h0_11 z1.2 z3 hc3 sz9) 0 rfl rfl rfl ⟨rfl, rfl, rfl, rfl⟩ rfl (Nat.le_of_ble_eq_true rfl) ⟨Nat.le_of_ble_eq_true rfl, Nat.le_of_ble_eq_true rfl, Nat.zero_le _, Nat.zero_le _⟩ rfl ?_
      refine zq_aload_n (q := 27) G dX4_assigned_26 0 rfl rfl rfl ?_
      refine zq_get (q := 30) G zu_X4 rfl zw_X4_f45 dX4_assigned_27 0 12 rfl (by decide) ⟨⟨rfl, rfl⟩, rfl⟩ rfl rfl ?_
      refine zq_iload_n (q := 31) G dX4_assigned_30 1 rfl rfl rfl ?_
      obtain ⟨q4, h⟩ := zif h
      refine zq_iald (q := 32) G dX4_assigned_31 8 rfl q4 rfl ?_
      refine zq_ws (congrArg (fun w9 => (w_M cyI cyZ h0_0 h0_1 h0_2 h0_3 h0_4 h0_5 h0_6 h0_7 h0_8 h0_9 h0_10 h0_11 w9.2)) (zsome h)) ?_
      exact zq_iret G hlocks hr rfl dX4_assigned_32 (congrArg Prod.fst (zsome h))
    · have h := zie h c2
      refine zq_iconst (q := 21) (v := 0) G dX4_assigned_20 (by decide) rfl ?_
      refine zq_ws (congrArg (fun w9 => (w_M cyI cyZ h0_0 h0_1 h0_2 h0_3 h0_4 h0_5 h0_6 h0_7 h0_8 h0_9 h0_10 h0_11 w9.2)) (zsome h)) ?_
      exact zq_iret G hlocks hr rfl dX4_assigned_21 (congrArg Prod.fst (zsome h))
  refine zq_aload_n (q := 1) G dX4_assigned_0 0 rfl rfl rfl ?_
  refine zq_aload_n (q := 2) G dX4_assigned_1 0 rfl rfl rfl ?_
  refine zq_iload_n (q := 3) G dX4_assigned_2 1 rfl rfl rfl ?_
  obtain ⟨z1, hc1, h⟩ := zbd h
  refine zq_callVi (q := 6) (ws2 := (w_M cyI cyZ h0_0 h0_1 h0_2 h0_3 h0_4 h0_5 h0_6 h0_7 h0_8 h0_9 h0_10 h0_11 σ0)) (isC := [0, 1, 2, 3, 4, 5, 6, 7, 8, 9, 10, 11]) (isR := []) (perm := [0, 1, 2, 3, 4, 5, 6, 7, 8, 9, 10, 11]) (rest := [.ref h0_0]) (As := [.int p0]) G zs_X4_122 dX4_assigned_3 (fun sz9 => c_X4_isRow l D cyI cyZ h0_0 h0_1 h0_2 h0_3 h0_4 h0_5 h0_6 h0_7 h0_8 h0_9 h0_10 h0_11 σ0 p0 z1 hc1 sz9) 0 rfl rfl rfl ⟨rfl, rfl, rfl, rfl⟩ rfl (Nat.le_of_ble_eq_true rfl) ⟨Nat.le_of_ble_eq_true rfl, Nat.le_of_ble_eq_true rfl, Nat.zero_le _, Nat.zero_le _⟩ rfl ?_
  refine zq_if_eq (tgt := 13) (q := 9) G dX4_assigned_6 (by decide) rfl (fun c2 => ?_) (fun c2 => ?_)
  · have h := zit h c2
    refine zq_iconst (q := 14) (v := 1) G dX4_assigned_13 (by decide) rfl ?_
    exact zq_sub _ [0, 1] rfl (b14  _ _ _ h)
  · have h := zie h c2
    refine zq_iconst (q := 10) (v := 0) G dX4_assigned_9 (by decide) rfl ?_
    refine zq_goto (q := 14) G dX4_assigned_10 (by decide) ?_
    exact zq_sub _ [0, 1] rfl (b14  _ _ _ h)
set_option maxHeartbeats 4000000 in
set_option maxRecDepth 100000 in
theorem c_X4_optimalCount (l : Launch) (D : va_G) (cyI cyZ : ClassId) (h0_0 h0_1 h0_2 h0_3 h0_4 h0_5 h0_6 h0_7 h0_8 h0_9 h0_10 h0_11 : Nat) (σ0 : zM) (r : Int32) (o0 : zM) (h : s_X4_optimalCount σ0 = some (r, o0)) (sz : Nat) : zMi l yX4_optimalCount cX4_optimalCount 1 .int 15 302 D cyI cyZ sz [.ref h0_0] (w_M cyI cyZ h0_0 h0_1 h0_2 h0_3 h0_4 h0_5 h0_6 h0_7 h0_8 h0_9 h0_10 h0_11 σ0) r (w_M cyI cyZ h0_0 h0_1 h0_2 h0_3 h0_4 h0_5 h0_6 h0_7 h0_8 h0_9 h0_10 h0_11 o0) := by
  unfold s_X4_optimalCount at h
  refine zstartI (lv0 := [(0, .ref h0_0)]) (by decide) (Nat.le_of_ble_eq_true rfl) rfl (fun p e s m args below meth c G hr hlocks => ?_)
  refine zq_aload_n (q := 1) G dX4_optimalCount_0 0 rfl rfl rfl ?_
  obtain ⟨z1, hc1, h⟩ := zbd h
  refine zq_callVv (q := 4) (ws2 := (w_M cyI cyZ h0_0 h0_1 h0_2 h0_3 h0_4 h0_5 h0_6 h0_7 h0_8 h0_9 h0_10 h0_11 z1)) (isC := [0, 1, 2, 3, 4, 5, 6, 7, 8, 9, 10, 11]) (isR := []) (perm := [0, 1, 2, 3, 4, 5, 6, 7, 8, 9, 10, 11]) (rest := []) (As := []) G zs_X4_114 dX4_optimalCount_1 (fun sz9 => c_X4_look_ l D cyI cyZ h0_0 h0_1 h0_2 h0_3 h0_4 h0_5 h0_6 h0_7 h0_8 h0_9 h0_10 h0_11 σ0 z1 hc1 sz9) 0 rfl rfl rfl ⟨rfl, rfl, rfl, rfl⟩ rfl (Nat.le_of_ble_eq_true rfl) ⟨Nat.le_of_ble_eq_true rfl, Nat.le_of_ble_eq_true rfl, Nat.zero_le _, Nat.zero_le _⟩ rfl ?_
  refine zq_aload_n (q := 5) G dX4_optimalCount_4 0 rfl rfl rfl ?_
  refine zq_get (q := 8) G zu_X4 rfl zw_X4_f83 dX4_optimalCount_5 0 14 rfl (by decide) ⟨⟨rfl, rfl⟩, rfl⟩ rfl rfl ?_
  refine zq_ws (congrArg (fun w9 => (w_M cyI cyZ h0_0 h0_1 h0_2 h0_3 h0_4 h0_5 h0_6 h0_7 h0_8 h0_9 h0_10 h0_11 w9.2)) (zsome h)) ?_
  exact zq_iret G hlocks hr rfl dX4_optimalCount_8 (congrArg Prod.fst (zsome h))
set_option maxHeartbeats 4000000 in
set_option maxRecDepth 100000 in
theorem c_X4_rowPotential (l : Launch) (D : va_G) (cyI cyZ : ClassId) (h0_0 h0_1 h0_2 h0_3 h0_4 h0_5 h0_6 h0_7 h0_8 h0_9 h0_10 h0_11 : Nat) (σ0 : zM) (p0 : Int32) (r : Int32) (o0 : zM) (h : s_X4_rowPotential σ0 p0 = some (r, o0)) (sz : Nat) : zMi l yX4_rowPotential cX4_rowPotential 2 .int 16 325 D cyI cyZ sz [.ref h0_0, .int p0] (w_M cyI cyZ h0_0 h0_1 h0_2 h0_3 h0_4 h0_5 h0_6 h0_7 h0_8 h0_9 h0_10 h0_11 σ0) r (w_M cyI cyZ h0_0 h0_1 h0_2 h0_3 h0_4 h0_5 h0_6 h0_7 h0_8 h0_9 h0_10 h0_11 o0) := by
  unfold s_X4_rowPotential at h
  refine zstartI (lv0 := [(0, .ref h0_0), (1, .int p0)]) (by decide) (Nat.le_of_ble_eq_true rfl) rfl (fun p e s m args below meth c G hr hlocks => ?_)
  have b14 : ∀ (τ0 : zM) (x1 : Int32) (y0 : Int32), s_X4_rowPotential_14 τ0 x1 y0 = some (r, o0) → zW p l e ({ frames := 16, cells := 0, slots := 0, locals := 325 } : Room) s m args below meth c D (va_A (w_M cyI cyZ h0_0 h0_1 h0_2 h0_3 h0_4 h0_5 h0_6 h0_7 h0_8 h0_9 h0_10 h0_11 σ0) sz) 2 0 0 (MQ below (zQi D cyI cyZ sz (w_M cyI cyZ h0_0 h0_1 h0_2 h0_3 h0_4 h0_5 h0_6 h0_7 h0_8 h0_9 h0_10 h0_11 σ0) r (w_M cyI cyZ h0_0 h0_1 h0_2 h0_3 h0_4 h0_5 h0_6 h0_7 h0_8 h0_9 h0_10 h0_11 o0)) args s 0 0 (va_A (w_M cyI cyZ h0_0 h0_1 h0_2 h0_3 h0_4 h0_5 h0_6 h0_7 h0_8 h0_9 h0_10 h0_11 σ0) sz)) 14 [(0, .ref h0_0), (1, .int x1)] [.int y0, .ref h0_0] (w_M cyI cyZ h0_0 h0_1 h0_2 h0_3 h0_4 h0_5 h0_6 h0_7 h0_8 h0_9 h0_10 h0_11 τ0) := by
    intro τ0 x1 y0 h
    unfold s_X4_rowPotential_14 at h
    obtain ⟨z1, hc1, h⟩ := zbd h
    refine zq_callVi (q := 17) (ws2 := (w_M cyI cyZ h0_0 h0_1 h0_2 h0_3 h0_4 h0_5 h0_6 h0_7 h0_8 h0_9 h0_10 h0_11 z1.2)) (isC := [0, 1, 2, 3, 4, 5, 6, 7, 8, 9, 10, 11]) (isR := []) (perm := [0, 1, 2, 3, 4, 5, 6, 7, 8, 9, 10, 11]) (rest := []) (As := [.int y0]) G zs_X4_118 dX4_rowPotential_14 (fun sz9 => c_X4_isWrong l D cyI cyZ h0_0 h0_1 h0_2 h0_3 h0_4 h0_5 h0_6 h0_7 h0_8 h0_9 h0_10 h0_11 τ0 y0 z1.1 z1.2 hc1 sz9) 0 rfl rfl rfl ⟨rfl, rfl, rfl, rfl⟩ rfl (Nat.le_of_ble_eq_true rfl) ⟨Nat.le_of_ble_eq_true rfl, Nat.le_of_ble_eq_true rfl, Nat.zero_le _, Nat.zero_le _⟩ rfl ?_
    refine zq_if_eq (tgt := 22) (q := 20) G dX4_rowPotential_17 (by decide) rfl (fun c2 => ?_) (fun c2 => ?_)
    · have h := zit h c2
      refine zq_aload_n (q := 23) G dX4_rowPotential_22 0 rfl rfl rfl ?_
      obtain ⟨z3, hc3, h⟩ := zbd h
      refine zq_callVv (q := 26) (ws2 := (w_M cyI cyZ h0_0 h0_1 h0_2 h0_3 h0_4 h0_5 h0_6 h0_7 h0_8 h0_9 h0_10 h0_11 z3)) (isC := [0, 1, 2, 3, 4, 5, 6, 7, 8, 9, 10, 11]) (isR := []) (perm := [0, 1, 2, 3, 4, 5, 6, 7, 8, 9, 10, 11]) (rest := []) (As := []) G zs_X4_159 dX4_rowPotential_23 (fun sz9 => c_X4_findPotentials l D cyI cyZ h0_0 h0_1 h0_2 h0_3 h0_4 h0_5 h0_6 h0_7 h0_8 h0_9 h0_10 h0_11 z1.2 z3 hc3 sz9) 0 rfl rfl rfl ⟨rfl, rfl, rfl, rfl⟩ rfl (Nat.le_of_ble_eq_true rfl) ⟨Nat.le_of_ble_eq_true rfl, Nat.le_of_ble_eq_true rfl, Nat.zero_le _, Nat.zero_le _⟩ rfl ?_
      refine zq_aload_n (q := 27) G dX4_rowPotential_26 0 rfl rfl rfl ?_
      refine zq_get (q := 30) G zu_X4 rfl zw_X4_f54 dX4_rowPotential_27 0 22 rfl (by decide) ⟨⟨rfl, rfl⟩, rfl⟩ rfl rfl ?_
      refine zq_iload_n (q := 31) G dX4_rowPotential_30 1 rfl rfl rfl ?_
      obtain ⟨q4, h⟩ := zif h
      refine zq_iald (q := 32) G dX4_rowPotential_31 10 rfl q4 rfl ?_
      refine zq_ws (congrArg (fun w9 => (w_M cyI cyZ h0_0 h0_1 h0_2 h0_3 h0_4 h0_5 h0_6 h0_7 h0_8 h0_9 h0_10 h0_11 w9.2)) (zsome h)) ?_
      exact zq_iret G hlocks hr rfl dX4_rowPotential_32 (congrArg Prod.fst (zsome h))
    · have h := zie h c2
      refine zq_iconst (q := 21) (v := 0) G dX4_rowPotential_20 (by decide) rfl ?_
      refine zq_ws (congrArg (fun w9 => (w_M cyI cyZ h0_0 h0_1 h0_2 h0_3 h0_4 h0_5 h0_6 h0_7 h0_8 h0_9 h0_10 h0_11 w9.2)) (zsome h)) ?_
      exact zq_iret G hlocks hr rfl dX4_rowPotential_21 (congrArg Prod.fst (zsome h))
  refine zq_aload_n (q := 1) G dX4_rowPotential_0 0 rfl rfl rfl ?_
  refine zq_aload_n (q := 2) G dX4_rowPotential_1 0 rfl rfl rfl ?_
  refine zq_iload_n (q := 3) G dX4_rowPotential_2 1 rfl rfl rfl ?_
  obtain ⟨z1, hc1, h⟩ := zbd h
  refine zq_callVi (q := 6) (ws2 := (w_M cyI cyZ h0_0 h0_1 h0_2 h0_3 h0_4 h0_5 h0_6 h0_7 h0_8 h0_9 h0_10 h0_11 σ0)) (isC := [0, 1, 2, 3, 4, 5, 6, 7, 8, 9, 10, 11]) (isR := []) (perm := [0, 1, 2, 3, 4, 5, 6, 7, 8, 9, 10, 11]) (rest := [.ref h0_0]) (As := [.int p0]) G zs_X4_122 dX4_rowPotential_3 (fun sz9 => c_X4_isRow l D cyI cyZ h0_0 h0_1 h0_2 h0_3 h0_4 h0_5 h0_6 h0_7 h0_8 h0_9 h0_10 h0_11 σ0 p0 z1 hc1 sz9) 0 rfl rfl rfl ⟨rfl, rfl, rfl, rfl⟩ rfl (Nat.le_of_ble_eq_true rfl) ⟨Nat.le_of_ble_eq_true rfl, Nat.le_of_ble_eq_true rfl, Nat.zero_le _, Nat.zero_le _⟩ rfl ?_
  refine zq_if_eq (tgt := 13) (q := 9) G dX4_rowPotential_6 (by decide) rfl (fun c2 => ?_) (fun c2 => ?_)
  · have h := zit h c2
    refine zq_iconst (q := 14) (v := 1) G dX4_rowPotential_13 (by decide) rfl ?_
    exact zq_sub _ [0, 1] rfl (b14  _ _ _ h)
  · have h := zie h c2
    refine zq_iconst (q := 10) (v := 0) G dX4_rowPotential_9 (by decide) rfl ?_
    refine zq_goto (q := 14) G dX4_rowPotential_10 (by decide) ?_
    exact zq_sub _ [0, 1] rfl (b14  _ _ _ h)
set_option maxHeartbeats 4000000 in
set_option maxRecDepth 100000 in
theorem c_X4_columnPotential (l : Launch) (D : va_G) (cyI cyZ : ClassId) (h0_0 h0_1 h0_2 h0_3 h0_4 h0_5 h0_6 h0_7 h0_8 h0_9 h0_10 h0_11 : Nat) (σ0 : zM) (p0 : Int32) (r : Int32) (o0 : zM) (h : s_X4_columnPotential σ0 p0 = some (r, o0)) (sz : Nat) : zMi l yX4_columnPotential cX4_columnPotential 2 .int 16 325 D cyI cyZ sz [.ref h0_0, .int p0] (w_M cyI cyZ h0_0 h0_1 h0_2 h0_3 h0_4 h0_5 h0_6 h0_7 h0_8 h0_9 h0_10 h0_11 σ0) r (w_M cyI cyZ h0_0 h0_1 h0_2 h0_3 h0_4 h0_5 h0_6 h0_7 h0_8 h0_9 h0_10 h0_11 o0) := by
  unfold s_X4_columnPotential at h
  refine zstartI (lv0 := [(0, .ref h0_0), (1, .int p0)]) (by decide) (Nat.le_of_ble_eq_true rfl) rfl (fun p e s m args below meth c G hr hlocks => ?_)
  have b14 : ∀ (τ0 : zM) (x1 : Int32) (y0 : Int32), s_X4_columnPotential_14 τ0 x1 y0 = some (r, o0) → zW p l e ({ frames := 16, cells := 0, slots := 0, locals := 325 } : Room) s m args below meth c D (va_A (w_M cyI cyZ h0_0 h0_1 h0_2 h0_3 h0_4 h0_5 h0_6 h0_7 h0_8 h0_9 h0_10 h0_11 σ0) sz) 2 0 0 (MQ below (zQi D cyI cyZ sz (w_M cyI cyZ h0_0 h0_1 h0_2 h0_3 h0_4 h0_5 h0_6 h0_7 h0_8 h0_9 h0_10 h0_11 σ0) r (w_M cyI cyZ h0_0 h0_1 h0_2 h0_3 h0_4 h0_5 h0_6 h0_7 h0_8 h0_9 h0_10 h0_11 o0)) args s 0 0 (va_A (w_M cyI cyZ h0_0 h0_1 h0_2 h0_3 h0_4 h0_5 h0_6 h0_7 h0_8 h0_9 h0_10 h0_11 σ0) sz)) 14 [(0, .ref h0_0), (1, .int x1)] [.int y0, .ref h0_0] (w_M cyI cyZ h0_0 h0_1 h0_2 h0_3 h0_4 h0_5 h0_6 h0_7 h0_8 h0_9 h0_10 h0_11 τ0) := by
    intro τ0 x1 y0 h
    unfold s_X4_columnPotential_14 at h
    obtain ⟨z1, hc1, h⟩ := zbd h
    refine zq_callVi (q := 17) (ws2 := (w_M cyI cyZ h0_0 h0_1 h0_2 h0_3 h0_4 h0_5 h0_6 h0_7 h0_8 h0_9 h0_10 h0_11 z1.2)) (isC := [0, 1, 2, 3, 4, 5, 6, 7, 8, 9, 10, 11]) (isR := []) (perm := [0, 1, 2, 3, 4, 5, 6, 7, 8, 9, 10, 11]) (rest := []) (As := [.int y0]) G zs_X4_118 dX4_columnPotential_14 (fun sz9 => c_X4_isWrong l D cyI cyZ h0_0 h0_1 h0_2 h0_3 h0_4 h0_5 h0_6 h0_7 h0_8 h0_9 h0_10 h0_11 τ0 y0 z1.1 z1.2 hc1 sz9) 0 rfl rfl rfl ⟨rfl, rfl, rfl, rfl⟩ rfl (Nat.le_of_ble_eq_true rfl) ⟨Nat.le_of_ble_eq_true rfl, Nat.le_of_ble_eq_true rfl, Nat.zero_le _, Nat.zero_le _⟩ rfl ?_
    refine zq_if_eq (tgt := 22) (q := 20) G dX4_columnPotential_17 (by decide) rfl (fun c2 => ?_) (fun c2 => ?_)
    · have h := zit h c2
      refine zq_aload_n (q := 23) G dX4_columnPotential_22 0 rfl rfl rfl ?_
      obtain ⟨z3, hc3, h⟩ := zbd h
      refine zq_callVv (q := 26) (ws2 := (w_M cyI cyZ h0_0 h0_1 h0_2 h0_3 h0_4 h0_5 h0_6 h0_7 h0_8 h0_9 h0_10 h0_11 z3)) (isC := [0, 1, 2, 3, 4, 5, 6, 7, 8, 9, 10, 11]) (isR := []) (perm := [0, 1, 2, 3, 4, 5, 6, 7, 8, 9, 10, 11]) (rest := []) (As := []) G zs_X4_159 dX4_columnPotential_23 (fun sz9 => c_X4_findPotentials l D cyI cyZ h0_0 h0_1 h0_2 h0_3 h0_4 h0_5 h0_6 h0_7 h0_8 h0_9 h0_10 h0_11 z1.2 z3 hc3 sz9) 0 rfl rfl rfl ⟨rfl, rfl, rfl, rfl⟩ rfl (Nat.le_of_ble_eq_true rfl) ⟨Nat.le_of_ble_eq_true rfl, Nat.le_of_ble_eq_true rfl, Nat.zero_le _, Nat.zero_le _⟩ rfl ?_
      refine zq_aload_n (q := 27) G dX4_columnPotential_26 0 rfl rfl rfl ?_
      refine zq_get (q := 30) G zu_X4 rfl zw_X4_f57 dX4_columnPotential_27 0 23 rfl (by decide) ⟨⟨rfl, rfl⟩, rfl⟩ rfl rfl ?_
      refine zq_iload_n (q := 31) G dX4_columnPotential_30 1 rfl rfl rfl ?_
      obtain ⟨q4, h⟩ := zif h
      refine zq_iald (q := 32) G dX4_columnPotential_31 11 rfl q4 rfl ?_
      refine zq_ws (congrArg (fun w9 => (w_M cyI cyZ h0_0 h0_1 h0_2 h0_3 h0_4 h0_5 h0_6 h0_7 h0_8 h0_9 h0_10 h0_11 w9.2)) (zsome h)) ?_
      exact zq_iret G hlocks hr rfl dX4_columnPotential_32 (congrArg Prod.fst (zsome h))
    · have h := zie h c2
      refine zq_iconst (q := 21) (v := 0) G dX4_columnPotential_20 (by decide) rfl ?_
      refine zq_ws (congrArg (fun w9 => (w_M cyI cyZ h0_0 h0_1 h0_2 h0_3 h0_4 h0_5 h0_6 h0_7 h0_8 h0_9 h0_10 h0_11 w9.2)) (zsome h)) ?_
      exact zq_iret G hlocks hr rfl dX4_columnPotential_21 (congrArg Prod.fst (zsome h))
  refine zq_aload_n (q := 1) G dX4_columnPotential_0 0 rfl rfl rfl ?_
  refine zq_aload_n (q := 2) G dX4_columnPotential_1 0 rfl rfl rfl ?_
  refine zq_iload_n (q := 3) G dX4_columnPotential_2 1 rfl rfl rfl ?_
  obtain ⟨z1, hc1, h⟩ := zbd h
  refine zq_callVi (q := 6) (ws2 := (w_M cyI cyZ h0_0 h0_1 h0_2 h0_3 h0_4 h0_5 h0_6 h0_7 h0_8 h0_9 h0_10 h0_11 σ0)) (isC := [0, 1, 2, 3, 4, 5, 6, 7, 8, 9, 10, 11]) (isR := []) (perm := [0, 1, 2, 3, 4, 5, 6, 7, 8, 9, 10, 11]) (rest := [.ref h0_0]) (As := [.int p0]) G zs_X4_122 dX4_columnPotential_3 (fun sz9 => c_X4_isRow l D cyI cyZ h0_0 h0_1 h0_2 h0_3 h0_4 h0_5 h0_6 h0_7 h0_8 h0_9 h0_10 h0_11 σ0 p0 z1 hc1 sz9) 0 rfl rfl rfl ⟨rfl, rfl, rfl, rfl⟩ rfl (Nat.le_of_ble_eq_true rfl) ⟨Nat.le_of_ble_eq_true rfl, Nat.le_of_ble_eq_true rfl, Nat.zero_le _, Nat.zero_le _⟩ rfl ?_
  refine zq_if_eq (tgt := 13) (q := 9) G dX4_columnPotential_6 (by decide) rfl (fun c2 => ?_) (fun c2 => ?_)
  · have h := zit h c2
    refine zq_iconst (q := 14) (v := 1) G dX4_columnPotential_13 (by decide) rfl ?_
    exact zq_sub _ [0, 1] rfl (b14  _ _ _ h)
  · have h := zie h c2
    refine zq_iconst (q := 10) (v := 0) G dX4_columnPotential_9 (by decide) rfl ?_
    refine zq_goto (q := 14) G dX4_columnPotential_10 (by decide) ?_
    exact zq_sub _ [0, 1] rfl (b14  _ _ _ h)
set_option maxHeartbeats 4000000 in
set_option maxRecDepth 100000 in
theorem c_X4_reducedCost (l : Launch) (D : va_G) (cyI cyZ : ClassId) (h0_0 h0_1 h0_2 h0_3 h0_4 h0_5 h0_6 h0_7 h0_8 h0_9 h0_10 h0_11 : Nat) (σ0 : zM) (p0 : Int32) (p1 : Int32) (r : Int32) (o0 : zM) (h : s_X4_reducedCost σ0 p0 p1 = some (r, o0)) (sz : Nat) : zMi l yX4_reducedCost cX4_reducedCost 3 .int 16 325 D cyI cyZ sz [.ref h0_0, .int p0, .int p1] (w_M cyI cyZ h0_0 h0_1 h0_2 h0_3 h0_4 h0_5 h0_6 h0_7 h0_8 h0_9 h0_10 h0_11 σ0) r (w_M cyI cyZ h0_0 h0_1 h0_2 h0_3 h0_4 h0_5 h0_6 h0_7 h0_8 h0_9 h0_10 h0_11 o0) := by
  unfold s_X4_reducedCost at h
  refine zstartI (lv0 := [(0, .ref h0_0), (1, .int p0), (2, .int p1)]) (by decide) (Nat.le_of_ble_eq_true rfl) rfl (fun p e s m args below meth c G hr hlocks => ?_)
  have b22 : ∀ (τ0 : zM) (x1 : Int32) (x2 : Int32) (y0 : Int32), s_X4_reducedCost_22 τ0 x1 x2 y0 = some (r, o0) → zW p l e ({ frames := 16, cells := 0, slots := 0, locals := 325 } : Room) s m args below meth c D (va_A (w_M cyI cyZ h0_0 h0_1 h0_2 h0_3 h0_4 h0_5 h0_6 h0_7 h0_8 h0_9 h0_10 h0_11 σ0) sz) 3 0 0 (MQ below (zQi D cyI cyZ sz (w_M cyI cyZ h0_0 h0_1 h0_2 h0_3 h0_4 h0_5 h0_6 h0_7 h0_8 h0_9 h0_10 h0_11 σ0) r (w_M cyI cyZ h0_0 h0_1 h0_2 h0_3 h0_4 h0_5 h0_6 h0_7 h0_8 h0_9 h0_10 h0_11 o0)) args s 0 0 (va_A (w_M cyI cyZ h0_0 h0_1 h0_2 h0_3 h0_4 h0_5 h0_6 h0_7 h0_8 h0_9 h0_10 h0_11 σ0) sz)) 22 [(0, .ref h0_0), (1, .int x1), (2, .int x2)] [.int y0, .ref h0_0] (w_M cyI cyZ h0_0 h0_1 h0_2 h0_3 h0_4 h0_5 h0_6 h0_7 h0_8 h0_9 h0_10 h0_11 τ0) := by
    intro τ0 x1 x2 y0 h
    unfold s_X4_reducedCost_22 at h
    obtain ⟨z1, hc1, h⟩ := zbd h
    refine zq_callVi (q := 25) (ws2 := (w_M cyI cyZ h0_0 h0_1 h0_2 h0_3 h0_4 h0_5 h0_6 h0_7 h0_8 h0_9 h0_10 h0_11 z1.2)) (isC := [0, 1, 2, 3, 4, 5, 6, 7, 8, 9, 10, 11]) (isR := []) (perm := [0, 1, 2, 3, 4, 5, 6, 7, 8, 9, 10, 11]) (rest := []) (As := [.int y0]) G zs_X4_118 dX4_reducedCost_22 (fun sz9 => c_X4_isWrong l D cyI cyZ h0_0 h0_1 h0_2 h0_3 h0_4 h0_5 h0_6 h0_7 h0_8 h0_9 h0_10 h0_11 τ0 y0 z1.1 z1.2 hc1 sz9) 0 rfl rfl rfl ⟨rfl, rfl, rfl, rfl⟩ rfl (Nat.le_of_ble_eq_true rfl) ⟨Nat.le_of_ble_eq_true rfl, Nat.le_of_ble_eq_true rfl, Nat.zero_le _, Nat.zero_le _⟩ rfl ?_
    refine zq_if_eq (tgt := 30) (q := 28) G dX4_reducedCost_25 (by decide) rfl (fun c2 => ?_) (fun c2 => ?_)
    · have h := zit h c2
      refine zq_aload_n (q := 31) G dX4_reducedCost_30 0 rfl rfl rfl ?_
      obtain ⟨z3, hc3, h⟩ := zbd h
      refine zq_callVv (q := 34) (ws2 := (w_M cyI cyZ h0_0 h0_1 h0_2 h0_3 h0_4 h0_5 h0_6 h0_7 h0_8 h0_9 h0_10 h0_11 z3)) (isC := [0, 1, 2, 3, 4, 5, 6, 7, 8, 9, 10, 11]) (isR := []) (perm := [0, 1, 2, 3, 4, 5, 6, 7, 8, 9, 10, 11]) (rest := []) (As := []) G zs_X4_159 dX4_reducedCost_31 (fun sz9 => c_X4_findPotentials l D cyI cyZ h0_0 h0_1 h0_2 h0_3 h0_4 h0_5 h0_6 h0_7 h0_8 h0_9 h0_10 h0_11 z1.2 z3 hc3 sz9) 0 rfl rfl rfl ⟨rfl, rfl, rfl, rfl⟩ rfl (Nat.le_of_ble_eq_true rfl) ⟨Nat.le_of_ble_eq_true rfl, Nat.le_of_ble_eq_true rfl, Nat.zero_le _, Nat.zero_le _⟩ rfl ?_
      refine zq_aload_n (q := 35) G dX4_reducedCost_34 0 rfl rfl rfl ?_
      refine zq_iload_n (q := 36) G dX4_reducedCost_35 1 rfl rfl rfl ?_
      refine zq_iload_n (q := 37) G dX4_reducedCost_36 2 rfl rfl rfl ?_
      obtain ⟨z4, hc4, h⟩ := zbd h
      refine zq_callVi (q := 40) (ws2 := (w_M cyI cyZ h0_0 h0_1 h0_2 h0_3 h0_4 h0_5 h0_6 h0_7 h0_8 h0_9 h0_10 h0_11 z3)) (isC := [0, 1, 2, 3, 4, 5, 6, 7, 8, 9, 10, 11]) (isR := []) (perm := [0, 1, 2, 3, 4, 5, 6, 7, 8, 9, 10, 11]) (rest := []) (As := [.int x1, .int x2]) G zs_X4_162 dX4_reducedCost_37 (fun sz9 => c_X4_reduced l D cyI cyZ h0_0 h0_1 h0_2 h0_3 h0_4 h0_5 h0_6 h0_7 h0_8 h0_9 h0_10 h0_11 z3 x1 x2 z4 hc4 sz9) 0 rfl rfl rfl ⟨rfl, rfl, rfl, rfl⟩ rfl (Nat.le_of_ble_eq_true rfl) ⟨Nat.le_of_ble_eq_true rfl, Nat.le_of_ble_eq_true rfl, Nat.zero_le _, Nat.zero_le _⟩ rfl ?_
      refine zq_ws (congrArg (fun w9 => (w_M cyI cyZ h0_0 h0_1 h0_2 h0_3 h0_4 h0_5 h0_6 h0_7 h0_8 h0_9 h0_10 h0_11 w9.2)) (zsome h)) ?_
      exact zq_iret G hlocks hr rfl dX4_reducedCost_40 (congrArg Prod.fst (zsome h))
    · have h := zie h c2
      refine zq_iconst (q := 29) (v := 0) G dX4_reducedCost_28 (by decide) rfl ?_
      refine zq_ws (congrArg (fun w9 => (w_M cyI cyZ h0_0 h0_1 h0_2 h0_3 h0_4 h0_5 h0_6 h0_7 h0_8 h0_9 h0_10 h0_11 w9.2)) (zsome h)) ?_
      exact zq_iret G hlocks hr rfl dX4_reducedCost_29 (congrArg Prod.fst (zsome h))
  have b17 : ∀ (τ0 : zM) (x1 : Int32) (x2 : Int32), s_X4_reducedCost_17 τ0 x1 x2 = some (r, o0) → zW p l e ({ frames := 16, cells := 0, slots := 0, locals := 325 } : Room) s m args below meth c D (va_A (w_M cyI cyZ h0_0 h0_1 h0_2 h0_3 h0_4 h0_5 h0_6 h0_7 h0_8 h0_9 h0_10 h0_11 σ0) sz) 3 0 0 (MQ below (zQi D cyI cyZ sz (w_M cyI cyZ h0_0 h0_1 h0_2 h0_3 h0_4 h0_5 h0_6 h0_7 h0_8 h0_9 h0_10 h0_11 σ0) r (w_M cyI cyZ h0_0 h0_1 h0_2 h0_3 h0_4 h0_5 h0_6 h0_7 h0_8 h0_9 h0_10 h0_11 o0)) args s 0 0 (va_A (w_M cyI cyZ h0_0 h0_1 h0_2 h0_3 h0_4 h0_5 h0_6 h0_7 h0_8 h0_9 h0_10 h0_11 σ0) sz)) 17 [(0, .ref h0_0), (1, .int x1), (2, .int x2)] [.ref h0_0] (w_M cyI cyZ h0_0 h0_1 h0_2 h0_3 h0_4 h0_5 h0_6 h0_7 h0_8 h0_9 h0_10 h0_11 τ0) := by
    intro τ0 x1 x2 h
    unfold s_X4_reducedCost_17 at h
    refine zq_iconst (q := 18) (v := 1) G dX4_reducedCost_17 (by decide) rfl ?_
    refine zq_goto (q := 22) G dX4_reducedCost_18 (by decide) ?_
    exact zq_sub _ [0, 1, 2] rfl (b22  _ _ _ _ h)
  refine zq_aload_n (q := 1) G dX4_reducedCost_0 0 rfl rfl rfl ?_
  refine zq_aload_n (q := 2) G dX4_reducedCost_1 0 rfl rfl rfl ?_
  refine zq_iload_n (q := 3) G dX4_reducedCost_2 1 rfl rfl rfl ?_
  obtain ⟨z1, hc1, h⟩ := zbd h
  refine zq_callVi (q := 6) (ws2 := (w_M cyI cyZ h0_0 h0_1 h0_2 h0_3 h0_4 h0_5 h0_6 h0_7 h0_8 h0_9 h0_10 h0_11 σ0)) (isC := [0, 1, 2, 3, 4, 5, 6, 7, 8, 9, 10, 11]) (isR := []) (perm := [0, 1, 2, 3, 4, 5, 6, 7, 8, 9, 10, 11]) (rest := [.ref h0_0]) (As := [.int p0]) G zs_X4_122 dX4_reducedCost_3 (fun sz9 => c_X4_isRow l D cyI cyZ h0_0 h0_1 h0_2 h0_3 h0_4 h0_5 h0_6 h0_7 h0_8 h0_9 h0_10 h0_11 σ0 p0 z1 hc1 sz9) 0 rfl rfl rfl ⟨rfl, rfl, rfl, rfl⟩ rfl (Nat.le_of_ble_eq_true rfl) ⟨Nat.le_of_ble_eq_true rfl, Nat.le_of_ble_eq_true rfl, Nat.zero_le _, Nat.zero_le _⟩ rfl ?_
  refine zq_if_eq (tgt := 17) (q := 9) G dX4_reducedCost_6 (by decide) rfl (fun c2 => ?_) (fun c2 => ?_)
  · have h := zit h c2
    exact zq_sub _ [0, 1, 2] rfl (b17  _ _ _ h)
  · have h := zie h c2
    refine zq_aload_n (q := 10) G dX4_reducedCost_9 0 rfl rfl rfl ?_
    refine zq_iload_n (q := 11) G dX4_reducedCost_10 2 rfl rfl rfl ?_
    obtain ⟨z3, hc3, h⟩ := zbd h
    refine zq_callVi (q := 14) (ws2 := (w_M cyI cyZ h0_0 h0_1 h0_2 h0_3 h0_4 h0_5 h0_6 h0_7 h0_8 h0_9 h0_10 h0_11 σ0)) (isC := [0, 1, 2, 3, 4, 5, 6, 7, 8, 9, 10, 11]) (isR := []) (perm := [0, 1, 2, 3, 4, 5, 6, 7, 8, 9, 10, 11]) (rest := [.ref h0_0]) (As := [.int p1]) G zs_X4_122 dX4_reducedCost_11 (fun sz9 => c_X4_isRow l D cyI cyZ h0_0 h0_1 h0_2 h0_3 h0_4 h0_5 h0_6 h0_7 h0_8 h0_9 h0_10 h0_11 σ0 p1 z3 hc3 sz9) 0 rfl rfl rfl ⟨rfl, rfl, rfl, rfl⟩ rfl (Nat.le_of_ble_eq_true rfl) ⟨Nat.le_of_ble_eq_true rfl, Nat.le_of_ble_eq_true rfl, Nat.zero_le _, Nat.zero_le _⟩ rfl ?_
    refine zq_if_ne (tgt := 21) (q := 17) G dX4_reducedCost_14 (by decide) rfl (fun c4 => ?_) (fun c4 => ?_)
    · have h := zie h c4
      refine zq_iconst (q := 22) (v := 0) G dX4_reducedCost_21 (by decide) rfl ?_
      exact zq_sub _ [0, 1, 2] rfl (b22  _ _ _ _ h)
    · have h := zit h c4
      exact zq_sub _ [0, 1, 2] rfl (b17  _ _ _ h)
set_option maxHeartbeats 4000000 in
set_option maxRecDepth 100000 in
theorem c_X4_minimumWith (l : Launch) (D : va_G) (cyI cyZ : ClassId) (h0_0 h0_1 h0_2 h0_3 h0_4 h0_5 h0_6 h0_7 h0_8 h0_9 h0_10 h0_11 : Nat) (σ0 : zM) (p0 : Int32) (p1 : Int32) (r : Int32) (o0 : zM) (h : s_X4_minimumWith σ0 p0 p1 = some (r, o0)) (sz : Nat) : zMi l yX4_minimumWith cX4_minimumWith 3 .int 15 302 D cyI cyZ sz [.ref h0_0, .int p0, .int p1] (w_M cyI cyZ h0_0 h0_1 h0_2 h0_3 h0_4 h0_5 h0_6 h0_7 h0_8 h0_9 h0_10 h0_11 σ0) r (w_M cyI cyZ h0_0 h0_1 h0_2 h0_3 h0_4 h0_5 h0_6 h0_7 h0_8 h0_9 h0_10 h0_11 o0) := by
  unfold s_X4_minimumWith at h
  refine zstartI (lv0 := [(0, .ref h0_0), (1, .int p0), (2, .int p1)]) (by decide) (Nat.le_of_ble_eq_true rfl) rfl (fun p e s m args below meth c G hr hlocks => ?_)
  have b22 : ∀ (τ0 : zM) (x1 : Int32) (x2 : Int32) (y0 : Int32), s_X4_minimumWith_22 τ0 x1 x2 y0 = some (r, o0) → zW p l e ({ frames := 15, cells := 0, slots := 0, locals := 302 } : Room) s m args below meth c D (va_A (w_M cyI cyZ h0_0 h0_1 h0_2 h0_3 h0_4 h0_5 h0_6 h0_7 h0_8 h0_9 h0_10 h0_11 σ0) sz) 3 0 0 (MQ below (zQi D cyI cyZ sz (w_M cyI cyZ h0_0 h0_1 h0_2 h0_3 h0_4 h0_5 h0_6 h0_7 h0_8 h0_9 h0_10 h0_11 σ0) r (w_M cyI cyZ h0_0 h0_1 h0_2 h0_3 h0_4 h0_5 h0_6 h0_7 h0_8 h0_9 h0_10 h0_11 o0)) args s 0 0 (va_A (w_M cyI cyZ h0_0 h0_1 h0_2 h0_3 h0_4 h0_5 h0_6 h0_7 h0_8 h0_9 h0_10 h0_11 σ0) sz)) 22 [(0, .ref h0_0), (1, .int x1), (2, .int x2)] [.int y0, .ref h0_0] (w_M cyI cyZ h0_0 h0_1 h0_2 h0_3 h0_4 h0_5 h0_6 h0_7 h0_8 h0_9 h0_10 h0_11 τ0) := by
    intro τ0 x1 x2 y0 h
    unfold s_X4_minimumWith_22 at h
    obtain ⟨z1, hc1, h⟩ := zbd h
    refine zq_callVi (q := 25) (ws2 := (w_M cyI cyZ h0_0 h0_1 h0_2 h0_3 h0_4 h0_5 h0_6 h0_7 h0_8 h0_9 h0_10 h0_11 z1.2)) (isC := [0, 1, 2, 3, 4, 5, 6, 7, 8, 9, 10, 11]) (isR := []) (perm := [0, 1, 2, 3, 4, 5, 6, 7, 8, 9, 10, 11]) (rest := []) (As := [.int y0]) G zs_X4_118 dX4_minimumWith_22 (fun sz9 => c_X4_isWrong l D cyI cyZ h0_0 h0_1 h0_2 h0_3 h0_4 h0_5 h0_6 h0_7 h0_8 h0_9 h0_10 h0_11 τ0 y0 z1.1 z1.2 hc1 sz9) 0 rfl rfl rfl ⟨rfl, rfl, rfl, rfl⟩ rfl (Nat.le_of_ble_eq_true rfl) ⟨Nat.le_of_ble_eq_true rfl, Nat.le_of_ble_eq_true rfl, Nat.zero_le _, Nat.zero_le _⟩ rfl ?_
    refine zq_if_eq (tgt := 30) (q := 28) G dX4_minimumWith_25 (by decide) rfl (fun c2 => ?_) (fun c2 => ?_)
    · have h := zit h c2
      refine zq_aload_n (q := 31) G dX4_minimumWith_30 0 rfl rfl rfl ?_
      obtain ⟨z3, hc3, h⟩ := zbd h
      refine zq_callVv (q := 34) (ws2 := (w_M cyI cyZ h0_0 h0_1 h0_2 h0_3 h0_4 h0_5 h0_6 h0_7 h0_8 h0_9 h0_10 h0_11 z3)) (isC := [0, 1, 2, 3, 4, 5, 6, 7, 8, 9, 10, 11]) (isR := []) (perm := [0, 1, 2, 3, 4, 5, 6, 7, 8, 9, 10, 11]) (rest := []) (As := []) G zs_X4_114 dX4_minimumWith_31 (fun sz9 => c_X4_look_ l D cyI cyZ h0_0 h0_1 h0_2 h0_3 h0_4 h0_5 h0_6 h0_7 h0_8 h0_9 h0_10 h0_11 z1.2 z3 hc3 sz9) 0 rfl rfl rfl ⟨rfl, rfl, rfl, rfl⟩ rfl (Nat.le_of_ble_eq_true rfl) ⟨Nat.le_of_ble_eq_true rfl, Nat.le_of_ble_eq_true rfl, Nat.zero_le _, Nat.zero_le _⟩ rfl ?_
      refine zq_aload_n (q := 35) G dX4_minimumWith_34 0 rfl rfl rfl ?_
      refine zq_get (q := 38) G zu_X4 rfl zw_X4_f39 dX4_minimumWith_35 0 10 rfl (by decide) ⟨⟨rfl, rfl⟩, rfl⟩ rfl rfl ?_
      refine zq_bipush (q := 40) (v := 7) G dX4_minimumWith_38 (by decide) rfl ?_
      refine zq_iload_n (q := 41) G dX4_minimumWith_40 1 rfl rfl rfl ?_
      refine zq_imul (q := 42) G dX4_minimumWith_41 rfl ?_
      refine zq_iload_n (q := 43) G dX4_minimumWith_42 2 rfl rfl rfl ?_
      refine zq_iadd (q := 44) G dX4_minimumWith_43 rfl ?_
      obtain ⟨q4, h⟩ := zif h
      refine zq_iald (q := 45) G dX4_minimumWith_44 6 rfl q4 rfl ?_
      refine zq_ws (congrArg (fun w9 => (w_M cyI cyZ h0_0 h0_1 h0_2 h0_3 h0_4 h0_5 h0_6 h0_7 h0_8 h0_9 h0_10 h0_11 w9.2)) (zsome h)) ?_
      exact zq_iret G hlocks hr rfl dX4_minimumWith_45 (congrArg Prod.fst (zsome h))
    · have h := zie h c2
      refine zq_iconst (q := 29) (v := 0) G dX4_minimumWith_28 (by decide) rfl ?_
      refine zq_ws (congrArg (fun w9 => (w_M cyI cyZ h0_0 h0_1 h0_2 h0_3 h0_4 h0_5 h0_6 h0_7 h0_8 h0_9 h0_10 h0_11 w9.2)) (zsome h)) ?_
      exact zq_iret G hlocks hr rfl dX4_minimumWith_29 (congrArg Prod.fst (zsome h))
  have b17 : ∀ (τ0 : zM) (x1 : Int32) (x2 : Int32), s_X4_minimumWith_17 τ0 x1 x2 = some (r, o0) → zW p l e ({ frames := 15, cells := 0, slots := 0, locals := 302 } : Room) s m args below meth c D (va_A (w_M cyI cyZ h0_0 h0_1 h0_2 h0_3 h0_4 h0_5 h0_6 h0_7 h0_8 h0_9 h0_10 h0_11 σ0) sz) 3 0 0 (MQ below (zQi D cyI cyZ sz (w_M cyI cyZ h0_0 h0_1 h0_2 h0_3 h0_4 h0_5 h0_6 h0_7 h0_8 h0_9 h0_10 h0_11 σ0) r (w_M cyI cyZ h0_0 h0_1 h0_2 h0_3 h0_4 h0_5 h0_6 h0_7 h0_8 h0_9 h0_10 h0_11 o0)) args s 0 0 (va_A (w_M cyI cyZ h0_0 h0_1 h0_2 h0_3 h0_4 h0_5 h0_6 h0_7 h0_8 h0_9 h0_10 h0_11 σ0) sz)) 17 [(0, .ref h0_0), (1, .int x1), (2, .int x2)] [.ref h0_0] (w_M cyI cyZ h0_0 h0_1 h0_2 h0_3 h0_4 h0_5 h0_6 h0_7 h0_8 h0_9 h0_10 h0_11 τ0) := by
    intro τ0 x1 x2 h
    unfold s_X4_minimumWith_17 at h
    refine zq_iconst (q := 18) (v := 1) G dX4_minimumWith_17 (by decide) rfl ?_
    refine zq_goto (q := 22) G dX4_minimumWith_18 (by decide) ?_
    exact zq_sub _ [0, 1, 2] rfl (b22  _ _ _ _ h)
  refine zq_aload_n (q := 1) G dX4_minimumWith_0 0 rfl rfl rfl ?_
  refine zq_aload_n (q := 2) G dX4_minimumWith_1 0 rfl rfl rfl ?_
  refine zq_iload_n (q := 3) G dX4_minimumWith_2 1 rfl rfl rfl ?_
  obtain ⟨z1, hc1, h⟩ := zbd h
  refine zq_callVi (q := 6) (ws2 := (w_M cyI cyZ h0_0 h0_1 h0_2 h0_3 h0_4 h0_5 h0_6 h0_7 h0_8 h0_9 h0_10 h0_11 σ0)) (isC := [0, 1, 2, 3, 4, 5, 6, 7, 8, 9, 10, 11]) (isR := []) (perm := [0, 1, 2, 3, 4, 5, 6, 7, 8, 9, 10, 11]) (rest := [.ref h0_0]) (As := [.int p0]) G zs_X4_122 dX4_minimumWith_3 (fun sz9 => c_X4_isRow l D cyI cyZ h0_0 h0_1 h0_2 h0_3 h0_4 h0_5 h0_6 h0_7 h0_8 h0_9 h0_10 h0_11 σ0 p0 z1 hc1 sz9) 0 rfl rfl rfl ⟨rfl, rfl, rfl, rfl⟩ rfl (Nat.le_of_ble_eq_true rfl) ⟨Nat.le_of_ble_eq_true rfl, Nat.le_of_ble_eq_true rfl, Nat.zero_le _, Nat.zero_le _⟩ rfl ?_
  refine zq_if_eq (tgt := 17) (q := 9) G dX4_minimumWith_6 (by decide) rfl (fun c2 => ?_) (fun c2 => ?_)
  · have h := zit h c2
    exact zq_sub _ [0, 1, 2] rfl (b17  _ _ _ h)
  · have h := zie h c2
    refine zq_aload_n (q := 10) G dX4_minimumWith_9 0 rfl rfl rfl ?_
    refine zq_iload_n (q := 11) G dX4_minimumWith_10 2 rfl rfl rfl ?_
    obtain ⟨z3, hc3, h⟩ := zbd h
    refine zq_callVi (q := 14) (ws2 := (w_M cyI cyZ h0_0 h0_1 h0_2 h0_3 h0_4 h0_5 h0_6 h0_7 h0_8 h0_9 h0_10 h0_11 σ0)) (isC := [0, 1, 2, 3, 4, 5, 6, 7, 8, 9, 10, 11]) (isR := []) (perm := [0, 1, 2, 3, 4, 5, 6, 7, 8, 9, 10, 11]) (rest := [.ref h0_0]) (As := [.int p1]) G zs_X4_122 dX4_minimumWith_11 (fun sz9 => c_X4_isRow l D cyI cyZ h0_0 h0_1 h0_2 h0_3 h0_4 h0_5 h0_6 h0_7 h0_8 h0_9 h0_10 h0_11 σ0 p1 z3 hc3 sz9) 0 rfl rfl rfl ⟨rfl, rfl, rfl, rfl⟩ rfl (Nat.le_of_ble_eq_true rfl) ⟨Nat.le_of_ble_eq_true rfl, Nat.le_of_ble_eq_true rfl, Nat.zero_le _, Nat.zero_le _⟩ rfl ?_
    refine zq_if_ne (tgt := 21) (q := 17) G dX4_minimumWith_14 (by decide) rfl (fun c4 => ?_) (fun c4 => ?_)
    · have h := zie h c4
      refine zq_iconst (q := 22) (v := 0) G dX4_minimumWith_21 (by decide) rfl ?_
      exact zq_sub _ [0, 1, 2] rfl (b22  _ _ _ _ h)
    · have h := zit h c4
      exact zq_sub _ [0, 1, 2] rfl (b17  _ _ _ h)
set_option maxHeartbeats 4000000 in
set_option maxRecDepth 100000 in
theorem c_X4_minimumWithout (l : Launch) (D : va_G) (cyI cyZ : ClassId) (h0_0 h0_1 h0_2 h0_3 h0_4 h0_5 h0_6 h0_7 h0_8 h0_9 h0_10 h0_11 : Nat) (σ0 : zM) (p0 : Int32) (p1 : Int32) (r : Int32) (o0 : zM) (h : s_X4_minimumWithout σ0 p0 p1 = some (r, o0)) (sz : Nat) : zMi l yX4_minimumWithout cX4_minimumWithout 3 .int 15 302 D cyI cyZ sz [.ref h0_0, .int p0, .int p1] (w_M cyI cyZ h0_0 h0_1 h0_2 h0_3 h0_4 h0_5 h0_6 h0_7 h0_8 h0_9 h0_10 h0_11 σ0) r (w_M cyI cyZ h0_0 h0_1 h0_2 h0_3 h0_4 h0_5 h0_6 h0_7 h0_8 h0_9 h0_10 h0_11 o0) := by
  unfold s_X4_minimumWithout at h
  refine zstartI (lv0 := [(0, .ref h0_0), (1, .int p0), (2, .int p1)]) (by decide) (Nat.le_of_ble_eq_true rfl) rfl (fun p e s m args below meth c G hr hlocks => ?_)
  have b22 : ∀ (τ0 : zM) (x1 : Int32) (x2 : Int32) (y0 : Int32), s_X4_minimumWithout_22 τ0 x1 x2 y0 = some (r, o0) → zW p l e ({ frames := 15, cells := 0, slots := 0, locals := 302 } : Room) s m args below meth c D (va_A (w_M cyI cyZ h0_0 h0_1 h0_2 h0_3 h0_4 h0_5 h0_6 h0_7 h0_8 h0_9 h0_10 h0_11 σ0) sz) 3 0 0 (MQ below (zQi D cyI cyZ sz (w_M cyI cyZ h0_0 h0_1 h0_2 h0_3 h0_4 h0_5 h0_6 h0_7 h0_8 h0_9 h0_10 h0_11 σ0) r (w_M cyI cyZ h0_0 h0_1 h0_2 h0_3 h0_4 h0_5 h0_6 h0_7 h0_8 h0_9 h0_10 h0_11 o0)) args s 0 0 (va_A (w_M cyI cyZ h0_0 h0_1 h0_2 h0_3 h0_4 h0_5 h0_6 h0_7 h0_8 h0_9 h0_10 h0_11 σ0) sz)) 22 [(0, .ref h0_0), (1, .int x1), (2, .int x2)] [.int y0, .ref h0_0] (w_M cyI cyZ h0_0 h0_1 h0_2 h0_3 h0_4 h0_5 h0_6 h0_7 h0_8 h0_9 h0_10 h0_11 τ0) := by
    intro τ0 x1 x2 y0 h
    unfold s_X4_minimumWithout_22 at h
    obtain ⟨z1, hc1, h⟩ := zbd h
    refine zq_callVi (q := 25) (ws2 := (w_M cyI cyZ h0_0 h0_1 h0_2 h0_3 h0_4 h0_5 h0_6 h0_7 h0_8 h0_9 h0_10 h0_11 z1.2)) (isC := [0, 1, 2, 3, 4, 5, 6, 7, 8, 9, 10, 11]) (isR := []) (perm := [0, 1, 2, 3, 4, 5, 6, 7, 8, 9, 10, 11]) (rest := []) (As := [.int y0]) G zs_X4_118 dX4_minimumWithout_22 (fun sz9 => c_X4_isWrong l D cyI cyZ h0_0 h0_1 h0_2 h0_3 h0_4 h0_5 h0_6 h0_7 h0_8 h0_9 h0_10 h0_11 τ0 y0 z1.1 z1.2 hc1 sz9) 0 rfl rfl rfl ⟨rfl, rfl, rfl, rfl⟩ rfl (Nat.le_of_ble_eq_true rfl) ⟨Nat.le_of_ble_eq_true rfl, Nat.le_of_ble_eq_true rfl, Nat.zero_le _, Nat.zero_le _⟩ rfl ?_
    refine zq_if_eq (tgt := 30) (q := 28) G dX4_minimumWithout_25 (by decide) rfl (fun c2 => ?_) (fun c2 => ?_)
    · have h := zit h c2
      refine zq_aload_n (q := 31) G dX4_minimumWithout_30 0 rfl rfl rfl ?_
      obtain ⟨z3, hc3, h⟩ := zbd h
      refine zq_callVv (q := 34) (ws2 := (w_M cyI cyZ h0_0 h0_1 h0_2 h0_3 h0_4 h0_5 h0_6 h0_7 h0_8 h0_9 h0_10 h0_11 z3)) (isC := [0, 1, 2, 3, 4, 5, 6, 7, 8, 9, 10, 11]) (isR := []) (perm := [0, 1, 2, 3, 4, 5, 6, 7, 8, 9, 10, 11]) (rest := []) (As := []) G zs_X4_114 dX4_minimumWithout_31 (fun sz9 => c_X4_look_ l D cyI cyZ h0_0 h0_1 h0_2 h0_3 h0_4 h0_5 h0_6 h0_7 h0_8 h0_9 h0_10 h0_11 z1.2 z3 hc3 sz9) 0 rfl rfl rfl ⟨rfl, rfl, rfl, rfl⟩ rfl (Nat.le_of_ble_eq_true rfl) ⟨Nat.le_of_ble_eq_true rfl, Nat.le_of_ble_eq_true rfl, Nat.zero_le _, Nat.zero_le _⟩ rfl ?_
      refine zq_aload_n (q := 35) G dX4_minimumWithout_34 0 rfl rfl rfl ?_
      refine zq_get (q := 38) G zu_X4 rfl zw_X4_f7 dX4_minimumWithout_35 0 0 rfl (by decide) ⟨⟨rfl, rfl⟩, rfl⟩ rfl rfl ?_
      refine zq_iconst (q := 39) (v := 1) G dX4_minimumWithout_38 (by decide) rfl ?_
      refine zq_icmp_ne (tgt := 46) (q := 42) G dX4_minimumWithout_39 (by decide) rfl (fun c4 => ?_) (fun c4 => ?_)
      · have h := zie h c4
        refine zq_aload_n (q := 47) G dX4_minimumWithout_46 0 rfl rfl rfl ?_
        refine zq_iload_n (q := 48) G dX4_minimumWithout_47 1 rfl rfl rfl ?_
        refine zq_iload_n (q := 49) G dX4_minimumWithout_48 2 rfl rfl rfl ?_
        obtain ⟨z5, hc5, h⟩ := zbd h
        refine zq_callVi (q := 52) (ws2 := (w_M cyI cyZ h0_0 h0_1 h0_2 h0_3 h0_4 h0_5 h0_6 h0_7 h0_8 h0_9 h0_10 h0_11 z3)) (isC := [0, 1, 2, 3, 4, 5, 6, 7, 8, 9, 10, 11]) (isR := []) (perm := [0, 1, 2, 3, 4, 5, 6, 7, 8, 9, 10, 11]) (rest := []) (As := [.int x1, .int x2]) G zs_X4_165 dX4_minimumWithout_49 (fun sz9 => c_X4_without l D cyI cyZ h0_0 h0_1 h0_2 h0_3 h0_4 h0_5 h0_6 h0_7 h0_8 h0_9 h0_10 h0_11 z3 x1 x2 z5 hc5 sz9) 0 rfl rfl rfl ⟨rfl, rfl, rfl, rfl⟩ rfl (Nat.le_of_ble_eq_true rfl) ⟨Nat.le_of_ble_eq_true rfl, Nat.le_of_ble_eq_true rfl, Nat.zero_le _, Nat.zero_le _⟩ rfl ?_
        refine zq_ws (congrArg (fun w9 => (w_M cyI cyZ h0_0 h0_1 h0_2 h0_3 h0_4 h0_5 h0_6 h0_7 h0_8 h0_9 h0_10 h0_11 w9.2)) (zsome h)) ?_
        exact zq_iret G hlocks hr rfl dX4_minimumWithout_52 (congrArg Prod.fst (zsome h))
      · have h := zit h c4
        refine zq_iconst (q := 43) (v := -1) G dX4_minimumWithout_42 (by decide) rfl ?_
        refine zq_goto (q := 52) G dX4_minimumWithout_43 (by decide) ?_
        refine zq_ws (congrArg (fun w9 => (w_M cyI cyZ h0_0 h0_1 h0_2 h0_3 h0_4 h0_5 h0_6 h0_7 h0_8 h0_9 h0_10 h0_11 w9.2)) (zsome h)) ?_
        exact zq_iret G hlocks hr rfl dX4_minimumWithout_52 (congrArg Prod.fst (zsome h))
    · have h := zie h c2
      refine zq_iconst (q := 29) (v := 0) G dX4_minimumWithout_28 (by decide) rfl ?_
      refine zq_ws (congrArg (fun w9 => (w_M cyI cyZ h0_0 h0_1 h0_2 h0_3 h0_4 h0_5 h0_6 h0_7 h0_8 h0_9 h0_10 h0_11 w9.2)) (zsome h)) ?_
      exact zq_iret G hlocks hr rfl dX4_minimumWithout_29 (congrArg Prod.fst (zsome h))
  have b17 : ∀ (τ0 : zM) (x1 : Int32) (x2 : Int32), s_X4_minimumWithout_17 τ0 x1 x2 = some (r, o0) → zW p l e ({ frames := 15, cells := 0, slots := 0, locals := 302 } : Room) s m args below meth c D (va_A (w_M cyI cyZ h0_0 h0_1 h0_2 h0_3 h0_4 h0_5 h0_6 h0_7 h0_8 h0_9 h0_10 h0_11 σ0) sz) 3 0 0 (MQ below (zQi D cyI cyZ sz (w_M cyI cyZ h0_0 h0_1 h0_2 h0_3 h0_4 h0_5 h0_6 h0_7 h0_8 h0_9 h0_10 h0_11 σ0) r (w_M cyI cyZ h0_0 h0_1 h0_2 h0_3 h0_4 h0_5 h0_6 h0_7 h0_8 h0_9 h0_10 h0_11 o0)) args s 0 0 (va_A (w_M cyI cyZ h0_0 h0_1 h0_2 h0_3 h0_4 h0_5 h0_6 h0_7 h0_8 h0_9 h0_10 h0_11 σ0) sz)) 17 [(0, .ref h0_0), (1, .int x1), (2, .int x2)] [.ref h0_0] (w_M cyI cyZ h0_0 h0_1 h0_2 h0_3 h0_4 h0_5 h0_6 h0_7 h0_8 h0_9 h0_10 h0_11 τ0) := by
    intro τ0 x1 x2 h
    unfold s_X4_minimumWithout_17 at h
    refine zq_iconst (q := 18) (v := 1) G dX4_minimumWithout_17 (by decide) rfl ?_
    refine zq_goto (q := 22) G dX4_minimumWithout_18 (by decide) ?_
    exact zq_sub _ [0, 1, 2] rfl (b22  _ _ _ _ h)
  refine zq_aload_n (q := 1) G dX4_minimumWithout_0 0 rfl rfl rfl ?_
  refine zq_aload_n (q := 2) G dX4_minimumWithout_1 0 rfl rfl rfl ?_
  refine zq_iload_n (q := 3) G dX4_minimumWithout_2 1 rfl rfl rfl ?_
  obtain ⟨z1, hc1, h⟩ := zbd h
  refine zq_callVi (q := 6) (ws2 := (w_M cyI cyZ h0_0 h0_1 h0_2 h0_3 h0_4 h0_5 h0_6 h0_7 h0_8 h0_9 h0_10 h0_11 σ0)) (isC := [0, 1, 2, 3, 4, 5, 6, 7, 8, 9, 10, 11]) (isR := []) (perm := [0, 1, 2, 3, 4, 5, 6, 7, 8, 9, 10, 11]) (rest := [.ref h0_0]) (As := [.int p0]) G zs_X4_122 dX4_minimumWithout_3 (fun sz9 => c_X4_isRow l D cyI cyZ h0_0 h0_1 h0_2 h0_3 h0_4 h0_5 h0_6 h0_7 h0_8 h0_9 h0_10 h0_11 σ0 p0 z1 hc1 sz9) 0 rfl rfl rfl ⟨rfl, rfl, rfl, rfl⟩ rfl (Nat.le_of_ble_eq_true rfl) ⟨Nat.le_of_ble_eq_true rfl, Nat.le_of_ble_eq_true rfl, Nat.zero_le _, Nat.zero_le _⟩ rfl ?_
  refine zq_if_eq (tgt := 17) (q := 9) G dX4_minimumWithout_6 (by decide) rfl (fun c2 => ?_) (fun c2 => ?_)
  · have h := zit h c2
    exact zq_sub _ [0, 1, 2] rfl (b17  _ _ _ h)
  · have h := zie h c2
    refine zq_aload_n (q := 10) G dX4_minimumWithout_9 0 rfl rfl rfl ?_
    refine zq_iload_n (q := 11) G dX4_minimumWithout_10 2 rfl rfl rfl ?_
    obtain ⟨z3, hc3, h⟩ := zbd h
    refine zq_callVi (q := 14) (ws2 := (w_M cyI cyZ h0_0 h0_1 h0_2 h0_3 h0_4 h0_5 h0_6 h0_7 h0_8 h0_9 h0_10 h0_11 σ0)) (isC := [0, 1, 2, 3, 4, 5, 6, 7, 8, 9, 10, 11]) (isR := []) (perm := [0, 1, 2, 3, 4, 5, 6, 7, 8, 9, 10, 11]) (rest := [.ref h0_0]) (As := [.int p1]) G zs_X4_122 dX4_minimumWithout_11 (fun sz9 => c_X4_isRow l D cyI cyZ h0_0 h0_1 h0_2 h0_3 h0_4 h0_5 h0_6 h0_7 h0_8 h0_9 h0_10 h0_11 σ0 p1 z3 hc3 sz9) 0 rfl rfl rfl ⟨rfl, rfl, rfl, rfl⟩ rfl (Nat.le_of_ble_eq_true rfl) ⟨Nat.le_of_ble_eq_true rfl, Nat.le_of_ble_eq_true rfl, Nat.zero_le _, Nat.zero_le _⟩ rfl ?_
    refine zq_if_ne (tgt := 21) (q := 17) G dX4_minimumWithout_14 (by decide) rfl (fun c4 => ?_) (fun c4 => ?_)
    · have h := zie h c4
      refine zq_iconst (q := 22) (v := 0) G dX4_minimumWithout_21 (by decide) rfl ?_
      exact zq_sub _ [0, 1, 2] rfl (b22  _ _ _ _ h)
    · have h := zit h c4
      exact zq_sub _ [0, 1, 2] rfl (b17  _ _ _ h)
set_option maxHeartbeats 4000000 in
set_option maxRecDepth 100000 in
theorem c_X4_minimumIfCost (l : Launch) (D : va_G) (cyI cyZ : ClassId) (h0_0 h0_1 h0_2 h0_3 h0_4 h0_5 h0_6 h0_7 h0_8 h0_9 h0_10 h0_11 : Nat) (σ0 : zM) (p0 : Int32) (p1 : Int32) (p2 : Int32) (r : Int32) (o0 : zM) (h : s_X4_minimumIfCost σ0 p0 p1 p2 = some (r, o0)) (sz : Nat) : zMi l yX4_minimumIfCost cX4_minimumIfCost 4 .int 14 282 D cyI cyZ sz [.ref h0_0, .int p0, .int p1, .int p2] (w_M cyI cyZ h0_0 h0_1 h0_2 h0_3 h0_4 h0_5 h0_6 h0_7 h0_8 h0_9 h0_10 h0_11 σ0) r (w_M cyI cyZ h0_0 h0_1 h0_2 h0_3 h0_4 h0_5 h0_6 h0_7 h0_8 h0_9 h0_10 h0_11 o0) := by
  unfold s_X4_minimumIfCost at h
  refine zstartI (lv0 := [(0, .ref h0_0), (1, .int p0), (2, .int p1), (3, .int p2)]) (by decide) (Nat.le_of_ble_eq_true rfl) rfl (fun p e s m args below meth c G hr hlocks => ?_)
  have b45 : ∀ (τ0 : zM) (x1 : Int32) (x2 : Int32) (x3 : Int32) (y0 : Int32), s_X4_minimumIfCost_45 τ0 x1 x2 x3 y0 = some (r, o0) → zW p l e ({ frames := 14, cells := 0, slots := 0, locals := 282 } : Room) s m args below meth c D (va_A (w_M cyI cyZ h0_0 h0_1 h0_2 h0_3 h0_4 h0_5 h0_6 h0_7 h0_8 h0_9 h0_10 h0_11 σ0) sz) 4 0 0 (MQ below (zQi D cyI cyZ sz (w_M cyI cyZ h0_0 h0_1 h0_2 h0_3 h0_4 h0_5 h0_6 h0_7 h0_8 h0_9 h0_10 h0_11 σ0) r (w_M cyI cyZ h0_0 h0_1 h0_2 h0_3 h0_4 h0_5 h0_6 h0_7 h0_8 h0_9 h0_10 h0_11 o0)) args s 0 0 (va_A (w_M cyI cyZ h0_0 h0_1 h0_2 h0_3 h0_4 h0_5 h0_6 h0_7 h0_8 h0_9 h0_10 h0_11 σ0) sz)) 45 [(0, .ref h0_0), (1, .int x1), (2, .int x2), (3, .int x3)] [.int y0, .ref h0_0] (w_M cyI cyZ h0_0 h0_1 h0_2 h0_3 h0_4 h0_5 h0_6 h0_7 h0_8 h0_9 h0_10 h0_11 τ0) := by
    intro τ0 x1 x2 x3 y0 h
    unfold s_X4_minimumIfCost_45 at h
    obtain ⟨z1, hc1, h⟩ := zbd h
    refine zq_callVi (q := 48) (ws2 := (w_M cyI cyZ h0_0 h0_1 h0_2 h0_3 h0_4 h0_5 h0_6 h0_7 h0_8 h0_9 h0_10 h0_11 z1.2)) (isC := [0, 1, 2, 3, 4, 5, 6, 7, 8, 9, 10, 11]) (isR := []) (perm := [0, 1, 2, 3, 4, 5, 6, 7, 8, 9, 10, 11]) (rest := []) (As := [.int y0]) G zs_X4_118 dX4_minimumIfCost_45 (fun sz9 => c_X4_isWrong l D cyI cyZ h0_0 h0_1 h0_2 h0_3 h0_4 h0_5 h0_6 h0_7 h0_8 h0_9 h0_10 h0_11 τ0 y0 z1.1 z1.2 hc1 sz9) 0 rfl rfl rfl ⟨rfl, rfl, rfl, rfl⟩ rfl (Nat.le_of_ble_eq_true rfl) ⟨Nat.le_of_ble_eq_true rfl, Nat.le_of_ble_eq_true rfl, Nat.zero_le _, Nat.zero_le _⟩ rfl ?_
    refine zq_if_eq (tgt := 53) (q := 51) G dX4_minimumIfCost_48 (by decide) rfl (fun c2 => ?_) (fun c2 => ?_)
    · have h := zit h c2
      refine zq_aload_n (q := 54) G dX4_minimumIfCost_53 0 rfl rfl rfl ?_
      obtain ⟨z3, hc3, h⟩ := zbd h
      refine zq_callVv (q := 57) (ws2 := (w_M cyI cyZ h0_0 h0_1 h0_2 h0_3 h0_4 h0_5 h0_6 h0_7 h0_8 h0_9 h0_10 h0_11 z3)) (isC := [0, 1, 2, 3, 4, 5, 6, 7, 8, 9, 10, 11]) (isR := []) (perm := [0, 1, 2, 3, 4, 5, 6, 7, 8, 9, 10, 11]) (rest := []) (As := []) G zs_X4_108 dX4_minimumIfCost_54 (fun sz9 => c_X4_take l D cyI cyZ h0_0 h0_1 h0_2 h0_3 h0_4 h0_5 h0_6 h0_7 h0_8 h0_9 h0_10 h0_11 z1.2 z3 hc3 sz9) 0 rfl rfl rfl ⟨rfl, rfl, rfl, rfl⟩ rfl (Nat.le_of_ble_eq_true rfl) ⟨Nat.le_of_ble_eq_true rfl, Nat.le_of_ble_eq_true rfl, Nat.zero_le _, Nat.zero_le _⟩ rfl ?_
      refine zq_aload_n (q := 58) G dX4_minimumIfCost_57 0 rfl rfl rfl ?_
      refine zq_get (q := 61) G zu_X4 rfl zw_X4_f36 dX4_minimumIfCost_58 0 9 rfl (by decide) ⟨⟨rfl, rfl⟩, rfl⟩ rfl rfl ?_
      refine zq_bipush (q := 63) (v := 7) G dX4_minimumIfCost_61 (by decide) rfl ?_
      refine zq_iload_n (q := 64) G dX4_minimumIfCost_63 1 rfl rfl rfl ?_
      refine zq_imul (q := 65) G dX4_minimumIfCost_64 rfl ?_
      refine zq_iload_n (q := 66) G dX4_minimumIfCost_65 2 rfl rfl rfl ?_
      refine zq_iadd (q := 67) G dX4_minimumIfCost_66 rfl ?_
      refine zq_iload_n (q := 68) G dX4_minimumIfCost_67 3 rfl rfl rfl ?_
      obtain ⟨q4, h⟩ := zif h
      refine zq_iast (q := 69) (ws2 := (w_M cyI cyZ h0_0 h0_1 h0_2 h0_3 h0_4 h0_5 h0_6 h0_7 h0_8 h0_9 h0_10 h0_11 (z3.1, z3.2.1, ((upd z3.2.2.1.1 (((7 : Int32) * x1) + x2).toNatClampNeg x3), z3.2.2.1.2.1, z3.2.2.1.2.2.1, z3.2.2.1.2.2.2.1, z3.2.2.1.2.2.2.2.1, z3.2.2.1.2.2.2.2.2.1, z3.2.2.1.2.2.2.2.2.2.1, z3.2.2.1.2.2.2.2.2.2.2.1, z3.2.2.1.2.2.2.2.2.2.2.2.1, z3.2.2.1.2.2.2.2.2.2.2.2.2.1, z3.2.2.1.2.2.2.2.2.2.2.2.2.2), z3.2.2.2.1, z3.2.2.2.2))) G dX4_minimumIfCost_68 5 rfl q4 rfl rfl ?_
      refine zq_aload_n (q := 70) G dX4_minimumIfCost_69 0 rfl rfl rfl ?_
      refine zq_aload_n (q := 71) G dX4_minimumIfCost_70 0 rfl rfl rfl ?_
      refine zq_get (q := 74) G zu_X4 rfl zw_X4_f7 dX4_minimumIfCost_71 0 0 rfl (by decide) ⟨⟨rfl, rfl⟩, rfl⟩ rfl rfl ?_
      obtain ⟨z5, hc5, h⟩ := zbd h
      refine zq_callVv (q := 77) (ws2 := (w_M cyI cyZ h0_0 h0_1 h0_2 h0_3 h0_4 h0_5 h0_6 h0_7 h0_8 h0_9 h0_10 h0_11 z5)) (isC := [0, 1, 2, 3, 4, 5, 6, 7, 8, 9, 10, 11]) (isR := []) (perm := [0, 1, 2, 3, 4, 5, 6, 7, 8, 9, 10, 11]) (rest := []) (As := [.int z3.1.1]) G zs_X4_111 dX4_minimumIfCost_74 (fun sz9 => c_X4_look l D cyI cyZ h0_0 h0_1 h0_2 h0_3 h0_4 h0_5 h0_6 h0_7 h0_8 h0_9 h0_10 h0_11 (z3.1, z3.2.1, ((upd z3.2.2.1.1 (((7 : Int32) * x1) + x2).toNatClampNeg x3), z3.2.2.1.2.1, z3.2.2.1.2.2.1, z3.2.2.1.2.2.2.1, z3.2.2.1.2.2.2.2.1, z3.2.2.1.2.2.2.2.2.1, z3.2.2.1.2.2.2.2.2.2.1, z3.2.2.1.2.2.2.2.2.2.2.1, z3.2.2.1.2.2.2.2.2.2.2.2.1, z3.2.2.1.2.2.2.2.2.2.2.2.2.1, z3.2.2.1.2.2.2.2.2.2.2.2.2.2), z3.2.2.2.1, z3.2.2.2.2) z3.1.1 z5 hc5 sz9) 0 rfl rfl rfl ⟨rfl, rfl, rfl, rfl⟩ rfl (Nat.le_of_ble_eq_true rfl) ⟨Nat.le_of_ble_eq_true rfl, Nat.le_of_ble_eq_true rfl, Nat.zero_le _, Nat.zero_le _⟩ rfl ?_
      refine zq_aload_n (q := 78) G dX4_minimumIfCost_77 0 rfl rfl rfl ?_
      refine zq_get (q := 81) G zu_X4 rfl zw_X4_f80 dX4_minimumIfCost_78 0 13 rfl (by decide) ⟨⟨rfl, rfl⟩, rfl⟩ rfl rfl ?_
      refine zq_ws (congrArg (fun w9 => (w_M cyI cyZ h0_0 h0_1 h0_2 h0_3 h0_4 h0_5 h0_6 h0_7 h0_8 h0_9 h0_10 h0_11 w9.2)) (zsome h)) ?_
      exact zq_iret G hlocks hr rfl dX4_minimumIfCost_81 (congrArg Prod.fst (zsome h))
    · have h := zie h c2
      refine zq_iconst (q := 52) (v := 0) G dX4_minimumIfCost_51 (by decide) rfl ?_
      refine zq_ws (congrArg (fun w9 => (w_M cyI cyZ h0_0 h0_1 h0_2 h0_3 h0_4 h0_5 h0_6 h0_7 h0_8 h0_9 h0_10 h0_11 w9.2)) (zsome h)) ?_
      exact zq_iret G hlocks hr rfl dX4_minimumIfCost_52 (congrArg Prod.fst (zsome h))
  have b17 : ∀ (τ0 : zM) (x1 : Int32) (x2 : Int32) (x3 : Int32), s_X4_minimumIfCost_17 τ0 x1 x2 x3 = some (r, o0) → zW p l e ({ frames := 14, cells := 0, slots := 0, locals := 282 } : Room) s m args below meth c D (va_A (w_M cyI cyZ h0_0 h0_1 h0_2 h0_3 h0_4 h0_5 h0_6 h0_7 h0_8 h0_9 h0_10 h0_11 σ0) sz) 4 0 0 (MQ below (zQi D cyI cyZ sz (w_M cyI cyZ h0_0 h0_1 h0_2 h0_3 h0_4 h0_5 h0_6 h0_7 h0_8 h0_9 h0_10 h0_11 σ0) r (w_M cyI cyZ h0_0 h0_1 h0_2 h0_3 h0_4 h0_5 h0_6 h0_7 h0_8 h0_9 h0_10 h0_11 o0)) args s 0 0 (va_A (w_M cyI cyZ h0_0 h0_1 h0_2 h0_3 h0_4 h0_5 h0_6 h0_7 h0_8 h0_9 h0_10 h0_11 σ0) sz)) 17 [(0, .ref h0_0), (1, .int x1), (2, .int x2), (3, .int x3)] [.ref h0_0] (w_M cyI cyZ h0_0 h0_1 h0_2 h0_3 h0_4 h0_5 h0_6 h0_7 h0_8 h0_9 h0_10 h0_11 τ0) := by
    intro τ0 x1 x2 x3 h
    unfold s_X4_minimumIfCost_17 at h
    refine zq_iconst (q := 18) (v := 1) G dX4_minimumIfCost_17 (by decide) rfl ?_
    refine zq_goto (q := 45) G dX4_minimumIfCost_18 (by decide) ?_
    exact zq_sub _ [0, 1, 2, 3] rfl (b45  _ _ _ _ _ h)
  refine zq_aload_n (q := 1) G dX4_minimumIfCost_0 0 rfl rfl rfl ?_
  refine zq_aload_n (q := 2) G dX4_minimumIfCost_1 0 rfl rfl rfl ?_
  refine zq_iload_n (q := 3) G dX4_minimumIfCost_2 1 rfl rfl rfl ?_
  obtain ⟨z1, hc1, h⟩ := zbd h
  refine zq_callVi (q := 6) (ws2 := (w_M cyI cyZ h0_0 h0_1 h0_2 h0_3 h0_4 h0_5 h0_6 h0_7 h0_8 h0_9 h0_10 h0_11 σ0)) (isC := [0, 1, 2, 3, 4, 5, 6, 7, 8, 9, 10, 11]) (isR := []) (perm := [0, 1, 2, 3, 4, 5, 6, 7, 8, 9, 10, 11]) (rest := [.ref h0_0]) (As := [.int p0]) G zs_X4_122 dX4_minimumIfCost_3 (fun sz9 => c_X4_isRow l D cyI cyZ h0_0 h0_1 h0_2 h0_3 h0_4 h0_5 h0_6 h0_7 h0_8 h0_9 h0_10 h0_11 σ0 p0 z1 hc1 sz9) 0 rfl rfl rfl ⟨rfl, rfl, rfl, rfl⟩ rfl (Nat.le_of_ble_eq_true rfl) ⟨Nat.le_of_ble_eq_true rfl, Nat.le_of_ble_eq_true rfl, Nat.zero_le _, Nat.zero_le _⟩ rfl ?_
  refine zq_if_eq (tgt := 17) (q := 9) G dX4_minimumIfCost_6 (by decide) rfl (fun c2 => ?_) (fun c2 => ?_)
  · have h := zit h c2
    exact zq_sub _ [0, 1, 2, 3] rfl (b17  _ _ _ _ h)
  · have h := zie h c2
    refine zq_aload_n (q := 10) G dX4_minimumIfCost_9 0 rfl rfl rfl ?_
    refine zq_iload_n (q := 11) G dX4_minimumIfCost_10 2 rfl rfl rfl ?_
    obtain ⟨z3, hc3, h⟩ := zbd h
    refine zq_callVi (q := 14) (ws2 := (w_M cyI cyZ h0_0 h0_1 h0_2 h0_3 h0_4 h0_5 h0_6 h0_7 h0_8 h0_9 h0_10 h0_11 σ0)) (isC := [0, 1, 2, 3, 4, 5, 6, 7, 8, 9, 10, 11]) (isR := []) (perm := [0, 1, 2, 3, 4, 5, 6, 7, 8, 9, 10, 11]) (rest := [.ref h0_0]) (As := [.int p1]) G zs_X4_125 dX4_minimumIfCost_11 (fun sz9 => c_X4_isReal l D cyI cyZ h0_0 h0_1 h0_2 h0_3 h0_4 h0_5 h0_6 h0_7 h0_8 h0_9 h0_10 h0_11 σ0 p1 z3 hc3 sz9) 0 rfl rfl rfl ⟨rfl, rfl, rfl, rfl⟩ rfl (Nat.le_of_ble_eq_true rfl) ⟨Nat.le_of_ble_eq_true rfl, Nat.le_of_ble_eq_true rfl, Nat.zero_le _, Nat.zero_le _⟩ rfl ?_
    refine zq_if_ne (tgt := 21) (q := 17) G dX4_minimumIfCost_14 (by decide) rfl (fun c4 => ?_) (fun c4 => ?_)
    · have h := zie h c4
      refine zq_iload_n (q := 22) G dX4_minimumIfCost_21 3 rfl rfl rfl ?_
      refine zq_i2l (q := 23) G dX4_minimumIfCost_22 rfl ?_
      refine zq_lconst (q := 24) (v := 0) G dX4_minimumIfCost_23 (by decide) rfl ?_
      refine zq_ldc2 (q := 27) G zw_X4_c128 dX4_minimumIfCost_24 rfl ?_
      obtain ⟨z5, hc5, h⟩ := zbd h
      refine zq_callSi (q := 30) (ws2 := (w_M cyI cyZ h0_0 h0_1 h0_2 h0_3 h0_4 h0_5 h0_6 h0_7 h0_8 h0_9 h0_10 h0_11 σ0)) (isC := []) (isR := [0, 1, 2, 3, 4, 5, 6, 7, 8, 9, 10, 11]) (perm := [0, 1, 2, 3, 4, 5, 6, 7, 8, 9, 10, 11]) (rest := [.ref h0_0]) (As := [.long p2.toInt64, .long (0 : Int64), .long (99 : Int64)]) G zs_X4_63 dX4_minimumIfCost_27 (fun sz9 => c_X4_isIn l D cyI cyZ p2.toInt64 (0 : Int64) (99 : Int64) z5 hc5 sz9) rfl ⟨rfl, rfl, rfl, rfl⟩ rfl (Nat.le_of_ble_eq_true rfl) ⟨Nat.le_of_ble_eq_true rfl, Nat.le_of_ble_eq_true rfl, Nat.zero_le _, Nat.zero_le _⟩ rfl ?_
      refine zq_if_ne (tgt := 44) (q := 33) G dX4_minimumIfCost_30 (by decide) rfl (fun c6 => ?_) (fun c6 => ?_)
      · have h := zie h c6
        refine zq_iconst (q := 45) (v := 0) G dX4_minimumIfCost_44 (by decide) rfl ?_
        exact zq_sub _ [0, 1, 2, 3] rfl (b45  _ _ _ _ _ h)
      · have h := zit h c6
        refine zq_iload_n (q := 34) G dX4_minimumIfCost_33 3 rfl rfl rfl ?_
        refine zq_sipush (q := 37) (v := 1000) G dX4_minimumIfCost_34 (by decide) rfl ?_
        refine zq_icmp_eq (tgt := 44) (q := 40) G dX4_minimumIfCost_37 (by decide) rfl (fun c7 => ?_) (fun c7 => ?_)
        · have h := zit h c7
          refine zq_iconst (q := 45) (v := 0) G dX4_minimumIfCost_44 (by decide) rfl ?_
          exact zq_sub _ [0, 1, 2, 3] rfl (b45  _ _ _ _ _ h)
        · have h := zie h c7
          refine zq_iconst (q := 41) (v := 2) G dX4_minimumIfCost_40 (by decide) rfl ?_
          refine zq_goto (q := 45) G dX4_minimumIfCost_41 (by decide) ?_
          exact zq_sub _ [0, 1, 2, 3] rfl (b45  _ _ _ _ _ h)
    · have h := zit h c4
      exact zq_sub _ [0, 1, 2, 3] rfl (b17  _ _ _ _ h)
set_option maxHeartbeats 4000000 in
set_option maxRecDepth 100000 in
theorem c_X4_secondBest (l : Launch) (D : va_G) (cyI cyZ : ClassId) (h0_0 h0_1 h0_2 h0_3 h0_4 h0_5 h0_6 h0_7 h0_8 h0_9 h0_10 h0_11 : Nat) (σ0 : zM) (r : Int32) (o0 : zM) (h : s_X4_secondBest σ0 = some (r, o0)) (sz : Nat) : zMi l yX4_secondBest cX4_secondBest 1 .int 15 302 D cyI cyZ sz [.ref h0_0] (w_M cyI cyZ h0_0 h0_1 h0_2 h0_3 h0_4 h0_5 h0_6 h0_7 h0_8 h0_9 h0_10 h0_11 σ0) r (w_M cyI cyZ h0_0 h0_1 h0_2 h0_3 h0_4 h0_5 h0_6 h0_7 h0_8 h0_9 h0_10 h0_11 o0) := by
  unfold s_X4_secondBest at h
  refine zstartI (lv0 := [(0, .ref h0_0)]) (by decide) (Nat.le_of_ble_eq_true rfl) rfl (fun p e s m args below meth c G hr hlocks => ?_)
  refine zq_aload_n (q := 1) G dX4_secondBest_0 0 rfl rfl rfl ?_
  obtain ⟨z1, hc1, h⟩ := zbd h
  refine zq_callVv (q := 4) (ws2 := (w_M cyI cyZ h0_0 h0_1 h0_2 h0_3 h0_4 h0_5 h0_6 h0_7 h0_8 h0_9 h0_10 h0_11 z1)) (isC := [0, 1, 2, 3, 4, 5, 6, 7, 8, 9, 10, 11]) (isR := []) (perm := [0, 1, 2, 3, 4, 5, 6, 7, 8, 9, 10, 11]) (rest := []) (As := []) G zs_X4_114 dX4_secondBest_1 (fun sz9 => c_X4_look_ l D cyI cyZ h0_0 h0_1 h0_2 h0_3 h0_4 h0_5 h0_6 h0_7 h0_8 h0_9 h0_10 h0_11 σ0 z1 hc1 sz9) 0 rfl rfl rfl ⟨rfl, rfl, rfl, rfl⟩ rfl (Nat.le_of_ble_eq_true rfl) ⟨Nat.le_of_ble_eq_true rfl, Nat.le_of_ble_eq_true rfl, Nat.zero_le _, Nat.zero_le _⟩ rfl ?_
  refine zq_aload_n (q := 5) G dX4_secondBest_4 0 rfl rfl rfl ?_
  refine zq_get (q := 8) G zu_X4 rfl zw_X4_f7 dX4_secondBest_5 0 0 rfl (by decide) ⟨⟨rfl, rfl⟩, rfl⟩ rfl rfl ?_
  refine zq_iconst (q := 9) (v := 1) G dX4_secondBest_8 (by decide) rfl ?_
  refine zq_icmp_ne (tgt := 16) (q := 12) G dX4_secondBest_9 (by decide) rfl (fun c2 => ?_) (fun c2 => ?_)
  · have h := zie h c2
    refine zq_aload_n (q := 17) G dX4_secondBest_16 0 rfl rfl rfl ?_
    refine zq_get (q := 20) G zu_X4 rfl zw_X4_f86 dX4_secondBest_17 0 15 rfl (by decide) ⟨⟨rfl, rfl⟩, rfl⟩ rfl rfl ?_
    refine zq_ws (congrArg (fun w9 => (w_M cyI cyZ h0_0 h0_1 h0_2 h0_3 h0_4 h0_5 h0_6 h0_7 h0_8 h0_9 h0_10 h0_11 w9.2)) (zsome h)) ?_
    exact zq_iret G hlocks hr rfl dX4_secondBest_20 (congrArg Prod.fst (zsome h))
  · have h := zit h c2
    refine zq_iconst (q := 13) (v := -1) G dX4_secondBest_12 (by decide) rfl ?_
    refine zq_goto (q := 20) G dX4_secondBest_13 (by decide) ?_
    refine zq_ws (congrArg (fun w9 => (w_M cyI cyZ h0_0 h0_1 h0_2 h0_3 h0_4 h0_5 h0_6 h0_7 h0_8 h0_9 h0_10 h0_11 w9.2)) (zsome h)) ?_
    exact zq_iret G hlocks hr rfl dX4_secondBest_20 (congrArg Prod.fst (zsome h))
set_option maxHeartbeats 4000000 in
set_option maxRecDepth 100000 in
theorem c_X4_maximum (l : Launch) (D : va_G) (cyI cyZ : ClassId) (h0_0 h0_1 h0_2 h0_3 h0_4 h0_5 h0_6 h0_7 h0_8 h0_9 h0_10 h0_11 : Nat) (σ0 : zM) (r : Int32) (o0 : zM) (h : s_X4_maximum σ0 = some (r, o0)) (sz : Nat) : zMi l yX4_maximum cX4_maximum 1 .int 15 302 D cyI cyZ sz [.ref h0_0] (w_M cyI cyZ h0_0 h0_1 h0_2 h0_3 h0_4 h0_5 h0_6 h0_7 h0_8 h0_9 h0_10 h0_11 σ0) r (w_M cyI cyZ h0_0 h0_1 h0_2 h0_3 h0_4 h0_5 h0_6 h0_7 h0_8 h0_9 h0_10 h0_11 o0) := by
  unfold s_X4_maximum at h
  refine zstartI (lv0 := [(0, .ref h0_0)]) (by decide) (Nat.le_of_ble_eq_true rfl) rfl (fun p e s m args below meth c G hr hlocks => ?_)
  refine zq_aload_n (q := 1) G dX4_maximum_0 0 rfl rfl rfl ?_
  obtain ⟨z1, hc1, h⟩ := zbd h
  refine zq_callVv (q := 4) (ws2 := (w_M cyI cyZ h0_0 h0_1 h0_2 h0_3 h0_4 h0_5 h0_6 h0_7 h0_8 h0_9 h0_10 h0_11 z1)) (isC := [0, 1, 2, 3, 4, 5, 6, 7, 8, 9, 10, 11]) (isR := []) (perm := [0, 1, 2, 3, 4, 5, 6, 7, 8, 9, 10, 11]) (rest := []) (As := []) G zs_X4_114 dX4_maximum_1 (fun sz9 => c_X4_look_ l D cyI cyZ h0_0 h0_1 h0_2 h0_3 h0_4 h0_5 h0_6 h0_7 h0_8 h0_9 h0_10 h0_11 σ0 z1 hc1 sz9) 0 rfl rfl rfl ⟨rfl, rfl, rfl, rfl⟩ rfl (Nat.le_of_ble_eq_true rfl) ⟨Nat.le_of_ble_eq_true rfl, Nat.le_of_ble_eq_true rfl, Nat.zero_le _, Nat.zero_le _⟩ rfl ?_
  refine zq_aload_n (q := 5) G dX4_maximum_4 0 rfl rfl rfl ?_
  refine zq_get (q := 8) G zu_X4 rfl zw_X4_f89 dX4_maximum_5 0 16 rfl (by decide) ⟨⟨rfl, rfl⟩, rfl⟩ rfl rfl ?_
  refine zq_ws (congrArg (fun w9 => (w_M cyI cyZ h0_0 h0_1 h0_2 h0_3 h0_4 h0_5 h0_6 h0_7 h0_8 h0_9 h0_10 h0_11 w9.2)) (zsome h)) ?_
  exact zq_iret G hlocks hr rfl dX4_maximum_8 (congrArg Prod.fst (zsome h))
set_option maxHeartbeats 4000000 in
set_option maxRecDepth 100000 in
theorem c_X4_bottleneck (l : Launch) (D : va_G) (cyI cyZ : ClassId) (h0_0 h0_1 h0_2 h0_3 h0_4 h0_5 h0_6 h0_7 h0_8 h0_9 h0_10 h0_11 : Nat) (σ0 : zM) (r : Int32) (o0 : zM) (h : s_X4_bottleneck σ0 = some (r, o0)) (sz : Nat) : zMi l yX4_bottleneck cX4_bottleneck 1 .int 15 302 D cyI cyZ sz [.ref h0_0] (w_M cyI cyZ h0_0 h0_1 h0_2 h0_3 h0_4 h0_5 h0_6 h0_7 h0_8 h0_9 h0_10 h0_11 σ0) r (w_M cyI cyZ h0_0 h0_1 h0_2 h0_3 h0_4 h0_5 h0_6 h0_7 h0_8 h0_9 h0_10 h0_11 o0) := by
  unfold s_X4_bottleneck at h
  refine zstartI (lv0 := [(0, .ref h0_0)]) (by decide) (Nat.le_of_ble_eq_true rfl) rfl (fun p e s m args below meth c G hr hlocks => ?_)
  refine zq_aload_n (q := 1) G dX4_bottleneck_0 0 rfl rfl rfl ?_
  obtain ⟨z1, hc1, h⟩ := zbd h
  refine zq_callVv (q := 4) (ws2 := (w_M cyI cyZ h0_0 h0_1 h0_2 h0_3 h0_4 h0_5 h0_6 h0_7 h0_8 h0_9 h0_10 h0_11 z1)) (isC := [0, 1, 2, 3, 4, 5, 6, 7, 8, 9, 10, 11]) (isR := []) (perm := [0, 1, 2, 3, 4, 5, 6, 7, 8, 9, 10, 11]) (rest := []) (As := []) G zs_X4_114 dX4_bottleneck_1 (fun sz9 => c_X4_look_ l D cyI cyZ h0_0 h0_1 h0_2 h0_3 h0_4 h0_5 h0_6 h0_7 h0_8 h0_9 h0_10 h0_11 σ0 z1 hc1 sz9) 0 rfl rfl rfl ⟨rfl, rfl, rfl, rfl⟩ rfl (Nat.le_of_ble_eq_true rfl) ⟨Nat.le_of_ble_eq_true rfl, Nat.le_of_ble_eq_true rfl, Nat.zero_le _, Nat.zero_le _⟩ rfl ?_
  refine zq_aload_n (q := 5) G dX4_bottleneck_4 0 rfl rfl rfl ?_
  refine zq_get (q := 8) G zu_X4 rfl zw_X4_f92 dX4_bottleneck_5 0 17 rfl (by decide) ⟨⟨rfl, rfl⟩, rfl⟩ rfl rfl ?_
  refine zq_ws (congrArg (fun w9 => (w_M cyI cyZ h0_0 h0_1 h0_2 h0_3 h0_4 h0_5 h0_6 h0_7 h0_8 h0_9 h0_10 h0_11 w9.2)) (zsome h)) ?_
  exact zq_iret G hlocks hr rfl dX4_bottleneck_8 (congrArg Prod.fst (zsome h))
set_option maxHeartbeats 4000000 in
set_option maxRecDepth 100000 in
theorem c_X4_fits (l : Launch) (D : va_G) (cyI cyZ : ClassId) (h0_0 h0_1 h0_2 h0_3 h0_4 h0_5 h0_6 h0_7 h0_8 h0_9 h0_10 h0_11 : Nat) (σ0 : zM) (p0 : Int32) (r : Int32) (o0 : zM) (h : s_X4_fits σ0 p0 = some (r, o0)) (sz : Nat) : zMi l yX4_fits cX4_fits 2 .boolean 15 302 D cyI cyZ sz [.ref h0_0, .int p0] (w_M cyI cyZ h0_0 h0_1 h0_2 h0_3 h0_4 h0_5 h0_6 h0_7 h0_8 h0_9 h0_10 h0_11 σ0) r (w_M cyI cyZ h0_0 h0_1 h0_2 h0_3 h0_4 h0_5 h0_6 h0_7 h0_8 h0_9 h0_10 h0_11 o0) := by
  unfold s_X4_fits at h
  refine zstartI (lv0 := [(0, .ref h0_0), (1, .int p0)]) (by decide) (Nat.le_of_ble_eq_true rfl) rfl (fun p e s m args below meth c G hr hlocks => ?_)
  have b18 : ∀ (τ0 : zM) (x1 : Int32) (y0 : Int32), s_X4_fits_18 τ0 x1 y0 = some (r, o0) → zW p l e ({ frames := 15, cells := 0, slots := 0, locals := 302 } : Room) s m args below meth c D (va_A (w_M cyI cyZ h0_0 h0_1 h0_2 h0_3 h0_4 h0_5 h0_6 h0_7 h0_8 h0_9 h0_10 h0_11 σ0) sz) 2 0 0 (MQ below (zQi D cyI cyZ sz (w_M cyI cyZ h0_0 h0_1 h0_2 h0_3 h0_4 h0_5 h0_6 h0_7 h0_8 h0_9 h0_10 h0_11 σ0) r (w_M cyI cyZ h0_0 h0_1 h0_2 h0_3 h0_4 h0_5 h0_6 h0_7 h0_8 h0_9 h0_10 h0_11 o0)) args s 0 0 (va_A (w_M cyI cyZ h0_0 h0_1 h0_2 h0_3 h0_4 h0_5 h0_6 h0_7 h0_8 h0_9 h0_10 h0_11 σ0) sz)) 18 [(0, .ref h0_0), (1, .int x1)] [.int y0, .ref h0_0] (w_M cyI cyZ h0_0 h0_1 h0_2 h0_3 h0_4 h0_5 h0_6 h0_7 h0_8 h0_9 h0_10 h0_11 τ0) := by
    intro τ0 x1 y0 h
    unfold s_X4_fits_18 at h
    obtain ⟨z1, hc1, h⟩ := zbd h
    refine zq_callVi (q := 21) (ws2 := (w_M cyI cyZ h0_0 h0_1 h0_2 h0_3 h0_4 h0_5 h0_6 h0_7 h0_8 h0_9 h0_10 h0_11 z1.2)) (isC := [0, 1, 2, 3, 4, 5, 6, 7, 8, 9, 10, 11]) (isR := []) (perm := [0, 1, 2, 3, 4, 5, 6, 7, 8, 9, 10, 11]) (rest := []) (As := [.int y0]) G zs_X4_118 dX4_fits_18 (fun sz9 => c_X4_isWrong l D cyI cyZ h0_0 h0_1 h0_2 h0_3 h0_4 h0_5 h0_6 h0_7 h0_8 h0_9 h0_10 h0_11 τ0 y0 z1.1 z1.2 hc1 sz9) 0 rfl rfl rfl ⟨rfl, rfl, rfl, rfl⟩ rfl (Nat.le_of_ble_eq_true rfl) ⟨Nat.le_of_ble_eq_true rfl, Nat.le_of_ble_eq_true rfl, Nat.zero_le _, Nat.zero_le _⟩ rfl ?_
    refine zq_if_eq (tgt := 26) (q := 24) G dX4_fits_21 (by decide) rfl (fun c2 => ?_) (fun c2 => ?_)
    · have h := zit h c2
      refine zq_aload_n (q := 27) G dX4_fits_26 0 rfl rfl rfl ?_
      obtain ⟨z3, hc3, h⟩ := zbd h
      refine zq_callVv (q := 30) (ws2 := (w_M cyI cyZ h0_0 h0_1 h0_2 h0_3 h0_4 h0_5 h0_6 h0_7 h0_8 h0_9 h0_10 h0_11 z3)) (isC := [0, 1, 2, 3, 4, 5, 6, 7, 8, 9, 10, 11]) (isR := []) (perm := [0, 1, 2, 3, 4, 5, 6, 7, 8, 9, 10, 11]) (rest := []) (As := []) G zs_X4_114 dX4_fits_27 (fun sz9 => c_X4_look_ l D cyI cyZ h0_0 h0_1 h0_2 h0_3 h0_4 h0_5 h0_6 h0_7 h0_8 h0_9 h0_10 h0_11 z1.2 z3 hc3 sz9) 0 rfl rfl rfl ⟨rfl, rfl, rfl, rfl⟩ rfl (Nat.le_of_ble_eq_true rfl) ⟨Nat.le_of_ble_eq_true rfl, Nat.le_of_ble_eq_true rfl, Nat.zero_le _, Nat.zero_le _⟩ rfl ?_
      refine zq_aload_n (q := 31) G dX4_fits_30 0 rfl rfl rfl ?_
      refine zq_get (q := 34) G zu_X4 rfl zw_X4_f92 dX4_fits_31 0 17 rfl (by decide) ⟨⟨rfl, rfl⟩, rfl⟩ rfl rfl ?_
      refine zq_iload_n (q := 35) G dX4_fits_34 1 rfl rfl rfl ?_
      refine zq_icmp_gt (tgt := 42) (q := 38) G dX4_fits_35 (by decide) rfl (fun c4 => ?_) (fun c4 => ?_)
      · have h := zit h c4
        refine zq_iconst (q := 43) (v := 0) G dX4_fits_42 (by decide) rfl ?_
        refine zq_ws (congrArg (fun w9 => (w_M cyI cyZ h0_0 h0_1 h0_2 h0_3 h0_4 h0_5 h0_6 h0_7 h0_8 h0_9 h0_10 h0_11 w9.2)) (zsome h)) ?_
        exact zq_iret G hlocks hr rfl dX4_fits_43 (congrArg Prod.fst (zsome h))
      · have h := zie h c4
        refine zq_iconst (q := 39) (v := 1) G dX4_fits_38 (by decide) rfl ?_
        refine zq_goto (q := 43) G dX4_fits_39 (by decide) ?_
        refine zq_ws (congrArg (fun w9 => (w_M cyI cyZ h0_0 h0_1 h0_2 h0_3 h0_4 h0_5 h0_6 h0_7 h0_8 h0_9 h0_10 h0_11 w9.2)) (zsome h)) ?_
        exact zq_iret G hlocks hr rfl dX4_fits_43 (congrArg Prod.fst (zsome h))
    · have h := zie h c2
      refine zq_iconst (q := 25) (v := 0) G dX4_fits_24 (by decide) rfl ?_
      refine zq_ws (congrArg (fun w9 => (w_M cyI cyZ h0_0 h0_1 h0_2 h0_3 h0_4 h0_5 h0_6 h0_7 h0_8 h0_9 h0_10 h0_11 w9.2)) (zsome h)) ?_
      exact zq_iret G hlocks hr rfl dX4_fits_25 (congrArg Prod.fst (zsome h))
  refine zq_aload_n (q := 1) G dX4_fits_0 0 rfl rfl rfl ?_
  refine zq_iload_n (q := 2) G dX4_fits_1 1 rfl rfl rfl ?_
  refine zq_i2l (q := 3) G dX4_fits_2 rfl ?_
  refine zq_lconst (q := 4) (v := 0) G dX4_fits_3 (by decide) rfl ?_
  refine zq_ldc2 (q := 7) G zw_X4_c168 dX4_fits_4 rfl ?_
  obtain ⟨z1, hc1, h⟩ := zbd h
  refine zq_callSi (q := 10) (ws2 := (w_M cyI cyZ h0_0 h0_1 h0_2 h0_3 h0_4 h0_5 h0_6 h0_7 h0_8 h0_9 h0_10 h0_11 σ0)) (isC := []) (isR := [0, 1, 2, 3, 4, 5, 6, 7, 8, 9, 10, 11]) (perm := [0, 1, 2, 3, 4, 5, 6, 7, 8, 9, 10, 11]) (rest := [.ref h0_0]) (As := [.long p0.toInt64, .long (0 : Int64), .long (1000 : Int64)]) G zs_X4_63 dX4_fits_7 (fun sz9 => c_X4_isIn l D cyI cyZ p0.toInt64 (0 : Int64) (1000 : Int64) z1 hc1 sz9) rfl ⟨rfl, rfl, rfl, rfl⟩ rfl (Nat.le_of_ble_eq_true rfl) ⟨Nat.le_of_ble_eq_true rfl, Nat.le_of_ble_eq_true rfl, Nat.zero_le _, Nat.zero_le _⟩ rfl ?_
  refine zq_if_eq (tgt := 17) (q := 13) G dX4_fits_10 (by decide) rfl (fun c2 => ?_) (fun c2 => ?_)
  · have h := zit h c2
    refine zq_iconst (q := 18) (v := 1) G dX4_fits_17 (by decide) rfl ?_
    exact zq_sub _ [0, 1] rfl (b18  _ _ _ h)
  · have h := zie h c2
    refine zq_iconst (q := 14) (v := 0) G dX4_fits_13 (by decide) rfl ?_
    refine zq_goto (q := 18) G dX4_fits_14 (by decide) ?_
    exact zq_sub _ [0, 1] rfl (b18  _ _ _ h)
set_option maxHeartbeats 4000000 in
set_option maxRecDepth 100000 in
theorem c_X4_countWithin (l : Launch) (D : va_G) (cyI cyZ : ClassId) (h0_0 h0_1 h0_2 h0_3 h0_4 h0_5 h0_6 h0_7 h0_8 h0_9 h0_10 h0_11 : Nat) (σ0 : zM) (p0 : Int32) (r : Int32) (o0 : zM) (h : s_X4_countWithin σ0 p0 = some (r, o0)) (sz : Nat) : zMi l yX4_countWithin cX4_countWithin 4 .int 13 260 D cyI cyZ sz [.ref h0_0, .int p0] (w_M cyI cyZ h0_0 h0_1 h0_2 h0_3 h0_4 h0_5 h0_6 h0_7 h0_8 h0_9 h0_10 h0_11 σ0) r (w_M cyI cyZ h0_0 h0_1 h0_2 h0_3 h0_4 h0_5 h0_6 h0_7 h0_8 h0_9 h0_10 h0_11 o0) := by
  unfold s_X4_countWithin at h
  refine zstartI (lv0 := [(0, .ref h0_0), (1, .int p0)]) (by decide) (Nat.le_of_ble_eq_true rfl) rfl (fun p e s m args below meth c G hr hlocks => ?_)
  have b44 : ∀ (n : Nat) (τ0 : zM) (x1 : Int32) (x2 : Int32) (x3 : Int32), s_X4_countWithin_44 n τ0 x1 x2 x3 = some (r, o0) → zW p l e ({ frames := 13, cells := 0, slots := 0, locals := 260 } : Room) s m args below meth c D (va_A (w_M cyI cyZ h0_0 h0_1 h0_2 h0_3 h0_4 h0_5 h0_6 h0_7 h0_8 h0_9 h0_10 h0_11 σ0) sz) 4 0 0 (MQ below (zQi D cyI cyZ sz (w_M cyI cyZ h0_0 h0_1 h0_2 h0_3 h0_4 h0_5 h0_6 h0_7 h0_8 h0_9 h0_10 h0_11 σ0) r (w_M cyI cyZ h0_0 h0_1 h0_2 h0_3 h0_4 h0_5 h0_6 h0_7 h0_8 h0_9 h0_10 h0_11 o0)) args s 0 0 (va_A (w_M cyI cyZ h0_0 h0_1 h0_2 h0_3 h0_4 h0_5 h0_6 h0_7 h0_8 h0_9 h0_10 h0_11 σ0) sz)) 44 [(0, .ref h0_0), (1, .int x1), (2, .int x2), (3, .int x3)] [] (w_M cyI cyZ h0_0 h0_1 h0_2 h0_3 h0_4 h0_5 h0_6 h0_7 h0_8 h0_9 h0_10 h0_11 τ0) := by
    intro n
    induction n with
    | zero => intro τ0 x1 x2 x3 h; rw [s_X4_countWithin_44] at h; exact nomatch h
    | succ n ih =>
      intro τ0 x1 x2 x3 h
      rw [s_X4_countWithin_44] at h
      refine zq_iload_n (q := 45) G dX4_countWithin_44 3 rfl rfl rfl ?_
      refine zq_if_le (tgt := 82) (q := 48) G dX4_countWithin_45 (by decide) rfl (fun c1 => ?_) (fun c1 => ?_)
      · have h := zit h c1
        refine zq_iload_n (q := 83) G dX4_countWithin_82 2 rfl rfl rfl ?_
        refine zq_ws (congrArg (fun w9 => (w_M cyI cyZ h0_0 h0_1 h0_2 h0_3 h0_4 h0_5 h0_6 h0_7 h0_8 h0_9 h0_10 h0_11 w9.2)) (zsome h)) ?_
        exact zq_iret G hlocks hr rfl dX4_countWithin_83 (congrArg Prod.fst (zsome h))
      · have h := zie h c1
        refine zq_iload_n (q := 49) G dX4_countWithin_48 2 rfl rfl rfl ?_
        refine zq_aload_n (q := 50) G dX4_countWithin_49 0 rfl rfl rfl ?_
        refine zq_aload_n (q := 51) G dX4_countWithin_50 0 rfl rfl rfl ?_
        refine zq_get (q := 54) G zu_X4 rfl zw_X4_f7 dX4_countWithin_51 0 0 rfl (by decide) ⟨⟨rfl, rfl⟩, rfl⟩ rfl rfl ?_
        obtain ⟨z2, hc2, h⟩ := zbd h
        refine zq_callVi (q := 57) (ws2 := (w_M cyI cyZ h0_0 h0_1 h0_2 h0_3 h0_4 h0_5 h0_6 h0_7 h0_8 h0_9 h0_10 h0_11 τ0)) (isC := [0, 1, 2, 3, 4, 5, 6, 7, 8, 9, 10, 11]) (isR := []) (perm := [0, 1, 2, 3, 4, 5, 6, 7, 8, 9, 10, 11]) (rest := [.int x2]) (As := [.int τ0.1.1]) G zs_X4_98 dX4_countWithin_54 (fun sz9 => c_X4_sum l D cyI cyZ h0_0 h0_1 h0_2 h0_3 h0_4 h0_5 h0_6 h0_7 h0_8 h0_9 h0_10 h0_11 τ0 τ0.1.1 z2 hc2 sz9) 0 rfl rfl rfl ⟨rfl, rfl, rfl, rfl⟩ rfl (Nat.le_of_ble_eq_true rfl) ⟨Nat.le_of_ble_eq_true rfl, Nat.le_of_ble_eq_true rfl, Nat.zero_le _, Nat.zero_le _⟩ rfl ?_
        refine zq_iload_n (q := 58) G dX4_countWithin_57 1 rfl rfl rfl ?_
        refine zq_icmp_gt (tgt := 65) (q := 61) G dX4_countWithin_58 (by decide) rfl (fun c3 => ?_) (fun c3 => ?_)
        · have h := zit h c3
          refine zq_iconst (q := 66) (v := 0) G dX4_countWithin_65 (by decide) rfl ?_
          refine zq_iadd (q := 67) G dX4_countWithin_66 rfl ?_
          refine zq_istore_n (q := 68) (lv2 := [(2, .int (x2 + (0 : Int32))), (0, .ref h0_0), (1, .int x1), (3, .int x3)]) G dX4_countWithin_67 rfl (by decide) rfl rfl ?_
          refine zq_aload_n (q := 69) G dX4_countWithin_68 1 rfl rfl rfl ?_
          refine zq_aload_n (q := 70) G dX4_countWithin_69 1 rfl rfl rfl ?_
          refine zq_get (q := 73) G zu_X4 rfl zw_X4_f7 dX4_countWithin_70 0 0 rfl (by decide) ⟨⟨rfl, rfl⟩, rfl⟩ rfl rfl ?_
          obtain ⟨z4, hc4, h⟩ := zbd h
          refine zq_callVv (q := 76) (ws2 := (w_M cyI cyZ h0_0 h0_1 h0_2 h0_3 h0_4 h0_5 h0_6 h0_7 h0_8 h0_9 h0_10 h0_11 z4)) (isC := [0, 1, 2, 3, 4, 5, 6, 7, 8, 9, 10, 11]) (isR := []) (perm := [0, 1, 2, 3, 4, 5, 6, 7, 8, 9, 10, 11]) (rest := []) (As := [.int τ0.1.1]) G zs_X4_104 dX4_countWithin_73 (fun sz9 => c_X4_goOn l D cyI cyZ h0_0 h0_1 h0_2 h0_3 h0_4 h0_5 h0_6 h0_7 h0_8 h0_9 h0_10 h0_11 τ0 τ0.1.1 z4 hc4 sz9) 0 rfl rfl rfl ⟨rfl, rfl, rfl, rfl⟩ rfl (Nat.le_of_ble_eq_true rfl) ⟨Nat.le_of_ble_eq_true rfl, Nat.le_of_ble_eq_true rfl, Nat.zero_le _, Nat.zero_le _⟩ rfl ?_
          refine zq_iinc (q := 79) (v := (x3 + (-1))) (lv2 := [(3, .int (x3 + (-1))), (2, .int (x2 + (0 : Int32))), (0, .ref h0_0), (1, .int x1)]) G dX4_countWithin_76 3 rfl rfl (by decide) rfl rfl ?_
          refine zq_goto (q := 44) G dX4_countWithin_79 (by decide) ?_
          exact zq_sub _ [2, 3, 1, 0] rfl (ih _ _ _ _ h)
        · have h := zie h c3
          refine zq_iconst (q := 62) (v := 1) G dX4_countWithin_61 (by decide) rfl ?_
          refine zq_goto (q := 66) G dX4_countWithin_62 (by decide) ?_
          refine zq_iadd (q := 67) G dX4_countWithin_66 rfl ?_
          refine zq_istore_n (q := 68) (lv2 := [(2, .int (x2 + (1 : Int32))), (0, .ref h0_0), (1, .int x1), (3, .int x3)]) G dX4_countWithin_67 rfl (by decide) rfl rfl ?_
          refine zq_aload_n (q := 69) G dX4_countWithin_68 1 rfl rfl rfl ?_
          refine zq_aload_n (q := 70) G dX4_countWithin_69 1 rfl rfl rfl ?_
          refine zq_get (q := 73) G zu_X4 rfl zw_X4_f7 dX4_countWithin_70 0 0 rfl (by decide) ⟨⟨rfl, rfl⟩, rfl⟩ rfl rfl ?_
          obtain ⟨z5, hc5, h⟩ := zbd h
          refine zq_callVv (q := 76) (ws2 := (w_M cyI cyZ h0_0 h0_1 h0_2 h0_3 h0_4 h0_5 h0_6 h0_7 h0_8 h0_9 h0_10 h0_11 z5)) (isC := [0, 1, 2, 3, 4, 5, 6, 7, 8, 9, 10, 11]) (isR := []) (perm := [0, 1, 2, 3, 4, 5, 6, 7, 8, 9, 10, 11]) (rest := []) (As := [.int τ0.1.1]) G zs_X4_104 dX4_countWithin_73 (fun sz9 => c_X4_goOn l D cyI cyZ h0_0 h0_1 h0_2 h0_3 h0_4 h0_5 h0_6 h0_7 h0_8 h0_9 h0_10 h0_11 τ0 τ0.1.1 z5 hc5 sz9) 0 rfl rfl rfl ⟨rfl, rfl, rfl, rfl⟩ rfl (Nat.le_of_ble_eq_true rfl) ⟨Nat.le_of_ble_eq_true rfl, Nat.le_of_ble_eq_true rfl, Nat.zero_le _, Nat.zero_le _⟩ rfl ?_
          refine zq_iinc (q := 79) (v := (x3 + (-1))) (lv2 := [(3, .int (x3 + (-1))), (2, .int (x2 + (1 : Int32))), (0, .ref h0_0), (1, .int x1)]) G dX4_countWithin_76 3 rfl rfl (by decide) rfl rfl ?_
          refine zq_goto (q := 44) G dX4_countWithin_79 (by decide) ?_
          exact zq_sub _ [2, 3, 1, 0] rfl (ih _ _ _ _ h)
  have b18 : ∀ (τ0 : zM) (x1 : Int32) (y0 : Int32), s_X4_countWithin_18 τ0 x1 y0 = some (r, o0) → zW p l e ({ frames := 13, cells := 0, slots := 0, locals := 260 } : Room) s m args below meth c D (va_A (w_M cyI cyZ h0_0 h0_1 h0_2 h0_3 h0_4 h0_5 h0_6 h0_7 h0_8 h0_9 h0_10 h0_11 σ0) sz) 4 0 0 (MQ below (zQi D cyI cyZ sz (w_M cyI cyZ h0_0 h0_1 h0_2 h0_3 h0_4 h0_5 h0_6 h0_7 h0_8 h0_9 h0_10 h0_11 σ0) r (w_M cyI cyZ h0_0 h0_1 h0_2 h0_3 h0_4 h0_5 h0_6 h0_7 h0_8 h0_9 h0_10 h0_11 o0)) args s 0 0 (va_A (w_M cyI cyZ h0_0 h0_1 h0_2 h0_3 h0_4 h0_5 h0_6 h0_7 h0_8 h0_9 h0_10 h0_11 σ0) sz)) 18 [(0, .ref h0_0), (1, .int x1)] [.int y0, .ref h0_0] (w_M cyI cyZ h0_0 h0_1 h0_2 h0_3 h0_4 h0_5 h0_6 h0_7 h0_8 h0_9 h0_10 h0_11 τ0) := by
    intro τ0 x1 y0 h
    unfold s_X4_countWithin_18 at h
    obtain ⟨z1, hc1, h⟩ := zbd h
    refine zq_callVi (q := 21) (ws2 := (w_M cyI cyZ h0_0 h0_1 h0_2 h0_3 h0_4 h0_5 h0_6 h0_7 h0_8 h0_9 h0_10 h0_11 z1.2)) (isC := [0, 1, 2, 3, 4, 5, 6, 7, 8, 9, 10, 11]) (isR := []) (perm := [0, 1, 2, 3, 4, 5, 6, 7, 8, 9, 10, 11]) (rest := []) (As := [.int y0]) G zs_X4_118 dX4_countWithin_18 (fun sz9 => c_X4_isWrong l D cyI cyZ h0_0 h0_1 h0_2 h0_3 h0_4 h0_5 h0_6 h0_7 h0_8 h0_9 h0_10 h0_11 τ0 y0 z1.1 z1.2 hc1 sz9) 0 rfl rfl rfl ⟨rfl, rfl, rfl, rfl⟩ rfl (Nat.le_of_ble_eq_true rfl) ⟨Nat.le_of_ble_eq_true rfl, Nat.le_of_ble_eq_true rfl, Nat.zero_le _, Nat.zero_le _⟩ rfl ?_
    refine zq_if_eq (tgt := 26) (q := 24) G dX4_countWithin_21 (by decide) rfl (fun c2 => ?_) (fun c2 => ?_)
    · have h := zit h c2
      refine zq_aload_n (q := 27) G dX4_countWithin_26 0 rfl rfl rfl ?_
      obtain ⟨z3, hc3, h⟩ := zbd h
      refine zq_callVv (q := 30) (ws2 := (w_M cyI cyZ h0_0 h0_1 h0_2 h0_3 h0_4 h0_5 h0_6 h0_7 h0_8 h0_9 h0_10 h0_11 z3)) (isC := [0, 1, 2, 3, 4, 5, 6, 7, 8, 9, 10, 11]) (isR := []) (perm := [0, 1, 2, 3, 4, 5, 6, 7, 8, 9, 10, 11]) (rest := []) (As := []) G zs_X4_108 dX4_countWithin_27 (fun sz9 => c_X4_take l D cyI cyZ h0_0 h0_1 h0_2 h0_3 h0_4 h0_5 h0_6 h0_7 h0_8 h0_9 h0_10 h0_11 z1.2 z3 hc3 sz9) 0 rfl rfl rfl ⟨rfl, rfl, rfl, rfl⟩ rfl (Nat.le_of_ble_eq_true rfl) ⟨Nat.le_of_ble_eq_true rfl, Nat.le_of_ble_eq_true rfl, Nat.zero_le _, Nat.zero_le _⟩ rfl ?_
      refine zq_aload_n (q := 31) G dX4_countWithin_30 0 rfl rfl rfl ?_
      obtain ⟨z4, hc4, h⟩ := zbd h
      refine zq_callVv (q := 34) (ws2 := (w_M cyI cyZ h0_0 h0_1 h0_2 h0_3 h0_4 h0_5 h0_6 h0_7 h0_8 h0_9 h0_10 h0_11 z4)) (isC := [0, 1, 2, 3, 4, 5, 6, 7, 8, 9, 10, 11]) (isR := []) (perm := [0, 1, 2, 3, 4, 5, 6, 7, 8, 9, 10, 11]) (rest := []) (As := []) G zs_X4_95 dX4_countWithin_31 (fun sz9 => c_X4_begin l D cyI cyZ h0_0 h0_1 h0_2 h0_3 h0_4 h0_5 h0_6 h0_7 h0_8 h0_9 h0_10 h0_11 z3 z4 hc4 sz9) 0 rfl rfl rfl ⟨rfl, rfl, rfl, rfl⟩ rfl (Nat.le_of_ble_eq_true rfl) ⟨Nat.le_of_ble_eq_true rfl, Nat.le_of_ble_eq_true rfl, Nat.zero_le _, Nat.zero_le _⟩ rfl ?_
      refine zq_iconst (q := 35) (v := 0) G dX4_countWithin_34 (by decide) rfl ?_
      refine zq_istore_n (q := 36) (lv2 := [(2, .int (0 : Int32)), (0, .ref h0_0), (1, .int x1)]) G dX4_countWithin_35 rfl (by decide) rfl rfl ?_
      refine zq_aload_n (q := 37) G dX4_countWithin_36 1 rfl rfl rfl ?_
      refine zq_get (q := 40) G zu_X4 rfl zw_X4_f7 dX4_countWithin_37 0 0 rfl (by decide) ⟨⟨rfl, rfl⟩, rfl⟩ rfl rfl ?_
      obtain ⟨z5, hc5, h⟩ := zbd h
      refine zq_callSi (q := 43) (ws2 := (w_M cyI cyZ h0_0 h0_1 h0_2 h0_3 h0_4 h0_5 h0_6 h0_7 h0_8 h0_9 h0_10 h0_11 z4)) (isC := []) (isR := [0, 1, 2, 3, 4, 5, 6, 7, 8, 9, 10, 11]) (perm := [0, 1, 2, 3, 4, 5, 6, 7, 8, 9, 10, 11]) (rest := []) (As := [.int z4.1.1]) G zs_X4_67 dX4_countWithin_40 (fun sz9 => c_X4_factorial l 12 D cyI cyZ z4.1.1 z5 hc5 sz9) rfl ⟨rfl, rfl, rfl, rfl⟩ rfl (Nat.le_of_ble_eq_true rfl) ⟨Nat.le_of_ble_eq_true rfl, Nat.le_of_ble_eq_true rfl, Nat.zero_le _, Nat.zero_le _⟩ rfl ?_
      refine zq_istore_n (q := 44) (lv2 := [(3, .int z5), (2, .int (0 : Int32)), (0, .ref h0_0), (1, .int x1)]) G dX4_countWithin_43 rfl (by decide) rfl rfl ?_
      exact zq_sub _ [2, 3, 1, 0] rfl (b44  _ _ _ _ _ h)
    · have h := zie h c2
      refine zq_iconst (q := 25) (v := 0) G dX4_countWithin_24 (by decide) rfl ?_
      refine zq_ws (congrArg (fun w9 => (w_M cyI cyZ h0_0 h0_1 h0_2 h0_3 h0_4 h0_5 h0_6 h0_7 h0_8 h0_9 h0_10 h0_11 w9.2)) (zsome h)) ?_
      exact zq_iret G hlocks hr rfl dX4_countWithin_25 (congrArg Prod.fst (zsome h))
  refine zq_aload_n (q := 1) G dX4_countWithin_0 0 rfl rfl rfl ?_
  refine zq_iload_n (q := 2) G dX4_countWithin_1 1 rfl rfl rfl ?_
  refine zq_i2l (q := 3) G dX4_countWithin_2 rfl ?_
  refine zq_lconst (q := 4) (v := 0) G dX4_countWithin_3 (by decide) rfl ?_
  refine zq_ldc2 (q := 7) G zw_X4_c170 dX4_countWithin_4 rfl ?_
  obtain ⟨z1, hc1, h⟩ := zbd h
  refine zq_callSi (q := 10) (ws2 := (w_M cyI cyZ h0_0 h0_1 h0_2 h0_3 h0_4 h0_5 h0_6 h0_7 h0_8 h0_9 h0_10 h0_11 σ0)) (isC := []) (isR := [0, 1, 2, 3, 4, 5, 6, 7, 8, 9, 10, 11]) (perm := [0, 1, 2, 3, 4, 5, 6, 7, 8, 9, 10, 11]) (rest := [.ref h0_0]) (As := [.long p0.toInt64, .long (0 : Int64), .long (7000 : Int64)]) G zs_X4_63 dX4_countWithin_7 (fun sz9 => c_X4_isIn l D cyI cyZ p0.toInt64 (0 : Int64) (7000 : Int64) z1 hc1 sz9) rfl ⟨rfl, rfl, rfl, rfl⟩ rfl (Nat.le_of_ble_eq_true rfl) ⟨Nat.le_of_ble_eq_true rfl, Nat.le_of_ble_eq_true rfl, Nat.zero_le _, Nat.zero_le _⟩ rfl ?_
  refine zq_if_eq (tgt := 17) (q := 13) G dX4_countWithin_10 (by decide) rfl (fun c2 => ?_) (fun c2 => ?_)
  · have h := zit h c2
    refine zq_iconst (q := 18) (v := 1) G dX4_countWithin_17 (by decide) rfl ?_
    exact zq_sub _ [0, 1] rfl (b18  _ _ _ h)
  · have h := zie h c2
    refine zq_iconst (q := 14) (v := 0) G dX4_countWithin_13 (by decide) rfl ?_
    refine zq_goto (q := 18) G dX4_countWithin_14 (by decide) ?_
    exact zq_sub _ [0, 1] rfl (b18  _ _ _ h)
set_option maxHeartbeats 4000000 in
set_option maxRecDepth 100000 in
theorem c_X4_sumOf (l : Launch) (D : va_G) (cyI cyZ : ClassId) (h0_0 h0_1 h0_2 h0_3 h0_4 h0_5 h0_6 h0_7 h0_8 h0_9 h0_10 h0_11 : Nat) (σ0 : zM) (p0 : Int32) (r : Int32) (o0 : zM) (h : s_X4_sumOf σ0 p0 = some (r, o0)) (sz : Nat) : zMi l yX4_sumOf cX4_sumOf 7 .int 2 46 D cyI cyZ sz [.ref h0_0, .int p0] (w_M cyI cyZ h0_0 h0_1 h0_2 h0_3 h0_4 h0_5 h0_6 h0_7 h0_8 h0_9 h0_10 h0_11 σ0) r (w_M cyI cyZ h0_0 h0_1 h0_2 h0_3 h0_4 h0_5 h0_6 h0_7 h0_8 h0_9 h0_10 h0_11 o0) := by
  unfold s_X4_sumOf at h
  refine zstartI (lv0 := [(0, .ref h0_0), (1, .int p0)]) (by decide) (Nat.le_of_ble_eq_true rfl) rfl (fun p e s m args below meth c G hr hlocks => ?_)
  have b87 : ∀ (τ0 : zM) (x2 : Int32) (x4 : Int32), s_X4_sumOf_87 τ0 x2 x4 = some (r, o0) → zW p l e ({ frames := 2, cells := 0, slots := 0, locals := 46 } : Room) s m args below meth c D (va_A (w_M cyI cyZ h0_0 h0_1 h0_2 h0_3 h0_4 h0_5 h0_6 h0_7 h0_8 h0_9 h0_10 h0_11 σ0) sz) 7 0 0 (MQ below (zQi D cyI cyZ sz (w_M cyI cyZ h0_0 h0_1 h0_2 h0_3 h0_4 h0_5 h0_6 h0_7 h0_8 h0_9 h0_10 h0_11 σ0) r (w_M cyI cyZ h0_0 h0_1 h0_2 h0_3 h0_4 h0_5 h0_6 h0_7 h0_8 h0_9 h0_10 h0_11 o0)) args s 0 0 (va_A (w_M cyI cyZ h0_0 h0_1 h0_2 h0_3 h0_4 h0_5 h0_6 h0_7 h0_8 h0_9 h0_10 h0_11 σ0) sz)) 87 [(0, .ref h0_0), (2, .int x2), (4, .int x4)] [] (w_M cyI cyZ h0_0 h0_1 h0_2 h0_3 h0_4 h0_5 h0_6 h0_7 h0_8 h0_9 h0_10 h0_11 τ0) := by
    intro τ0 x2 x4 h
    unfold s_X4_sumOf_87 at h
    refine zq_aload_n (q := 88) G dX4_sumOf_87 0 rfl rfl rfl ?_
    refine zq_iload_n (q := 89) G dX4_sumOf_88 1 rfl rfl rfl ?_
    refine zq_if_eq (tgt := 96) (q := 92) G dX4_sumOf_89 (by decide) rfl (fun c1 => ?_) (fun c1 => ?_)
    · have h := zit h c1
      refine zq_iconst (q := 97) (v := 0) G dX4_sumOf_96 (by decide) rfl ?_
      obtain ⟨z2, hc2, h⟩ := zbd h
      refine zq_callVi (q := 100) (ws2 := (w_M cyI cyZ h0_0 h0_1 h0_2 h0_3 h0_4 h0_5 h0_6 h0_7 h0_8 h0_9 h0_10 h0_11 z2.2)) (isC := [0, 1, 2, 3, 4, 5, 6, 7, 8, 9, 10, 11]) (isR := []) (perm := [0, 1, 2, 3, 4, 5, 6, 7, 8, 9, 10, 11]) (rest := []) (As := [.int (0 : Int32)]) G zs_X4_118 dX4_sumOf_97 (fun sz9 => c_X4_isWrong l D cyI cyZ h0_0 h0_1 h0_2 h0_3 h0_4 h0_5 h0_6 h0_7 h0_8 h0_9 h0_10 h0_11 τ0 (0 : Int32) z2.1 z2.2 hc2 sz9) 0 rfl rfl rfl ⟨rfl, rfl, rfl, rfl⟩ rfl (Nat.le_of_ble_eq_true rfl) ⟨Nat.le_of_ble_eq_true rfl, Nat.le_of_ble_eq_true rfl, Nat.zero_le _, Nat.zero_le _⟩ rfl ?_
      refine zq_if_eq (tgt := 107) (q := 103) G dX4_sumOf_100 (by decide) rfl (fun c3 => ?_) (fun c3 => ?_)
      · have h := zit h c3
        refine zq_iload (q := 109) G dX4_sumOf_107 2 rfl rfl ?_
        refine zq_ws (congrArg (fun w9 => (w_M cyI cyZ h0_0 h0_1 h0_2 h0_3 h0_4 h0_5 h0_6 h0_7 h0_8 h0_9 h0_10 h0_11 w9.2)) (zsome h)) ?_
        exact zq_iret G hlocks hr rfl dX4_sumOf_109 (congrArg Prod.fst (zsome h))
      · have h := zie h c3
        refine zq_iconst (q := 104) (v := 0) G dX4_sumOf_103 (by decide) rfl ?_
        refine zq_goto (q := 109) G dX4_sumOf_104 (by decide) ?_
        refine zq_ws (congrArg (fun w9 => (w_M cyI cyZ h0_0 h0_1 h0_2 h0_3 h0_4 h0_5 h0_6 h0_7 h0_8 h0_9 h0_10 h0_11 w9.2)) (zsome h)) ?_
        exact zq_iret G hlocks hr rfl dX4_sumOf_109 (congrArg Prod.fst (zsome h))
    · have h := zie h c1
      refine zq_iconst (q := 93) (v := 1) G dX4_sumOf_92 (by decide) rfl ?_
      refine zq_goto (q := 97) G dX4_sumOf_93 (by decide) ?_
      obtain ⟨z4, hc4, h⟩ := zbd h
      refine zq_callVi (q := 100) (ws2 := (w_M cyI cyZ h0_0 h0_1 h0_2 h0_3 h0_4 h0_5 h0_6 h0_7 h0_8 h0_9 h0_10 h0_11 z4.2)) (isC := [0, 1, 2, 3, 4, 5, 6, 7, 8, 9, 10, 11]) (isR := []) (perm := [0, 1, 2, 3, 4, 5, 6, 7, 8, 9, 10, 11]) (rest := []) (As := [.int (1 : Int32)]) G zs_X4_118 dX4_sumOf_97 (fun sz9 => c_X4_isWrong l D cyI cyZ h0_0 h0_1 h0_2 h0_3 h0_4 h0_5 h0_6 h0_7 h0_8 h0_9 h0_10 h0_11 τ0 (1 : Int32) z4.1 z4.2 hc4 sz9) 0 rfl rfl rfl ⟨rfl, rfl, rfl, rfl⟩ rfl (Nat.le_of_ble_eq_true rfl) ⟨Nat.le_of_ble_eq_true rfl, Nat.le_of_ble_eq_true rfl, Nat.zero_le _, Nat.zero_le _⟩ rfl ?_
      refine zq_if_eq (tgt := 107) (q := 103) G dX4_sumOf_100 (by decide) rfl (fun c5 => ?_) (fun c5 => ?_)
      · have h := zit h c5
        refine zq_iload (q := 109) G dX4_sumOf_107 2 rfl rfl ?_
        refine zq_ws (congrArg (fun w9 => (w_M cyI cyZ h0_0 h0_1 h0_2 h0_3 h0_4 h0_5 h0_6 h0_7 h0_8 h0_9 h0_10 h0_11 w9.2)) (zsome h)) ?_
        exact zq_iret G hlocks hr rfl dX4_sumOf_109 (congrArg Prod.fst (zsome h))
      · have h := zie h c5
        refine zq_iconst (q := 104) (v := 0) G dX4_sumOf_103 (by decide) rfl ?_
        refine zq_goto (q := 109) G dX4_sumOf_104 (by decide) ?_
        refine zq_ws (congrArg (fun w9 => (w_M cyI cyZ h0_0 h0_1 h0_2 h0_3 h0_4 h0_5 h0_6 h0_7 h0_8 h0_9 h0_10 h0_11 w9.2)) (zsome h)) ?_
        exact zq_iret G hlocks hr rfl dX4_sumOf_109 (congrArg Prod.fst (zsome h))
  have b54 : ∀ (k15 : (zM → Int32 → Int32 → Int32 → Int32 → Option (Int32 × zM))) (hk15 : ∀ (τ0 : zM) (x2 : Int32) (x3 : Int32) (x4 : Int32) (x5 : Int32), k15 τ0 x2 x3 x4 x5 = some (r, o0) → zW p l e ({ frames := 2, cells := 0, slots := 0, locals := 46 } : Room) s m args below meth c D (va_A (w_M cyI cyZ h0_0 h0_1 h0_2 h0_3 h0_4 h0_5 h0_6 h0_7 h0_8 h0_9 h0_10 h0_11 σ0) sz) 7 0 0 (MQ below (zQi D cyI cyZ sz (w_M cyI cyZ h0_0 h0_1 h0_2 h0_3 h0_4 h0_5 h0_6 h0_7 h0_8 h0_9 h0_10 h0_11 σ0) r (w_M cyI cyZ h0_0 h0_1 h0_2 h0_3 h0_4 h0_5 h0_6 h0_7 h0_8 h0_9 h0_10 h0_11 o0)) args s 0 0 (va_A (w_M cyI cyZ h0_0 h0_1 h0_2 h0_3 h0_4 h0_5 h0_6 h0_7 h0_8 h0_9 h0_10 h0_11 σ0) sz)) 15 [(0, .ref h0_0), (2, .int x2), (3, .int x3), (4, .int x4), (5, .int x5)] [] (w_M cyI cyZ h0_0 h0_1 h0_2 h0_3 h0_4 h0_5 h0_6 h0_7 h0_8 h0_9 h0_10 h0_11 τ0)) (τ0 : zM) (x2 : Int32) (x3 : Int32) (x4 : Int32) (x5 : Int32) (x6 : Int32), s_X4_sumOf_54 k15 τ0 x2 x3 x4 x5 x6 = some (r, o0) → zW p l e ({ frames := 2, cells := 0, slots := 0, locals := 46 } : Room) s m args below meth c D (va_A (w_M cyI cyZ h0_0 h0_1 h0_2 h0_3 h0_4 h0_5 h0_6 h0_7 h0_8 h0_9 h0_10 h0_11 σ0) sz) 7 0 0 (MQ below (zQi D cyI cyZ sz (w_M cyI cyZ h0_0 h0_1 h0_2 h0_3 h0_4 h0_5 h0_6 h0_7 h0_8 h0_9 h0_10 h0_11 σ0) r (w_M cyI cyZ h0_0 h0_1 h0_2 h0_3 h0_4 h0_5 h0_6 h0_7 h0_8 h0_9 h0_10 h0_11 o0)) args s 0 0 (va_A (w_M cyI cyZ h0_0 h0_1 h0_2 h0_3 h0_4 h0_5 h0_6 h0_7 h0_8 h0_9 h0_10 h0_11 σ0) sz)) 54 [(0, .ref h0_0), (2, .int x2), (3, .int x3), (4, .int x4), (5, .int x5), (6, .int x6)] [] (w_M cyI cyZ h0_0 h0_1 h0_2 h0_3 h0_4 h0_5 h0_6 h0_7 h0_8 h0_9 h0_10 h0_11 τ0) := by
    intro k15 hk15 τ0 x2 x3 x4 x5 x6 h
    unfold s_X4_sumOf_54 at h
    refine zq_iload_n (q := 55) G dX4_sumOf_54 1 rfl rfl rfl ?_
    refine zq_if_ge (tgt := 61) (q := 58) G dX4_sumOf_55 (by decide) rfl (fun c1 => ?_) (fun c1 => ?_)
    · have h := zit h c1
      refine zq_iload_n (q := 62) G dX4_sumOf_61 2 rfl rfl rfl ?_
      refine zq_iconst (q := 63) (v := 1) G dX4_sumOf_62 (by decide) rfl ?_
      refine zq_iload (q := 65) G dX4_sumOf_63 5 rfl rfl ?_
      refine zq_ishl (q := 66) G dX4_sumOf_65 rfl ?_
      refine zq_ior (q := 67) G dX4_sumOf_66 rfl ?_
      refine zq_istore_n (q := 68) (lv2 := [(3, .int (x3 ||| ((1 : Int32) <<< (x6 &&& 31)))), (0, .ref h0_0), (2, .int x2), (4, .int x4), (5, .int x5), (6, .int x6)]) G dX4_sumOf_67 rfl (by decide) rfl rfl ?_
      refine zq_iload (q := 70) G dX4_sumOf_68 3 rfl rfl ?_
      refine zq_aload_n (q := 71) G dX4_sumOf_70 1 rfl rfl rfl ?_
      refine zq_iload (q := 73) G dX4_sumOf_71 4 rfl rfl ?_
      refine zq_iload (q := 75) G dX4_sumOf_73 5 rfl rfl ?_
      obtain ⟨z2, hc2, h⟩ := zbd h
      refine zq_callVi (q := 78) (ws2 := (w_M cyI cyZ h0_0 h0_1 h0_2 h0_3 h0_4 h0_5 h0_6 h0_7 h0_8 h0_9 h0_10 h0_11 τ0)) (isC := [0, 1, 2, 3, 4, 5, 6, 7, 8, 9, 10, 11]) (isR := []) (perm := [0, 1, 2, 3, 4, 5, 6, 7, 8, 9, 10, 11]) (rest := [.int x4]) (As := [.int x5, .int x6]) G zs_X4_75 dX4_sumOf_75 (fun sz9 => c_X4_cost l D cyI cyZ h0_0 h0_1 h0_2 h0_3 h0_4 h0_5 h0_6 h0_7 h0_8 h0_9 h0_10 h0_11 τ0 x5 x6 z2 hc2 sz9) 0 rfl rfl rfl ⟨rfl, rfl, rfl, rfl⟩ rfl (Nat.le_of_ble_eq_true rfl) ⟨Nat.le_of_ble_eq_true rfl, Nat.le_of_ble_eq_true rfl, Nat.zero_le _, Nat.zero_le _⟩ rfl ?_
      refine zq_iadd (q := 79) G dX4_sumOf_78 rfl ?_
      refine zq_istore (q := 81) (lv2 := [(4, .int (x4 + z2)), (3, .int (x3 ||| ((1 : Int32) <<< (x6 &&& 31)))), (0, .ref h0_0), (2, .int x2), (5, .int x5), (6, .int x6)]) G dX4_sumOf_79 (by decide) rfl rfl ?_
      refine zq_iinc (q := 84) (v := (x5 + (-1))) (lv2 := [(5, .int (x5 + (-1))), (4, .int (x4 + z2)), (3, .int (x3 ||| ((1 : Int32) <<< (x6 &&& 31)))), (0, .ref h0_0), (2, .int x2), (6, .int x6)]) G dX4_sumOf_81 4 rfl rfl (by decide) rfl rfl ?_
      refine zq_goto (q := 15) G dX4_sumOf_84 (by decide) ?_
      exact zq_sub _ [3, 4, 2, 1, 0] rfl (hk15 _ _ _ _ _ h)
    · have h := zie h c1
      refine zq_goto (q := 87) G dX4_sumOf_58 (by decide) ?_
      exact zq_sub _ [0, 1, 3] rfl (b87  _ _ _ h)
  have b52 : ∀ (k15 : (zM → Int32 → Int32 → Int32 → Int32 → Option (Int32 × zM))) (hk15 : ∀ (τ0 : zM) (x2 : Int32) (x3 : Int32) (x4 : Int32) (x5 : Int32), k15 τ0 x2 x3 x4 x5 = some (r, o0) → zW p l e ({ frames := 2, cells := 0, slots := 0, locals := 46 } : Room) s m args below meth c D (va_A (w_M cyI cyZ h0_0 h0_1 h0_2 h0_3 h0_4 h0_5 h0_6 h0_7 h0_8 h0_9 h0_10 h0_11 σ0) sz) 7 0 0 (MQ below (zQi D cyI cyZ sz (w_M cyI cyZ h0_0 h0_1 h0_2 h0_3 h0_4 h0_5 h0_6 h0_7 h0_8 h0_9 h0_10 h0_11 σ0) r (w_M cyI cyZ h0_0 h0_1 h0_2 h0_3 h0_4 h0_5 h0_6 h0_7 h0_8 h0_9 h0_10 h0_11 o0)) args s 0 0 (va_A (w_M cyI cyZ h0_0 h0_1 h0_2 h0_3 h0_4 h0_5 h0_6 h0_7 h0_8 h0_9 h0_10 h0_11 σ0) sz)) 15 [(0, .ref h0_0), (2, .int x2), (3, .int x3), (4, .int x4), (5, .int x5)] [] (w_M cyI cyZ h0_0 h0_1 h0_2 h0_3 h0_4 h0_5 h0_6 h0_7 h0_8 h0_9 h0_10 h0_11 τ0)) (τ0 : zM) (x3 : Int32) (x4 : Int32) (x5 : Int32) (x6 : Int32), s_X4_sumOf_52 k15 τ0 x3 x4 x5 x6 = some (r, o0) → zW p l e ({ frames := 2, cells := 0, slots := 0, locals := 46 } : Room) s m args below meth c D (va_A (w_M cyI cyZ h0_0 h0_1 h0_2 h0_3 h0_4 h0_5 h0_6 h0_7 h0_8 h0_9 h0_10 h0_11 σ0) sz) 7 0 0 (MQ below (zQi D cyI cyZ sz (w_M cyI cyZ h0_0 h0_1 h0_2 h0_3 h0_4 h0_5 h0_6 h0_7 h0_8 h0_9 h0_10 h0_11 σ0) r (w_M cyI cyZ h0_0 h0_1 h0_2 h0_3 h0_4 h0_5 h0_6 h0_7 h0_8 h0_9 h0_10 h0_11 o0)) args s 0 0 (va_A (w_M cyI cyZ h0_0 h0_1 h0_2 h0_3 h0_4 h0_5 h0_6 h0_7 h0_8 h0_9 h0_10 h0_11 σ0) sz)) 52 [(0, .ref h0_0), (3, .int x3), (4, .int x4), (5, .int x5), (6, .int x6)] [] (w_M cyI cyZ h0_0 h0_1 h0_2 h0_3 h0_4 h0_5 h0_6 h0_7 h0_8 h0_9 h0_10 h0_11 τ0) := by
    intro k15 hk15 τ0 x3 x4 x5 x6 h
    unfold s_X4_sumOf_52 at h
    refine zq_iconst (q := 53) (v := -1) G dX4_sumOf_52 (by decide) rfl ?_
    refine zq_istore_n (q := 54) (lv2 := [(2, .int (-1 : Int32)), (0, .ref h0_0), (3, .int x3), (4, .int x4), (5, .int x5), (6, .int x6)]) G dX4_sumOf_53 rfl (by decide) rfl rfl ?_
    exact zq_sub _ [1, 0, 2, 3, 4, 5] rfl (b54 _ hk15 _ _ _ _ _ _ h)
  have b15 : ∀ (n : Nat) (τ0 : zM) (x2 : Int32) (x3 : Int32) (x4 : Int32) (x5 : Int32), s_X4_sumOf_15 n τ0 x2 x3 x4 x5 = some (r, o0) → zW p l e ({ frames := 2, cells := 0, slots := 0, locals := 46 } : Room) s m args below meth c D (va_A (w_M cyI cyZ h0_0 h0_1 h0_2 h0_3 h0_4 h0_5 h0_6 h0_7 h0_8 h0_9 h0_10 h0_11 σ0) sz) 7 0 0 (MQ below (zQi D cyI cyZ sz (w_M cyI cyZ h0_0 h0_1 h0_2 h0_3 h0_4 h0_5 h0_6 h0_7 h0_8 h0_9 h0_10 h0_11 σ0) r (w_M cyI cyZ h0_0 h0_1 h0_2 h0_3 h0_4 h0_5 h0_6 h0_7 h0_8 h0_9 h0_10 h0_11 o0)) args s 0 0 (va_A (w_M cyI cyZ h0_0 h0_1 h0_2 h0_3 h0_4 h0_5 h0_6 h0_7 h0_8 h0_9 h0_10 h0_11 σ0) sz)) 15 [(0, .ref h0_0), (2, .int x2), (3, .int x3), (4, .int x4), (5, .int x5)] [] (w_M cyI cyZ h0_0 h0_1 h0_2 h0_3 h0_4 h0_5 h0_6 h0_7 h0_8 h0_9 h0_10 h0_11 τ0) := by
    intro n
    induction n with
    | zero => intro τ0 x2 x3 x4 x5 h; rw [s_X4_sumOf_15] at h; exact nomatch h
    | succ n ih =>
      intro τ0 x2 x3 x4 x5 h
      rw [s_X4_sumOf_15] at h
      refine zq_iload (q := 17) G dX4_sumOf_15 4 rfl rfl ?_
      refine zq_if_lt (tgt := 87) (q := 20) G dX4_sumOf_17 (by decide) rfl (fun c1 => ?_) (fun c1 => ?_)
      · have h := zit h c1
        exact zq_sub _ [0, 1, 3] rfl (b87  _ _ _ h)
      · have h := zie h c1
        refine zq_iload_n (q := 21) G dX4_sumOf_20 1 rfl rfl rfl ?_
        refine zq_bipush (q := 23) (v := 10) G dX4_sumOf_21 (by decide) rfl ?_
        refine zq_irem (q := 24) G dX4_sumOf_23 (by decide) rfl ?_
        refine zq_iconst (q := 25) (v := 1) G dX4_sumOf_24 (by decide) rfl ?_
        refine zq_isub (q := 26) G dX4_sumOf_25 rfl ?_
        refine zq_istore (q := 28) (lv2 := [(6, .int ((x2 - x2 / (10 : Int32) * (10 : Int32)) - (1 : Int32))), (0, .ref h0_0), (2, .int x2), (3, .int x3), (4, .int x4), (5, .int x5)]) G dX4_sumOf_26 (by decide) rfl rfl ?_
        refine zq_iload_n (q := 29) G dX4_sumOf_28 2 rfl rfl rfl ?_
        refine zq_bipush (q := 31) (v := 10) G dX4_sumOf_29 (by decide) rfl ?_
        refine zq_idiv (q := 32) G dX4_sumOf_31 (by decide) rfl ?_
        refine zq_istore_n (q := 33) (lv2 := [(2, .int (x2 / (10 : Int32))), (6, .int ((x2 - x2 / (10 : Int32) * (10 : Int32)) - (1 : Int32))), (0, .ref h0_0), (3, .int x3), (4, .int x4), (5, .int x5)]) G dX4_sumOf_32 rfl (by decide) rfl rfl ?_
        refine zq_aload_n (q := 34) G dX4_sumOf_33 2 rfl rfl rfl ?_
        refine zq_iload (q := 36) G dX4_sumOf_34 1 rfl rfl ?_
        obtain ⟨z2, hc2, h⟩ := zbd h
        refine zq_callVi (q := 39) (ws2 := (w_M cyI cyZ h0_0 h0_1 h0_2 h0_3 h0_4 h0_5 h0_6 h0_7 h0_8 h0_9 h0_10 h0_11 τ0)) (isC := [0, 1, 2, 3, 4, 5, 6, 7, 8, 9, 10, 11]) (isR := []) (perm := [0, 1, 2, 3, 4, 5, 6, 7, 8, 9, 10, 11]) (rest := []) (As := [.int ((x2 - x2 / (10 : Int32) * (10 : Int32)) - (1 : Int32))]) G zs_X4_122 dX4_sumOf_36 (fun sz9 => c_X4_isRow l D cyI cyZ h0_0 h0_1 h0_2 h0_3 h0_4 h0_5 h0_6 h0_7 h0_8 h0_9 h0_10 h0_11 τ0 ((x2 - x2 / (10 : Int32) * (10 : Int32)) - (1 : Int32)) z2 hc2 sz9) 0 rfl rfl rfl ⟨rfl, rfl, rfl, rfl⟩ rfl (Nat.le_of_ble_eq_true rfl) ⟨Nat.le_of_ble_eq_true rfl, Nat.le_of_ble_eq_true rfl, Nat.zero_le _, Nat.zero_le _⟩ rfl ?_
        refine zq_if_eq (tgt := 52) (q := 42) G dX4_sumOf_39 (by decide) rfl (fun c3 => ?_) (fun c3 => ?_)
        · have h := zit h c3
          exact zq_sub _ [2, 3, 4, 5, 1] rfl (b52 _ ih _ _ _ _ _ h)
        · have h := zie h c3
          refine zq_iload_n (q := 43) G dX4_sumOf_42 3 rfl rfl rfl ?_
          refine zq_iload (q := 45) G dX4_sumOf_43 1 rfl rfl ?_
          refine zq_ishr (q := 46) G dX4_sumOf_45 rfl ?_
          refine zq_iconst (q := 47) (v := 1) G dX4_sumOf_46 (by decide) rfl ?_
          refine zq_iand (q := 48) G dX4_sumOf_47 rfl ?_
          refine zq_iconst (q := 49) (v := 1) G dX4_sumOf_48 (by decide) rfl ?_
          refine zq_icmp_ne (tgt := 54) (q := 52) G dX4_sumOf_49 (by decide) rfl (fun c4 => ?_) (fun c4 => ?_)
          · have h := zie h c4
            exact zq_sub _ [2, 0, 3, 4, 5, 1] rfl (b54 _ ih _ _ _ _ _ _ h)
          · have h := zit h c4
            exact zq_sub _ [2, 3, 4, 5, 1] rfl (b52 _ ih _ _ _ _ _ h)
  refine zq_iload_n (q := 1) G dX4_sumOf_0 1 rfl rfl rfl ?_
  refine zq_istore_n (q := 2) (lv2 := [(2, .int p0), (0, .ref h0_0), (1, .int p0)]) G dX4_sumOf_1 rfl (by decide) rfl rfl ?_
  refine zq_iconst (q := 3) (v := 0) G dX4_sumOf_2 (by decide) rfl ?_
  refine zq_istore_n (q := 4) (lv2 := [(3, .int (0 : Int32)), (2, .int p0), (0, .ref h0_0), (1, .int p0)]) G dX4_sumOf_3 rfl (by decide) rfl rfl ?_
  refine zq_iconst (q := 5) (v := 0) G dX4_sumOf_4 (by decide) rfl ?_
  refine zq_istore (q := 7) (lv2 := [(4, .int (0 : Int32)), (3, .int (0 : Int32)), (2, .int p0), (0, .ref h0_0), (1, .int p0)]) G dX4_sumOf_5 (by decide) rfl rfl ?_
  refine zq_aload_n (q := 8) G dX4_sumOf_7 3 rfl rfl rfl ?_
  refine zq_get (q := 11) G zu_X4 rfl zw_X4_f7 dX4_sumOf_8 0 0 rfl (by decide) ⟨⟨rfl, rfl⟩, rfl⟩ rfl rfl ?_
  refine zq_iconst (q := 12) (v := 1) G dX4_sumOf_11 (by decide) rfl ?_
  refine zq_isub (q := 13) G dX4_sumOf_12 rfl ?_
  refine zq_istore (q := 15) (lv2 := [(5, .int (σ0.1.1 - (1 : Int32))), (4, .int (0 : Int32)), (3, .int (0 : Int32)), (2, .int p0), (0, .ref h0_0), (1, .int p0)]) G dX4_sumOf_13 (by decide) rfl rfl ?_
  exact zq_sub _ [4, 3, 2, 1, 0] rfl (b15  _ _ _ _ _ _ h)
set_option maxHeartbeats 4000000 in
set_option maxRecDepth 100000 in
theorem c_X4_startEnumeration (l : Launch) (D : va_G) (cyI cyZ : ClassId) (h0_0 h0_1 h0_2 h0_3 h0_4 h0_5 h0_6 h0_7 h0_8 h0_9 h0_10 h0_11 : Nat) (σ0 : zM) (r : Int32) (o0 : zM) (h : s_X4_startEnumeration σ0 = some (r, o0)) (sz : Nat) : zMi l yX4_startEnumeration cX4_startEnumeration 1 .int 13 260 D cyI cyZ sz [.ref h0_0] (w_M cyI cyZ h0_0 h0_1 h0_2 h0_3 h0_4 h0_5 h0_6 h0_7 h0_8 h0_9 h0_10 h0_11 σ0) r (w_M cyI cyZ h0_0 h0_1 h0_2 h0_3 h0_4 h0_5 h0_6 h0_7 h0_8 h0_9 h0_10 h0_11 o0) := by
  unfold s_X4_startEnumeration at h
  refine zstartI (lv0 := [(0, .ref h0_0)]) (by decide) (Nat.le_of_ble_eq_true rfl) rfl (fun p e s m args below meth c G hr hlocks => ?_)
  have b15 : ∀ (τ0 : zM) (y0 : Int32), s_X4_startEnumeration_15 τ0 y0 = some (r, o0) → zW p l e ({ frames := 13, cells := 0, slots := 0, locals := 260 } : Room) s m args below meth c D (va_A (w_M cyI cyZ h0_0 h0_1 h0_2 h0_3 h0_4 h0_5 h0_6 h0_7 h0_8 h0_9 h0_10 h0_11 σ0) sz) 1 0 0 (MQ below (zQi D cyI cyZ sz (w_M cyI cyZ h0_0 h0_1 h0_2 h0_3 h0_4 h0_5 h0_6 h0_7 h0_8 h0_9 h0_10 h0_11 σ0) r (w_M cyI cyZ h0_0 h0_1 h0_2 h0_3 h0_4 h0_5 h0_6 h0_7 h0_8 h0_9 h0_10 h0_11 o0)) args s 0 0 (va_A (w_M cyI cyZ h0_0 h0_1 h0_2 h0_3 h0_4 h0_5 h0_6 h0_7 h0_8 h0_9 h0_10 h0_11 σ0) sz)) 15 [(0, .ref h0_0)] [.int y0, .ref h0_0] (w_M cyI cyZ h0_0 h0_1 h0_2 h0_3 h0_4 h0_5 h0_6 h0_7 h0_8 h0_9 h0_10 h0_11 τ0) := by
    intro τ0 y0 h
    unfold s_X4_startEnumeration_15 at h
    obtain ⟨z1, hc1, h⟩ := zbd h
    refine zq_callVi (q := 18) (ws2 := (w_M cyI cyZ h0_0 h0_1 h0_2 h0_3 h0_4 h0_5 h0_6 h0_7 h0_8 h0_9 h0_10 h0_11 z1.2)) (isC := [0, 1, 2, 3, 4, 5, 6, 7, 8, 9, 10, 11]) (isR := []) (perm := [0, 1, 2, 3, 4, 5, 6, 7, 8, 9, 10, 11]) (rest := []) (As := [.int y0]) G zs_X4_118 dX4_startEnumeration_15 (fun sz9 => c_X4_isWrong l D cyI cyZ h0_0 h0_1 h0_2 h0_3 h0_4 h0_5 h0_6 h0_7 h0_8 h0_9 h0_10 h0_11 τ0 y0 z1.1 z1.2 hc1 sz9) 0 rfl rfl rfl ⟨rfl, rfl, rfl, rfl⟩ rfl (Nat.le_of_ble_eq_true rfl) ⟨Nat.le_of_ble_eq_true rfl, Nat.le_of_ble_eq_true rfl, Nat.zero_le _, Nat.zero_le _⟩ rfl ?_
    refine zq_if_eq (tgt := 23) (q := 21) G dX4_startEnumeration_18 (by decide) rfl (fun c2 => ?_) (fun c2 => ?_)
    · have h := zit h c2
      refine zq_aload_n (q := 24) G dX4_startEnumeration_23 0 rfl rfl rfl ?_
      refine zq_iconst (q := 25) (v := 0) G dX4_startEnumeration_24 (by decide) rfl ?_
      refine zq_put (q := 28) (ws2 := (w_M cyI cyZ h0_0 h0_1 h0_2 h0_3 h0_4 h0_5 h0_6 h0_7 h0_8 h0_9 h0_10 h0_11 (z1.2.1, z1.2.2.1, z1.2.2.2.1, ((0 : Int32), z1.2.2.2.2.1.2.1, z1.2.2.2.2.1.2.2.1, z1.2.2.2.2.1.2.2.2), z1.2.2.2.2.2))) G zu_X4 rfl tyX4_ok nmX4 zw_X4_f48 dX4_startEnumeration_25 0 18 rfl (by decide) ⟨⟨rfl, rfl⟩, rfl⟩ rfl rfl rfl (Nat.le_of_ble_eq_true rfl) rfl rfl ?_
      refine zq_aload_n (q := 29) G dX4_startEnumeration_28 0 rfl rfl rfl ?_
      refine zq_iconst (q := 30) (v := -1) G dX4_startEnumeration_29 (by decide) rfl ?_
      refine zq_put (q := 33) (ws2 := (w_M cyI cyZ h0_0 h0_1 h0_2 h0_3 h0_4 h0_5 h0_6 h0_7 h0_8 h0_9 h0_10 h0_11 (z1.2.1, z1.2.2.1, z1.2.2.2.1, ((0 : Int32), (-1 : Int32), z1.2.2.2.2.1.2.2.1, z1.2.2.2.2.1.2.2.2), z1.2.2.2.2.2))) G zu_X4 rfl tyX4_ok nmX4 zw_X4_f172 dX4_startEnumeration_30 0 19 rfl (by decide) ⟨⟨rfl, rfl⟩, rfl⟩ rfl rfl rfl (Nat.le_of_ble_eq_true rfl) rfl rfl ?_
      refine zq_aload_n (q := 34) G dX4_startEnumeration_33 0 rfl rfl rfl ?_
      refine zq_iconst (q := 35) (v := 0) G dX4_startEnumeration_34 (by decide) rfl ?_
      refine zq_put (q := 38) (ws2 := (w_M cyI cyZ h0_0 h0_1 h0_2 h0_3 h0_4 h0_5 h0_6 h0_7 h0_8 h0_9 h0_10 h0_11 (z1.2.1, z1.2.2.1, z1.2.2.2.1, ((0 : Int32), (-1 : Int32), (0 : Int32), z1.2.2.2.2.1.2.2.2), z1.2.2.2.2.2))) G zu_X4 rfl tyX4_ok nmX4 zw_X4_f175 dX4_startEnumeration_35 0 20 rfl (by decide) ⟨⟨rfl, rfl⟩, rfl⟩ rfl rfl rfl (Nat.le_of_ble_eq_true rfl) rfl rfl ?_
      refine zq_aload_n (q := 39) G dX4_startEnumeration_38 0 rfl rfl rfl ?_
      refine zq_get (q := 42) G zu_X4 rfl zw_X4_f7 dX4_startEnumeration_39 0 0 rfl (by decide) ⟨⟨rfl, rfl⟩, rfl⟩ rfl rfl ?_
      obtain ⟨z3, hc3, h⟩ := zbd h
      refine zq_callSi (q := 45) (ws2 := (w_M cyI cyZ h0_0 h0_1 h0_2 h0_3 h0_4 h0_5 h0_6 h0_7 h0_8 h0_9 h0_10 h0_11 (z1.2.1, z1.2.2.1, z1.2.2.2.1, ((0 : Int32), (-1 : Int32), (0 : Int32), z1.2.2.2.2.1.2.2.2), z1.2.2.2.2.2))) (isC := []) (isR := [0, 1, 2, 3, 4, 5, 6, 7, 8, 9, 10, 11]) (perm := [0, 1, 2, 3, 4, 5, 6, 7, 8, 9, 10, 11]) (rest := []) (As := [.int z1.2.1.1]) G zs_X4_67 dX4_startEnumeration_42 (fun sz9 => c_X4_factorial l 12 D cyI cyZ z1.2.1.1 z3 hc3 sz9) rfl ⟨rfl, rfl, rfl, rfl⟩ rfl (Nat.le_of_ble_eq_true rfl) ⟨Nat.le_of_ble_eq_true rfl, Nat.le_of_ble_eq_true rfl, Nat.zero_le _, Nat.zero_le _⟩ rfl ?_
      refine zq_ws (congrArg (fun w9 => (w_M cyI cyZ h0_0 h0_1 h0_2 h0_3 h0_4 h0_5 h0_6 h0_7 h0_8 h0_9 h0_10 h0_11 w9.2)) (zsome h)) ?_
      exact zq_iret G hlocks hr rfl dX4_startEnumeration_45 (congrArg Prod.fst (zsome h))
    · have h := zie h c2
      refine zq_iconst (q := 22) (v := 0) G dX4_startEnumeration_21 (by decide) rfl ?_
      refine zq_ws (congrArg (fun w9 => (w_M cyI cyZ h0_0 h0_1 h0_2 h0_3 h0_4 h0_5 h0_6 h0_7 h0_8 h0_9 h0_10 h0_11 w9.2)) (zsome h)) ?_
      exact zq_iret G hlocks hr rfl dX4_startEnumeration_22 (congrArg Prod.fst (zsome h))
  refine zq_aload_n (q := 1) G dX4_startEnumeration_0 0 rfl rfl rfl ?_
  refine zq_aload_n (q := 2) G dX4_startEnumeration_1 0 rfl rfl rfl ?_
  refine zq_get (q := 5) G zu_X4 rfl zw_X4_f7 dX4_startEnumeration_2 0 0 rfl (by decide) ⟨⟨rfl, rfl⟩, rfl⟩ rfl rfl ?_
  refine zq_bipush (q := 7) (v := 6) G dX4_startEnumeration_5 (by decide) rfl ?_
  refine zq_icmp_le (tgt := 14) (q := 10) G dX4_startEnumeration_7 (by decide) rfl (fun c1 => ?_) (fun c1 => ?_)
  · have h := zit h c1
    refine zq_iconst (q := 15) (v := 0) G dX4_startEnumeration_14 (by decide) rfl ?_
    exact zq_sub _ [0] rfl (b15  _ _ h)
  · have h := zie h c1
    refine zq_iconst (q := 11) (v := 1) G dX4_startEnumeration_10 (by decide) rfl ?_
    refine zq_goto (q := 15) G dX4_startEnumeration_11 (by decide) ?_
    exact zq_sub _ [0] rfl (b15  _ _ h)
set_option maxHeartbeats 4000000 in
set_option maxRecDepth 100000 in
theorem c_X4_nextSum (l : Launch) (D : va_G) (cyI cyZ : ClassId) (h0_0 h0_1 h0_2 h0_3 h0_4 h0_5 h0_6 h0_7 h0_8 h0_9 h0_10 h0_11 : Nat) (σ0 : zM) (r : Int32) (o0 : zM) (h : s_X4_nextSum σ0 = some (r, o0)) (sz : Nat) : zMi l yX4_nextSum cX4_nextSum 7 .int 13 260 D cyI cyZ sz [.ref h0_0] (w_M cyI cyZ h0_0 h0_1 h0_2 h0_3 h0_4 h0_5 h0_6 h0_7 h0_8 h0_9 h0_10 h0_11 σ0) r (w_M cyI cyZ h0_0 h0_1 h0_2 h0_3 h0_4 h0_5 h0_6 h0_7 h0_8 h0_9 h0_10 h0_11 o0) := by
  unfold s_X4_nextSum at h
  refine zstartI (lv0 := [(0, .ref h0_0)]) (by decide) (Nat.le_of_ble_eq_true rfl) rfl (fun p e s m args below meth c G hr hlocks => ?_)
  have b127 : ∀ (k54 : (zM → Int32 → Int32 → Int32 → Option (Int32 × zM))) (hk54 : ∀ (τ0 : zM) (x1 : Int32) (x2 : Int32) (x3 : Int32), k54 τ0 x1 x2 x3 = some (r, o0) → zW p l e ({ frames := 13, cells := 0, slots := 0, locals := 260 } : Room) s m args below meth c D (va_A (w_M cyI cyZ h0_0 h0_1 h0_2 h0_3 h0_4 h0_5 h0_6 h0_7 h0_8 h0_9 h0_10 h0_11 σ0) sz) 7 0 0 (MQ below (zQi D cyI cyZ sz (w_M cyI cyZ h0_0 h0_1 h0_2 h0_3 h0_4 h0_5 h0_6 h0_7 h0_8 h0_9 h0_10 h0_11 σ0) r (w_M cyI cyZ h0_0 h0_1 h0_2 h0_3 h0_4 h0_5 h0_6 h0_7 h0_8 h0_9 h0_10 h0_11 o0)) args s 0 0 (va_A (w_M cyI cyZ h0_0 h0_1 h0_2 h0_3 h0_4 h0_5 h0_6 h0_7 h0_8 h0_9 h0_10 h0_11 σ0) sz)) 54 [(0, .ref h0_0), (1, .int x1), (2, .int x2), (3, .int x3)] [] (w_M cyI cyZ h0_0 h0_1 h0_2 h0_3 h0_4 h0_5 h0_6 h0_7 h0_8 h0_9 h0_10 h0_11 τ0)) (n : Nat) (τ0 : zM) (x1 : Int32) (x2 : Int32) (x3 : Int32) (x6 : Int32), s_X4_nextSum_127 k54 n τ0 x1 x2 x3 x6 = some (r, o0) → zW p l e ({ frames := 13, cells := 0, slots := 0, locals := 260 } : Room) s m args below meth c D (va_A (w_M cyI cyZ h0_0 h0_1 h0_2 h0_3 h0_4 h0_5 h0_6 h0_7 h0_8 h0_9 h0_10 h0_11 σ0) sz) 7 0 0 (MQ below (zQi D cyI cyZ sz (w_M cyI cyZ h0_0 h0_1 h0_2 h0_3 h0_4 h0_5 h0_6 h0_7 h0_8 h0_9 h0_10 h0_11 σ0) r (w_M cyI cyZ h0_0 h0_1 h0_2 h0_3 h0_4 h0_5 h0_6 h0_7 h0_8 h0_9 h0_10 h0_11 o0)) args s 0 0 (va_A (w_M cyI cyZ h0_0 h0_1 h0_2 h0_3 h0_4 h0_5 h0_6 h0_7 h0_8 h0_9 h0_10 h0_11 σ0) sz)) 127 [(0, .ref h0_0), (1, .int x1), (2, .int x2), (3, .int x3), (6, .int x6)] [] (w_M cyI cyZ h0_0 h0_1 h0_2 h0_3 h0_4 h0_5 h0_6 h0_7 h0_8 h0_9 h0_10 h0_11 τ0) := by
    intro k54 hk54
    intro n
    induction n with
    | zero => intro τ0 x1 x2 x3 x6 h; rw [s_X4_nextSum_127] at h; exact nomatch h
    | succ n ih =>
      intro τ0 x1 x2 x3 x6 h
      rw [s_X4_nextSum_127] at h
      refine zq_iload (q := 129) G dX4_nextSum_127 4 rfl rfl ?_
      refine zq_aload_n (q := 130) G dX4_nextSum_129 0 rfl rfl rfl ?_
      refine zq_get (q := 133) G zu_X4 rfl zw_X4_f7 dX4_nextSum_130 0 0 rfl (by decide) ⟨⟨rfl, rfl⟩, rfl⟩ rfl rfl ?_
      refine zq_icmp_ge (tgt := 156) (q := 136) G dX4_nextSum_133 (by decide) rfl (fun c1 => ?_) (fun c1 => ?_)
      · have h := zit h c1
        refine zq_aload_n (q := 157) G dX4_nextSum_156 0 rfl rfl rfl ?_
        refine zq_aload_n (q := 158) G dX4_nextSum_157 0 rfl rfl rfl ?_
        refine zq_get (q := 161) G zu_X4 rfl zw_X4_f7 dX4_nextSum_158 0 0 rfl (by decide) ⟨⟨rfl, rfl⟩, rfl⟩ rfl rfl ?_
        obtain ⟨z2, hc2, h⟩ := zbd h
        refine zq_callVv (q := 164) (ws2 := (w_M cyI cyZ h0_0 h0_1 h0_2 h0_3 h0_4 h0_5 h0_6 h0_7 h0_8 h0_9 h0_10 h0_11 z2)) (isC := [0, 1, 2, 3, 4, 5, 6, 7, 8, 9, 10, 11]) (isR := []) (perm := [0, 1, 2, 3, 4, 5, 6, 7, 8, 9, 10, 11]) (rest := []) (As := [.int τ0.1.1]) G zs_X4_104 dX4_nextSum_161 (fun sz9 => c_X4_goOn l D cyI cyZ h0_0 h0_1 h0_2 h0_3 h0_4 h0_5 h0_6 h0_7 h0_8 h0_9 h0_10 h0_11 τ0 τ0.1.1 z2 hc2 sz9) 0 rfl rfl rfl ⟨rfl, rfl, rfl, rfl⟩ rfl (Nat.le_of_ble_eq_true rfl) ⟨Nat.le_of_ble_eq_true rfl, Nat.le_of_ble_eq_true rfl, Nat.zero_le _, Nat.zero_le _⟩ rfl ?_
        refine zq_iinc (q := 167) (v := (x3 + 1)) (lv2 := [(3, .int (x3 + 1)), (0, .ref h0_0), (1, .int x1), (2, .int x2), (6, .int x6)]) G dX4_nextSum_164 3 rfl rfl (by decide) rfl rfl ?_
        refine zq_goto (q := 54) G dX4_nextSum_167 (by decide) ?_
        exact zq_sub _ [1, 2, 3, 0] rfl (hk54 _ _ _ _ h)
      · have h := zie h c1
        refine zq_aload_n (q := 137) G dX4_nextSum_136 0 rfl rfl rfl ?_
        refine zq_get (q := 140) G zu_X4 rfl zw_X4_f51 dX4_nextSum_137 0 21 rfl (by decide) ⟨⟨rfl, rfl⟩, rfl⟩ rfl rfl ?_
        refine zq_iload (q := 142) G dX4_nextSum_140 4 rfl rfl ?_
        refine zq_aload_n (q := 143) G dX4_nextSum_142 0 rfl rfl rfl ?_
        refine zq_get (q := 146) G zu_X4 rfl zw_X4_f42 dX4_nextSum_143 0 11 rfl (by decide) ⟨⟨rfl, rfl⟩, rfl⟩ rfl rfl ?_
        refine zq_iload (q := 148) G dX4_nextSum_146 4 rfl rfl ?_
        obtain ⟨q3, h⟩ := zif h
        refine zq_iald (q := 149) G dX4_nextSum_148 7 rfl q3 rfl ?_
        obtain ⟨q4, h⟩ := zif h
        refine zq_iast (q := 150) (ws2 := (w_M cyI cyZ h0_0 h0_1 h0_2 h0_3 h0_4 h0_5 h0_6 h0_7 h0_8 h0_9 h0_10 h0_11 (τ0.1, τ0.2.1, τ0.2.2.1, (τ0.2.2.2.1.1, τ0.2.2.2.1.2.1, τ0.2.2.2.1.2.2.1, (upd τ0.2.2.2.1.2.2.2 x6.toNatClampNeg (τ0.2.2.1.2.2.1 x6.toNatClampNeg))), τ0.2.2.2.2))) G dX4_nextSum_149 9 rfl q4 rfl rfl ?_
        refine zq_iinc (q := 153) (v := (x6 + 1)) (lv2 := [(6, .int (x6 + 1)), (0, .ref h0_0), (1, .int x1), (2, .int x2), (3, .int x3)]) G dX4_nextSum_150 4 rfl rfl (by decide) rfl rfl ?_
        refine zq_goto (q := 127) G dX4_nextSum_153 (by decide) ?_
        exact zq_sub _ [1, 2, 3, 4, 0] rfl (ih _ _ _ _ _ h)
  have b106 : ∀ (k54 : (zM → Int32 → Int32 → Int32 → Option (Int32 × zM))) (hk54 : ∀ (τ0 : zM) (x1 : Int32) (x2 : Int32) (x3 : Int32), k54 τ0 x1 x2 x3 = some (r, o0) → zW p l e ({ frames := 13, cells := 0, slots := 0, locals := 260 } : Room) s m args below meth c D (va_A (w_M cyI cyZ h0_0 h0_1 h0_2 h0_3 h0_4 h0_5 h0_6 h0_7 h0_8 h0_9 h0_10 h0_11 σ0) sz) 7 0 0 (MQ below (zQi D cyI cyZ sz (w_M cyI cyZ h0_0 h0_1 h0_2 h0_3 h0_4 h0_5 h0_6 h0_7 h0_8 h0_9 h0_10 h0_11 σ0) r (w_M cyI cyZ h0_0 h0_1 h0_2 h0_3 h0_4 h0_5 h0_6 h0_7 h0_8 h0_9 h0_10 h0_11 o0)) args s 0 0 (va_A (w_M cyI cyZ h0_0 h0_1 h0_2 h0_3 h0_4 h0_5 h0_6 h0_7 h0_8 h0_9 h0_10 h0_11 σ0) sz)) 54 [(0, .ref h0_0), (1, .int x1), (2, .int x2), (3, .int x3)] [] (w_M cyI cyZ h0_0 h0_1 h0_2 h0_3 h0_4 h0_5 h0_6 h0_7 h0_8 h0_9 h0_10 h0_11 τ0)) (τ0 : zM) (x1 : Int32) (x2 : Int32) (x3 : Int32) (x4 : Int32) (y0 : Int32), s_X4_nextSum_106 k54 τ0 x1 x2 x3 x4 y0 = some (r, o0) → zW p l e ({ frames := 13, cells := 0, slots := 0, locals := 260 } : Room) s m args below meth c D (va_A (w_M cyI cyZ h0_0 h0_1 h0_2 h0_3 h0_4 h0_5 h0_6 h0_7 h0_8 h0_9 h0_10 h0_11 σ0) sz) 7 0 0 (MQ below (zQi D cyI cyZ sz (w_M cyI cyZ h0_0 h0_1 h0_2 h0_3 h0_4 h0_5 h0_6 h0_7 h0_8 h0_9 h0_10 h0_11 σ0) r (w_M cyI cyZ h0_0 h0_1 h0_2 h0_3 h0_4 h0_5 h0_6 h0_7 h0_8 h0_9 h0_10 h0_11 o0)) args s 0 0 (va_A (w_M cyI cyZ h0_0 h0_1 h0_2 h0_3 h0_4 h0_5 h0_6 h0_7 h0_8 h0_9 h0_10 h0_11 σ0) sz)) 106 [(0, .ref h0_0), (1, .int x1), (2, .int x2), (3, .int x3), (4, .int x4)] [.int y0] (w_M cyI cyZ h0_0 h0_1 h0_2 h0_3 h0_4 h0_5 h0_6 h0_7 h0_8 h0_9 h0_10 h0_11 τ0) := by
    intro k54 hk54 τ0 x1 x2 x3 x4 y0 h
    unfold s_X4_nextSum_106 at h
    refine zq_istore (q := 108) (lv2 := [(5, .int y0), (0, .ref h0_0), (1, .int x1), (2, .int x2), (3, .int x3), (4, .int x4)]) G dX4_nextSum_106 (by decide) rfl rfl ?_
    refine zq_iload (q := 110) G dX4_nextSum_108 0 rfl rfl ?_
    refine zq_if_eq (tgt := 156) (q := 113) G dX4_nextSum_110 (by decide) rfl (fun c1 => ?_) (fun c1 => ?_)
    · have h := zit h c1
      refine zq_aload_n (q := 157) G dX4_nextSum_156 1 rfl rfl rfl ?_
      refine zq_aload_n (q := 158) G dX4_nextSum_157 1 rfl rfl rfl ?_
      refine zq_get (q := 161) G zu_X4 rfl zw_X4_f7 dX4_nextSum_158 0 0 rfl (by decide) ⟨⟨rfl, rfl⟩, rfl⟩ rfl rfl ?_
      obtain ⟨z2, hc2, h⟩ := zbd h
      refine zq_callVv (q := 164) (ws2 := (w_M cyI cyZ h0_0 h0_1 h0_2 h0_3 h0_4 h0_5 h0_6 h0_7 h0_8 h0_9 h0_10 h0_11 z2)) (isC := [0, 1, 2, 3, 4, 5, 6, 7, 8, 9, 10, 11]) (isR := []) (perm := [0, 1, 2, 3, 4, 5, 6, 7, 8, 9, 10, 11]) (rest := []) (As := [.int τ0.1.1]) G zs_X4_104 dX4_nextSum_161 (fun sz9 => c_X4_goOn l D cyI cyZ h0_0 h0_1 h0_2 h0_3 h0_4 h0_5 h0_6 h0_7 h0_8 h0_9 h0_10 h0_11 τ0 τ0.1.1 z2 hc2 sz9) 0 rfl rfl rfl ⟨rfl, rfl, rfl, rfl⟩ rfl (Nat.le_of_ble_eq_true rfl) ⟨Nat.le_of_ble_eq_true rfl, Nat.le_of_ble_eq_true rfl, Nat.zero_le _, Nat.zero_le _⟩ rfl ?_
      refine zq_iinc (q := 167) (v := (x3 + 1)) (lv2 := [(3, .int (x3 + 1)), (5, .int y0), (0, .ref h0_0), (1, .int x1), (2, .int x2), (4, .int x4)]) G dX4_nextSum_164 4 rfl rfl (by decide) rfl rfl ?_
      refine zq_goto (q := 54) G dX4_nextSum_167 (by decide) ?_
      exact zq_sub _ [2, 3, 4, 0] rfl (hk54 _ _ _ _ h)
    · have h := zie h c1
      refine zq_iload (q := 115) G dX4_nextSum_113 5 rfl rfl ?_
      refine zq_iload_n (q := 116) G dX4_nextSum_115 2 rfl rfl rfl ?_
      refine zq_icmp_ge (tgt := 156) (q := 119) G dX4_nextSum_116 (by decide) rfl (fun c3 => ?_) (fun c3 => ?_)
      · have h := zit h c3
        refine zq_aload_n (q := 157) G dX4_nextSum_156 1 rfl rfl rfl ?_
        refine zq_aload_n (q := 158) G dX4_nextSum_157 1 rfl rfl rfl ?_
        refine zq_get (q := 161) G zu_X4 rfl zw_X4_f7 dX4_nextSum_158 0 0 rfl (by decide) ⟨⟨rfl, rfl⟩, rfl⟩ rfl rfl ?_
        obtain ⟨z4, hc4, h⟩ := zbd h
        refine zq_callVv (q := 164) (ws2 := (w_M cyI cyZ h0_0 h0_1 h0_2 h0_3 h0_4 h0_5 h0_6 h0_7 h0_8 h0_9 h0_10 h0_11 z4)) (isC := [0, 1, 2, 3, 4, 5, 6, 7, 8, 9, 10, 11]) (isR := []) (perm := [0, 1, 2, 3, 4, 5, 6, 7, 8, 9, 10, 11]) (rest := []) (As := [.int τ0.1.1]) G zs_X4_104 dX4_nextSum_161 (fun sz9 => c_X4_goOn l D cyI cyZ h0_0 h0_1 h0_2 h0_3 h0_4 h0_5 h0_6 h0_7 h0_8 h0_9 h0_10 h0_11 τ0 τ0.1.1 z4 hc4 sz9) 0 rfl rfl rfl ⟨rfl, rfl, rfl, rfl⟩ rfl (Nat.le_of_ble_eq_true rfl) ⟨Nat.le_of_ble_eq_true rfl, Nat.le_of_ble_eq_true rfl, Nat.zero_le _, Nat.zero_le _⟩ rfl ?_
        refine zq_iinc (q := 167) (v := (x3 + 1)) (lv2 := [(3, .int (x3 + 1)), (5, .int y0), (0, .ref h0_0), (1, .int x1), (2, .int x2), (4, .int x4)]) G dX4_nextSum_164 4 rfl rfl (by decide) rfl rfl ?_
        refine zq_goto (q := 54) G dX4_nextSum_167 (by decide) ?_
        exact zq_sub _ [2, 3, 4, 0] rfl (hk54 _ _ _ _ h)
      · have h := zie h c3
        refine zq_iload (q := 121) G dX4_nextSum_119 5 rfl rfl ?_
        refine zq_istore_n (q := 122) (lv2 := [(1, .int x4), (5, .int y0), (0, .ref h0_0), (2, .int x2), (3, .int x3), (4, .int x4)]) G dX4_nextSum_121 rfl (by decide) rfl rfl ?_
        refine zq_iload_n (q := 123) G dX4_nextSum_122 4 rfl rfl rfl ?_
        refine zq_istore_n (q := 124) (lv2 := [(2, .int x3), (1, .int x4), (5, .int y0), (0, .ref h0_0), (3, .int x3), (4, .int x4)]) G dX4_nextSum_123 rfl (by decide) rfl rfl ?_
        refine zq_iconst (q := 125) (v := 0) G dX4_nextSum_124 (by decide) rfl ?_
        refine zq_istore (q := 127) (lv2 := [(6, .int (0 : Int32)), (2, .int x3), (1, .int x4), (5, .int y0), (0, .ref h0_0), (3, .int x3), (4, .int x4)]) G dX4_nextSum_125 (by decide) rfl rfl ?_
        exact zq_sub _ [4, 2, 1, 5, 0] rfl (b127 _ hk54 _ _ _ _ _ _ h)
  have b101 : ∀ (k54 : (zM → Int32 → Int32 → Int32 → Option (Int32 × zM))) (hk54 : ∀ (τ0 : zM) (x1 : Int32) (x2 : Int32) (x3 : Int32), k54 τ0 x1 x2 x3 = some (r, o0) → zW p l e ({ frames := 13, cells := 0, slots := 0, locals := 260 } : Room) s m args below meth c D (va_A (w_M cyI cyZ h0_0 h0_1 h0_2 h0_3 h0_4 h0_5 h0_6 h0_7 h0_8 h0_9 h0_10 h0_11 σ0) sz) 7 0 0 (MQ below (zQi D cyI cyZ sz (w_M cyI cyZ h0_0 h0_1 h0_2 h0_3 h0_4 h0_5 h0_6 h0_7 h0_8 h0_9 h0_10 h0_11 σ0) r (w_M cyI cyZ h0_0 h0_1 h0_2 h0_3 h0_4 h0_5 h0_6 h0_7 h0_8 h0_9 h0_10 h0_11 o0)) args s 0 0 (va_A (w_M cyI cyZ h0_0 h0_1 h0_2 h0_3 h0_4 h0_5 h0_6 h0_7 h0_8 h0_9 h0_10 h0_11 σ0) sz)) 54 [(0, .ref h0_0), (1, .int x1), (2, .int x2), (3, .int x3)] [] (w_M cyI cyZ h0_0 h0_1 h0_2 h0_3 h0_4 h0_5 h0_6 h0_7 h0_8 h0_9 h0_10 h0_11 τ0)) (τ0 : zM) (x1 : Int32) (x2 : Int32) (x3 : Int32) (x4 : Int32), s_X4_nextSum_101 k54 τ0 x1 x2 x3 x4 = some (r, o0) → zW p l e ({ frames := 13, cells := 0, slots := 0, locals := 260 } : Room) s m args below meth c D (va_A (w_M cyI cyZ h0_0 h0_1 h0_2 h0_3 h0_4 h0_5 h0_6 h0_7 h0_8 h0_9 h0_10 h0_11 σ0) sz) 7 0 0 (MQ below (zQi D cyI cyZ sz (w_M cyI cyZ h0_0 h0_1 h0_2 h0_3 h0_4 h0_5 h0_6 h0_7 h0_8 h0_9 h0_10 h0_11 σ0) r (w_M cyI cyZ h0_0 h0_1 h0_2 h0_3 h0_4 h0_5 h0_6 h0_7 h0_8 h0_9 h0_10 h0_11 o0)) args s 0 0 (va_A (w_M cyI cyZ h0_0 h0_1 h0_2 h0_3 h0_4 h0_5 h0_6 h0_7 h0_8 h0_9 h0_10 h0_11 σ0) sz)) 101 [(0, .ref h0_0), (1, .int x1), (2, .int x2), (3, .int x3), (4, .int x4)] [] (w_M cyI cyZ h0_0 h0_1 h0_2 h0_3 h0_4 h0_5 h0_6 h0_7 h0_8 h0_9 h0_10 h0_11 τ0) := by
    intro k54 hk54 τ0 x1 x2 x3 x4 h
    unfold s_X4_nextSum_101 at h
    refine zq_iconst (q := 102) (v := 1) G dX4_nextSum_101 (by decide) rfl ?_
    refine zq_goto (q := 106) G dX4_nextSum_102 (by decide) ?_
    exact zq_sub _ [0, 1, 2, 3, 4] rfl (b106 _ hk54 _ _ _ _ _ _ h)
  have b54 : ∀ (n : Nat) (τ0 : zM) (x1 : Int32) (x2 : Int32) (x3 : Int32), s_X4_nextSum_54 n τ0 x1 x2 x3 = some (r, o0) → zW p l e ({ frames := 13, cells := 0, slots := 0, locals := 260 } : Room) s m args below meth c D (va_A (w_M cyI cyZ h0_0 h0_1 h0_2 h0_3 h0_4 h0_5 h0_6 h0_7 h0_8 h0_9 h0_10 h0_11 σ0) sz) 7 0 0 (MQ below (zQi D cyI cyZ sz (w_M cyI cyZ h0_0 h0_1 h0_2 h0_3 h0_4 h0_5 h0_6 h0_7 h0_8 h0_9 h0_10 h0_11 σ0) r (w_M cyI cyZ h0_0 h0_1 h0_2 h0_3 h0_4 h0_5 h0_6 h0_7 h0_8 h0_9 h0_10 h0_11 o0)) args s 0 0 (va_A (w_M cyI cyZ h0_0 h0_1 h0_2 h0_3 h0_4 h0_5 h0_6 h0_7 h0_8 h0_9 h0_10 h0_11 σ0) sz)) 54 [(0, .ref h0_0), (1, .int x1), (2, .int x2), (3, .int x3)] [] (w_M cyI cyZ h0_0 h0_1 h0_2 h0_3 h0_4 h0_5 h0_6 h0_7 h0_8 h0_9 h0_10 h0_11 τ0) := by
    intro n
    induction n with
    | zero => intro τ0 x1 x2 x3 h; rw [s_X4_nextSum_54] at h; exact nomatch h
    | succ n ih =>
      intro τ0 x1 x2 x3 h
      rw [s_X4_nextSum_54] at h
      refine zq_iload_n (q := 55) G dX4_nextSum_54 3 rfl rfl rfl ?_
      refine zq_aload_n (q := 56) G dX4_nextSum_55 0 rfl rfl rfl ?_
      refine zq_get (q := 59) G zu_X4 rfl zw_X4_f7 dX4_nextSum_56 0 0 rfl (by decide) ⟨⟨rfl, rfl⟩, rfl⟩ rfl rfl ?_
      obtain ⟨z1, hc1, h⟩ := zbd h
      refine zq_callSi (q := 62) (ws2 := (w_M cyI cyZ h0_0 h0_1 h0_2 h0_3 h0_4 h0_5 h0_6 h0_7 h0_8 h0_9 h0_10 h0_11 τ0)) (isC := []) (isR := [0, 1, 2, 3, 4, 5, 6, 7, 8, 9, 10, 11]) (perm := [0, 1, 2, 3, 4, 5, 6, 7, 8, 9, 10, 11]) (rest := [.int x3]) (As := [.int τ0.1.1]) G zs_X4_67 dX4_nextSum_59 (fun sz9 => c_X4_factorial l 12 D cyI cyZ τ0.1.1 z1 hc1 sz9) rfl ⟨rfl, rfl, rfl, rfl⟩ rfl (Nat.le_of_ble_eq_true rfl) ⟨Nat.le_of_ble_eq_true rfl, Nat.le_of_ble_eq_true rfl, Nat.zero_le _, Nat.zero_le _⟩ rfl ?_
      refine zq_icmp_ge (tgt := 170) (q := 65) G dX4_nextSum_62 (by decide) rfl (fun c2 => ?_) (fun c2 => ?_)
      · have h := zit h c2
        refine zq_aload_n (q := 171) G dX4_nextSum_170 0 rfl rfl rfl ?_
        refine zq_iload_n (q := 172) G dX4_nextSum_171 1 rfl rfl rfl ?_
        refine zq_put (q := 175) (ws2 := (w_M cyI cyZ h0_0 h0_1 h0_2 h0_3 h0_4 h0_5 h0_6 h0_7 h0_8 h0_9 h0_10 h0_11 (τ0.1, τ0.2.1, τ0.2.2.1, (τ0.2.2.2.1.1, x1, τ0.2.2.2.1.2.2.1, τ0.2.2.2.1.2.2.2), τ0.2.2.2.2))) G zu_X4 rfl tyX4_ok nmX4 zw_X4_f172 dX4_nextSum_172 0 19 rfl (by decide) ⟨⟨rfl, rfl⟩, rfl⟩ rfl rfl rfl (Nat.le_of_ble_eq_true rfl) rfl rfl ?_
        refine zq_aload_n (q := 176) G dX4_nextSum_175 0 rfl rfl rfl ?_
        refine zq_iload_n (q := 177) G dX4_nextSum_176 2 rfl rfl rfl ?_
        refine zq_put (q := 180) (ws2 := (w_M cyI cyZ h0_0 h0_1 h0_2 h0_3 h0_4 h0_5 h0_6 h0_7 h0_8 h0_9 h0_10 h0_11 (τ0.1, τ0.2.1, τ0.2.2.1, (τ0.2.2.2.1.1, x1, x2, τ0.2.2.2.1.2.2.2), τ0.2.2.2.2))) G zu_X4 rfl tyX4_ok nmX4 zw_X4_f175 dX4_nextSum_177 0 20 rfl (by decide) ⟨⟨rfl, rfl⟩, rfl⟩ rfl rfl rfl (Nat.le_of_ble_eq_true rfl) rfl rfl ?_
        refine zq_aload_n (q := 181) G dX4_nextSum_180 0 rfl rfl rfl ?_
        refine zq_dup (q := 182) G dX4_nextSum_181 rfl rfl ?_
        refine zq_get (q := 185) G zu_X4 rfl zw_X4_f48 dX4_nextSum_182 0 18 rfl (by decide) ⟨⟨rfl, rfl⟩, rfl⟩ rfl rfl ?_
        refine zq_iconst (q := 186) (v := 1) G dX4_nextSum_185 (by decide) rfl ?_
        refine zq_iadd (q := 187) G dX4_nextSum_186 rfl ?_
        refine zq_put (q := 190) (ws2 := (w_M cyI cyZ h0_0 h0_1 h0_2 h0_3 h0_4 h0_5 h0_6 h0_7 h0_8 h0_9 h0_10 h0_11 (τ0.1, τ0.2.1, τ0.2.2.1, ((τ0.2.2.2.1.1 + (1 : Int32)), x1, x2, τ0.2.2.2.1.2.2.2), τ0.2.2.2.2))) G zu_X4 rfl tyX4_ok nmX4 zw_X4_f48 dX4_nextSum_187 0 18 rfl (by decide) ⟨⟨rfl, rfl⟩, rfl⟩ rfl rfl rfl (Nat.le_of_ble_eq_true rfl) rfl rfl ?_
        refine zq_iload_n (q := 191) G dX4_nextSum_190 1 rfl rfl rfl ?_
        refine zq_ws (congrArg (fun w9 => (w_M cyI cyZ h0_0 h0_1 h0_2 h0_3 h0_4 h0_5 h0_6 h0_7 h0_8 h0_9 h0_10 h0_11 w9.2)) (zsome h)) ?_
        exact zq_iret G hlocks hr rfl dX4_nextSum_191 (congrArg Prod.fst (zsome h))
      · have h := zie h c2
        refine zq_aload_n (q := 66) G dX4_nextSum_65 0 rfl rfl rfl ?_
        refine zq_aload_n (q := 67) G dX4_nextSum_66 0 rfl rfl rfl ?_
        refine zq_get (q := 70) G zu_X4 rfl zw_X4_f7 dX4_nextSum_67 0 0 rfl (by decide) ⟨⟨rfl, rfl⟩, rfl⟩ rfl rfl ?_
        obtain ⟨z3, hc3, h⟩ := zbd h
        refine zq_callVi (q := 73) (ws2 := (w_M cyI cyZ h0_0 h0_1 h0_2 h0_3 h0_4 h0_5 h0_6 h0_7 h0_8 h0_9 h0_10 h0_11 τ0)) (isC := [0, 1, 2, 3, 4, 5, 6, 7, 8, 9, 10, 11]) (isR := []) (perm := [0, 1, 2, 3, 4, 5, 6, 7, 8, 9, 10, 11]) (rest := []) (As := [.int τ0.1.1]) G zs_X4_98 dX4_nextSum_70 (fun sz9 => c_X4_sum l D cyI cyZ h0_0 h0_1 h0_2 h0_3 h0_4 h0_5 h0_6 h0_7 h0_8 h0_9 h0_10 h0_11 τ0 τ0.1.1 z3 hc3 sz9) 0 rfl rfl rfl ⟨rfl, rfl, rfl, rfl⟩ rfl (Nat.le_of_ble_eq_true rfl) ⟨Nat.le_of_ble_eq_true rfl, Nat.le_of_ble_eq_true rfl, Nat.zero_le _, Nat.zero_le _⟩ rfl ?_
        refine zq_istore (q := 75) (lv2 := [(4, .int z3), (0, .ref h0_0), (1, .int x1), (2, .int x2), (3, .int x3)]) G dX4_nextSum_73 (by decide) rfl rfl ?_
        refine zq_iload (q := 77) G dX4_nextSum_75 0 rfl rfl ?_
        refine zq_aload_n (q := 78) G dX4_nextSum_77 1 rfl rfl rfl ?_
        refine zq_get (q := 81) G zu_X4 rfl zw_X4_f172 dX4_nextSum_78 0 19 rfl (by decide) ⟨⟨rfl, rfl⟩, rfl⟩ rfl rfl ?_
        refine zq_icmp_gt (tgt := 101) (q := 84) G dX4_nextSum_81 (by decide) rfl (fun c4 => ?_) (fun c4 => ?_)
        · have h := zit h c4
          exact zq_sub _ [1, 2, 3, 4, 0] rfl (b101 _ ih _ _ _ _ _ h)
        · have h := zie h c4
          refine zq_iload (q := 86) G dX4_nextSum_84 0 rfl rfl ?_
          refine zq_aload_n (q := 87) G dX4_nextSum_86 1 rfl rfl rfl ?_
          refine zq_get (q := 90) G zu_X4 rfl zw_X4_f172 dX4_nextSum_87 0 19 rfl (by decide) ⟨⟨rfl, rfl⟩, rfl⟩ rfl rfl ?_
          refine zq_icmp_ne (tgt := 105) (q := 93) G dX4_nextSum_90 (by decide) rfl (fun c5 => ?_) (fun c5 => ?_)
          · have h := zie h c5
            refine zq_iconst (q := 106) (v := 0) G dX4_nextSum_105 (by decide) rfl ?_
            exact zq_sub _ [1, 2, 3, 4, 0] rfl (b106 _ ih _ _ _ _ _ _ h)
          · have h := zit h c5
            refine zq_iload_n (q := 94) G dX4_nextSum_93 4 rfl rfl rfl ?_
            refine zq_aload_n (q := 95) G dX4_nextSum_94 1 rfl rfl rfl ?_
            refine zq_get (q := 98) G zu_X4 rfl zw_X4_f175 dX4_nextSum_95 0 20 rfl (by decide) ⟨⟨rfl, rfl⟩, rfl⟩ rfl rfl ?_
            refine zq_icmp_le (tgt := 105) (q := 101) G dX4_nextSum_98 (by decide) rfl (fun c6 => ?_) (fun c6 => ?_)
            · have h := zit h c6
              refine zq_iconst (q := 106) (v := 0) G dX4_nextSum_105 (by decide) rfl ?_
              exact zq_sub _ [1, 2, 3, 4, 0] rfl (b106 _ ih _ _ _ _ _ _ h)
            · have h := zie h c6
              exact zq_sub _ [1, 2, 3, 4, 0] rfl (b101 _ ih _ _ _ _ _ h)
  have b31 : ∀ (τ0 : zM) (y0 : Int32), s_X4_nextSum_31 τ0 y0 = some (r, o0) → zW p l e ({ frames := 13, cells := 0, slots := 0, locals := 260 } : Room) s m args below meth c D (va_A (w_M cyI cyZ h0_0 h0_1 h0_2 h0_3 h0_4 h0_5 h0_6 h0_7 h0_8 h0_9 h0_10 h0_11 σ0) sz) 7 0 0 (MQ below (zQi D cyI cyZ sz (w_M cyI cyZ h0_0 h0_1 h0_2 h0_3 h0_4 h0_5 h0_6 h0_7 h0_8 h0_9 h0_10 h0_11 σ0) r (w_M cyI cyZ h0_0 h0_1 h0_2 h0_3 h0_4 h0_5 h0_6 h0_7 h0_8 h0_9 h0_10 h0_11 o0)) args s 0 0 (va_A (w_M cyI cyZ h0_0 h0_1 h0_2 h0_3 h0_4 h0_5 h0_6 h0_7 h0_8 h0_9 h0_10 h0_11 σ0) sz)) 31 [(0, .ref h0_0)] [.int y0, .ref h0_0] (w_M cyI cyZ h0_0 h0_1 h0_2 h0_3 h0_4 h0_5 h0_6 h0_7 h0_8 h0_9 h0_10 h0_11 τ0) := by
    intro τ0 y0 h
    unfold s_X4_nextSum_31 at h
    obtain ⟨z1, hc1, h⟩ := zbd h
    refine zq_callVi (q := 34) (ws2 := (w_M cyI cyZ h0_0 h0_1 h0_2 h0_3 h0_4 h0_5 h0_6 h0_7 h0_8 h0_9 h0_10 h0_11 z1.2)) (isC := [0, 1, 2, 3, 4, 5, 6, 7, 8, 9, 10, 11]) (isR := []) (perm := [0, 1, 2, 3, 4, 5, 6, 7, 8, 9, 10, 11]) (rest := []) (As := [.int y0]) G zs_X4_118 dX4_nextSum_31 (fun sz9 => c_X4_isWrong l D cyI cyZ h0_0 h0_1 h0_2 h0_3 h0_4 h0_5 h0_6 h0_7 h0_8 h0_9 h0_10 h0_11 τ0 y0 z1.1 z1.2 hc1 sz9) 0 rfl rfl rfl ⟨rfl, rfl, rfl, rfl⟩ rfl (Nat.le_of_ble_eq_true rfl) ⟨Nat.le_of_ble_eq_true rfl, Nat.le_of_ble_eq_true rfl, Nat.zero_le _, Nat.zero_le _⟩ rfl ?_
    refine zq_if_eq (tgt := 39) (q := 37) G dX4_nextSum_34 (by decide) rfl (fun c2 => ?_) (fun c2 => ?_)
    · have h := zit h c2
      refine zq_ldc (q := 41) G zw_X4_c79 dX4_nextSum_39 rfl ?_
      refine zq_istore_n (q := 42) (lv2 := [(1, .int (1000000 : Int32)), (0, .ref h0_0)]) G dX4_nextSum_41 rfl (by decide) rfl rfl ?_
      refine zq_iconst (q := 43) (v := 0) G dX4_nextSum_42 (by decide) rfl ?_
      refine zq_istore_n (q := 44) (lv2 := [(2, .int (0 : Int32)), (1, .int (1000000 : Int32)), (0, .ref h0_0)]) G dX4_nextSum_43 rfl (by decide) rfl rfl ?_
      refine zq_aload_n (q := 45) G dX4_nextSum_44 2 rfl rfl rfl ?_
      obtain ⟨z3, hc3, h⟩ := zbd h
      refine zq_callVv (q := 48) (ws2 := (w_M cyI cyZ h0_0 h0_1 h0_2 h0_3 h0_4 h0_5 h0_6 h0_7 h0_8 h0_9 h0_10 h0_11 z3)) (isC := [0, 1, 2, 3, 4, 5, 6, 7, 8, 9, 10, 11]) (isR := []) (perm := [0, 1, 2, 3, 4, 5, 6, 7, 8, 9, 10, 11]) (rest := []) (As := []) G zs_X4_108 dX4_nextSum_45 (fun sz9 => c_X4_take l D cyI cyZ h0_0 h0_1 h0_2 h0_3 h0_4 h0_5 h0_6 h0_7 h0_8 h0_9 h0_10 h0_11 z1.2 z3 hc3 sz9) 0 rfl rfl rfl ⟨rfl, rfl, rfl, rfl⟩ rfl (Nat.le_of_ble_eq_true rfl) ⟨Nat.le_of_ble_eq_true rfl, Nat.le_of_ble_eq_true rfl, Nat.zero_le _, Nat.zero_le _⟩ rfl ?_
      refine zq_aload_n (q := 49) G dX4_nextSum_48 2 rfl rfl rfl ?_
      obtain ⟨z4, hc4, h⟩ := zbd h
      refine zq_callVv (q := 52) (ws2 := (w_M cyI cyZ h0_0 h0_1 h0_2 h0_3 h0_4 h0_5 h0_6 h0_7 h0_8 h0_9 h0_10 h0_11 z4)) (isC := [0, 1, 2, 3, 4, 5, 6, 7, 8, 9, 10, 11]) (isR := []) (perm := [0, 1, 2, 3, 4, 5, 6, 7, 8, 9, 10, 11]) (rest := []) (As := []) G zs_X4_95 dX4_nextSum_49 (fun sz9 => c_X4_begin l D cyI cyZ h0_0 h0_1 h0_2 h0_3 h0_4 h0_5 h0_6 h0_7 h0_8 h0_9 h0_10 h0_11 z3 z4 hc4 sz9) 0 rfl rfl rfl ⟨rfl, rfl, rfl, rfl⟩ rfl (Nat.le_of_ble_eq_true rfl) ⟨Nat.le_of_ble_eq_true rfl, Nat.le_of_ble_eq_true rfl, Nat.zero_le _, Nat.zero_le _⟩ rfl ?_
      refine zq_iconst (q := 53) (v := 0) G dX4_nextSum_52 (by decide) rfl ?_
      refine zq_istore_n (q := 54) (lv2 := [(3, .int (0 : Int32)), (2, .int (0 : Int32)), (1, .int (1000000 : Int32)), (0, .ref h0_0)]) G dX4_nextSum_53 rfl (by decide) rfl rfl ?_
      exact zq_sub _ [3, 2, 1, 0] rfl (b54  _ _ _ _ _ h)
    · have h := zie h c2
      refine zq_iconst (q := 38) (v := 0) G dX4_nextSum_37 (by decide) rfl ?_
      refine zq_ws (congrArg (fun w9 => (w_M cyI cyZ h0_0 h0_1 h0_2 h0_3 h0_4 h0_5 h0_6 h0_7 h0_8 h0_9 h0_10 h0_11 w9.2)) (zsome h)) ?_
      exact zq_iret G hlocks hr rfl dX4_nextSum_38 (congrArg Prod.fst (zsome h))
  refine zq_aload_n (q := 1) G dX4_nextSum_0 0 rfl rfl rfl ?_
  refine zq_aload_n (q := 2) G dX4_nextSum_1 0 rfl rfl rfl ?_
  refine zq_get (q := 5) G zu_X4 rfl zw_X4_f48 dX4_nextSum_2 0 18 rfl (by decide) ⟨⟨rfl, rfl⟩, rfl⟩ rfl rfl ?_
  refine zq_if_ge (tgt := 12) (q := 8) G dX4_nextSum_5 (by decide) rfl (fun c1 => ?_) (fun c1 => ?_)
  · have h := zit h c1
    refine zq_aload_n (q := 13) G dX4_nextSum_12 0 rfl rfl rfl ?_
    refine zq_get (q := 16) G zu_X4 rfl zw_X4_f48 dX4_nextSum_13 0 18 rfl (by decide) ⟨⟨rfl, rfl⟩, rfl⟩ rfl rfl ?_
    refine zq_aload_n (q := 17) G dX4_nextSum_16 0 rfl rfl rfl ?_
    refine zq_get (q := 20) G zu_X4 rfl zw_X4_f7 dX4_nextSum_17 0 0 rfl (by decide) ⟨⟨rfl, rfl⟩, rfl⟩ rfl rfl ?_
    obtain ⟨z2, hc2, h⟩ := zbd h
    refine zq_callSi (q := 23) (ws2 := (w_M cyI cyZ h0_0 h0_1 h0_2 h0_3 h0_4 h0_5 h0_6 h0_7 h0_8 h0_9 h0_10 h0_11 σ0)) (isC := []) (isR := [0, 1, 2, 3, 4, 5, 6, 7, 8, 9, 10, 11]) (perm := [0, 1, 2, 3, 4, 5, 6, 7, 8, 9, 10, 11]) (rest := [.int σ0.2.2.2.1.1, .ref h0_0]) (As := [.int σ0.1.1]) G zs_X4_67 dX4_nextSum_20 (fun sz9 => c_X4_factorial l 12 D cyI cyZ σ0.1.1 z2 hc2 sz9) rfl ⟨rfl, rfl, rfl, rfl⟩ rfl (Nat.le_of_ble_eq_true rfl) ⟨Nat.le_of_ble_eq_true rfl, Nat.le_of_ble_eq_true rfl, Nat.zero_le _, Nat.zero_le _⟩ rfl ?_
    refine zq_icmp_ne (tgt := 30) (q := 26) G dX4_nextSum_23 (by decide) rfl (fun c3 => ?_) (fun c3 => ?_)
    · have h := zie h c3
      refine zq_iconst (q := 31) (v := 0) G dX4_nextSum_30 (by decide) rfl ?_
      exact zq_sub _ [0] rfl (b31  _ _ h)
    · have h := zit h c3
      refine zq_iconst (q := 27) (v := 2) G dX4_nextSum_26 (by decide) rfl ?_
      refine zq_goto (q := 31) G dX4_nextSum_27 (by decide) ?_
      exact zq_sub _ [0] rfl (b31  _ _ h)
  · have h := zie h c1
    refine zq_iconst (q := 9) (v := 1) G dX4_nextSum_8 (by decide) rfl ?_
    refine zq_goto (q := 31) G dX4_nextSum_9 (by decide) ?_
    exact zq_sub _ [0] rfl (b31  _ _ h)
set_option maxHeartbeats 4000000 in
set_option maxRecDepth 100000 in
theorem c_X4_currentColumn (l : Launch) (D : va_G) (cyI cyZ : ClassId) (h0_0 h0_1 h0_2 h0_3 h0_4 h0_5 h0_6 h0_7 h0_8 h0_9 h0_10 h0_11 : Nat) (σ0 : zM) (p0 : Int32) (r : Int32) (o0 : zM) (h : s_X4_currentColumn σ0 p0 = some (r, o0)) (sz : Nat) : zMi l yX4_currentColumn cX4_currentColumn 2 .int 2 46 D cyI cyZ sz [.ref h0_0, .int p0] (w_M cyI cyZ h0_0 h0_1 h0_2 h0_3 h0_4 h0_5 h0_6 h0_7 h0_8 h0_9 h0_10 h0_11 σ0) r (w_M cyI cyZ h0_0 h0_1 h0_2 h0_3 h0_4 h0_5 h0_6 h0_7 h0_8 h0_9 h0_10 h0_11 o0) := by
  unfold s_X4_currentColumn at h
  refine zstartI (lv0 := [(0, .ref h0_0), (1, .int p0)]) (by decide) (Nat.le_of_ble_eq_true rfl) rfl (fun p e s m args below meth c G hr hlocks => ?_)
  refine zq_aload_n (q := 1) G dX4_currentColumn_0 0 rfl rfl rfl ?_
  refine zq_aload_n (q := 2) G dX4_currentColumn_1 0 rfl rfl rfl ?_
  refine zq_iload_n (q := 3) G dX4_currentColumn_2 1 rfl rfl rfl ?_
  obtain ⟨z1, hc1, h⟩ := zbd h
  refine zq_callVi (q := 6) (ws2 := (w_M cyI cyZ h0_0 h0_1 h0_2 h0_3 h0_4 h0_5 h0_6 h0_7 h0_8 h0_9 h0_10 h0_11 σ0)) (isC := [0, 1, 2, 3, 4, 5, 6, 7, 8, 9, 10, 11]) (isR := []) (perm := [0, 1, 2, 3, 4, 5, 6, 7, 8, 9, 10, 11]) (rest := [.ref h0_0]) (As := [.int p0]) G zs_X4_122 dX4_currentColumn_3 (fun sz9 => c_X4_isRow l D cyI cyZ h0_0 h0_1 h0_2 h0_3 h0_4 h0_5 h0_6 h0_7 h0_8 h0_9 h0_10 h0_11 σ0 p0 z1 hc1 sz9) 0 rfl rfl rfl ⟨rfl, rfl, rfl, rfl⟩ rfl (Nat.le_of_ble_eq_true rfl) ⟨Nat.le_of_ble_eq_true rfl, Nat.le_of_ble_eq_true rfl, Nat.zero_le _, Nat.zero_le _⟩ rfl ?_
  refine zq_if_ne (tgt := 13) (q := 9) G dX4_currentColumn_6 (by decide) rfl (fun c2 => ?_) (fun c2 => ?_)
  · have h := zie h c2
    refine zq_aload_n (q := 14) G dX4_currentColumn_13 0 rfl rfl rfl ?_
    refine zq_get (q := 17) G zu_X4 rfl zw_X4_f48 dX4_currentColumn_14 0 18 rfl (by decide) ⟨⟨rfl, rfl⟩, rfl⟩ rfl rfl ?_
    refine zq_iconst (q := 18) (v := 1) G dX4_currentColumn_17 (by decide) rfl ?_
    refine zq_icmp_ge (tgt := 25) (q := 21) G dX4_currentColumn_18 (by decide) rfl (fun c3 => ?_) (fun c3 => ?_)
    · have h := zit h c3
      refine zq_iconst (q := 26) (v := 0) G dX4_currentColumn_25 (by decide) rfl ?_
      obtain ⟨z4, hc4, h⟩ := zbd h
      refine zq_callVi (q := 29) (ws2 := (w_M cyI cyZ h0_0 h0_1 h0_2 h0_3 h0_4 h0_5 h0_6 h0_7 h0_8 h0_9 h0_10 h0_11 z4.2)) (isC := [0, 1, 2, 3, 4, 5, 6, 7, 8, 9, 10, 11]) (isR := []) (perm := [0, 1, 2, 3, 4, 5, 6, 7, 8, 9, 10, 11]) (rest := []) (As := [.int (0 : Int32)]) G zs_X4_118 dX4_currentColumn_26 (fun sz9 => c_X4_isWrong l D cyI cyZ h0_0 h0_1 h0_2 h0_3 h0_4 h0_5 h0_6 h0_7 h0_8 h0_9 h0_10 h0_11 σ0 (0 : Int32) z4.1 z4.2 hc4 sz9) 0 rfl rfl rfl ⟨rfl, rfl, rfl, rfl⟩ rfl (Nat.le_of_ble_eq_true rfl) ⟨Nat.le_of_ble_eq_true rfl, Nat.le_of_ble_eq_true rfl, Nat.zero_le _, Nat.zero_le _⟩ rfl ?_
      refine zq_if_eq (tgt := 36) (q := 32) G dX4_currentColumn_29 (by decide) rfl (fun c5 => ?_) (fun c5 => ?_)
      · have h := zit h c5
        refine zq_aload_n (q := 37) G dX4_currentColumn_36 0 rfl rfl rfl ?_
        refine zq_get (q := 40) G zu_X4 rfl zw_X4_f51 dX4_currentColumn_37 0 21 rfl (by decide) ⟨⟨rfl, rfl⟩, rfl⟩ rfl rfl ?_
        refine zq_iload_n (q := 41) G dX4_currentColumn_40 1 rfl rfl rfl ?_
        obtain ⟨q6, h⟩ := zif h
        refine zq_iald (q := 42) G dX4_currentColumn_41 9 rfl q6 rfl ?_
        refine zq_ws (congrArg (fun w9 => (w_M cyI cyZ h0_0 h0_1 h0_2 h0_3 h0_4 h0_5 h0_6 h0_7 h0_8 h0_9 h0_10 h0_11 w9.2)) (zsome h)) ?_
        exact zq_iret G hlocks hr rfl dX4_currentColumn_42 (congrArg Prod.fst (zsome h))
      · have h := zie h c5
        refine zq_iconst (q := 33) (v := 0) G dX4_currentColumn_32 (by decide) rfl ?_
        refine zq_goto (q := 42) G dX4_currentColumn_33 (by decide) ?_
        refine zq_ws (congrArg (fun w9 => (w_M cyI cyZ h0_0 h0_1 h0_2 h0_3 h0_4 h0_5 h0_6 h0_7 h0_8 h0_9 h0_10 h0_11 w9.2)) (zsome h)) ?_
        exact zq_iret G hlocks hr rfl dX4_currentColumn_42 (congrArg Prod.fst (zsome h))
    · have h := zie h c3
      refine zq_iconst (q := 22) (v := 2) G dX4_currentColumn_21 (by decide) rfl ?_
      refine zq_goto (q := 26) G dX4_currentColumn_22 (by decide) ?_
      obtain ⟨z7, hc7, h⟩ := zbd h
      refine zq_callVi (q := 29) (ws2 := (w_M cyI cyZ h0_0 h0_1 h0_2 h0_3 h0_4 h0_5 h0_6 h0_7 h0_8 h0_9 h0_10 h0_11 z7.2)) (isC := [0, 1, 2, 3, 4, 5, 6, 7, 8, 9, 10, 11]) (isR := []) (perm := [0, 1, 2, 3, 4, 5, 6, 7, 8, 9, 10, 11]) (rest := []) (As := [.int (2 : Int32)]) G zs_X4_118 dX4_currentColumn_26 (fun sz9 => c_X4_isWrong l D cyI cyZ h0_0 h0_1 h0_2 h0_3 h0_4 h0_5 h0_6 h0_7 h0_8 h0_9 h0_10 h0_11 σ0 (2 : Int32) z7.1 z7.2 hc7 sz9) 0 rfl rfl rfl ⟨rfl, rfl, rfl, rfl⟩ rfl (Nat.le_of_ble_eq_true rfl) ⟨Nat.le_of_ble_eq_true rfl, Nat.le_of_ble_eq_true rfl, Nat.zero_le _, Nat.zero_le _⟩ rfl ?_
      refine zq_if_eq (tgt := 36) (q := 32) G dX4_currentColumn_29 (by decide) rfl (fun c8 => ?_) (fun c8 => ?_)
      · have h := zit h c8
        refine zq_aload_n (q := 37) G dX4_currentColumn_36 0 rfl rfl rfl ?_
        refine zq_get (q := 40) G zu_X4 rfl zw_X4_f51 dX4_currentColumn_37 0 21 rfl (by decide) ⟨⟨rfl, rfl⟩, rfl⟩ rfl rfl ?_
        refine zq_iload_n (q := 41) G dX4_currentColumn_40 1 rfl rfl rfl ?_
        obtain ⟨q9, h⟩ := zif h
        refine zq_iald (q := 42) G dX4_currentColumn_41 9 rfl q9 rfl ?_
        refine zq_ws (congrArg (fun w9 => (w_M cyI cyZ h0_0 h0_1 h0_2 h0_3 h0_4 h0_5 h0_6 h0_7 h0_8 h0_9 h0_10 h0_11 w9.2)) (zsome h)) ?_
        exact zq_iret G hlocks hr rfl dX4_currentColumn_42 (congrArg Prod.fst (zsome h))
      · have h := zie h c8
        refine zq_iconst (q := 33) (v := 0) G dX4_currentColumn_32 (by decide) rfl ?_
        refine zq_goto (q := 42) G dX4_currentColumn_33 (by decide) ?_
        refine zq_ws (congrArg (fun w9 => (w_M cyI cyZ h0_0 h0_1 h0_2 h0_3 h0_4 h0_5 h0_6 h0_7 h0_8 h0_9 h0_10 h0_11 w9.2)) (zsome h)) ?_
        exact zq_iret G hlocks hr rfl dX4_currentColumn_42 (congrArg Prod.fst (zsome h))
  · have h := zit h c2
    refine zq_iconst (q := 10) (v := 1) G dX4_currentColumn_9 (by decide) rfl ?_
    refine zq_goto (q := 26) G dX4_currentColumn_10 (by decide) ?_
    obtain ⟨z10, hc10, h⟩ := zbd h
    refine zq_callVi (q := 29) (ws2 := (w_M cyI cyZ h0_0 h0_1 h0_2 h0_3 h0_4 h0_5 h0_6 h0_7 h0_8 h0_9 h0_10 h0_11 z10.2)) (isC := [0, 1, 2, 3, 4, 5, 6, 7, 8, 9, 10, 11]) (isR := []) (perm := [0, 1, 2, 3, 4, 5, 6, 7, 8, 9, 10, 11]) (rest := []) (As := [.int (1 : Int32)]) G zs_X4_118 dX4_currentColumn_26 (fun sz9 => c_X4_isWrong l D cyI cyZ h0_0 h0_1 h0_2 h0_3 h0_4 h0_5 h0_6 h0_7 h0_8 h0_9 h0_10 h0_11 σ0 (1 : Int32) z10.1 z10.2 hc10 sz9) 0 rfl rfl rfl ⟨rfl, rfl, rfl, rfl⟩ rfl (Nat.le_of_ble_eq_true rfl) ⟨Nat.le_of_ble_eq_true rfl, Nat.le_of_ble_eq_true rfl, Nat.zero_le _, Nat.zero_le _⟩ rfl ?_
    refine zq_if_eq (tgt := 36) (q := 32) G dX4_currentColumn_29 (by decide) rfl (fun c11 => ?_) (fun c11 => ?_)
    · have h := zit h c11
      refine zq_aload_n (q := 37) G dX4_currentColumn_36 0 rfl rfl rfl ?_
      refine zq_get (q := 40) G zu_X4 rfl zw_X4_f51 dX4_currentColumn_37 0 21 rfl (by decide) ⟨⟨rfl, rfl⟩, rfl⟩ rfl rfl ?_
      refine zq_iload_n (q := 41) G dX4_currentColumn_40 1 rfl rfl rfl ?_
      obtain ⟨q12, h⟩ := zif h
      refine zq_iald (q := 42) G dX4_currentColumn_41 9 rfl q12 rfl ?_
      refine zq_ws (congrArg (fun w9 => (w_M cyI cyZ h0_0 h0_1 h0_2 h0_3 h0_4 h0_5 h0_6 h0_7 h0_8 h0_9 h0_10 h0_11 w9.2)) (zsome h)) ?_
      exact zq_iret G hlocks hr rfl dX4_currentColumn_42 (congrArg Prod.fst (zsome h))
    · have h := zie h c11
      refine zq_iconst (q := 33) (v := 0) G dX4_currentColumn_32 (by decide) rfl ?_
      refine zq_goto (q := 42) G dX4_currentColumn_33 (by decide) ?_
      refine zq_ws (congrArg (fun w9 => (w_M cyI cyZ h0_0 h0_1 h0_2 h0_3 h0_4 h0_5 h0_6 h0_7 h0_8 h0_9 h0_10 h0_11 w9.2)) (zsome h)) ?_
      exact zq_iret G hlocks hr rfl dX4_currentColumn_42 (congrArg Prod.fst (zsome h))
set_option maxHeartbeats 4000000 in
set_option maxRecDepth 100000 in
theorem c_X4_stepsMade (l : Launch) (D : va_G) (cyI cyZ : ClassId) (h0_0 h0_1 h0_2 h0_3 h0_4 h0_5 h0_6 h0_7 h0_8 h0_9 h0_10 h0_11 : Nat) (σ0 : zM) (r : Int32) (h : s_X4_stepsMade σ0 = some r) (sz : Nat) : zMi l yX4_stepsMade cX4_stepsMade 1 .int 0 0 D cyI cyZ sz [.ref h0_0] (w_M cyI cyZ h0_0 h0_1 h0_2 h0_3 h0_4 h0_5 h0_6 h0_7 h0_8 h0_9 h0_10 h0_11 σ0) r (w_M cyI cyZ h0_0 h0_1 h0_2 h0_3 h0_4 h0_5 h0_6 h0_7 h0_8 h0_9 h0_10 h0_11 σ0) := by
  unfold s_X4_stepsMade at h
  refine zstartI (lv0 := [(0, .ref h0_0)]) (by decide) (Nat.le_of_ble_eq_true rfl) rfl (fun p e s m args below meth c G hr hlocks => ?_)
  refine zq_aload_n (q := 1) G dX4_stepsMade_0 0 rfl rfl rfl ?_
  refine zq_get (q := 4) G zu_X4 rfl zw_X4_f48 dX4_stepsMade_1 0 18 rfl (by decide) ⟨⟨rfl, rfl⟩, rfl⟩ rfl rfl ?_
  exact zq_iret G hlocks hr rfl dX4_stepsMade_4 (zsome h)
set_option maxHeartbeats 4000000 in
set_option maxRecDepth 100000 in
theorem c_X4_checksum (l : Launch) (D : va_G) (cyI cyZ : ClassId) (h0_0 h0_1 h0_2 h0_3 h0_4 h0_5 h0_6 h0_7 h0_8 h0_9 h0_10 h0_11 : Nat) (σ0 : zM) (r : Int64) (o0 : zM) (h : s_X4_checksum σ0 = some (r, o0)) (sz : Nat) : zMl l yX4_checksum cX4_checksum 5 .long 15 302 D cyI cyZ sz [.ref h0_0] (w_M cyI cyZ h0_0 h0_1 h0_2 h0_3 h0_4 h0_5 h0_6 h0_7 h0_8 h0_9 h0_10 h0_11 σ0) r (w_M cyI cyZ h0_0 h0_1 h0_2 h0_3 h0_4 h0_5 h0_6 h0_7 h0_8 h0_9 h0_10 h0_11 o0) := by
  unfold s_X4_checksum at h
  refine zstartL (lv0 := [(0, .ref h0_0)]) (by decide) (Nat.le_of_ble_eq_true rfl) rfl (fun p e s m args below meth c G hr hlocks => ?_)
  have b184 : ∀ (k173 : (zM → Int64 → Int32 → Option (Int64 × zM))) (hk173 : ∀ (τ0 : zM) (x1 : Int64) (x3 : Int32), k173 τ0 x1 x3 = some (r, o0) → zW p l e ({ frames := 15, cells := 0, slots := 0, locals := 302 } : Room) s m args below meth c D (va_A (w_M cyI cyZ h0_0 h0_1 h0_2 h0_3 h0_4 h0_5 h0_6 h0_7 h0_8 h0_9 h0_10 h0_11 σ0) sz) 5 0 0 (MQ below (zQl D cyI cyZ sz (w_M cyI cyZ h0_0 h0_1 h0_2 h0_3 h0_4 h0_5 h0_6 h0_7 h0_8 h0_9 h0_10 h0_11 σ0) r (w_M cyI cyZ h0_0 h0_1 h0_2 h0_3 h0_4 h0_5 h0_6 h0_7 h0_8 h0_9 h0_10 h0_11 o0)) args s 0 0 (va_A (w_M cyI cyZ h0_0 h0_1 h0_2 h0_3 h0_4 h0_5 h0_6 h0_7 h0_8 h0_9 h0_10 h0_11 σ0) sz)) 173 [(0, .ref h0_0), (1, .long x1), (3, .int x3)] [] (w_M cyI cyZ h0_0 h0_1 h0_2 h0_3 h0_4 h0_5 h0_6 h0_7 h0_8 h0_9 h0_10 h0_11 τ0)) (n : Nat) (τ0 : zM) (x1 : Int64) (x3 : Int32) (x4 : Int32), s_X4_checksum_184 k173 n τ0 x1 x3 x4 = some (r, o0) → zW p l e ({ frames := 15, cells := 0, slots := 0, locals := 302 } : Room) s m args below meth c D (va_A (w_M cyI cyZ h0_0 h0_1 h0_2 h0_3 h0_4 h0_5 h0_6 h0_7 h0_8 h0_9 h0_10 h0_11 σ0) sz) 5 0 0 (MQ below (zQl D cyI cyZ sz (w_M cyI cyZ h0_0 h0_1 h0_2 h0_3 h0_4 h0_5 h0_6 h0_7 h0_8 h0_9 h0_10 h0_11 σ0) r (w_M cyI cyZ h0_0 h0_1 h0_2 h0_3 h0_4 h0_5 h0_6 h0_7 h0_8 h0_9 h0_10 h0_11 o0)) args s 0 0 (va_A (w_M cyI cyZ h0_0 h0_1 h0_2 h0_3 h0_4 h0_5 h0_6 h0_7 h0_8 h0_9 h0_10 h0_11 σ0) sz)) 184 [(0, .ref h0_0), (1, .long x1), (3, .int x3), (4, .int x4)] [] (w_M cyI cyZ h0_0 h0_1 h0_2 h0_3 h0_4 h0_5 h0_6 h0_7 h0_8 h0_9 h0_10 h0_11 τ0) := by
    intro k173 hk173
    intro n
    induction n with
    | zero => intro τ0 x1 x3 x4 h; rw [s_X4_checksum_184] at h; exact nomatch h
    | succ n ih =>
      intro τ0 x1 x3 x4 h
      rw [s_X4_checksum_184] at h
      refine zq_iload (q := 186) G dX4_checksum_184 3 rfl rfl ?_
      refine zq_aload_n (q := 187) G dX4_checksum_186 0 rfl rfl rfl ?_
      refine zq_get (q := 190) G zu_X4 rfl zw_X4_f16 dX4_checksum_187 0 2 rfl (by decide) ⟨⟨rfl, rfl⟩, rfl⟩ rfl rfl ?_
      refine zq_icmp_ge (tgt := 214) (q := 193) G dX4_checksum_190 (by decide) rfl (fun c1 => ?_) (fun c1 => ?_)
      · have h := zit h c1
        refine zq_iinc (q := 217) (v := (x3 + 1)) (lv2 := [(3, .int (x3 + 1)), (0, .ref h0_0), (1, .long x1), (4, .int x4)]) G dX4_checksum_214 2 rfl rfl (by decide) rfl rfl ?_
        refine zq_goto (q := 173) G dX4_checksum_217 (by decide) ?_
        exact zq_sub _ [1, 2, 0] rfl (hk173 _ _ _ h)
      · have h := zie h c1
        refine zq_ldc2 (q := 196) G zw_X4_c180 dX4_checksum_193 rfl ?_
        refine zq_lload_n (q := 197) G dX4_checksum_196 1 rfl rfl rfl ?_
        refine zq_lmul (q := 198) G dX4_checksum_197 rfl ?_
        refine zq_aload_n (q := 199) G dX4_checksum_198 0 rfl rfl rfl ?_
        refine zq_iload_n (q := 200) G dX4_checksum_199 2 rfl rfl rfl ?_
        refine zq_iload (q := 202) G dX4_checksum_200 3 rfl rfl ?_
        obtain ⟨z2, hc2, h⟩ := zbd h
        refine zq_callVi (q := 205) (ws2 := (w_M cyI cyZ h0_0 h0_1 h0_2 h0_3 h0_4 h0_5 h0_6 h0_7 h0_8 h0_9 h0_10 h0_11 τ0)) (isC := [0, 1, 2, 3, 4, 5, 6, 7, 8, 9, 10, 11]) (isR := []) (perm := [0, 1, 2, 3, 4, 5, 6, 7, 8, 9, 10, 11]) (rest := [.long ((31 : Int64) * x1)]) (As := [.int x3, .int x4]) G zs_X4_156 dX4_checksum_202 (fun sz9 => c_X4_savedCost l D cyI cyZ h0_0 h0_1 h0_2 h0_3 h0_4 h0_5 h0_6 h0_7 h0_8 h0_9 h0_10 h0_11 τ0 x3 x4 z2 hc2 sz9) 0 rfl rfl rfl ⟨rfl, rfl, rfl, rfl⟩ rfl (Nat.le_of_ble_eq_true rfl) ⟨Nat.le_of_ble_eq_true rfl, Nat.le_of_ble_eq_true rfl, Nat.zero_le _, Nat.zero_le _⟩ rfl ?_
        refine zq_i2l (q := 206) G dX4_checksum_205 rfl ?_
        refine zq_ladd (q := 207) G dX4_checksum_206 rfl ?_
        refine zq_lstore_n (q := 208) (lv2 := [(1, .long (((31 : Int64) * x1) + z2.toInt64)), (0, .ref h0_0), (3, .int x3), (4, .int x4)]) G dX4_checksum_207 rfl (by decide) rfl rfl ?_
        refine zq_iinc (q := 211) (v := (x4 + 1)) (lv2 := [(4, .int (x4 + 1)), (1, .long (((31 : Int64) * x1) + z2.toInt64)), (0, .ref h0_0), (3, .int x3)]) G dX4_checksum_208 3 rfl rfl (by decide) rfl rfl ?_
        refine zq_goto (q := 184) G dX4_checksum_211 (by decide) ?_
        exact zq_sub _ [2, 1, 3, 0] rfl (ih _ _ _ _ h)
  have b173 : ∀ (n : Nat) (τ0 : zM) (x1 : Int64) (x3 : Int32), s_X4_checksum_173 n τ0 x1 x3 = some (r, o0) → zW p l e ({ frames := 15, cells := 0, slots := 0, locals := 302 } : Room) s m args below meth c D (va_A (w_M cyI cyZ h0_0 h0_1 h0_2 h0_3 h0_4 h0_5 h0_6 h0_7 h0_8 h0_9 h0_10 h0_11 σ0) sz) 5 0 0 (MQ below (zQl D cyI cyZ sz (w_M cyI cyZ h0_0 h0_1 h0_2 h0_3 h0_4 h0_5 h0_6 h0_7 h0_8 h0_9 h0_10 h0_11 σ0) r (w_M cyI cyZ h0_0 h0_1 h0_2 h0_3 h0_4 h0_5 h0_6 h0_7 h0_8 h0_9 h0_10 h0_11 o0)) args s 0 0 (va_A (w_M cyI cyZ h0_0 h0_1 h0_2 h0_3 h0_4 h0_5 h0_6 h0_7 h0_8 h0_9 h0_10 h0_11 σ0) sz)) 173 [(0, .ref h0_0), (1, .long x1), (3, .int x3)] [] (w_M cyI cyZ h0_0 h0_1 h0_2 h0_3 h0_4 h0_5 h0_6 h0_7 h0_8 h0_9 h0_10 h0_11 τ0) := by
    intro n
    induction n with
    | zero => intro τ0 x1 x3 h; rw [s_X4_checksum_173] at h; exact nomatch h
    | succ n ih =>
      intro τ0 x1 x3 h
      rw [s_X4_checksum_173] at h
      refine zq_iload_n (q := 174) G dX4_checksum_173 2 rfl rfl rfl ?_
      refine zq_aload_n (q := 175) G dX4_checksum_174 0 rfl rfl rfl ?_
      refine zq_get (q := 178) G zu_X4 rfl zw_X4_f16 dX4_checksum_175 0 2 rfl (by decide) ⟨⟨rfl, rfl⟩, rfl⟩ rfl rfl ?_
      refine zq_icmp_ge (tgt := 220) (q := 181) G dX4_checksum_178 (by decide) rfl (fun c1 => ?_) (fun c1 => ?_)
      · have h := zit h c1
        refine zq_lload_n (q := 221) G dX4_checksum_220 1 rfl rfl rfl ?_
        refine zq_ws (congrArg (fun w9 => (w_M cyI cyZ h0_0 h0_1 h0_2 h0_3 h0_4 h0_5 h0_6 h0_7 h0_8 h0_9 h0_10 h0_11 w9.2)) (zsome h)) ?_
        exact zq_lret G hlocks hr dX4_checksum_221 (congrArg Prod.fst (zsome h))
      · have h := zie h c1
        refine zq_iconst (q := 182) (v := 0) G dX4_checksum_181 (by decide) rfl ?_
        refine zq_istore (q := 184) (lv2 := [(4, .int (0 : Int32)), (0, .ref h0_0), (1, .long x1), (3, .int x3)]) G dX4_checksum_182 (by decide) rfl rfl ?_
        exact zq_sub _ [1, 2, 3, 0] rfl (b184 _ ih _ _ _ _ _ h)
  have b121 : ∀ (n : Nat) (τ0 : zM) (x1 : Int64) (x3 : Int32), s_X4_checksum_121 n τ0 x1 x3 = some (r, o0) → zW p l e ({ frames := 15, cells := 0, slots := 0, locals := 302 } : Room) s m args below meth c D (va_A (w_M cyI cyZ h0_0 h0_1 h0_2 h0_3 h0_4 h0_5 h0_6 h0_7 h0_8 h0_9 h0_10 h0_11 σ0) sz) 5 0 0 (MQ below (zQl D cyI cyZ sz (w_M cyI cyZ h0_0 h0_1 h0_2 h0_3 h0_4 h0_5 h0_6 h0_7 h0_8 h0_9 h0_10 h0_11 σ0) r (w_M cyI cyZ h0_0 h0_1 h0_2 h0_3 h0_4 h0_5 h0_6 h0_7 h0_8 h0_9 h0_10 h0_11 o0)) args s 0 0 (va_A (w_M cyI cyZ h0_0 h0_1 h0_2 h0_3 h0_4 h0_5 h0_6 h0_7 h0_8 h0_9 h0_10 h0_11 σ0) sz)) 121 [(0, .ref h0_0), (1, .long x1), (3, .int x3)] [] (w_M cyI cyZ h0_0 h0_1 h0_2 h0_3 h0_4 h0_5 h0_6 h0_7 h0_8 h0_9 h0_10 h0_11 τ0) := by
    intro n
    induction n with
    | zero => intro τ0 x1 x3 h; rw [s_X4_checksum_121] at h; exact nomatch h
    | succ n ih =>
      intro τ0 x1 x3 h
      rw [s_X4_checksum_121] at h
      refine zq_iload_n (q := 122) G dX4_checksum_121 2 rfl rfl rfl ?_
      refine zq_aload_n (q := 123) G dX4_checksum_122 0 rfl rfl rfl ?_
      refine zq_get (q := 126) G zu_X4 rfl zw_X4_f7 dX4_checksum_123 0 0 rfl (by decide) ⟨⟨rfl, rfl⟩, rfl⟩ rfl rfl ?_
      refine zq_icmp_ge (tgt := 149) (q := 129) G dX4_checksum_126 (by decide) rfl (fun c1 => ?_) (fun c1 => ?_)
      · have h := zit h c1
        refine zq_ldc2 (q := 152) G zw_X4_c180 dX4_checksum_149 rfl ?_
        refine zq_ldc2 (q := 155) G zw_X4_c180 dX4_checksum_152 rfl ?_
        refine zq_lload_n (q := 156) G dX4_checksum_155 1 rfl rfl rfl ?_
        refine zq_lmul (q := 157) G dX4_checksum_156 rfl ?_
        refine zq_aload_n (q := 158) G dX4_checksum_157 0 rfl rfl rfl ?_
        refine zq_get (q := 161) G zu_X4 rfl zw_X4_f16 dX4_checksum_158 0 2 rfl (by decide) ⟨⟨rfl, rfl⟩, rfl⟩ rfl rfl ?_
        refine zq_i2l (q := 162) G dX4_checksum_161 rfl ?_
        refine zq_ladd (q := 163) G dX4_checksum_162 rfl ?_
        refine zq_lmul (q := 164) G dX4_checksum_163 rfl ?_
        refine zq_aload_n (q := 165) G dX4_checksum_164 0 rfl rfl rfl ?_
        refine zq_get (q := 168) G zu_X4 rfl zw_X4_f19 dX4_checksum_165 0 3 rfl (by decide) ⟨⟨rfl, rfl⟩, rfl⟩ rfl rfl ?_
        refine zq_i2l (q := 169) G dX4_checksum_168 rfl ?_
        refine zq_ladd (q := 170) G dX4_checksum_169 rfl ?_
        refine zq_lstore_n (q := 171) (lv2 := [(1, .long (((31 : Int64) * (((31 : Int64) * x1) + τ0.2.1.1.toInt64)) + τ0.2.1.2.1.toInt64)), (0, .ref h0_0), (3, .int x3)]) G dX4_checksum_170 rfl (by decide) rfl rfl ?_
        refine zq_iconst (q := 172) (v := 0) G dX4_checksum_171 (by decide) rfl ?_
        refine zq_istore_n (q := 173) (lv2 := [(3, .int (0 : Int32)), (1, .long (((31 : Int64) * (((31 : Int64) * x1) + τ0.2.1.1.toInt64)) + τ0.2.1.2.1.toInt64)), (0, .ref h0_0)]) G dX4_checksum_172 rfl (by decide) rfl rfl ?_
        exact zq_sub _ [2, 1, 0] rfl (b173  _ _ _ _ h)
      · have h := zie h c1
        refine zq_ldc2 (q := 132) G zw_X4_c180 dX4_checksum_129 rfl ?_
        refine zq_lload_n (q := 133) G dX4_checksum_132 1 rfl rfl rfl ?_
        refine zq_lmul (q := 134) G dX4_checksum_133 rfl ?_
        refine zq_aload_n (q := 135) G dX4_checksum_134 0 rfl rfl rfl ?_
        refine zq_get (q := 138) G zu_X4 rfl zw_X4_f45 dX4_checksum_135 0 12 rfl (by decide) ⟨⟨rfl, rfl⟩, rfl⟩ rfl rfl ?_
        refine zq_iload_n (q := 139) G dX4_checksum_138 2 rfl rfl rfl ?_
        obtain ⟨q2, h⟩ := zif h
        refine zq_iald (q := 140) G dX4_checksum_139 8 rfl q2 rfl ?_
        refine zq_i2l (q := 141) G dX4_checksum_140 rfl ?_
        refine zq_ladd (q := 142) G dX4_checksum_141 rfl ?_
        refine zq_lstore_n (q := 143) (lv2 := [(1, .long (((31 : Int64) * x1) + ((τ0.2.2.1.2.2.2.1 x3.toNatClampNeg).toInt64))), (0, .ref h0_0), (3, .int x3)]) G dX4_checksum_142 rfl (by decide) rfl rfl ?_
        refine zq_iinc (q := 146) (v := (x3 + 1)) (lv2 := [(3, .int (x3 + 1)), (1, .long (((31 : Int64) * x1) + ((τ0.2.2.1.2.2.2.1 x3.toNatClampNeg).toInt64))), (0, .ref h0_0)]) G dX4_checksum_143 2 rfl rfl (by decide) rfl rfl ?_
        refine zq_goto (q := 121) G dX4_checksum_146 (by decide) ?_
        exact zq_sub _ [2, 1, 0] rfl (ih _ _ _ h)
  have b71 : ∀ (k60 : (zM → Int64 → Int32 → Option (Int64 × zM))) (hk60 : ∀ (τ0 : zM) (x1 : Int64) (x3 : Int32), k60 τ0 x1 x3 = some (r, o0) → zW p l e ({ frames := 15, cells := 0, slots := 0, locals := 302 } : Room) s m args below meth c D (va_A (w_M cyI cyZ h0_0 h0_1 h0_2 h0_3 h0_4 h0_5 h0_6 h0_7 h0_8 h0_9 h0_10 h0_11 σ0) sz) 5 0 0 (MQ below (zQl D cyI cyZ sz (w_M cyI cyZ h0_0 h0_1 h0_2 h0_3 h0_4 h0_5 h0_6 h0_7 h0_8 h0_9 h0_10 h0_11 σ0) r (w_M cyI cyZ h0_0 h0_1 h0_2 h0_3 h0_4 h0_5 h0_6 h0_7 h0_8 h0_9 h0_10 h0_11 o0)) args s 0 0 (va_A (w_M cyI cyZ h0_0 h0_1 h0_2 h0_3 h0_4 h0_5 h0_6 h0_7 h0_8 h0_9 h0_10 h0_11 σ0) sz)) 60 [(0, .ref h0_0), (1, .long x1), (3, .int x3)] [] (w_M cyI cyZ h0_0 h0_1 h0_2 h0_3 h0_4 h0_5 h0_6 h0_7 h0_8 h0_9 h0_10 h0_11 τ0)) (n : Nat) (τ0 : zM) (x1 : Int64) (x3 : Int32) (x4 : Int32), s_X4_checksum_71 k60 n τ0 x1 x3 x4 = some (r, o0) → zW p l e ({ frames := 15, cells := 0, slots := 0, locals := 302 } : Room) s m args below meth c D (va_A (w_M cyI cyZ h0_0 h0_1 h0_2 h0_3 h0_4 h0_5 h0_6 h0_7 h0_8 h0_9 h0_10 h0_11 σ0) sz) 5 0 0 (MQ below (zQl D cyI cyZ sz (w_M cyI cyZ h0_0 h0_1 h0_2 h0_3 h0_4 h0_5 h0_6 h0_7 h0_8 h0_9 h0_10 h0_11 σ0) r (w_M cyI cyZ h0_0 h0_1 h0_2 h0_3 h0_4 h0_5 h0_6 h0_7 h0_8 h0_9 h0_10 h0_11 o0)) args s 0 0 (va_A (w_M cyI cyZ h0_0 h0_1 h0_2 h0_3 h0_4 h0_5 h0_6 h0_7 h0_8 h0_9 h0_10 h0_11 σ0) sz)) 71 [(0, .ref h0_0), (1, .long x1), (3, .int x3), (4, .int x4)] [] (w_M cyI cyZ h0_0 h0_1 h0_2 h0_3 h0_4 h0_5 h0_6 h0_7 h0_8 h0_9 h0_10 h0_11 τ0) := by
    intro k60 hk60
    intro n
    induction n with
    | zero => intro τ0 x1 x3 x4 h; rw [s_X4_checksum_71] at h; exact nomatch h
    | succ n ih =>
      intro τ0 x1 x3 x4 h
      rw [s_X4_checksum_71] at h
      refine zq_iload (q := 73) G dX4_checksum_71 3 rfl rfl ?_
      refine zq_aload_n (q := 74) G dX4_checksum_73 0 rfl rfl rfl ?_
      refine zq_get (q := 77) G zu_X4 rfl zw_X4_f7 dX4_checksum_74 0 0 rfl (by decide) ⟨⟨rfl, rfl⟩, rfl⟩ rfl rfl ?_
      refine zq_icmp_ge (tgt := 101) (q := 80) G dX4_checksum_77 (by decide) rfl (fun c1 => ?_) (fun c1 => ?_)
      · have h := zit h c1
        refine zq_iinc (q := 104) (v := (x3 + 1)) (lv2 := [(3, .int (x3 + 1)), (0, .ref h0_0), (1, .long x1), (4, .int x4)]) G dX4_checksum_101 2 rfl rfl (by decide) rfl rfl ?_
        refine zq_goto (q := 60) G dX4_checksum_104 (by decide) ?_
        exact zq_sub _ [1, 2, 0] rfl (hk60 _ _ _ h)
      · have h := zie h c1
        refine zq_ldc2 (q := 83) G zw_X4_c180 dX4_checksum_80 rfl ?_
        refine zq_lload_n (q := 84) G dX4_checksum_83 1 rfl rfl rfl ?_
        refine zq_lmul (q := 85) G dX4_checksum_84 rfl ?_
        refine zq_aload_n (q := 86) G dX4_checksum_85 0 rfl rfl rfl ?_
        refine zq_iload_n (q := 87) G dX4_checksum_86 2 rfl rfl rfl ?_
        refine zq_iload (q := 89) G dX4_checksum_87 3 rfl rfl ?_
        obtain ⟨z2, hc2, h⟩ := zbd h
        refine zq_callVi (q := 92) (ws2 := (w_M cyI cyZ h0_0 h0_1 h0_2 h0_3 h0_4 h0_5 h0_6 h0_7 h0_8 h0_9 h0_10 h0_11 τ0)) (isC := [0, 1, 2, 3, 4, 5, 6, 7, 8, 9, 10, 11]) (isR := []) (perm := [0, 1, 2, 3, 4, 5, 6, 7, 8, 9, 10, 11]) (rest := [.long ((31 : Int64) * x1)]) (As := [.int x3, .int x4]) G zs_X4_75 dX4_checksum_89 (fun sz9 => c_X4_cost l D cyI cyZ h0_0 h0_1 h0_2 h0_3 h0_4 h0_5 h0_6 h0_7 h0_8 h0_9 h0_10 h0_11 τ0 x3 x4 z2 hc2 sz9) 0 rfl rfl rfl ⟨rfl, rfl, rfl, rfl⟩ rfl (Nat.le_of_ble_eq_true rfl) ⟨Nat.le_of_ble_eq_true rfl, Nat.le_of_ble_eq_true rfl, Nat.zero_le _, Nat.zero_le _⟩ rfl ?_
        refine zq_i2l (q := 93) G dX4_checksum_92 rfl ?_
        refine zq_ladd (q := 94) G dX4_checksum_93 rfl ?_
        refine zq_lstore_n (q := 95) (lv2 := [(1, .long (((31 : Int64) * x1) + z2.toInt64)), (0, .ref h0_0), (3, .int x3), (4, .int x4)]) G dX4_checksum_94 rfl (by decide) rfl rfl ?_
        refine zq_iinc (q := 98) (v := (x4 + 1)) (lv2 := [(4, .int (x4 + 1)), (1, .long (((31 : Int64) * x1) + z2.toInt64)), (0, .ref h0_0), (3, .int x3)]) G dX4_checksum_95 3 rfl rfl (by decide) rfl rfl ?_
        refine zq_goto (q := 71) G dX4_checksum_98 (by decide) ?_
        exact zq_sub _ [2, 1, 3, 0] rfl (ih _ _ _ _ h)
  have b60 : ∀ (n : Nat) (τ0 : zM) (x1 : Int64) (x3 : Int32), s_X4_checksum_60 n τ0 x1 x3 = some (r, o0) → zW p l e ({ frames := 15, cells := 0, slots := 0, locals := 302 } : Room) s m args below meth c D (va_A (w_M cyI cyZ h0_0 h0_1 h0_2 h0_3 h0_4 h0_5 h0_6 h0_7 h0_8 h0_9 h0_10 h0_11 σ0) sz) 5 0 0 (MQ below (zQl D cyI cyZ sz (w_M cyI cyZ h0_0 h0_1 h0_2 h0_3 h0_4 h0_5 h0_6 h0_7 h0_8 h0_9 h0_10 h0_11 σ0) r (w_M cyI cyZ h0_0 h0_1 h0_2 h0_3 h0_4 h0_5 h0_6 h0_7 h0_8 h0_9 h0_10 h0_11 o0)) args s 0 0 (va_A (w_M cyI cyZ h0_0 h0_1 h0_2 h0_3 h0_4 h0_5 h0_6 h0_7 h0_8 h0_9 h0_10 h0_11 σ0) sz)) 60 [(0, .ref h0_0), (1, .long x1), (3, .int x3)] [] (w_M cyI cyZ h0_0 h0_1 h0_2 h0_3 h0_4 h0_5 h0_6 h0_7 h0_8 h0_9 h0_10 h0_11 τ0) := by
    intro n
    induction n with
    | zero => intro τ0 x1 x3 h; rw [s_X4_checksum_60] at h; exact nomatch h
    | succ n ih =>
      intro τ0 x1 x3 h
      rw [s_X4_checksum_60] at h
      refine zq_iload_n (q := 61) G dX4_checksum_60 2 rfl rfl rfl ?_
      refine zq_aload_n (q := 62) G dX4_checksum_61 0 rfl rfl rfl ?_
      refine zq_get (q := 65) G zu_X4 rfl zw_X4_f7 dX4_checksum_62 0 0 rfl (by decide) ⟨⟨rfl, rfl⟩, rfl⟩ rfl rfl ?_
      refine zq_icmp_ge (tgt := 107) (q := 68) G dX4_checksum_65 (by decide) rfl (fun c1 => ?_) (fun c1 => ?_)
      · have h := zit h c1
        refine zq_ldc2 (q := 110) G zw_X4_c180 dX4_checksum_107 rfl ?_
        refine zq_lload_n (q := 111) G dX4_checksum_110 1 rfl rfl rfl ?_
        refine zq_lmul (q := 112) G dX4_checksum_111 rfl ?_
        refine zq_aload_n (q := 113) G dX4_checksum_112 0 rfl rfl rfl ?_
        refine zq_get (q := 116) G zu_X4 rfl zw_X4_f80 dX4_checksum_113 0 13 rfl (by decide) ⟨⟨rfl, rfl⟩, rfl⟩ rfl rfl ?_
        refine zq_i2l (q := 117) G dX4_checksum_116 rfl ?_
        refine zq_ladd (q := 118) G dX4_checksum_117 rfl ?_
        refine zq_lstore_n (q := 119) (lv2 := [(1, .long (((31 : Int64) * x1) + τ0.2.2.1.2.2.2.2.1.toInt64)), (0, .ref h0_0), (3, .int x3)]) G dX4_checksum_118 rfl (by decide) rfl rfl ?_
        refine zq_iconst (q := 120) (v := 0) G dX4_checksum_119 (by decide) rfl ?_
        refine zq_istore_n (q := 121) (lv2 := [(3, .int (0 : Int32)), (1, .long (((31 : Int64) * x1) + τ0.2.2.1.2.2.2.2.1.toInt64)), (0, .ref h0_0)]) G dX4_checksum_120 rfl (by decide) rfl rfl ?_
        exact zq_sub _ [2, 1, 0] rfl (b121  _ _ _ _ h)
      · have h := zie h c1
        refine zq_iconst (q := 69) (v := 0) G dX4_checksum_68 (by decide) rfl ?_
        refine zq_istore (q := 71) (lv2 := [(4, .int (0 : Int32)), (0, .ref h0_0), (1, .long x1), (3, .int x3)]) G dX4_checksum_69 (by decide) rfl rfl ?_
        exact zq_sub _ [1, 2, 3, 0] rfl (b71 _ ih _ _ _ _ _ h)
  refine zq_aload_n (q := 1) G dX4_checksum_0 0 rfl rfl rfl ?_
  obtain ⟨z1, hc1, h⟩ := zbd h
  refine zq_callVv (q := 4) (ws2 := (w_M cyI cyZ h0_0 h0_1 h0_2 h0_3 h0_4 h0_5 h0_6 h0_7 h0_8 h0_9 h0_10 h0_11 z1)) (isC := [0, 1, 2, 3, 4, 5, 6, 7, 8, 9, 10, 11]) (isR := []) (perm := [0, 1, 2, 3, 4, 5, 6, 7, 8, 9, 10, 11]) (rest := []) (As := []) G zs_X4_114 dX4_checksum_1 (fun sz9 => c_X4_look_ l D cyI cyZ h0_0 h0_1 h0_2 h0_3 h0_4 h0_5 h0_6 h0_7 h0_8 h0_9 h0_10 h0_11 σ0 z1 hc1 sz9) 0 rfl rfl rfl ⟨rfl, rfl, rfl, rfl⟩ rfl (Nat.le_of_ble_eq_true rfl) ⟨Nat.le_of_ble_eq_true rfl, Nat.le_of_ble_eq_true rfl, Nat.zero_le _, Nat.zero_le _⟩ rfl ?_
  refine zq_ldc2 (q := 7) G zw_X4_c178 dX4_checksum_4 rfl ?_
  refine zq_aload_n (q := 8) G dX4_checksum_7 0 rfl rfl rfl ?_
  refine zq_get (q := 11) G zu_X4 rfl zw_X4_f7 dX4_checksum_8 0 0 rfl (by decide) ⟨⟨rfl, rfl⟩, rfl⟩ rfl rfl ?_
  refine zq_i2l (q := 12) G dX4_checksum_11 rfl ?_
  refine zq_ladd (q := 13) G dX4_checksum_12 rfl ?_
  refine zq_lstore_n (q := 14) (lv2 := [(1, .long ((527 : Int64) + z1.1.1.toInt64)), (0, .ref h0_0)]) G dX4_checksum_13 rfl (by decide) rfl rfl ?_
  refine zq_ldc2 (q := 17) G zw_X4_c180 dX4_checksum_14 rfl ?_
  refine zq_ldc2 (q := 20) G zw_X4_c180 dX4_checksum_17 rfl ?_
  refine zq_lload_n (q := 21) G dX4_checksum_20 0 rfl rfl rfl ?_
  refine zq_lmul (q := 22) G dX4_checksum_21 rfl ?_
  refine zq_aload_n (q := 23) G dX4_checksum_22 1 rfl rfl rfl ?_
  refine zq_get (q := 26) G zu_X4 rfl zw_X4_f13 dX4_checksum_23 0 1 rfl (by decide) ⟨⟨rfl, rfl⟩, rfl⟩ rfl rfl ?_
  refine zq_i2l (q := 27) G dX4_checksum_26 rfl ?_
  refine zq_ladd (q := 28) G dX4_checksum_27 rfl ?_
  refine zq_lmul (q := 29) G dX4_checksum_28 rfl ?_
  refine zq_aload_n (q := 30) G dX4_checksum_29 1 rfl rfl rfl ?_
  obtain ⟨z2, hc2, h⟩ := zbd h
  refine zq_callVi (q := 33) (ws2 := (w_M cyI cyZ h0_0 h0_1 h0_2 h0_3 h0_4 h0_5 h0_6 h0_7 h0_8 h0_9 h0_10 h0_11 z1)) (isC := [0, 1, 2, 3, 4, 5, 6, 7, 8, 9, 10, 11]) (isR := []) (perm := [0, 1, 2, 3, 4, 5, 6, 7, 8, 9, 10, 11]) (rest := [.long ((31 : Int64) * (((31 : Int64) * ((527 : Int64) + z1.1.1.toInt64)) + z1.1.2.1.toInt64))]) (As := []) G zs_X4_134 dX4_checksum_30 (fun sz9 => c_X4_forbiddenMany l D cyI cyZ h0_0 h0_1 h0_2 h0_3 h0_4 h0_5 h0_6 h0_7 h0_8 h0_9 h0_10 h0_11 z1 z2 hc2 sz9) 0 rfl rfl rfl ⟨rfl, rfl, rfl, rfl⟩ rfl (Nat.le_of_ble_eq_true rfl) ⟨Nat.le_of_ble_eq_true rfl, Nat.le_of_ble_eq_true rfl, Nat.zero_le _, Nat.zero_le _⟩ rfl ?_
  refine zq_i2l (q := 34) G dX4_checksum_33 rfl ?_
  refine zq_ladd (q := 35) G dX4_checksum_34 rfl ?_
  refine zq_lstore_n (q := 36) (lv2 := [(1, .long (((31 : Int64) * (((31 : Int64) * ((527 : Int64) + z1.1.1.toInt64)) + z1.1.2.1.toInt64)) + z2.toInt64)), (0, .ref h0_0)]) G dX4_checksum_35 rfl (by decide) rfl rfl ?_
  refine zq_ldc2 (q := 39) G zw_X4_c180 dX4_checksum_36 rfl ?_
  refine zq_ldc2 (q := 42) G zw_X4_c180 dX4_checksum_39 rfl ?_
  refine zq_lload_n (q := 43) G dX4_checksum_42 0 rfl rfl rfl ?_
  refine zq_lmul (q := 44) G dX4_checksum_43 rfl ?_
  refine zq_aload_n (q := 45) G dX4_checksum_44 1 rfl rfl rfl ?_
  obtain ⟨z3, hc3, h⟩ := zbd h
  refine zq_callVi (q := 48) (ws2 := (w_M cyI cyZ h0_0 h0_1 h0_2 h0_3 h0_4 h0_5 h0_6 h0_7 h0_8 h0_9 h0_10 h0_11 z1)) (isC := [0, 1, 2, 3, 4, 5, 6, 7, 8, 9, 10, 11]) (isR := []) (perm := [0, 1, 2, 3, 4, 5, 6, 7, 8, 9, 10, 11]) (rest := [.long ((31 : Int64) * (((31 : Int64) * (((31 : Int64) * ((527 : Int64) + z1.1.1.toInt64)) + z1.1.2.1.toInt64)) + z2.toInt64)), .long (31 : Int64)]) (As := []) G zs_X4_153 dX4_checksum_45 (fun sz9 => c_X4_total l D cyI cyZ h0_0 h0_1 h0_2 h0_3 h0_4 h0_5 h0_6 h0_7 h0_8 h0_9 h0_10 h0_11 z1 z3 hc3 sz9) 0 rfl rfl rfl ⟨rfl, rfl, rfl, rfl⟩ rfl (Nat.le_of_ble_eq_true rfl) ⟨Nat.le_of_ble_eq_true rfl, Nat.le_of_ble_eq_true rfl, Nat.zero_le _, Nat.zero_le _⟩ rfl ?_
  refine zq_i2l (q := 49) G dX4_checksum_48 rfl ?_
  refine zq_ladd (q := 50) G dX4_checksum_49 rfl ?_
  refine zq_lmul (q := 51) G dX4_checksum_50 rfl ?_
  refine zq_aload_n (q := 52) G dX4_checksum_51 1 rfl rfl rfl ?_
  refine zq_get (q := 55) G zu_X4 rfl zw_X4_f48 dX4_checksum_52 0 18 rfl (by decide) ⟨⟨rfl, rfl⟩, rfl⟩ rfl rfl ?_
  refine zq_i2l (q := 56) G dX4_checksum_55 rfl ?_
  refine zq_ladd (q := 57) G dX4_checksum_56 rfl ?_
  refine zq_lstore_n (q := 58) (lv2 := [(1, .long (((31 : Int64) * (((31 : Int64) * (((31 : Int64) * (((31 : Int64) * ((527 : Int64) + z1.1.1.toInt64)) + z1.1.2.1.toInt64)) + z2.toInt64)) + z3.toInt64)) + z1.2.2.2.1.1.toInt64)), (0, .ref h0_0)]) G dX4_checksum_57 rfl (by decide) rfl rfl ?_
  refine zq_iconst (q := 59) (v := 0) G dX4_checksum_58 (by decide) rfl ?_
  refine zq_istore_n (q := 60) (lv2 := [(3, .int (0 : Int32)), (1, .long (((31 : Int64) * (((31 : Int64) * (((31 : Int64) * (((31 : Int64) * ((527 : Int64) + z1.1.1.toInt64)) + z1.1.2.1.toInt64)) + z2.toInt64)) + z3.toInt64)) + z1.2.2.2.1.1.toInt64)), (0, .ref h0_0)]) G dX4_checksum_59 rfl (by decide) rfl rfl ?_
  exact zq_sub _ [2, 1, 0] rfl (b60  _ _ _ _ h)
set_option maxHeartbeats 4000000 in
set_option maxRecDepth 100000 in
theorem c_X4_isSound (l : Launch) (D : va_G) (cyI cyZ : ClassId) (h0_0 h0_1 h0_2 h0_3 h0_4 h0_5 h0_6 h0_7 h0_8 h0_9 h0_10 h0_11 : Nat) (σ0 : zM) (r : Int32) (o0 : zM) (h : s_X4_isSound σ0 = some (r, o0)) (sz : Nat) : zMi l yX4_isSound cX4_isSound 5 .boolean 16 325 D cyI cyZ sz [.ref h0_0] (w_M cyI cyZ h0_0 h0_1 h0_2 h0_3 h0_4 h0_5 h0_6 h0_7 h0_8 h0_9 h0_10 h0_11 σ0) r (w_M cyI cyZ h0_0 h0_1 h0_2 h0_3 h0_4 h0_5 h0_6 h0_7 h0_8 h0_9 h0_10 h0_11 o0) := by
  unfold s_X4_isSound at h
  refine zstartI (lv0 := [(0, .ref h0_0)]) (by decide) (Nat.le_of_ble_eq_true rfl) rfl (fun p e s m args below meth c G hr hlocks => ?_)
  have b128 : ∀ (τ0 : zM) (x1 : Int32) (x2 : Int32) (y0 : Int32), s_X4_isSound_128 τ0 x1 x2 y0 = some (r, o0) → zW p l e ({ frames := 16, cells := 0, slots := 0, locals := 325 } : Room) s m args below meth c D (va_A (w_M cyI cyZ h0_0 h0_1 h0_2 h0_3 h0_4 h0_5 h0_6 h0_7 h0_8 h0_9 h0_10 h0_11 σ0) sz) 5 0 0 (MQ below (zQi D cyI cyZ sz (w_M cyI cyZ h0_0 h0_1 h0_2 h0_3 h0_4 h0_5 h0_6 h0_7 h0_8 h0_9 h0_10 h0_11 σ0) r (w_M cyI cyZ h0_0 h0_1 h0_2 h0_3 h0_4 h0_5 h0_6 h0_7 h0_8 h0_9 h0_10 h0_11 o0)) args s 0 0 (va_A (w_M cyI cyZ h0_0 h0_1 h0_2 h0_3 h0_4 h0_5 h0_6 h0_7 h0_8 h0_9 h0_10 h0_11 σ0) sz)) 128 [(0, .ref h0_0), (1, .int x1), (2, .int x2)] [.int y0] (w_M cyI cyZ h0_0 h0_1 h0_2 h0_3 h0_4 h0_5 h0_6 h0_7 h0_8 h0_9 h0_10 h0_11 τ0) := by
    intro τ0 x1 x2 y0 h
    unfold s_X4_isSound_128 at h
    refine zq_istore_n (q := 129) (lv2 := [(3, .int y0), (0, .ref h0_0), (1, .int x1), (2, .int x2)]) G dX4_isSound_128 rfl (by decide) rfl rfl ?_
    refine zq_iload_n (q := 130) G dX4_isSound_129 3 rfl rfl rfl ?_
    refine zq_if_eq (tgt := 184) (q := 133) G dX4_isSound_130 (by decide) rfl (fun c1 => ?_) (fun c1 => ?_)
    · have h := zit h c1
      refine zq_iconst (q := 185) (v := 0) G dX4_isSound_184 (by decide) rfl ?_
      refine zq_ws (congrArg (fun w9 => (w_M cyI cyZ h0_0 h0_1 h0_2 h0_3 h0_4 h0_5 h0_6 h0_7 h0_8 h0_9 h0_10 h0_11 w9.2)) (zsome h)) ?_
      exact zq_iret G hlocks hr rfl dX4_isSound_185 (congrArg Prod.fst (zsome h))
    · have h := zie h c1
      refine zq_iload_n (q := 134) G dX4_isSound_133 2 rfl rfl rfl ?_
      refine zq_aload_n (q := 135) G dX4_isSound_134 1 rfl rfl rfl ?_
      refine zq_get (q := 138) G zu_X4 rfl zw_X4_f80 dX4_isSound_135 0 13 rfl (by decide) ⟨⟨rfl, rfl⟩, rfl⟩ rfl rfl ?_
      refine zq_icmp_ne (tgt := 184) (q := 141) G dX4_isSound_138 (by decide) rfl (fun c2 => ?_) (fun c2 => ?_)
      · have h := zie h c2
        refine zq_iconst (q := 185) (v := 0) G dX4_isSound_184 (by decide) rfl ?_
        refine zq_ws (congrArg (fun w9 => (w_M cyI cyZ h0_0 h0_1 h0_2 h0_3 h0_4 h0_5 h0_6 h0_7 h0_8 h0_9 h0_10 h0_11 w9.2)) (zsome h)) ?_
        exact zq_iret G hlocks hr rfl dX4_isSound_185 (congrArg Prod.fst (zsome h))
      · have h := zit h c2
        refine zq_iload_n (q := 142) G dX4_isSound_141 0 rfl rfl rfl ?_
        refine zq_aload_n (q := 143) G dX4_isSound_142 1 rfl rfl rfl ?_
        refine zq_get (q := 146) G zu_X4 rfl zw_X4_f80 dX4_isSound_143 0 13 rfl (by decide) ⟨⟨rfl, rfl⟩, rfl⟩ rfl rfl ?_
        refine zq_icmp_ne (tgt := 184) (q := 149) G dX4_isSound_146 (by decide) rfl (fun c3 => ?_) (fun c3 => ?_)
        · have h := zie h c3
          refine zq_iconst (q := 185) (v := 0) G dX4_isSound_184 (by decide) rfl ?_
          refine zq_ws (congrArg (fun w9 => (w_M cyI cyZ h0_0 h0_1 h0_2 h0_3 h0_4 h0_5 h0_6 h0_7 h0_8 h0_9 h0_10 h0_11 w9.2)) (zsome h)) ?_
          exact zq_iret G hlocks hr rfl dX4_isSound_185 (congrArg Prod.fst (zsome h))
        · have h := zit h c3
          refine zq_aload_n (q := 150) G dX4_isSound_149 1 rfl rfl rfl ?_
          refine zq_aload_n (q := 151) G dX4_isSound_150 1 rfl rfl rfl ?_
          refine zq_get (q := 154) G zu_X4 rfl zw_X4_f92 dX4_isSound_151 0 17 rfl (by decide) ⟨⟨rfl, rfl⟩, rfl⟩ rfl rfl ?_
          obtain ⟨z4, hc4, h⟩ := zbd h
          refine zq_callVi (q := 157) (ws2 := (w_M cyI cyZ h0_0 h0_1 h0_2 h0_3 h0_4 h0_5 h0_6 h0_7 h0_8 h0_9 h0_10 h0_11 z4.2)) (isC := [0, 1, 2, 3, 4, 5, 6, 7, 8, 9, 10, 11]) (isR := []) (perm := [0, 1, 2, 3, 4, 5, 6, 7, 8, 9, 10, 11]) (rest := []) (As := [.int τ0.2.2.1.2.2.2.2.2.2.2.2.1]) G zs_X4_182 dX4_isSound_154 (fun sz9 => c_X4_fits l D cyI cyZ h0_0 h0_1 h0_2 h0_3 h0_4 h0_5 h0_6 h0_7 h0_8 h0_9 h0_10 h0_11 τ0 τ0.2.2.1.2.2.2.2.2.2.2.2.1 z4.1 z4.2 hc4 sz9) 0 rfl rfl rfl ⟨rfl, rfl, rfl, rfl⟩ rfl (Nat.le_of_ble_eq_true rfl) ⟨Nat.le_of_ble_eq_true rfl, Nat.le_of_ble_eq_true rfl, Nat.zero_le _, Nat.zero_le _⟩ rfl ?_
          refine zq_if_eq (tgt := 184) (q := 160) G dX4_isSound_157 (by decide) rfl (fun c5 => ?_) (fun c5 => ?_)
          · have h := zit h c5
            refine zq_iconst (q := 185) (v := 0) G dX4_isSound_184 (by decide) rfl ?_
            refine zq_ws (congrArg (fun w9 => (w_M cyI cyZ h0_0 h0_1 h0_2 h0_3 h0_4 h0_5 h0_6 h0_7 h0_8 h0_9 h0_10 h0_11 w9.2)) (zsome h)) ?_
            exact zq_iret G hlocks hr rfl dX4_isSound_185 (congrArg Prod.fst (zsome h))
          · have h := zie h c5
            refine zq_aload_n (q := 161) G dX4_isSound_160 1 rfl rfl rfl ?_
            refine zq_get (q := 164) G zu_X4 rfl zw_X4_f92 dX4_isSound_161 0 17 rfl (by decide) ⟨⟨rfl, rfl⟩, rfl⟩ rfl rfl ?_
            refine zq_if_eq (tgt := 180) (q := 167) G dX4_isSound_164 (by decide) rfl (fun c6 => ?_) (fun c6 => ?_)
            · have h := zit h c6
              refine zq_iconst (q := 181) (v := 1) G dX4_isSound_180 (by decide) rfl ?_
              refine zq_goto (q := 185) G dX4_isSound_181 (by decide) ?_
              refine zq_ws (congrArg (fun w9 => (w_M cyI cyZ h0_0 h0_1 h0_2 h0_3 h0_4 h0_5 h0_6 h0_7 h0_8 h0_9 h0_10 h0_11 w9.2)) (zsome h)) ?_
              exact zq_iret G hlocks hr rfl dX4_isSound_185 (congrArg Prod.fst (zsome h))
            · have h := zie h c6
              refine zq_aload_n (q := 168) G dX4_isSound_167 1 rfl rfl rfl ?_
              refine zq_aload_n (q := 169) G dX4_isSound_168 1 rfl rfl rfl ?_
              refine zq_get (q := 172) G zu_X4 rfl zw_X4_f92 dX4_isSound_169 0 17 rfl (by decide) ⟨⟨rfl, rfl⟩, rfl⟩ rfl rfl ?_
              refine zq_iconst (q := 173) (v := 1) G dX4_isSound_172 (by decide) rfl ?_
              refine zq_isub (q := 174) G dX4_isSound_173 rfl ?_
              obtain ⟨z7, hc7, h⟩ := zbd h
              refine zq_callVi (q := 177) (ws2 := (w_M cyI cyZ h0_0 h0_1 h0_2 h0_3 h0_4 h0_5 h0_6 h0_7 h0_8 h0_9 h0_10 h0_11 z7.2)) (isC := [0, 1, 2, 3, 4, 5, 6, 7, 8, 9, 10, 11]) (isR := []) (perm := [0, 1, 2, 3, 4, 5, 6, 7, 8, 9, 10, 11]) (rest := []) (As := [.int (z4.2.2.2.1.2.2.2.2.2.2.2.2.1 - (1 : Int32))]) G zs_X4_182 dX4_isSound_174 (fun sz9 => c_X4_fits l D cyI cyZ h0_0 h0_1 h0_2 h0_3 h0_4 h0_5 h0_6 h0_7 h0_8 h0_9 h0_10 h0_11 z4.2 (z4.2.2.2.1.2.2.2.2.2.2.2.2.1 - (1 : Int32)) z7.1 z7.2 hc7 sz9) 0 rfl rfl rfl ⟨rfl, rfl, rfl, rfl⟩ rfl (Nat.le_of_ble_eq_true rfl) ⟨Nat.le_of_ble_eq_true rfl, Nat.le_of_ble_eq_true rfl, Nat.zero_le _, Nat.zero_le _⟩ rfl ?_
              refine zq_if_ne (tgt := 184) (q := 180) G dX4_isSound_177 (by decide) rfl (fun c8 => ?_) (fun c8 => ?_)
              · have h := zie h c8
                refine zq_iconst (q := 185) (v := 0) G dX4_isSound_184 (by decide) rfl ?_
                refine zq_ws (congrArg (fun w9 => (w_M cyI cyZ h0_0 h0_1 h0_2 h0_3 h0_4 h0_5 h0_6 h0_7 h0_8 h0_9 h0_10 h0_11 w9.2)) (zsome h)) ?_
                exact zq_iret G hlocks hr rfl dX4_isSound_185 (congrArg Prod.fst (zsome h))
              · have h := zit h c8
                refine zq_iconst (q := 181) (v := 1) G dX4_isSound_180 (by decide) rfl ?_
                refine zq_goto (q := 185) G dX4_isSound_181 (by decide) ?_
                refine zq_ws (congrArg (fun w9 => (w_M cyI cyZ h0_0 h0_1 h0_2 h0_3 h0_4 h0_5 h0_6 h0_7 h0_8 h0_9 h0_10 h0_11 w9.2)) (zsome h)) ?_
                exact zq_iret G hlocks hr rfl dX4_isSound_185 (congrArg Prod.fst (zsome h))
  have b59 : ∀ (k10 : (zM → Int32 → Int32 → Int32 → Option (Int32 × zM))) (hk10 : ∀ (τ0 : zM) (x1 : Int32) (x2 : Int32) (x3 : Int32), k10 τ0 x1 x2 x3 = some (r, o0) → zW p l e ({ frames := 16, cells := 0, slots := 0, locals := 325 } : Room) s m args below meth c D (va_A (w_M cyI cyZ h0_0 h0_1 h0_2 h0_3 h0_4 h0_5 h0_6 h0_7 h0_8 h0_9 h0_10 h0_11 σ0) sz) 5 0 0 (MQ below (zQi D cyI cyZ sz (w_M cyI cyZ h0_0 h0_1 h0_2 h0_3 h0_4 h0_5 h0_6 h0_7 h0_8 h0_9 h0_10 h0_11 σ0) r (w_M cyI cyZ h0_0 h0_1 h0_2 h0_3 h0_4 h0_5 h0_6 h0_7 h0_8 h0_9 h0_10 h0_11 o0)) args s 0 0 (va_A (w_M cyI cyZ h0_0 h0_1 h0_2 h0_3 h0_4 h0_5 h0_6 h0_7 h0_8 h0_9 h0_10 h0_11 σ0) sz)) 10 [(0, .ref h0_0), (1, .int x1), (2, .int x2), (3, .int x3)] [] (w_M cyI cyZ h0_0 h0_1 h0_2 h0_3 h0_4 h0_5 h0_6 h0_7 h0_8 h0_9 h0_10 h0_11 τ0)) (n : Nat) (τ0 : zM) (x1 : Int32) (x2 : Int32) (x3 : Int32) (x4 : Int32), s_X4_isSound_59 k10 n τ0 x1 x2 x3 x4 = some (r, o0) → zW p l e ({ frames := 16, cells := 0, slots := 0, locals := 325 } : Room) s m args below meth c D (va_A (w_M cyI cyZ h0_0 h0_1 h0_2 h0_3 h0_4 h0_5 h0_6 h0_7 h0_8 h0_9 h0_10 h0_11 σ0) sz) 5 0 0 (MQ below (zQi D cyI cyZ sz (w_M cyI cyZ h0_0 h0_1 h0_2 h0_3 h0_4 h0_5 h0_6 h0_7 h0_8 h0_9 h0_10 h0_11 σ0) r (w_M cyI cyZ h0_0 h0_1 h0_2 h0_3 h0_4 h0_5 h0_6 h0_7 h0_8 h0_9 h0_10 h0_11 o0)) args s 0 0 (va_A (w_M cyI cyZ h0_0 h0_1 h0_2 h0_3 h0_4 h0_5 h0_6 h0_7 h0_8 h0_9 h0_10 h0_11 σ0) sz)) 59 [(0, .ref h0_0), (1, .int x1), (2, .int x2), (3, .int x3), (4, .int x4)] [] (w_M cyI cyZ h0_0 h0_1 h0_2 h0_3 h0_4 h0_5 h0_6 h0_7 h0_8 h0_9 h0_10 h0_11 τ0) := by
    intro k10 hk10
    intro n
    induction n with
    | zero => intro τ0 x1 x2 x3 x4 h; rw [s_X4_isSound_59] at h; exact nomatch h
    | succ n ih =>
      intro τ0 x1 x2 x3 x4 h
      rw [s_X4_isSound_59] at h
      refine zq_iload (q := 61) G dX4_isSound_59 4 rfl rfl ?_
      refine zq_aload_n (q := 62) G dX4_isSound_61 0 rfl rfl rfl ?_
      refine zq_get (q := 65) G zu_X4 rfl zw_X4_f7 dX4_isSound_62 0 0 rfl (by decide) ⟨⟨rfl, rfl⟩, rfl⟩ rfl rfl ?_
      refine zq_icmp_ge (tgt := 92) (q := 68) G dX4_isSound_65 (by decide) rfl (fun c1 => ?_) (fun c1 => ?_)
      · have h := zit h c1
        refine zq_iinc (q := 95) (v := (x3 + 1)) (lv2 := [(3, .int (x3 + 1)), (0, .ref h0_0), (1, .int x1), (2, .int x2), (4, .int x4)]) G dX4_isSound_92 3 rfl rfl (by decide) rfl rfl ?_
        refine zq_goto (q := 10) G dX4_isSound_95 (by decide) ?_
        exact zq_sub _ [1, 2, 3, 0] rfl (hk10 _ _ _ _ h)
      · have h := zie h c1
        refine zq_iload_n (q := 69) G dX4_isSound_68 2 rfl rfl rfl ?_
        refine zq_aload_n (q := 70) G dX4_isSound_69 0 rfl rfl rfl ?_
        refine zq_iload_n (q := 71) G dX4_isSound_70 3 rfl rfl rfl ?_
        refine zq_iload (q := 73) G dX4_isSound_71 4 rfl rfl ?_
        obtain ⟨z2, hc2, h⟩ := zbd h
        refine zq_callVi (q := 76) (ws2 := (w_M cyI cyZ h0_0 h0_1 h0_2 h0_3 h0_4 h0_5 h0_6 h0_7 h0_8 h0_9 h0_10 h0_11 τ0)) (isC := [0, 1, 2, 3, 4, 5, 6, 7, 8, 9, 10, 11]) (isR := []) (perm := [0, 1, 2, 3, 4, 5, 6, 7, 8, 9, 10, 11]) (rest := [.int x2]) (As := [.int x3, .int x4]) G zs_X4_162 dX4_isSound_73 (fun sz9 => c_X4_reduced l D cyI cyZ h0_0 h0_1 h0_2 h0_3 h0_4 h0_5 h0_6 h0_7 h0_8 h0_9 h0_10 h0_11 τ0 x3 x4 z2 hc2 sz9) 0 rfl rfl rfl ⟨rfl, rfl, rfl, rfl⟩ rfl (Nat.le_of_ble_eq_true rfl) ⟨Nat.le_of_ble_eq_true rfl, Nat.le_of_ble_eq_true rfl, Nat.zero_le _, Nat.zero_le _⟩ rfl ?_
        refine zq_if_lt (tgt := 83) (q := 79) G dX4_isSound_76 (by decide) rfl (fun c3 => ?_) (fun c3 => ?_)
        · have h := zit h c3
          refine zq_iconst (q := 84) (v := 0) G dX4_isSound_83 (by decide) rfl ?_
          refine zq_iand (q := 85) G dX4_isSound_84 rfl ?_
          refine zq_istore_n (q := 86) (lv2 := [(2, .int (x2 &&& (0 : Int32))), (0, .ref h0_0), (1, .int x1), (3, .int x3), (4, .int x4)]) G dX4_isSound_85 rfl (by decide) rfl rfl ?_
          refine zq_iinc (q := 89) (v := (x4 + 1)) (lv2 := [(4, .int (x4 + 1)), (2, .int (x2 &&& (0 : Int32))), (0, .ref h0_0), (1, .int x1), (3, .int x3)]) G dX4_isSound_86 4 rfl rfl (by decide) rfl rfl ?_
          refine zq_goto (q := 59) G dX4_isSound_89 (by decide) ?_
          exact zq_sub _ [2, 3, 1, 4, 0] rfl (ih _ _ _ _ _ h)
        · have h := zie h c3
          refine zq_iconst (q := 80) (v := 1) G dX4_isSound_79 (by decide) rfl ?_
          refine zq_goto (q := 84) G dX4_isSound_80 (by decide) ?_
          refine zq_iand (q := 85) G dX4_isSound_84 rfl ?_
          refine zq_istore_n (q := 86) (lv2 := [(2, .int (x2 &&& (1 : Int32))), (0, .ref h0_0), (1, .int x1), (3, .int x3), (4, .int x4)]) G dX4_isSound_85 rfl (by decide) rfl rfl ?_
          refine zq_iinc (q := 89) (v := (x4 + 1)) (lv2 := [(4, .int (x4 + 1)), (2, .int (x2 &&& (1 : Int32))), (0, .ref h0_0), (1, .int x1), (3, .int x3)]) G dX4_isSound_86 4 rfl rfl (by decide) rfl rfl ?_
          refine zq_goto (q := 59) G dX4_isSound_89 (by decide) ?_
          exact zq_sub _ [2, 3, 1, 4, 0] rfl (ih _ _ _ _ _ h)
  have b10 : ∀ (n : Nat) (τ0 : zM) (x1 : Int32) (x2 : Int32) (x3 : Int32), s_X4_isSound_10 n τ0 x1 x2 x3 = some (r, o0) → zW p l e ({ frames := 16, cells := 0, slots := 0, locals := 325 } : Room) s m args below meth c D (va_A (w_M cyI cyZ h0_0 h0_1 h0_2 h0_3 h0_4 h0_5 h0_6 h0_7 h0_8 h0_9 h0_10 h0_11 σ0) sz) 5 0 0 (MQ below (zQi D cyI cyZ sz (w_M cyI cyZ h0_0 h0_1 h0_2 h0_3 h0_4 h0_5 h0_6 h0_7 h0_8 h0_9 h0_10 h0_11 σ0) r (w_M cyI cyZ h0_0 h0_1 h0_2 h0_3 h0_4 h0_5 h0_6 h0_7 h0_8 h0_9 h0_10 h0_11 o0)) args s 0 0 (va_A (w_M cyI cyZ h0_0 h0_1 h0_2 h0_3 h0_4 h0_5 h0_6 h0_7 h0_8 h0_9 h0_10 h0_11 σ0) sz)) 10 [(0, .ref h0_0), (1, .int x1), (2, .int x2), (3, .int x3)] [] (w_M cyI cyZ h0_0 h0_1 h0_2 h0_3 h0_4 h0_5 h0_6 h0_7 h0_8 h0_9 h0_10 h0_11 τ0) := by
    intro n
    induction n with
    | zero => intro τ0 x1 x2 x3 h; rw [s_X4_isSound_10] at h; exact nomatch h
    | succ n ih =>
      intro τ0 x1 x2 x3 h
      rw [s_X4_isSound_10] at h
      refine zq_iload_n (q := 11) G dX4_isSound_10 3 rfl rfl rfl ?_
      refine zq_aload_n (q := 12) G dX4_isSound_11 0 rfl rfl rfl ?_
      refine zq_get (q := 15) G zu_X4 rfl zw_X4_f7 dX4_isSound_12 0 0 rfl (by decide) ⟨⟨rfl, rfl⟩, rfl⟩ rfl rfl ?_
      refine zq_icmp_ge (tgt := 98) (q := 18) G dX4_isSound_15 (by decide) rfl (fun c1 => ?_) (fun c1 => ?_)
      · have h := zit h c1
        refine zq_aload_n (q := 99) G dX4_isSound_98 0 rfl rfl rfl ?_
        refine zq_get (q := 102) G zu_X4 rfl zw_X4_f39 dX4_isSound_99 0 10 rfl (by decide) ⟨⟨rfl, rfl⟩, rfl⟩ rfl rfl ?_
        refine zq_iconst (q := 103) (v := 0) G dX4_isSound_102 (by decide) rfl ?_
        obtain ⟨q2, h⟩ := zif h
        refine zq_iald (q := 104) G dX4_isSound_103 6 rfl q2 rfl ?_
        refine zq_aload_n (q := 105) G dX4_isSound_104 0 rfl rfl rfl ?_
        refine zq_iconst (q := 106) (v := 0) G dX4_isSound_105 (by decide) rfl ?_
        refine zq_iconst (q := 107) (v := 0) G dX4_isSound_106 (by decide) rfl ?_
        obtain ⟨z3, hc3, h⟩ := zbd h
        refine zq_callVi (q := 110) (ws2 := (w_M cyI cyZ h0_0 h0_1 h0_2 h0_3 h0_4 h0_5 h0_6 h0_7 h0_8 h0_9 h0_10 h0_11 τ0)) (isC := [0, 1, 2, 3, 4, 5, 6, 7, 8, 9, 10, 11]) (isR := []) (perm := [0, 1, 2, 3, 4, 5, 6, 7, 8, 9, 10, 11]) (rest := [.int (τ0.2.2.1.2.1 (0 : Int32).toNatClampNeg)]) (As := [.int (0 : Int32), .int (0 : Int32)]) G zs_X4_165 dX4_isSound_107 (fun sz9 => c_X4_without l D cyI cyZ h0_0 h0_1 h0_2 h0_3 h0_4 h0_5 h0_6 h0_7 h0_8 h0_9 h0_10 h0_11 τ0 (0 : Int32) (0 : Int32) z3 hc3 sz9) 0 rfl rfl rfl ⟨rfl, rfl, rfl, rfl⟩ rfl (Nat.le_of_ble_eq_true rfl) ⟨Nat.le_of_ble_eq_true rfl, Nat.le_of_ble_eq_true rfl, Nat.zero_le _, Nat.zero_le _⟩ rfl ?_
        refine zq_icmp_ge (tgt := 122) (q := 113) G dX4_isSound_110 (by decide) rfl (fun c4 => ?_) (fun c4 => ?_)
        · have h := zit h c4
          refine zq_aload_n (q := 123) G dX4_isSound_122 0 rfl rfl rfl ?_
          refine zq_iconst (q := 124) (v := 0) G dX4_isSound_123 (by decide) rfl ?_
          refine zq_iconst (q := 125) (v := 0) G dX4_isSound_124 (by decide) rfl ?_
          obtain ⟨z5, hc5, h⟩ := zbd h
          refine zq_callVi (q := 128) (ws2 := (w_M cyI cyZ h0_0 h0_1 h0_2 h0_3 h0_4 h0_5 h0_6 h0_7 h0_8 h0_9 h0_10 h0_11 τ0)) (isC := [0, 1, 2, 3, 4, 5, 6, 7, 8, 9, 10, 11]) (isR := []) (perm := [0, 1, 2, 3, 4, 5, 6, 7, 8, 9, 10, 11]) (rest := []) (As := [.int (0 : Int32), .int (0 : Int32)]) G zs_X4_165 dX4_isSound_125 (fun sz9 => c_X4_without l D cyI cyZ h0_0 h0_1 h0_2 h0_3 h0_4 h0_5 h0_6 h0_7 h0_8 h0_9 h0_10 h0_11 τ0 (0 : Int32) (0 : Int32) z5 hc5 sz9) 0 rfl rfl rfl ⟨rfl, rfl, rfl, rfl⟩ rfl (Nat.le_of_ble_eq_true rfl) ⟨Nat.le_of_ble_eq_true rfl, Nat.le_of_ble_eq_true rfl, Nat.zero_le _, Nat.zero_le _⟩ rfl ?_
          exact zq_sub _ [0, 1, 2] rfl (b128  _ _ _ _ h)
        · have h := zie h c4
          refine zq_aload_n (q := 114) G dX4_isSound_113 0 rfl rfl rfl ?_
          refine zq_get (q := 117) G zu_X4 rfl zw_X4_f39 dX4_isSound_114 0 10 rfl (by decide) ⟨⟨rfl, rfl⟩, rfl⟩ rfl rfl ?_
          refine zq_iconst (q := 118) (v := 0) G dX4_isSound_117 (by decide) rfl ?_
          obtain ⟨q6, h⟩ := zif h
          refine zq_iald (q := 119) G dX4_isSound_118 6 rfl q6 rfl ?_
          refine zq_goto (q := 128) G dX4_isSound_119 (by decide) ?_
          exact zq_sub _ [0, 1, 2] rfl (b128  _ _ _ _ h)
      · have h := zie h c1
        refine zq_iload_n (q := 19) G dX4_isSound_18 1 rfl rfl rfl ?_
        refine zq_aload_n (q := 20) G dX4_isSound_19 0 rfl rfl rfl ?_
        refine zq_get (q := 23) G zu_X4 rfl zw_X4_f54 dX4_isSound_20 0 22 rfl (by decide) ⟨⟨rfl, rfl⟩, rfl⟩ rfl rfl ?_
        refine zq_iload_n (q := 24) G dX4_isSound_23 3 rfl rfl rfl ?_
        obtain ⟨q7, h⟩ := zif h
        refine zq_iald (q := 25) G dX4_isSound_24 10 rfl q7 rfl ?_
        refine zq_aload_n (q := 26) G dX4_isSound_25 0 rfl rfl rfl ?_
        refine zq_get (q := 29) G zu_X4 rfl zw_X4_f57 dX4_isSound_26 0 23 rfl (by decide) ⟨⟨rfl, rfl⟩, rfl⟩ rfl rfl ?_
        refine zq_iload_n (q := 30) G dX4_isSound_29 3 rfl rfl rfl ?_
        obtain ⟨q8, h⟩ := zif h
        refine zq_iald (q := 31) G dX4_isSound_30 11 rfl q8 rfl ?_
        refine zq_iadd (q := 32) G dX4_isSound_31 rfl ?_
        refine zq_iadd (q := 33) G dX4_isSound_32 rfl ?_
        refine zq_istore_n (q := 34) (lv2 := [(1, .int (x1 + ((τ0.2.2.1.2.2.2.2.2.2.2.2.2.1 x3.toNatClampNeg) + (τ0.2.2.1.2.2.2.2.2.2.2.2.2.2 x3.toNatClampNeg)))), (0, .ref h0_0), (2, .int x2), (3, .int x3)]) G dX4_isSound_33 rfl (by decide) rfl rfl ?_
        refine zq_iload_n (q := 35) G dX4_isSound_34 2 rfl rfl rfl ?_
        refine zq_aload_n (q := 36) G dX4_isSound_35 1 rfl rfl rfl ?_
        refine zq_iload_n (q := 37) G dX4_isSound_36 3 rfl rfl rfl ?_
        refine zq_aload_n (q := 38) G dX4_isSound_37 1 rfl rfl rfl ?_
        refine zq_get (q := 41) G zu_X4 rfl zw_X4_f45 dX4_isSound_38 0 12 rfl (by decide) ⟨⟨rfl, rfl⟩, rfl⟩ rfl rfl ?_
        refine zq_iload_n (q := 42) G dX4_isSound_41 3 rfl rfl rfl ?_
        obtain ⟨q9, h⟩ := zif h
        refine zq_iald (q := 43) G dX4_isSound_42 8 rfl q9 rfl ?_
        obtain ⟨z10, hc10, h⟩ := zbd h
        refine zq_callVi (q := 46) (ws2 := (w_M cyI cyZ h0_0 h0_1 h0_2 h0_3 h0_4 h0_5 h0_6 h0_7 h0_8 h0_9 h0_10 h0_11 τ0)) (isC := [0, 1, 2, 3, 4, 5, 6, 7, 8, 9, 10, 11]) (isR := []) (perm := [0, 1, 2, 3, 4, 5, 6, 7, 8, 9, 10, 11]) (rest := [.int x2]) (As := [.int x3, .int (τ0.2.2.1.2.2.2.1 x3.toNatClampNeg)]) G zs_X4_162 dX4_isSound_43 (fun sz9 => c_X4_reduced l D cyI cyZ h0_0 h0_1 h0_2 h0_3 h0_4 h0_5 h0_6 h0_7 h0_8 h0_9 h0_10 h0_11 τ0 x3 (τ0.2.2.1.2.2.2.1 x3.toNatClampNeg) z10 hc10 sz9) 0 rfl rfl rfl ⟨rfl, rfl, rfl, rfl⟩ rfl (Nat.le_of_ble_eq_true rfl) ⟨Nat.le_of_ble_eq_true rfl, Nat.le_of_ble_eq_true rfl, Nat.zero_le _, Nat.zero_le _⟩ rfl ?_
        refine zq_if_ne (tgt := 53) (q := 49) G dX4_isSound_46 (by decide) rfl (fun c11 => ?_) (fun c11 => ?_)
        · have h := zie h c11
          refine zq_iconst (q := 54) (v := 0) G dX4_isSound_53 (by decide) rfl ?_
          refine zq_iand (q := 55) G dX4_isSound_54 rfl ?_
          refine zq_istore_n (q := 56) (lv2 := [(2, .int (x2 &&& (0 : Int32))), (1, .int (x1 + ((τ0.2.2.1.2.2.2.2.2.2.2.2.2.1 x3.toNatClampNeg) + (τ0.2.2.1.2.2.2.2.2.2.2.2.2.2 x3.toNatClampNeg)))), (0, .ref h0_0), (3, .int x3)]) G dX4_isSound_55 rfl (by decide) rfl rfl ?_
          refine zq_iconst (q := 57) (v := 0) G dX4_isSound_56 (by decide) rfl ?_
          refine zq_istore (q := 59) (lv2 := [(4, .int (0 : Int32)), (2, .int (x2 &&& (0 : Int32))), (1, .int (x1 + ((τ0.2.2.1.2.2.2.2.2.2.2.2.2.1 x3.toNatClampNeg) + (τ0.2.2.1.2.2.2.2.2.2.2.2.2.2 x3.toNatClampNeg)))), (0, .ref h0_0), (3, .int x3)]) G dX4_isSound_57 (by decide) rfl rfl ?_
          exact zq_sub _ [3, 2, 1, 4, 0] rfl (b59 _ ih _ _ _ _ _ _ h)
        · have h := zit h c11
          refine zq_iconst (q := 50) (v := 1) G dX4_isSound_49 (by decide) rfl ?_
          refine zq_goto (q := 54) G dX4_isSound_50 (by decide) ?_
          refine zq_iand (q := 55) G dX4_isSound_54 rfl ?_
          refine zq_istore_n (q := 56) (lv2 := [(2, .int (x2 &&& (1 : Int32))), (1, .int (x1 + ((τ0.2.2.1.2.2.2.2.2.2.2.2.2.1 x3.toNatClampNeg) + (τ0.2.2.1.2.2.2.2.2.2.2.2.2.2 x3.toNatClampNeg)))), (0, .ref h0_0), (3, .int x3)]) G dX4_isSound_55 rfl (by decide) rfl rfl ?_
          refine zq_iconst (q := 57) (v := 0) G dX4_isSound_56 (by decide) rfl ?_
          refine zq_istore (q := 59) (lv2 := [(4, .int (0 : Int32)), (2, .int (x2 &&& (1 : Int32))), (1, .int (x1 + ((τ0.2.2.1.2.2.2.2.2.2.2.2.2.1 x3.toNatClampNeg) + (τ0.2.2.1.2.2.2.2.2.2.2.2.2.2 x3.toNatClampNeg)))), (0, .ref h0_0), (3, .int x3)]) G dX4_isSound_57 (by decide) rfl rfl ?_
          exact zq_sub _ [3, 2, 1, 4, 0] rfl (b59 _ ih _ _ _ _ _ _ h)
  refine zq_aload_n (q := 1) G dX4_isSound_0 0 rfl rfl rfl ?_
  obtain ⟨z1, hc1, h⟩ := zbd h
  refine zq_callVv (q := 4) (ws2 := (w_M cyI cyZ h0_0 h0_1 h0_2 h0_3 h0_4 h0_5 h0_6 h0_7 h0_8 h0_9 h0_10 h0_11 z1)) (isC := [0, 1, 2, 3, 4, 5, 6, 7, 8, 9, 10, 11]) (isR := []) (perm := [0, 1, 2, 3, 4, 5, 6, 7, 8, 9, 10, 11]) (rest := []) (As := []) G zs_X4_159 dX4_isSound_1 (fun sz9 => c_X4_findPotentials l D cyI cyZ h0_0 h0_1 h0_2 h0_3 h0_4 h0_5 h0_6 h0_7 h0_8 h0_9 h0_10 h0_11 σ0 z1 hc1 sz9) 0 rfl rfl rfl ⟨rfl, rfl, rfl, rfl⟩ rfl (Nat.le_of_ble_eq_true rfl) ⟨Nat.le_of_ble_eq_true rfl, Nat.le_of_ble_eq_true rfl, Nat.zero_le _, Nat.zero_le _⟩ rfl ?_
  refine zq_iconst (q := 5) (v := 0) G dX4_isSound_4 (by decide) rfl ?_
  refine zq_istore_n (q := 6) (lv2 := [(1, .int (0 : Int32)), (0, .ref h0_0)]) G dX4_isSound_5 rfl (by decide) rfl rfl ?_
  refine zq_iconst (q := 7) (v := 1) G dX4_isSound_6 (by decide) rfl ?_
  refine zq_istore_n (q := 8) (lv2 := [(2, .int (1 : Int32)), (1, .int (0 : Int32)), (0, .ref h0_0)]) G dX4_isSound_7 rfl (by decide) rfl rfl ?_
  refine zq_iconst (q := 9) (v := 0) G dX4_isSound_8 (by decide) rfl ?_
  refine zq_istore_n (q := 10) (lv2 := [(3, .int (0 : Int32)), (2, .int (1 : Int32)), (1, .int (0 : Int32)), (0, .ref h0_0)]) G dX4_isSound_9 rfl (by decide) rfl rfl ?_
  exact zq_sub _ [3, 2, 1, 0] rfl (b10  _ _ _ _ _ h)
