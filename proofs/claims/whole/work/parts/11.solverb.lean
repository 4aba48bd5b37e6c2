set_option maxHeartbeats 4000000 in
set_option maxRecDepth 100000 in
theorem c_X3_cellIndex (l : Launch) (D : va_G) (cyI cyZ : ClassId) (p0 : Int32) (p1 : Int32) (r : Int32) (h : s_X3_cellIndex p0 p1 = some r) (sz : Nat) : zMi l yX3_cellIndex cX3_cellIndex 2 .int 0 0 D cyI cyZ sz [.int p0, .int p1] ([] : va_W) r ([] : va_W) := by
  unfold s_X3_cellIndex at h
  refine zstartI (lv0 := [(0, .int p0), (1, .int p1)]) (by decide) (Nat.le_of_ble_eq_true rfl) rfl (fun p e s m args below meth c G hr hlocks => ?_)
  refine zq_iload_n (q := 1) G dX3_cellIndex_0 0 rfl rfl rfl ?_
  refine zq_bipush (q := 3) (v := 7) G dX3_cellIndex_1 (by decide) rfl ?_
  refine zq_imul (q := 4) G dX3_cellIndex_3 rfl ?_
  refine zq_iload_n (q := 5) G dX3_cellIndex_4 1 rfl rfl rfl ?_
  refine zq_iadd (q := 6) G dX3_cellIndex_5 rfl ?_
  exact zq_iret G hlocks hr rfl dX3_cellIndex_6 (zsome h)
set_option maxHeartbeats 4000000 in
set_option maxRecDepth 100000 in
theorem c_X1_isForbidden (l : Launch) (D : va_G) (cyI cyZ : ClassId) (h0_0 h0_1 h0_2 : Nat) (σ0 : zT) (p0 : Int32) (p1 : Int32) (r : Int32) (h : s_X1_isForbidden σ0 p0 p1 = some r) (sz : Nat) : zMi l yX1_isForbidden cX1_isForbidden 3 .boolean 1 21 D cyI cyZ sz [.ref h0_0, .int p0, .int p1] (w_T cyI cyZ h0_0 h0_1 h0_2 σ0) r (w_T cyI cyZ h0_0 h0_1 h0_2 σ0) := by
  unfold s_X1_isForbidden at h
  refine zstartI (lv0 := [(0, .ref h0_0), (1, .int p0), (2, .int p1)]) (by decide) (Nat.le_of_ble_eq_true rfl) rfl (fun p e s m args below meth c G hr hlocks => ?_)
  refine zq_aload_n (q := 1) G dX1_isForbidden_0 0 rfl rfl rfl ?_
  refine zq_get (q := 4) G zu_X1 rfl zw_X1_f22 dX1_isForbidden_1 0 3 rfl (by decide) ⟨⟨rfl, rfl⟩, rfl⟩ rfl rfl ?_
  refine zq_iload_n (q := 5) G dX1_isForbidden_4 1 rfl rfl rfl ?_
  refine zq_iload_n (q := 6) G dX1_isForbidden_5 2 rfl rfl rfl ?_
  obtain ⟨z1, hc1, h⟩ := zbd h
  refine zq_callNi (q := 9) (ws2 := (w_T cyI cyZ h0_0 h0_1 h0_2 σ0)) (isC := []) (isR := [0, 1, 2]) (perm := [0, 1, 2]) (rest := [.ref h0_2]) (As := [.int p0, .int p1]) G zs_X1_26 dX1_isForbidden_6 (fun sz9 => c_X3_cellIndex l D cyI cyZ p0 p1 z1 hc1 sz9) rfl ⟨rfl, rfl, rfl, rfl⟩ rfl (Nat.le_of_ble_eq_true rfl) ⟨Nat.le_of_ble_eq_true rfl, Nat.le_of_ble_eq_true rfl, Nat.zero_le _, Nat.zero_le _⟩ rfl ?_
  obtain ⟨q2, h⟩ := zif h
  refine zq_zald (q := 10) G dX1_isForbidden_9 2 rfl q2 rfl ?_
  obtain ⟨q3, h⟩ := zif h
  exact zq_iret G hlocks hr (znar q3) dX1_isForbidden_10 (zsome h)
set_option maxHeartbeats 4000000 in
set_option maxRecDepth 100000 in
theorem c_X1_numberAt (l : Launch) (D : va_G) (cyI cyZ : ClassId) (h0_0 h0_1 h0_2 : Nat) (σ0 : zT) (p0 : Int32) (p1 : Int32) (r : Int32) (h : s_X1_numberAt σ0 p0 p1 = some r) (sz : Nat) : zMi l yX1_numberAt cX1_numberAt 3 .int 1 21 D cyI cyZ sz [.ref h0_0, .int p0, .int p1] (w_T cyI cyZ h0_0 h0_1 h0_2 σ0) r (w_T cyI cyZ h0_0 h0_1 h0_2 σ0) := by
  unfold s_X1_numberAt at h
  refine zstartI (lv0 := [(0, .ref h0_0), (1, .int p0), (2, .int p1)]) (by decide) (Nat.le_of_ble_eq_true rfl) rfl (fun p e s m args below meth c G hr hlocks => ?_)
  refine zq_aload_n (q := 1) G dX1_numberAt_0 0 rfl rfl rfl ?_
  refine zq_get (q := 4) G zu_X1 rfl zw_X1_f18 dX1_numberAt_1 0 2 rfl (by decide) ⟨⟨rfl, rfl⟩, rfl⟩ rfl rfl ?_
  refine zq_iload_n (q := 5) G dX1_numberAt_4 1 rfl rfl rfl ?_
  refine zq_iload_n (q := 6) G dX1_numberAt_5 2 rfl rfl rfl ?_
  obtain ⟨z1, hc1, h⟩ := zbd h
  refine zq_callNi (q := 9) (ws2 := (w_T cyI cyZ h0_0 h0_1 h0_2 σ0)) (isC := []) (isR := [0, 1, 2]) (perm := [0, 1, 2]) (rest := [.ref h0_1]) (As := [.int p0, .int p1]) G zs_X1_26 dX1_numberAt_6 (fun sz9 => c_X3_cellIndex l D cyI cyZ p0 p1 z1 hc1 sz9) rfl ⟨rfl, rfl, rfl, rfl⟩ rfl (Nat.le_of_ble_eq_true rfl) ⟨Nat.le_of_ble_eq_true rfl, Nat.le_of_ble_eq_true rfl, Nat.zero_le _, Nat.zero_le _⟩ rfl ?_
  obtain ⟨q2, h⟩ := zif h
  refine zq_iald (q := 10) G dX1_numberAt_9 1 rfl q2 rfl ?_
  exact zq_iret G hlocks hr rfl dX1_numberAt_10 (zsome h)
set_option maxHeartbeats 4000000 in
set_option maxRecDepth 100000 in
theorem c_X1_costOf (l : Launch) (D : va_G) (cyI cyZ : ClassId) (h0_0 h0_1 h0_2 : Nat) (σ0 : zT) (p0 : Int32) (p1 : Int32) (r : Int32) (h : s_X1_costOf σ0 p0 p1 = some r) (sz : Nat) : zMi l yX1_costOf cX1_costOf 3 .int 2 43 D cyI cyZ sz [.ref h0_0, .int p0, .int p1] (w_T cyI cyZ h0_0 h0_1 h0_2 σ0) r (w_T cyI cyZ h0_0 h0_1 h0_2 σ0) := by
  unfold s_X1_costOf at h
  refine zstartI (lv0 := [(0, .ref h0_0), (1, .int p0), (2, .int p1)]) (by decide) (Nat.le_of_ble_eq_true rfl) rfl (fun p e s m args below meth c G hr hlocks => ?_)
  refine zq_iload_n (q := 1) G dX1_costOf_0 2 rfl rfl rfl ?_
  refine zq_aload_n (q := 2) G dX1_costOf_1 0 rfl rfl rfl ?_
  refine zq_get (q := 5) G zu_X1 rfl zw_X1_f15 dX1_costOf_2 0 1 rfl (by decide) ⟨⟨rfl, rfl⟩, rfl⟩ rfl rfl ?_
  refine zq_icmp_lt (tgt := 10) (q := 8) G dX1_costOf_5 (by decide) rfl (fun c1 => ?_) (fun c1 => ?_)
  · have h := zit h c1
    refine zq_aload_n (q := 11) G dX1_costOf_10 0 rfl rfl rfl ?_
    refine zq_iload_n (q := 12) G dX1_costOf_11 1 rfl rfl rfl ?_
    refine zq_iload_n (q := 13) G dX1_costOf_12 2 rfl rfl rfl ?_
    obtain ⟨z2, hc2, h⟩ := zbd h
    refine zq_callVi (q := 16) (ws2 := (w_T cyI cyZ h0_0 h0_1 h0_2 σ0)) (isC := [0, 1, 2]) (isR := []) (perm := [0, 1, 2]) (rest := []) (As := [.int p0, .int p1]) G zs_X1_30 dX1_costOf_13 (fun sz9 => c_X1_isForbidden l D cyI cyZ h0_0 h0_1 h0_2 σ0 p0 p1 z2 hc2 sz9) 0 rfl rfl rfl ⟨rfl, rfl, rfl, rfl⟩ rfl (Nat.le_of_ble_eq_true rfl) ⟨Nat.le_of_ble_eq_true rfl, Nat.le_of_ble_eq_true rfl, Nat.zero_le _, Nat.zero_le _⟩ rfl ?_
    refine zq_if_eq (tgt := 25) (q := 19) G dX1_costOf_16 (by decide) rfl (fun c3 => ?_) (fun c3 => ?_)
    · have h := zit h c3
      refine zq_aload_n (q := 26) G dX1_costOf_25 0 rfl rfl rfl ?_
      refine zq_iload_n (q := 27) G dX1_costOf_26 1 rfl rfl rfl ?_
      refine zq_iload_n (q := 28) G dX1_costOf_27 2 rfl rfl rfl ?_
      obtain ⟨z4, hc4, h⟩ := zbd h
      refine zq_callVi (q := 31) (ws2 := (w_T cyI cyZ h0_0 h0_1 h0_2 σ0)) (isC := [0, 1, 2]) (isR := []) (perm := [0, 1, 2]) (rest := []) (As := [.int p0, .int p1]) G zs_X1_34 dX1_costOf_28 (fun sz9 => c_X1_numberAt l D cyI cyZ h0_0 h0_1 h0_2 σ0 p0 p1 z4 hc4 sz9) 0 rfl rfl rfl ⟨rfl, rfl, rfl, rfl⟩ rfl (Nat.le_of_ble_eq_true rfl) ⟨Nat.le_of_ble_eq_true rfl, Nat.le_of_ble_eq_true rfl, Nat.zero_le _, Nat.zero_le _⟩ rfl ?_
      exact zq_iret G hlocks hr rfl dX1_costOf_31 (zsome h)
    · have h := zie h c3
      refine zq_sipush (q := 22) (v := 1000) G dX1_costOf_19 (by decide) rfl ?_
      refine zq_goto (q := 31) G dX1_costOf_22 (by decide) ?_
      exact zq_iret G hlocks hr rfl dX1_costOf_31 (zsome h)
  · have h := zie h c1
    refine zq_iconst (q := 9) (v := 0) G dX1_costOf_8 (by decide) rfl ?_
    exact zq_iret G hlocks hr rfl dX1_costOf_9 (zsome h)
set_option maxHeartbeats 4000000 in
set_option maxRecDepth 100000 in
theorem c_X0_putCost (l : Launch) (D : va_G) (cyI cyZ : ClassId) (h0_0 h0_1 h0_2 h0_3 h0_4 : Nat) (σ0 : zS) (p0 : Int32) (p1 : Int32) (p2 : Int32) (o0 : zS) (h : s_X0_putCost σ0 p0 p1 p2 = some o0) (sz : Nat) : zMv l yX0_putCost cX0_putCost 4 1 21 D cyI cyZ sz [.ref h0_0, .int p0, .int p1, .int p2] (w_S cyI h0_0 h0_1 h0_2 h0_3 h0_4 σ0) (w_S cyI h0_0 h0_1 h0_2 h0_3 h0_4 o0) := by
  unfold s_X0_putCost at h
  refine zstartV (lv0 := [(0, .ref h0_0), (1, .int p0), (2, .int p1), (3, .int p2)]) (by decide) (Nat.le_of_ble_eq_true rfl) rfl (fun p e s m args below meth c G hr hlocks => ?_)
  refine zq_aload_n (q := 1) G dX0_putCost_0 0 rfl rfl rfl ?_
  refine zq_get (q := 4) G zu_X0 rfl zw_X0_f15 dX0_putCost_1 0 1 rfl (by decide) ⟨⟨rfl, rfl⟩, rfl⟩ rfl rfl ?_
  refine zq_iload_n (q := 5) G dX0_putCost_4 1 rfl rfl rfl ?_
  refine zq_iload_n (q := 6) G dX0_putCost_5 2 rfl rfl rfl ?_
  obtain ⟨z1, hc1, h⟩ := zbd h
  refine zq_callNi (q := 9) (ws2 := (w_S cyI h0_0 h0_1 h0_2 h0_3 h0_4 σ0)) (isC := []) (isR := [0, 1, 2, 3, 4]) (perm := [0, 1, 2, 3, 4]) (rest := [.ref h0_1]) (As := [.int p0, .int p1]) G zs_X0_41 dX0_putCost_6 (fun sz9 => c_X3_cellIndex l D cyI cyZ p0 p1 z1 hc1 sz9) rfl ⟨rfl, rfl, rfl, rfl⟩ rfl (Nat.le_of_ble_eq_true rfl) ⟨Nat.le_of_ble_eq_true rfl, Nat.le_of_ble_eq_true rfl, Nat.zero_le _, Nat.zero_le _⟩ rfl ?_
  refine zq_iload_n (q := 10) G dX0_putCost_9 3 rfl rfl rfl ?_
  obtain ⟨q2, h⟩ := zif h
  refine zq_iast (q := 11) (ws2 := (w_S cyI h0_0 h0_1 h0_2 h0_3 h0_4 (σ0.1, (upd σ0.2.1 z1.toNatClampNeg p2), σ0.2.2.1, σ0.2.2.2.1, σ0.2.2.2.2))) G dX0_putCost_10 1 rfl q2 rfl rfl ?_
  refine zq_ws (congrArg (fun w9 => (w_S cyI h0_0 h0_1 h0_2 h0_3 h0_4 w9)) (zsome h)) ?_
  exact zq_vret G hlocks hr dX0_putCost_11
set_option maxHeartbeats 4000000 in
set_option maxRecDepth 100000 in
theorem c_X0_load (l : Launch) (D : va_G) (cyI cyZ : ClassId) (h0_0 h0_1 h0_2 h0_3 h0_4 h1_0 h1_1 h1_2 : Nat) (σ0 : zS) (σ1 : zT) (o0 : zS) (h : s_X0_load σ0 σ1 = some o0) (sz : Nat) : zMv l yX0_load cX0_load 4 3 65 D cyI cyZ sz [.ref h0_0, .ref h1_0] (w_S cyI h0_0 h0_1 h0_2 h0_3 h0_4 σ0 ++ w_T cyI cyZ h1_0 h1_1 h1_2 σ1) (w_S cyI h0_0 h0_1 h0_2 h0_3 h0_4 o0 ++ w_T cyI cyZ h1_0 h1_1 h1_2 σ1) := by
  unfold s_X0_load at h
  refine zstartV (lv0 := [(0, .ref h0_0), (1, .ref h1_0)]) (by decide) (Nat.le_of_ble_eq_true rfl) rfl (fun p e s m args below meth c G hr hlocks => ?_)
  have b20 : ∀ (k10 : (zS → zT → Int32 → Option (zS))) (hk10 : ∀ (τ0 : zS) (x2 : Int32), k10 τ0 σ1 x2 = some o0 → zW p l e ({ frames := 3, cells := 0, slots := 0, locals := 65 } : Room) s m args below meth c D (va_A (w_S cyI h0_0 h0_1 h0_2 h0_3 h0_4 σ0 ++ w_T cyI cyZ h1_0 h1_1 h1_2 σ1) sz) 4 0 0 (MQ below (zQv D cyI cyZ sz (w_S cyI h0_0 h0_1 h0_2 h0_3 h0_4 σ0 ++ w_T cyI cyZ h1_0 h1_1 h1_2 σ1) (w_S cyI h0_0 h0_1 h0_2 h0_3 h0_4 o0 ++ w_T cyI cyZ h1_0 h1_1 h1_2 σ1)) args s 0 0 (va_A (w_S cyI h0_0 h0_1 h0_2 h0_3 h0_4 σ0 ++ w_T cyI cyZ h1_0 h1_1 h1_2 σ1) sz)) 10 [(0, .ref h0_0), (1, .ref h1_0), (2, .int x2)] [] (w_S cyI h0_0 h0_1 h0_2 h0_3 h0_4 τ0 ++ w_T cyI cyZ h1_0 h1_1 h1_2 σ1)) (n : Nat) (τ0 : zS) (x2 : Int32) (x3 : Int32), s_X0_load_20 k10 n τ0 σ1 x2 x3 = some o0 → zW p l e ({ frames := 3, cells := 0, slots := 0, locals := 65 } : Room) s m args below meth c D (va_A (w_S cyI h0_0 h0_1 h0_2 h0_3 h0_4 σ0 ++ w_T cyI cyZ h1_0 h1_1 h1_2 σ1) sz) 4 0 0 (MQ below (zQv D cyI cyZ sz (w_S cyI h0_0 h0_1 h0_2 h0_3 h0_4 σ0 ++ w_T cyI cyZ h1_0 h1_1 h1_2 σ1) (w_S cyI h0_0 h0_1 h0_2 h0_3 h0_4 o0 ++ w_T cyI cyZ h1_0 h1_1 h1_2 σ1)) args s 0 0 (va_A (w_S cyI h0_0 h0_1 h0_2 h0_3 h0_4 σ0 ++ w_T cyI cyZ h1_0 h1_1 h1_2 σ1) sz)) 20 [(0, .ref h0_0), (1, .ref h1_0), (2, .int x2), (3, .int x3)] [] (w_S cyI h0_0 h0_1 h0_2 h0_3 h0_4 τ0 ++ w_T cyI cyZ h1_0 h1_1 h1_2 σ1) := by
    intro k10 hk10
    intro n
    induction n with
    | zero => intro τ0 x2 x3 h; rw [s_X0_load_20] at h; exact nomatch h
    | succ n ih =>
      intro τ0 x2 x3 h
      rw [s_X0_load_20] at h
      refine zq_iload_n (q := 21) G dX0_load_20 3 rfl rfl rfl ?_
      refine zq_aload_n (q := 22) G dX0_load_21 0 rfl rfl rfl ?_
      refine zq_get (q := 25) G zu_X0 rfl zw_X0_f9 dX0_load_22 0 0 rfl (by decide) ⟨⟨rfl, rfl⟩, rfl⟩ rfl rfl ?_
      refine zq_icmp_ge (tgt := 46) (q := 28) G dX0_load_25 (by decide) rfl (fun c1 => ?_) (fun c1 => ?_)
      · have h := zit h c1
        refine zq_iinc (q := 49) (v := (x2 + 1)) (lv2 := [(2, .int (x2 + 1)), (0, .ref h0_0), (1, .ref h1_0), (3, .int x3)]) G dX0_load_46 2 rfl rfl (by decide) rfl rfl ?_
        refine zq_goto (q := 10) G dX0_load_49 (by decide) ?_
        exact zq_sub _ [1, 2, 0] rfl (hk10 _ _ h)
      · have h := zie h c1
        refine zq_aload_n (q := 29) G dX0_load_28 0 rfl rfl rfl ?_
        refine zq_iload_n (q := 30) G dX0_load_29 2 rfl rfl rfl ?_
        refine zq_iload_n (q := 31) G dX0_load_30 3 rfl rfl rfl ?_
        refine zq_aload_n (q := 32) G dX0_load_31 1 rfl rfl rfl ?_
        refine zq_iload_n (q := 33) G dX0_load_32 2 rfl rfl rfl ?_
        refine zq_iload_n (q := 34) G dX0_load_33 3 rfl rfl rfl ?_
        obtain ⟨z2, hc2, h⟩ := zbd h
        refine zq_callVi (q := 37) (ws2 := (w_S cyI h0_0 h0_1 h0_2 h0_3 h0_4 τ0 ++ w_T cyI cyZ h1_0 h1_1 h1_2 σ1)) (isC := [5, 6, 7]) (isR := [0, 1, 2, 3, 4]) (perm := [0, 1, 2, 3, 4, 5, 6, 7]) (rest := [.int x3, .int x2, .ref h0_0]) (As := [.int x2, .int x3]) G zs_X0_33 dX0_load_34 (fun sz9 => c_X1_costOf l D cyI cyZ h1_0 h1_1 h1_2 σ1 x2 x3 z2 hc2 sz9) 5 rfl rfl rfl ⟨rfl, rfl, rfl, rfl⟩ rfl (Nat.le_of_ble_eq_true rfl) ⟨Nat.le_of_ble_eq_true rfl, Nat.le_of_ble_eq_true rfl, Nat.zero_le _, Nat.zero_le _⟩ rfl ?_
        obtain ⟨z3, hc3, h⟩ := zbd h
        refine zq_callVv (q := 40) (ws2 := (w_S cyI h0_0 h0_1 h0_2 h0_3 h0_4 z3 ++ w_T cyI cyZ h1_0 h1_1 h1_2 σ1)) (isC := [0, 1, 2, 3, 4]) (isR := [5, 6, 7]) (perm := [3, 4, 5, 6, 7, 0, 1, 2]) (rest := []) (As := [.int x2, .int x3, .int z2]) G zs_X0_37 dX0_load_37 (fun sz9 => c_X0_putCost l D cyI cyZ h0_0 h0_1 h0_2 h0_3 h0_4 τ0 x2 x3 z2 z3 hc3 sz9) 0 rfl rfl rfl ⟨rfl, rfl, rfl, rfl⟩ rfl (Nat.le_of_ble_eq_true rfl) ⟨Nat.le_of_ble_eq_true rfl, Nat.le_of_ble_eq_true rfl, Nat.zero_le _, Nat.zero_le _⟩ rfl ?_
        refine zq_iinc (q := 43) (v := (x3 + 1)) (lv2 := [(3, .int (x3 + 1)), (0, .ref h0_0), (1, .ref h1_0), (2, .int x2)]) G dX0_load_40 3 rfl rfl (by decide) rfl rfl ?_
        refine zq_goto (q := 20) G dX0_load_43 (by decide) ?_
        exact zq_sub _ [1, 2, 3, 0] rfl (ih _ _ _ h)
  have b10 : ∀ (n : Nat) (τ0 : zS) (x2 : Int32), s_X0_load_10 n τ0 σ1 x2 = some o0 → zW p l e ({ frames := 3, cells := 0, slots := 0, locals := 65 } : Room) s m args below meth c D (va_A (w_S cyI h0_0 h0_1 h0_2 h0_3 h0_4 σ0 ++ w_T cyI cyZ h1_0 h1_1 h1_2 σ1) sz) 4 0 0 (MQ below (zQv D cyI cyZ sz (w_S cyI h0_0 h0_1 h0_2 h0_3 h0_4 σ0 ++ w_T cyI cyZ h1_0 h1_1 h1_2 σ1) (w_S cyI h0_0 h0_1 h0_2 h0_3 h0_4 o0 ++ w_T cyI cyZ h1_0 h1_1 h1_2 σ1)) args s 0 0 (va_A (w_S cyI h0_0 h0_1 h0_2 h0_3 h0_4 σ0 ++ w_T cyI cyZ h1_0 h1_1 h1_2 σ1) sz)) 10 [(0, .ref h0_0), (1, .ref h1_0), (2, .int x2)] [] (w_S cyI h0_0 h0_1 h0_2 h0_3 h0_4 τ0 ++ w_T cyI cyZ h1_0 h1_1 h1_2 σ1) := by
    intro n
    induction n with
    | zero => intro τ0 x2 h; rw [s_X0_load_10] at h; exact nomatch h
    | succ n ih =>
      intro τ0 x2 h
      rw [s_X0_load_10] at h
      refine zq_iload_n (q := 11) G dX0_load_10 2 rfl rfl rfl ?_
      refine zq_aload_n (q := 12) G dX0_load_11 0 rfl rfl rfl ?_
      refine zq_get (q := 15) G zu_X0 rfl zw_X0_f9 dX0_load_12 0 0 rfl (by decide) ⟨⟨rfl, rfl⟩, rfl⟩ rfl rfl ?_
      refine zq_icmp_ge (tgt := 52) (q := 18) G dX0_load_15 (by decide) rfl (fun c1 => ?_) (fun c1 => ?_)
      · have h := zit h c1
        refine zq_ws (congrArg (fun w9 => (w_S cyI h0_0 h0_1 h0_2 h0_3 h0_4 w9 ++ w_T cyI cyZ h1_0 h1_1 h1_2 σ1)) (zsome h)) ?_
        exact zq_vret G hlocks hr dX0_load_52
      · have h := zie h c1
        refine zq_iconst (q := 19) (v := 0) G dX0_load_18 (by decide) rfl ?_
        refine zq_istore_n (q := 20) (lv2 := [(3, .int (0 : Int32)), (0, .ref h0_0), (1, .ref h1_0), (2, .int x2)]) G dX0_load_19 rfl (by decide) rfl rfl ?_
        exact zq_sub _ [1, 2, 3, 0] rfl (b20 _ ih _ _ _ _ h)
  refine zq_aload_n (q := 1) G dX0_load_0 0 rfl rfl rfl ?_
  refine zq_aload_n (q := 2) G dX0_load_1 1 rfl rfl rfl ?_
  refine zq_getN (q := 5) G zu_X1 rfl zw_X0_f28 dX0_load_2 5 0 rfl (by decide) ⟨⟨rfl, rfl⟩, rfl⟩ rfl rfl ?_
  refine zq_put (q := 8) (ws2 := (w_S cyI h0_0 h0_1 h0_2 h0_3 h0_4 (σ1.1, σ0.2.1, σ0.2.2.1, σ0.2.2.2.1, σ0.2.2.2.2) ++ w_T cyI cyZ h1_0 h1_1 h1_2 σ1)) G zu_X0 rfl tyX0_ok nmX0 zw_X0_f9 dX0_load_5 0 0 rfl (by decide) ⟨⟨rfl, rfl⟩, rfl⟩ rfl rfl rfl (Nat.le_of_ble_eq_true rfl) rfl rfl ?_
  refine zq_iconst (q := 9) (v := 0) G dX0_load_8 (by decide) rfl ?_
  refine zq_istore_n (q := 10) (lv2 := [(2, .int (0 : Int32)), (0, .ref h0_0), (1, .ref h1_0)]) G dX0_load_9 rfl (by decide) rfl rfl ?_
  exact zq_sub _ [1, 2, 0] rfl (b10  _ _ _ h)
set_option maxHeartbeats 4000000 in
set_option maxRecDepth 100000 in
theorem c_X0_allColumns (l : Launch) (D : va_G) (cyI cyZ : ClassId) (h0_0 h0_1 h0_2 h0_3 h0_4 : Nat) (σ0 : zS) (r : Int32) (h : s_X0_allColumns σ0 = some r) (sz : Nat) : zMi l yX0_allColumns cX0_allColumns 1 .int 0 0 D cyI cyZ sz [.ref h0_0] (w_S cyI h0_0 h0_1 h0_2 h0_3 h0_4 σ0) r (w_S cyI h0_0 h0_1 h0_2 h0_3 h0_4 σ0) := by
  unfold s_X0_allColumns at h
  refine zstartI (lv0 := [(0, .ref h0_0)]) (by decide) (Nat.le_of_ble_eq_true rfl) rfl (fun p e s m args below meth c G hr hlocks => ?_)
  refine zq_iconst (q := 1) (v := 1) G dX0_allColumns_0 (by decide) rfl ?_
  refine zq_aload_n (q := 2) G dX0_allColumns_1 0 rfl rfl rfl ?_
  refine zq_get (q := 5) G zu_X0 rfl zw_X0_f9 dX0_allColumns_2 0 0 rfl (by decide) ⟨⟨rfl, rfl⟩, rfl⟩ rfl rfl ?_
  refine zq_ishl (q := 6) G dX0_allColumns_5 rfl ?_
  refine zq_iconst (q := 7) (v := 1) G dX0_allColumns_6 (by decide) rfl ?_
  refine zq_isub (q := 8) G dX0_allColumns_7 rfl ?_
  exact zq_iret G hlocks hr rfl dX0_allColumns_8 (zsome h)
set_option maxHeartbeats 4000000 in
set_option maxRecDepth 100000 in
theorem c_X0_isFree (l : Launch) (D : va_G) (cyI cyZ : ClassId) (p0 : Int32) (p1 : Int32) (r : Int32) (h : s_X0_isFree p0 p1 = some r) (sz : Nat) : zMi l yX0_isFree cX0_isFree 2 .boolean 0 0 D cyI cyZ sz [.int p0, .int p1] ([] : va_W) r ([] : va_W) := by
  unfold s_X0_isFree at h
  refine zstartI (lv0 := [(0, .int p0), (1, .int p1)]) (by decide) (Nat.le_of_ble_eq_true rfl) rfl (fun p e s m args below meth c G hr hlocks => ?_)
  refine zq_iload_n (q := 1) G dX0_isFree_0 0 rfl rfl rfl ?_
  refine zq_iload_n (q := 2) G dX0_isFree_1 1 rfl rfl rfl ?_
  refine zq_ishr (q := 3) G dX0_isFree_2 rfl ?_
  refine zq_iconst (q := 4) (v := 1) G dX0_isFree_3 (by decide) rfl ?_
  refine zq_iand (q := 5) G dX0_isFree_4 rfl ?_
  refine zq_if_ne (tgt := 12) (q := 8) G dX0_isFree_5 (by decide) rfl (fun c1 => ?_) (fun c1 => ?_)
  · have h := zie h c1
    refine zq_iconst (q := 13) (v := 0) G dX0_isFree_12 (by decide) rfl ?_
    exact zq_iret G hlocks hr rfl dX0_isFree_13 (zsome h)
  · have h := zit h c1
    refine zq_iconst (q := 9) (v := 1) G dX0_isFree_8 (by decide) rfl ?_
    refine zq_goto (q := 13) G dX0_isFree_9 (by decide) ?_
    exact zq_iret G hlocks hr rfl dX0_isFree_13 (zsome h)
set_option maxHeartbeats 4000000 in
set_option maxRecDepth 100000 in
theorem c_J6_bitCount_0f7a4 (l : Launch) (D : va_G) (cyI cyZ : ClassId) (p0 : Int32) (r : Int32) (h : s_J6_bitCount_0f7a4 p0 = some r) (sz : Nat) : zMi l yJ6_bitCount_0f7a4 cJ6_bitCount_0f7a4 1 .int 0 0 D cyI cyZ sz [.int p0] ([] : va_W) r ([] : va_W) := by
  unfold s_J6_bitCount_0f7a4 at h
  refine zstartI (lv0 := [(0, .int p0)]) (by decide) (Nat.le_of_ble_eq_true rfl) rfl (fun p e s m args below meth c G hr hlocks => ?_)
  refine zq_iload_n (q := 1) G dJ6_bitCount_0f7a4_0 0 rfl rfl rfl ?_
  refine zq_iload_n (q := 2) G dJ6_bitCount_0f7a4_1 0 rfl rfl rfl ?_
  refine zq_iconst (q := 3) (v := 1) G dJ6_bitCount_0f7a4_2 (by decide) rfl ?_
  refine zq_iushr (q := 4) G dJ6_bitCount_0f7a4_3 rfl ?_
  refine zq_ldcw (q := 7) G zw_J6_c265 dJ6_bitCount_0f7a4_4 rfl ?_
  refine zq_iand (q := 8) G dJ6_bitCount_0f7a4_7 rfl ?_
  refine zq_isub (q := 9) G dJ6_bitCount_0f7a4_8 rfl ?_
  refine zq_istore_n (q := 10) (lv2 := [(0, .int (p0 - (((p0.toUInt32 >>> ((1 : Int32).toUInt32 &&& Int32.toUInt32 31)).toInt32) &&& (1431655765 : Int32))))]) G dJ6_bitCount_0f7a4_9 rfl (by decide) rfl rfl ?_
  refine zq_iload_n (q := 11) G dJ6_bitCount_0f7a4_10 0 rfl rfl rfl ?_
  refine zq_ldcw (q := 14) G zw_J6_c266 dJ6_bitCount_0f7a4_11 rfl ?_
  refine zq_iand (q := 15) G dJ6_bitCount_0f7a4_14 rfl ?_
  refine zq_iload_n (q := 16) G dJ6_bitCount_0f7a4_15 0 rfl rfl rfl ?_
  refine zq_iconst (q := 17) (v := 2) G dJ6_bitCount_0f7a4_16 (by decide) rfl ?_
  refine zq_iushr (q := 18) G dJ6_bitCount_0f7a4_17 rfl ?_
  refine zq_ldcw (q := 21) G zw_J6_c266 dJ6_bitCount_0f7a4_18 rfl ?_
  refine zq_iand (q := 22) G dJ6_bitCount_0f7a4_21 rfl ?_
  refine zq_iadd (q := 23) G dJ6_bitCount_0f7a4_22 rfl ?_
  refine zq_istore_n (q := 24) (lv2 := [(0, .int (((p0 - (((p0.toUInt32 >>> ((1 : Int32).toUInt32 &&& Int32.toUInt32 31)).toInt32) &&& (1431655765 : Int32))) &&& (858993459 : Int32)) + ((((p0 - (((p0.toUInt32 >>> ((1 : Int32).toUInt32 &&& Int32.toUInt32 31)).toInt32) &&& (1431655765 : Int32))).toUInt32 >>> ((2 : Int32).toUInt32 &&& Int32.toUInt32 31)).toInt32) &&& (858993459 : Int32))))]) G dJ6_bitCount_0f7a4_23 rfl (by decide) rfl rfl ?_
  refine zq_iload_n (q := 25) G dJ6_bitCount_0f7a4_24 0 rfl rfl rfl ?_
  refine zq_iload_n (q := 26) G dJ6_bitCount_0f7a4_25 0 rfl rfl rfl ?_
  refine zq_iconst (q := 27) (v := 4) G dJ6_bitCount_0f7a4_26 (by decide) rfl ?_
  refine zq_iushr (q := 28) G dJ6_bitCount_0f7a4_27 rfl ?_
  refine zq_iadd (q := 29) G dJ6_bitCount_0f7a4_28 rfl ?_
  refine zq_ldcw (q := 32) G zw_J6_c267 dJ6_bitCount_0f7a4_29 rfl ?_
  refine zq_iand (q := 33) G dJ6_bitCount_0f7a4_32 rfl ?_
  refine zq_istore_n (q := 34) (lv2 := [(0, .int (((((p0 - (((p0.toUInt32 >>> ((1 : Int32).toUInt32 &&& Int32.toUInt32 31)).toInt32) &&& (1431655765 : Int32))) &&& (858993459 : Int32)) + ((((p0 - (((p0.toUInt32 >>> ((1 : Int32).toUInt32 &&& Int32.toUInt32 31)).toInt32) &&& (1431655765 : Int32))).toUInt32 >>> ((2 : Int32).toUInt32 &&& Int32.toUInt32 31)).toInt32) &&& (858993459 : Int32))) + (((((p0 - (((p0.toUInt32 >>> ((1 : Int32).toUInt32 &&& Int32.toUInt32 31)).toInt32) &&& (1431655765 : Int32))) &&& (858993459 : Int32)) + ((((p0 - (((p0.toUInt32 >>> ((1 : Int32).toUInt32 &&& Int32.toUInt32 31)).toInt32) &&& (1431655765 : Int32))).toUInt32 >>> ((2 : Int32).toUInt32 &&& Int32.toUInt32 31)).toInt32) &&& (858993459 : Int32))).toUInt32 >>> ((4 : Int32).toUInt32 &&& Int32.toUInt32 31)).toInt32)) &&& (252645135 : Int32)))]) G dJ6_bitCount_0f7a4_33 rfl (by decide) rfl rfl ?_
  refine zq_iload_n (q := 35) G dJ6_bitCount_0f7a4_34 0 rfl rfl rfl ?_
  refine zq_iload_n (q := 36) G dJ6_bitCount_0f7a4_35 0 rfl rfl rfl ?_
  refine zq_bipush (q := 38) (v := 8) G dJ6_bitCount_0f7a4_36 (by decide) rfl ?_
  refine zq_iushr (q := 39) G dJ6_bitCount_0f7a4_38 rfl ?_
  refine zq_iadd (q := 40) G dJ6_bitCount_0f7a4_39 rfl ?_
  refine zq_istore_n (q := 41) (lv2 := [(0, .int ((((((p0 - (((p0.toUInt32 >>> ((1 : Int32).toUInt32 &&& Int32.toUInt32 31)).toInt32) &&& (1431655765 : Int32))) &&& (858993459 : Int32)) + ((((p0 - (((p0.toUInt32 >>> ((1 : Int32).toUInt32 &&& Int32.toUInt32 31)).toInt32) &&& (1431655765 : Int32))).toUInt32 >>> ((2 : Int32).toUInt32 &&& Int32.toUInt32 31)).toInt32) &&& (858993459 : Int32))) + (((((p0 - (((p0.toUInt32 >>> ((1 : Int32).toUInt32 &&& Int32.toUInt32 31)).toInt32) &&& (1431655765 : Int32))) &&& (858993459 : Int32)) + ((((p0 - (((p0.toUInt32 >>> ((1 : Int32).toUInt32 &&& Int32.toUInt32 31)).toInt32) &&& (1431655765 : Int32))).toUInt32 >>> ((2 : Int32).toUInt32 &&& Int32.toUInt32 31)).toInt32) &&& (858993459 : Int32))).toUInt32 >>> ((4 : Int32).toUInt32 &&& Int32.toUInt32 31)).toInt32)) &&& (252645135 : Int32)) + (((((((p0 - (((p0.toUInt32 >>> ((1 : Int32).toUInt32 &&& Int32.toUInt32 31)).toInt32) &&& (1431655765 : Int32))) &&& (858993459 : Int32)) + ((((p0 - (((p0.toUInt32 >>> ((1 : Int32).toUInt32 &&& Int32.toUInt32 31)).toInt32) &&& (1431655765 : Int32))).toUInt32 >>> ((2 : Int32).toUInt32 &&& Int32.toUInt32 31)).toInt32) &&& (858993459 : Int32))) + (((((p0 - (((p0.toUInt32 >>> ((1 : Int32).toUInt32 &&& Int32.toUInt32 31)).toInt32) &&& (1431655765 : Int32))) &&& (858993459 : Int32)) + ((((p0 - (((p0.toUInt32 >>> ((1 : Int32).toUInt32 &&& Int32.toUInt32 31)).toInt32) &&& (1431655765 : Int32))).toUInt32 >>> ((2 : Int32).toUInt32 &&& Int32.toUInt32 31)).toInt32) &&& (858993459 : Int32))).toUInt32 >>> ((4 : Int32).toUInt32 &&& Int32.toUInt32 31)).toInt32)) &&& (252645135 : Int32)).toUInt32 >>> ((8 : Int32).toUInt32 &&& Int32.toUInt32 31)).toInt32)))]) G dJ6_bitCount_0f7a4_40 rfl (by decide) rfl rfl ?_
  refine zq_iload_n (q := 42) G dJ6_bitCount_0f7a4_41 0 rfl rfl rfl ?_
  refine zq_iload_n (q := 43) G dJ6_bitCount_0f7a4_42 0 rfl rfl rfl ?_
  refine zq_bipush (q := 45) (v := 16) G dJ6_bitCount_0f7a4_43 (by decide) rfl ?_
  refine zq_iushr (q := 46) G dJ6_bitCount_0f7a4_45 rfl ?_
  refine zq_iadd (q := 47) G dJ6_bitCount_0f7a4_46 rfl ?_
  refine zq_istore_n (q := 48) (lv2 := [(0, .int (((((((p0 - (((p0.toUInt32 >>> ((1 : Int32).toUInt32 &&& Int32.toUInt32 31)).toInt32) &&& (1431655765 : Int32))) &&& (858993459 : Int32)) + ((((p0 - (((p0.toUInt32 >>> ((1 : Int32).toUInt32 &&& Int32.toUInt32 31)).toInt32) &&& (1431655765 : Int32))).toUInt32 >>> ((2 : Int32).toUInt32 &&& Int32.toUInt32 31)).toInt32) &&& (858993459 : Int32))) + (((((p0 - (((p0.toUInt32 >>> ((1 : Int32).toUInt32 &&& Int32.toUInt32 31)).toInt32) &&& (1431655765 : Int32))) &&& (858993459 : Int32)) + ((((p0 - (((p0.toUInt32 >>> ((1 : Int32).toUInt32 &&& Int32.toUInt32 31)).toInt32) &&& (1431655765 : Int32))).toUInt32 >>> ((2 : Int32).toUInt32 &&& Int32.toUInt32 31)).toInt32) &&& (858993459 : Int32))).toUInt32 >>> ((4 : Int32).toUInt32 &&& Int32.toUInt32 31)).toInt32)) &&& (252645135 : Int32)) + (((((((p0 - (((p0.toUInt32 >>> ((1 : Int32).toUInt32 &&& Int32.toUInt32 31)).toInt32) &&& (1431655765 : Int32))) &&& (858993459 : Int32)) + ((((p0 - (((p0.toUInt32 >>> ((1 : Int32).toUInt32 &&& Int32.toUInt32 31)).toInt32) &&& (1431655765 : Int32))).toUInt32 >>> ((2 : Int32).toUInt32 &&& Int32.toUInt32 31)).toInt32) &&& (858993459 : Int32))) + (((((p0 - (((p0.toUInt32 >>> ((1 : Int32).toUInt32 &&& Int32.toUInt32 31)).toInt32) &&& (1431655765 : Int32))) &&& (858993459 : Int32)) + ((((p0 - (((p0.toUInt32 >>> ((1 : Int32).toUInt32 &&& Int32.toUInt32 31)).toInt32) &&& (1431655765 : Int32))).toUInt32 >>> ((2 : Int32).toUInt32 &&& Int32.toUInt32 31)).toInt32) &&& (858993459 : Int32))).toUInt32 >>> ((4 : Int32).toUInt32 &&& Int32.toUInt32 31)).toInt32)) &&& (252645135 : Int32)).toUInt32 >>> ((8 : Int32).toUInt32 &&& Int32.toUInt32 31)).toInt32)) + ((((((((p0 - (((p0.toUInt32 >>> ((1 : Int32).toUInt32 &&& Int32.toUInt32 31)).toInt32) &&& (1431655765 : Int32))) &&& (858993459 : Int32)) + ((((p0 - (((p0.toUInt32 >>> ((1 : Int32).toUInt32 &&& Int32.toUInt32 31)).toInt32) &&& (1431655765 : Int32))).toUInt32 >>> ((2 : Int32).toUInt32 &&& Int32.toUInt32 31)).toInt32) &&& (858993459 : Int32))) + (((((p0 - (((p0.toUInt32 >>> ((1 : Int32).toUInt32 &&& Int32.toUInt32 31)).toInt32) &&& (1431655765 : Int32))) &&& (858993459 : Int32)) + ((((p0 - (((p0.toUInt32 >>> ((1 : Int32).toUInt32 &&& Int32.toUInt32 31)).toInt32) &&& (1431655765 : Int32))).toUInt32 >>> ((2 : Int32).toUInt32 &&& Int32.toUInt32 31)).toInt32) &&& (858993459 : Int32))).toUInt32 >>> ((4 : Int32).toUInt32 &&& Int32.toUInt32 31)).toInt32)) &&& (252645135 : Int32)) + (((((((p0 - (((p0.toUInt32 >>> ((1 : Int32).toUInt32 &&& Int32.toUInt32 31)).toInt32) &&& (1431655765 : Int32))) &&& (858993459 : Int32)) + ((((p0 - (((p0.toUInt32 >>> ((1 : Int32).toUInt32 &&& Int32.toUInt32 31)).toInt32) &&& (1431655765 : Int32))).toUInt32 >>> ((2 : Int32).toUInt32 &&& Int32.toUInt32 31)).toInt32) &&& (858993459 : Int32))) + (((((p0 - (((p0.toUInt32 >>> ((1 : Int32).toUInt32 &&& Int32.toUInt32 31)).toInt32) &&& (1431655765 : Int32))) &&& (858993459 : Int32)) + ((((p0 - (((p0.toUInt32 >>> ((1 : Int32).toUInt32 &&& Int32.toUInt32 31)).toInt32) &&& (1431655765 : Int32))).toUInt32 >>> ((2 : Int32).toUInt32 &&& Int32.toUInt32 31)).toInt32) &&& (858993459 : Int32))).toUInt32 >>> ((4 : Int32).toUInt32 &&& Int32.toUInt32 31)).toInt32)) &&& (252645135 : Int32)).toUInt32 >>> ((8 : Int32).toUInt32 &&& Int32.toUInt32 31)).toInt32)).toUInt32 >>> ((16 : Int32).toUInt32 &&& Int32.toUInt32 31)).toInt32)))]) G dJ6_bitCount_0f7a4_47 rfl (by decide) rfl rfl ?_
  refine zq_iload_n (q := 49) G dJ6_bitCount_0f7a4_48 0 rfl rfl rfl ?_
  refine zq_bipush (q := 51) (v := 63) G dJ6_bitCount_0f7a4_49 (by decide) rfl ?_
  refine zq_iand (q := 52) G dJ6_bitCount_0f7a4_51 rfl ?_
  exact zq_iret G hlocks hr rfl dJ6_bitCount_0f7a4_52 (zsome h)
set_option maxHeartbeats 4000000 in
set_option maxRecDepth 100000 in
theorem c_X0_findLeast (l : Launch) (D : va_G) (cyI cyZ : ClassId) (h0_0 h0_1 h0_2 h0_3 h0_4 : Nat) (σ0 : zS) (p0 : Int32) (o0 : zS) (h : s_X0_findLeast σ0 p0 = some o0) (sz : Nat) : zMv l yX0_findLeast cX0_findLeast 8 1 21 D cyI cyZ sz [.ref h0_0, .int p0] (w_S cyI h0_0 h0_1 h0_2 h0_3 h0_4 σ0) (w_S cyI h0_0 h0_1 h0_2 h0_3 h0_4 o0) := by
  unfold s_X0_findLeast at h
  refine zstartV (lv0 := [(0, .ref h0_0), (1, .int p0)]) (by decide) (Nat.le_of_ble_eq_true rfl) rfl (fun p e s m args below meth c G hr hlocks => ?_)
  have b73 : ∀ (k14 : (zS → Int32 → Int32 → Int32 → Int32 → Int32 → Option (zS))) (hk14 : ∀ (τ0 : zS) (x1 : Int32) (x2 : Int32) (x3 : Int32) (x4 : Int32) (x5 : Int32), k14 τ0 x1 x2 x3 x4 x5 = some o0 → zW p l e ({ frames := 1, cells := 0, slots := 0, locals := 21 } : Room) s m args below meth c D (va_A (w_S cyI h0_0 h0_1 h0_2 h0_3 h0_4 σ0) sz) 8 0 0 (MQ below (zQv D cyI cyZ sz (w_S cyI h0_0 h0_1 h0_2 h0_3 h0_4 σ0) (w_S cyI h0_0 h0_1 h0_2 h0_3 h0_4 o0)) args s 0 0 (va_A (w_S cyI h0_0 h0_1 h0_2 h0_3 h0_4 σ0) sz)) 14 [(0, .ref h0_0), (1, .int x1), (2, .int x2), (3, .int x3), (4, .int x4), (5, .int x5)] [] (w_S cyI h0_0 h0_1 h0_2 h0_3 h0_4 τ0)) (τ0 : zS) (x1 : Int32) (x2 : Int32) (x3 : Int32) (x4 : Int32) (x5 : Int32) (x6 : Int32) (x7 : Int32), s_X0_findLeast_73 k14 τ0 x1 x2 x3 x4 x5 x6 x7 = some o0 → zW p l e ({ frames := 1, cells := 0, slots := 0, locals := 21 } : Room) s m args below meth c D (va_A (w_S cyI h0_0 h0_1 h0_2 h0_3 h0_4 σ0) sz) 8 0 0 (MQ below (zQv D cyI cyZ sz (w_S cyI h0_0 h0_1 h0_2 h0_3 h0_4 σ0) (w_S cyI h0_0 h0_1 h0_2 h0_3 h0_4 o0)) args s 0 0 (va_A (w_S cyI h0_0 h0_1 h0_2 h0_3 h0_4 σ0) sz)) 73 [(0, .ref h0_0), (1, .int x1), (2, .int x2), (3, .int x3), (4, .int x4), (5, .int x5), (6, .int x6), (7, .int x7)] [] (w_S cyI h0_0 h0_1 h0_2 h0_3 h0_4 τ0) := by
    intro k14 hk14 τ0 x1 x2 x3 x4 x5 x6 x7 h
    unfold s_X0_findLeast_73 at h
    refine zq_iload (q := 75) G dX0_findLeast_73 7 rfl rfl ?_
    refine zq_iload_n (q := 76) G dX0_findLeast_75 3 rfl rfl rfl ?_
    refine zq_icmp_ne (tgt := 91) (q := 79) G dX0_findLeast_76 (by decide) rfl (fun c1 => ?_) (fun c1 => ?_)
    · have h := zie h c1
      refine zq_iinc (q := 94) (v := (x5 + 1)) (lv2 := [(5, .int (x5 + 1)), (0, .ref h0_0), (1, .int x1), (2, .int x2), (3, .int x3), (4, .int x4), (6, .int x6), (7, .int x7)]) G dX0_findLeast_91 5 rfl rfl (by decide) rfl rfl ?_
      refine zq_goto (q := 14) G dX0_findLeast_94 (by decide) ?_
      exact zq_sub _ [1, 2, 3, 4, 5, 0] rfl (hk14 _ _ _ _ _ _ h)
    · have h := zit h c1
      refine zq_iload (q := 81) G dX0_findLeast_79 4 rfl rfl ?_
      refine zq_aload_n (q := 82) G dX0_findLeast_81 0 rfl rfl rfl ?_
      refine zq_get (q := 85) G zu_X0 rfl zw_X0_f22 dX0_findLeast_82 0 3 rfl (by decide) ⟨⟨rfl, rfl⟩, rfl⟩ rfl rfl ?_
      refine zq_iload (q := 87) G dX0_findLeast_85 6 rfl rfl ?_
      obtain ⟨q2, h⟩ := zif h
      refine zq_iald (q := 88) G dX0_findLeast_87 3 rfl q2 rfl ?_
      refine zq_iadd (q := 89) G dX0_findLeast_88 rfl ?_
      refine zq_istore (q := 91) (lv2 := [(4, .int (x4 + (τ0.2.2.2.1 x6.toNatClampNeg))), (0, .ref h0_0), (1, .int x1), (2, .int x2), (3, .int x3), (5, .int x5), (6, .int x6), (7, .int x7)]) G dX0_findLeast_89 (by decide) rfl rfl ?_
      refine zq_iinc (q := 94) (v := (x5 + 1)) (lv2 := [(5, .int (x5 + 1)), (4, .int (x4 + (τ0.2.2.2.1 x6.toNatClampNeg))), (0, .ref h0_0), (1, .int x1), (2, .int x2), (3, .int x3), (6, .int x6), (7, .int x7)]) G dX0_findLeast_91 5 rfl rfl (by decide) rfl rfl ?_
      refine zq_goto (q := 14) G dX0_findLeast_94 (by decide) ?_
      exact zq_sub _ [2, 3, 4, 5, 1, 0] rfl (hk14 _ _ _ _ _ _ h)
  have b14 : ∀ (n : Nat) (τ0 : zS) (x1 : Int32) (x2 : Int32) (x3 : Int32) (x4 : Int32) (x5 : Int32), s_X0_findLeast_14 n τ0 x1 x2 x3 x4 x5 = some o0 → zW p l e ({ frames := 1, cells := 0, slots := 0, locals := 21 } : Room) s m args below meth c D (va_A (w_S cyI h0_0 h0_1 h0_2 h0_3 h0_4 σ0) sz) 8 0 0 (MQ below (zQv D cyI cyZ sz (w_S cyI h0_0 h0_1 h0_2 h0_3 h0_4 σ0) (w_S cyI h0_0 h0_1 h0_2 h0_3 h0_4 o0)) args s 0 0 (va_A (w_S cyI h0_0 h0_1 h0_2 h0_3 h0_4 σ0) sz)) 14 [(0, .ref h0_0), (1, .int x1), (2, .int x2), (3, .int x3), (4, .int x4), (5, .int x5)] [] (w_S cyI h0_0 h0_1 h0_2 h0_3 h0_4 τ0) := by
    intro n
    induction n with
    | zero => intro τ0 x1 x2 x3 x4 x5 h; rw [s_X0_findLeast_14] at h; exact nomatch h
    | succ n ih =>
      intro τ0 x1 x2 x3 x4 x5 h
      rw [s_X0_findLeast_14] at h
      refine zq_iload (q := 16) G dX0_findLeast_14 5 rfl rfl ?_
      refine zq_aload_n (q := 17) G dX0_findLeast_16 0 rfl rfl rfl ?_
      refine zq_get (q := 20) G zu_X0 rfl zw_X0_f9 dX0_findLeast_17 0 0 rfl (by decide) ⟨⟨rfl, rfl⟩, rfl⟩ rfl rfl ?_
      refine zq_icmp_ge (tgt := 97) (q := 23) G dX0_findLeast_20 (by decide) rfl (fun c1 => ?_) (fun c1 => ?_)
      · have h := zit h c1
        refine zq_aload_n (q := 98) G dX0_findLeast_97 0 rfl rfl rfl ?_
        refine zq_get (q := 101) G zu_X0 rfl zw_X0_f19 dX0_findLeast_98 0 2 rfl (by decide) ⟨⟨rfl, rfl⟩, rfl⟩ rfl rfl ?_
        refine zq_iload_n (q := 102) G dX0_findLeast_101 1 rfl rfl rfl ?_
        refine zq_iload_n (q := 103) G dX0_findLeast_102 3 rfl rfl rfl ?_
        obtain ⟨q2, h⟩ := zif h
        refine zq_iast (q := 104) (ws2 := (w_S cyI h0_0 h0_1 h0_2 h0_3 h0_4 (τ0.1, τ0.2.1, (upd τ0.2.2.1 x1.toNatClampNeg x3), τ0.2.2.2.1, τ0.2.2.2.2))) G dX0_findLeast_103 2 rfl q2 rfl rfl ?_
        refine zq_aload_n (q := 105) G dX0_findLeast_104 0 rfl rfl rfl ?_
        refine zq_get (q := 108) G zu_X0 rfl zw_X0_f22 dX0_findLeast_105 0 3 rfl (by decide) ⟨⟨rfl, rfl⟩, rfl⟩ rfl rfl ?_
        refine zq_iload_n (q := 109) G dX0_findLeast_108 1 rfl rfl rfl ?_
        refine zq_iload (q := 111) G dX0_findLeast_109 4 rfl rfl ?_
        obtain ⟨q3, h⟩ := zif h
        refine zq_iast (q := 112) (ws2 := (w_S cyI h0_0 h0_1 h0_2 h0_3 h0_4 (τ0.1, τ0.2.1, (upd τ0.2.2.1 x1.toNatClampNeg x3), (upd τ0.2.2.2.1 x1.toNatClampNeg x4), τ0.2.2.2.2))) G dX0_findLeast_111 3 rfl q3 rfl rfl ?_
        refine zq_ws (congrArg (fun w9 => (w_S cyI h0_0 h0_1 h0_2 h0_3 h0_4 w9)) (zsome h)) ?_
        exact zq_vret G hlocks hr dX0_findLeast_112
      · have h := zie h c1
        refine zq_iload_n (q := 24) G dX0_findLeast_23 1 rfl rfl rfl ?_
        refine zq_iload (q := 26) G dX0_findLeast_24 5 rfl rfl ?_
        obtain ⟨z4, hc4, h⟩ := zbd h
        refine zq_callSi (q := 29) (ws2 := (w_S cyI h0_0 h0_1 h0_2 h0_3 h0_4 τ0)) (isC := []) (isR := [0, 1, 2, 3, 4]) (perm := [0, 1, 2, 3, 4]) (rest := []) (As := [.int x1, .int x5]) G zs_X0_59 dX0_findLeast_26 (fun sz9 => c_X0_isFree l D cyI cyZ x1 x5 z4 hc4 sz9) rfl ⟨rfl, rfl, rfl, rfl⟩ rfl (Nat.le_of_ble_eq_true rfl) ⟨Nat.le_of_ble_eq_true rfl, Nat.le_of_ble_eq_true rfl, Nat.zero_le _, Nat.zero_le _⟩ rfl ?_
        refine zq_if_eq (tgt := 91) (q := 32) G dX0_findLeast_29 (by decide) rfl (fun c5 => ?_) (fun c5 => ?_)
        · have h := zit h c5
          refine zq_iinc (q := 94) (v := (x5 + 1)) (lv2 := [(5, .int (x5 + 1)), (0, .ref h0_0), (1, .int x1), (2, .int x2), (3, .int x3), (4, .int x4)]) G dX0_findLeast_91 5 rfl rfl (by decide) rfl rfl ?_
          refine zq_goto (q := 14) G dX0_findLeast_94 (by decide) ?_
          exact zq_sub _ [1, 2, 3, 4, 5, 0] rfl (ih _ _ _ _ _ _ h)
        · have h := zie h c5
          refine zq_iload_n (q := 33) G dX0_findLeast_32 1 rfl rfl rfl ?_
          refine zq_iconst (q := 34) (v := 1) G dX0_findLeast_33 (by decide) rfl ?_
          refine zq_iload (q := 36) G dX0_findLeast_34 5 rfl rfl ?_
          refine zq_ishl (q := 37) G dX0_findLeast_36 rfl ?_
          refine zq_ior (q := 38) G dX0_findLeast_37 rfl ?_
          refine zq_istore (q := 40) (lv2 := [(6, .int (x1 ||| ((1 : Int32) <<< (x5 &&& 31)))), (0, .ref h0_0), (1, .int x1), (2, .int x2), (3, .int x3), (4, .int x4), (5, .int x5)]) G dX0_findLeast_38 (by decide) rfl rfl ?_
          refine zq_aload_n (q := 41) G dX0_findLeast_40 1 rfl rfl rfl ?_
          refine zq_get (q := 44) G zu_X0 rfl zw_X0_f15 dX0_findLeast_41 0 1 rfl (by decide) ⟨⟨rfl, rfl⟩, rfl⟩ rfl rfl ?_
          refine zq_iload_n (q := 45) G dX0_findLeast_44 3 rfl rfl rfl ?_
          refine zq_iload (q := 47) G dX0_findLeast_45 6 rfl rfl ?_
          obtain ⟨z6, hc6, h⟩ := zbd h
          refine zq_callNi (q := 50) (ws2 := (w_S cyI h0_0 h0_1 h0_2 h0_3 h0_4 τ0)) (isC := []) (isR := [0, 1, 2, 3, 4]) (perm := [0, 1, 2, 3, 4]) (rest := [.ref h0_1]) (As := [.int x2, .int x5]) G zs_X0_41 dX0_findLeast_47 (fun sz9 => c_X3_cellIndex l D cyI cyZ x2 x5 z6 hc6 sz9) rfl ⟨rfl, rfl, rfl, rfl⟩ rfl (Nat.le_of_ble_eq_true rfl) ⟨Nat.le_of_ble_eq_true rfl, Nat.le_of_ble_eq_true rfl, Nat.zero_le _, Nat.zero_le _⟩ rfl ?_
          obtain ⟨q7, h⟩ := zif h
          refine zq_iald (q := 51) G dX0_findLeast_50 1 rfl q7 rfl ?_
          refine zq_aload_n (q := 52) G dX0_findLeast_51 1 rfl rfl rfl ?_
          refine zq_get (q := 55) G zu_X0 rfl zw_X0_f19 dX0_findLeast_52 0 2 rfl (by decide) ⟨⟨rfl, rfl⟩, rfl⟩ rfl rfl ?_
          refine zq_iload (q := 57) G dX0_findLeast_55 0 rfl rfl ?_
          obtain ⟨q8, h⟩ := zif h
          refine zq_iald (q := 58) G dX0_findLeast_57 2 rfl q8 rfl ?_
          refine zq_iadd (q := 59) G dX0_findLeast_58 rfl ?_
          refine zq_istore (q := 61) (lv2 := [(7, .int ((τ0.2.1 z6.toNatClampNeg) + (τ0.2.2.1 (x1 ||| ((1 : Int32) <<< (x5 &&& 31))).toNatClampNeg))), (6, .int (x1 ||| ((1 : Int32) <<< (x5 &&& 31)))), (0, .ref h0_0), (1, .int x1), (2, .int x2), (3, .int x3), (4, .int x4), (5, .int x5)]) G dX0_findLeast_59 (by decide) rfl rfl ?_
          refine zq_iload (q := 63) G dX0_findLeast_61 0 rfl rfl ?_
          refine zq_iload_n (q := 64) G dX0_findLeast_63 5 rfl rfl rfl ?_
          refine zq_icmp_ge (tgt := 73) (q := 67) G dX0_findLeast_64 (by decide) rfl (fun c9 => ?_) (fun c9 => ?_)
          · have h := zit h c9
            exact zq_sub _ [2, 3, 4, 5, 6, 7, 1, 0] rfl (b73 _ ih _ _ _ _ _ _ _ _ h)
          · have h := zie h c9
            refine zq_iload (q := 69) G dX0_findLeast_67 0 rfl rfl ?_
            refine zq_istore_n (q := 70) (lv2 := [(3, .int ((τ0.2.1 z6.toNatClampNeg) + (τ0.2.2.1 (x1 ||| ((1 : Int32) <<< (x5 &&& 31))).toNatClampNeg))), (7, .int ((τ0.2.1 z6.toNatClampNeg) + (τ0.2.2.1 (x1 ||| ((1 : Int32) <<< (x5 &&& 31))).toNatClampNeg))), (6, .int (x1 ||| ((1 : Int32) <<< (x5 &&& 31)))), (0, .ref h0_0), (1, .int x1), (2, .int x2), (4, .int x4), (5, .int x5)]) G dX0_findLeast_69 rfl (by decide) rfl rfl ?_
            refine zq_iconst (q := 71) (v := 0) G dX0_findLeast_70 (by decide) rfl ?_
            refine zq_istore (q := 73) (lv2 := [(4, .int (0 : Int32)), (3, .int ((τ0.2.1 z6.toNatClampNeg) + (τ0.2.2.1 (x1 ||| ((1 : Int32) <<< (x5 &&& 31))).toNatClampNeg))), (7, .int ((τ0.2.1 z6.toNatClampNeg) + (τ0.2.2.1 (x1 ||| ((1 : Int32) <<< (x5 &&& 31))).toNatClampNeg))), (6, .int (x1 ||| ((1 : Int32) <<< (x5 &&& 31)))), (0, .ref h0_0), (1, .int x1), (2, .int x2), (5, .int x5)]) G dX0_findLeast_71 (by decide) rfl rfl ?_
            exact zq_sub _ [4, 5, 6, 1, 0, 7, 3, 2] rfl (b73 _ ih _ _ _ _ _ _ _ _ h)
  refine zq_iload_n (q := 1) G dX0_findLeast_0 1 rfl rfl rfl ?_
  obtain ⟨z1, hc1, h⟩ := zbd h
  refine zq_callSi (q := 4) (ws2 := (w_S cyI h0_0 h0_1 h0_2 h0_3 h0_4 σ0)) (isC := []) (isR := [0, 1, 2, 3, 4]) (perm := [0, 1, 2, 3, 4]) (rest := []) (As := [.int p0]) G zs_X0_52 dX0_findLeast_1 (fun sz9 => c_J6_bitCount_0f7a4 l D cyI cyZ p0 z1 hc1 sz9) rfl ⟨rfl, rfl, rfl, rfl⟩ rfl (Nat.le_of_ble_eq_true rfl) ⟨Nat.le_of_ble_eq_true rfl, Nat.le_of_ble_eq_true rfl, Nat.zero_le _, Nat.zero_le _⟩ rfl ?_
  refine zq_istore_n (q := 5) (lv2 := [(2, .int z1), (0, .ref h0_0), (1, .int p0)]) G dX0_findLeast_4 rfl (by decide) rfl rfl ?_
  refine zq_ldc (q := 7) G zw_X0_c58 dX0_findLeast_5 rfl ?_
  refine zq_istore_n (q := 8) (lv2 := [(3, .int (2147483647 : Int32)), (2, .int z1), (0, .ref h0_0), (1, .int p0)]) G dX0_findLeast_7 rfl (by decide) rfl rfl ?_
  refine zq_iconst (q := 9) (v := 0) G dX0_findLeast_8 (by decide) rfl ?_
  refine zq_istore (q := 11) (lv2 := [(4, .int (0 : Int32)), (3, .int (2147483647 : Int32)), (2, .int z1), (0, .ref h0_0), (1, .int p0)]) G dX0_findLeast_9 (by decide) rfl rfl ?_
  refine zq_iconst (q := 12) (v := 0) G dX0_findLeast_11 (by decide) rfl ?_
  refine zq_istore (q := 14) (lv2 := [(5, .int (0 : Int32)), (4, .int (0 : Int32)), (3, .int (2147483647 : Int32)), (2, .int z1), (0, .ref h0_0), (1, .int p0)]) G dX0_findLeast_12 (by decide) rfl rfl ?_
  exact zq_sub _ [4, 5, 3, 2, 1, 0] rfl (b14  _ _ _ _ _ _ _ h)
set_option maxHeartbeats 4000000 in
set_option maxRecDepth 100000 in
theorem c_X0_leastSum (l : Launch) (D : va_G) (cyI cyZ : ClassId) (h0_0 h0_1 h0_2 h0_3 h0_4 : Nat) (σ0 : zS) (r : Int32) (o0 : zS) (h : s_X0_leastSum σ0 = some (r, o0)) (sz : Nat) : zMi l yX0_leastSum cX0_leastSum 3 .int 2 48 D cyI cyZ sz [.ref h0_0] (w_S cyI h0_0 h0_1 h0_2 h0_3 h0_4 σ0) r (w_S cyI h0_0 h0_1 h0_2 h0_3 h0_4 o0) := by
  unfold s_X0_leastSum at h
  refine zstartI (lv0 := [(0, .ref h0_0)]) (by decide) (Nat.le_of_ble_eq_true rfl) rfl (fun p e s m args below meth c G hr hlocks => ?_)
  have b23 : ∀ (n : Nat) (τ0 : zS) (x2 : Int32), s_X0_leastSum_23 n τ0 x2 = some (r, o0) → zW p l e ({ frames := 2, cells := 0, slots := 0, locals := 48 } : Room) s m args below meth c D (va_A (w_S cyI h0_0 h0_1 h0_2 h0_3 h0_4 σ0) sz) 3 0 0 (MQ below (zQi D cyI cyZ sz (w_S cyI h0_0 h0_1 h0_2 h0_3 h0_4 σ0) r (w_S cyI h0_0 h0_1 h0_2 h0_3 h0_4 o0)) args s 0 0 (va_A (w_S cyI h0_0 h0_1 h0_2 h0_3 h0_4 σ0) sz)) 23 [(0, .ref h0_0), (2, .int x2)] [] (w_S cyI h0_0 h0_1 h0_2 h0_3 h0_4 τ0) := by
    intro n
    induction n with
    | zero => intro τ0 x2 h; rw [s_X0_leastSum_23] at h; exact nomatch h
    | succ n ih =>
      intro τ0 x2 h
      rw [s_X0_leastSum_23] at h
      refine zq_iload_n (q := 24) G dX0_leastSum_23 1 rfl rfl rfl ?_
      refine zq_if_lt (tgt := 38) (q := 27) G dX0_leastSum_24 (by decide) rfl (fun c1 => ?_) (fun c1 => ?_)
      · have h := zit h c1
        refine zq_aload_n (q := 39) G dX0_leastSum_38 0 rfl rfl rfl ?_
        refine zq_get (q := 42) G zu_X0 rfl zw_X0_f19 dX0_leastSum_39 0 2 rfl (by decide) ⟨⟨rfl, rfl⟩, rfl⟩ rfl rfl ?_
        refine zq_iconst (q := 43) (v := 0) G dX0_leastSum_42 (by decide) rfl ?_
        obtain ⟨q2, h⟩ := zif h
        refine zq_iald (q := 44) G dX0_leastSum_43 2 rfl q2 rfl ?_
        refine zq_ws (congrArg (fun w9 => (w_S cyI h0_0 h0_1 h0_2 h0_3 h0_4 w9.2)) (zsome h)) ?_
        exact zq_iret G hlocks hr rfl dX0_leastSum_44 (congrArg Prod.fst (zsome h))
      · have h := zie h c1
        refine zq_aload_n (q := 28) G dX0_leastSum_27 0 rfl rfl rfl ?_
        refine zq_iload_n (q := 29) G dX0_leastSum_28 1 rfl rfl rfl ?_
        obtain ⟨z3, hc3, h⟩ := zbd h
        refine zq_callVv (q := 32) (ws2 := (w_S cyI h0_0 h0_1 h0_2 h0_3 h0_4 z3)) (isC := [0, 1, 2, 3, 4]) (isR := []) (perm := [0, 1, 2, 3, 4]) (rest := []) (As := [.int x2]) G zs_X0_48 dX0_leastSum_29 (fun sz9 => c_X0_findLeast l D cyI cyZ h0_0 h0_1 h0_2 h0_3 h0_4 τ0 x2 z3 hc3 sz9) 0 rfl rfl rfl ⟨rfl, rfl, rfl, rfl⟩ rfl (Nat.le_of_ble_eq_true rfl) ⟨Nat.le_of_ble_eq_true rfl, Nat.le_of_ble_eq_true rfl, Nat.zero_le _, Nat.zero_le _⟩ rfl ?_
        refine zq_iinc (q := 35) (v := (x2 + (-1))) (lv2 := [(2, .int (x2 + (-1))), (0, .ref h0_0)]) G dX0_leastSum_32 1 rfl rfl (by decide) rfl rfl ?_
        refine zq_goto (q := 23) G dX0_leastSum_35 (by decide) ?_
        exact zq_sub _ [1, 0] rfl (ih _ _ h)
  refine zq_aload_n (q := 1) G dX0_leastSum_0 0 rfl rfl rfl ?_
  obtain ⟨z1, hc1, h⟩ := zbd h
  refine zq_callVi (q := 4) (ws2 := (w_S cyI h0_0 h0_1 h0_2 h0_3 h0_4 σ0)) (isC := [0, 1, 2, 3, 4]) (isR := []) (perm := [0, 1, 2, 3, 4]) (rest := []) (As := []) G zs_X0_44 dX0_leastSum_1 (fun sz9 => c_X0_allColumns l D cyI cyZ h0_0 h0_1 h0_2 h0_3 h0_4 σ0 z1 hc1 sz9) 0 rfl rfl rfl ⟨rfl, rfl, rfl, rfl⟩ rfl (Nat.le_of_ble_eq_true rfl) ⟨Nat.le_of_ble_eq_true rfl, Nat.le_of_ble_eq_true rfl, Nat.zero_le _, Nat.zero_le _⟩ rfl ?_
  refine zq_istore_n (q := 5) (lv2 := [(1, .int z1), (0, .ref h0_0)]) G dX0_leastSum_4 rfl (by decide) rfl rfl ?_
  refine zq_aload_n (q := 6) G dX0_leastSum_5 1 rfl rfl rfl ?_
  refine zq_get (q := 9) G zu_X0 rfl zw_X0_f19 dX0_leastSum_6 0 2 rfl (by decide) ⟨⟨rfl, rfl⟩, rfl⟩ rfl rfl ?_
  refine zq_iload_n (q := 10) G dX0_leastSum_9 0 rfl rfl rfl ?_
  refine zq_iconst (q := 11) (v := 0) G dX0_leastSum_10 (by decide) rfl ?_
  obtain ⟨q2, h⟩ := zif h
  refine zq_iast (q := 12) (ws2 := (w_S cyI h0_0 h0_1 h0_2 h0_3 h0_4 (σ0.1, σ0.2.1, (upd σ0.2.2.1 z1.toNatClampNeg (0 : Int32)), σ0.2.2.2.1, σ0.2.2.2.2))) G dX0_leastSum_11 2 rfl q2 rfl rfl ?_
  refine zq_aload_n (q := 13) G dX0_leastSum_12 1 rfl rfl rfl ?_
  refine zq_get (q := 16) G zu_X0 rfl zw_X0_f22 dX0_leastSum_13 0 3 rfl (by decide) ⟨⟨rfl, rfl⟩, rfl⟩ rfl rfl ?_
  refine zq_iload_n (q := 17) G dX0_leastSum_16 0 rfl rfl rfl ?_
  refine zq_iconst (q := 18) (v := 1) G dX0_leastSum_17 (by decide) rfl ?_
  obtain ⟨q3, h⟩ := zif h
  refine zq_iast (q := 19) (ws2 := (w_S cyI h0_0 h0_1 h0_2 h0_3 h0_4 (σ0.1, σ0.2.1, (upd σ0.2.2.1 z1.toNatClampNeg (0 : Int32)), (upd σ0.2.2.2.1 z1.toNatClampNeg (1 : Int32)), σ0.2.2.2.2))) G dX0_leastSum_18 3 rfl q3 rfl rfl ?_
  refine zq_iload_n (q := 20) G dX0_leastSum_19 0 rfl rfl rfl ?_
  refine zq_iconst (q := 21) (v := 1) G dX0_leastSum_20 (by decide) rfl ?_
  refine zq_isub (q := 22) G dX0_leastSum_21 rfl ?_
  refine zq_istore_n (q := 23) (lv2 := [(2, .int (z1 - (1 : Int32))), (1, .int z1), (0, .ref h0_0)]) G dX0_leastSum_22 rfl (by decide) rfl rfl ?_
  exact zq_sub _ [2, 0] rfl (b23  _ _ _ h)
set_option maxHeartbeats 4000000 in
set_option maxRecDepth 100000 in
theorem c_X0_leastWays (l : Launch) (D : va_G) (cyI cyZ : ClassId) (h0_0 h0_1 h0_2 h0_3 h0_4 : Nat) (σ0 : zS) (r : Int32) (h : s_X0_leastWays σ0 = some r) (sz : Nat) : zMi l yX0_leastWays cX0_leastWays 1 .int 0 0 D cyI cyZ sz [.ref h0_0] (w_S cyI h0_0 h0_1 h0_2 h0_3 h0_4 σ0) r (w_S cyI h0_0 h0_1 h0_2 h0_3 h0_4 σ0) := by
  unfold s_X0_leastWays at h
  refine zstartI (lv0 := [(0, .ref h0_0)]) (by decide) (Nat.le_of_ble_eq_true rfl) rfl (fun p e s m args below meth c G hr hlocks => ?_)
  refine zq_aload_n (q := 1) G dX0_leastWays_0 0 rfl rfl rfl ?_
  refine zq_get (q := 4) G zu_X0 rfl zw_X0_f22 dX0_leastWays_1 0 3 rfl (by decide) ⟨⟨rfl, rfl⟩, rfl⟩ rfl rfl ?_
  refine zq_iconst (q := 5) (v := 0) G dX0_leastWays_4 (by decide) rfl ?_
  obtain ⟨q1, h⟩ := zif h
  refine zq_iald (q := 6) G dX0_leastWays_5 3 rfl q1 rfl ?_
  exact zq_iret G hlocks hr rfl dX0_leastWays_6 (zsome h)
set_option maxHeartbeats 4000000 in
set_option maxRecDepth 100000 in
theorem c_X0_isOnLeast (l : Launch) (D : va_G) (cyI cyZ : ClassId) (h0_0 h0_1 h0_2 h0_3 h0_4 : Nat) (σ0 : zS) (p0 : Int32) (p1 : Int32) (p2 : Int32) (r : Int32) (h : s_X0_isOnLeast σ0 p0 p1 p2 = some r) (sz : Nat) : zMi l yX0_isOnLeast cX0_isOnLeast 4 .boolean 1 21 D cyI cyZ sz [.ref h0_0, .int p0, .int p1, .int p2] (w_S cyI h0_0 h0_1 h0_2 h0_3 h0_4 σ0) r (w_S cyI h0_0 h0_1 h0_2 h0_3 h0_4 σ0) := by
  unfold s_X0_isOnLeast at h
  refine zstartI (lv0 := [(0, .ref h0_0), (1, .int p0), (2, .int p1), (3, .int p2)]) (by decide) (Nat.le_of_ble_eq_true rfl) rfl (fun p e s m args below meth c G hr hlocks => ?_)
  refine zq_aload_n (q := 1) G dX0_isOnLeast_0 0 rfl rfl rfl ?_
  refine zq_get (q := 4) G zu_X0 rfl zw_X0_f15 dX0_isOnLeast_1 0 1 rfl (by decide) ⟨⟨rfl, rfl⟩, rfl⟩ rfl rfl ?_
  refine zq_iload_n (q := 5) G dX0_isOnLeast_4 1 rfl rfl rfl ?_
  refine zq_iload_n (q := 6) G dX0_isOnLeast_5 2 rfl rfl rfl ?_
  obtain ⟨z1, hc1, h⟩ := zbd h
  refine zq_callNi (q := 9) (ws2 := (w_S cyI h0_0 h0_1 h0_2 h0_3 h0_4 σ0)) (isC := []) (isR := [0, 1, 2, 3, 4]) (perm := [0, 1, 2, 3, 4]) (rest := [.ref h0_1]) (As := [.int p0, .int p1]) G zs_X0_41 dX0_isOnLeast_6 (fun sz9 => c_X3_cellIndex l D cyI cyZ p0 p1 z1 hc1 sz9) rfl ⟨rfl, rfl, rfl, rfl⟩ rfl (Nat.le_of_ble_eq_true rfl) ⟨Nat.le_of_ble_eq_true rfl, Nat.le_of_ble_eq_true rfl, Nat.zero_le _, Nat.zero_le _⟩ rfl ?_
  obtain ⟨q2, h⟩ := zif h
  refine zq_iald (q := 10) G dX0_isOnLeast_9 1 rfl q2 rfl ?_
  refine zq_aload_n (q := 11) G dX0_isOnLeast_10 0 rfl rfl rfl ?_
  refine zq_get (q := 14) G zu_X0 rfl zw_X0_f19 dX0_isOnLeast_11 0 2 rfl (by decide) ⟨⟨rfl, rfl⟩, rfl⟩ rfl rfl ?_
  refine zq_iload_n (q := 15) G dX0_isOnLeast_14 3 rfl rfl rfl ?_
  refine zq_iconst (q := 16) (v := 1) G dX0_isOnLeast_15 (by decide) rfl ?_
  refine zq_iload_n (q := 17) G dX0_isOnLeast_16 2 rfl rfl rfl ?_
  refine zq_ishl (q := 18) G dX0_isOnLeast_17 rfl ?_
  refine zq_ior (q := 19) G dX0_isOnLeast_18 rfl ?_
  obtain ⟨q3, h⟩ := zif h
  refine zq_iald (q := 20) G dX0_isOnLeast_19 2 rfl q3 rfl ?_
  refine zq_iadd (q := 21) G dX0_isOnLeast_20 rfl ?_
  refine zq_aload_n (q := 22) G dX0_isOnLeast_21 0 rfl rfl rfl ?_
  refine zq_get (q := 25) G zu_X0 rfl zw_X0_f19 dX0_isOnLeast_22 0 2 rfl (by decide) ⟨⟨rfl, rfl⟩, rfl⟩ rfl rfl ?_
  refine zq_iload_n (q := 26) G dX0_isOnLeast_25 3 rfl rfl rfl ?_
  obtain ⟨q4, h⟩ := zif h
  refine zq_iald (q := 27) G dX0_isOnLeast_26 2 rfl q4 rfl ?_
  refine zq_icmp_ne (tgt := 34) (q := 30) G dX0_isOnLeast_27 (by decide) rfl (fun c5 => ?_) (fun c5 => ?_)
  · have h := zie h c5
    refine zq_iconst (q := 35) (v := 0) G dX0_isOnLeast_34 (by decide) rfl ?_
    exact zq_iret G hlocks hr rfl dX0_isOnLeast_35 (zsome h)
  · have h := zit h c5
    refine zq_iconst (q := 31) (v := 1) G dX0_isOnLeast_30 (by decide) rfl ?_
    refine zq_goto (q := 35) G dX0_isOnLeast_31 (by decide) ?_
    exact zq_iret G hlocks hr rfl dX0_isOnLeast_35 (zsome h)
set_option maxHeartbeats 4000000 in
set_option maxRecDepth 100000 in
theorem c_X0_traceLeast (l : Launch) (D : va_G) (cyI cyZ : ClassId) (h0_0 h0_1 h0_2 h0_3 h0_4 h1_0 : Nat) (σ0 : zS) (σ1 : zF) (o1 : zF) (h : s_X0_traceLeast σ0 σ1 = some o1) (sz : Nat) : zMv l yX0_traceLeast cX0_traceLeast 5 2 44 D cyI cyZ sz [.ref h0_0, .ref h1_0] (w_S cyI h0_0 h0_1 h0_2 h0_3 h0_4 σ0 ++ w_F cyI 7 h1_0 σ1) (w_S cyI h0_0 h0_1 h0_2 h0_3 h0_4 σ0 ++ w_F cyI 7 h1_0 o1) := by
  unfold s_X0_traceLeast at h
  refine zstartV (lv0 := [(0, .ref h0_0), (1, .ref h1_0)]) (by decide) (Nat.le_of_ble_eq_true rfl) rfl (fun p e s m args below meth c G hr hlocks => ?_)
  have b15 : ∀ (k4 : (zS → zF → Int32 → Int32 → Option (zF))) (hk4 : ∀ (τ1 : zF) (x2 : Int32) (x3 : Int32), k4 σ0 τ1 x2 x3 = some o1 → zW p l e ({ frames := 2, cells := 0, slots := 0, locals := 44 } : Room) s m args below meth c D (va_A (w_S cyI h0_0 h0_1 h0_2 h0_3 h0_4 σ0 ++ w_F cyI 7 h1_0 σ1) sz) 5 0 0 (MQ below (zQv D cyI cyZ sz (w_S cyI h0_0 h0_1 h0_2 h0_3 h0_4 σ0 ++ w_F cyI 7 h1_0 σ1) (w_S cyI h0_0 h0_1 h0_2 h0_3 h0_4 σ0 ++ w_F cyI 7 h1_0 o1)) args s 0 0 (va_A (w_S cyI h0_0 h0_1 h0_2 h0_3 h0_4 σ0 ++ w_F cyI 7 h1_0 σ1) sz)) 4 [(0, .ref h0_0), (1, .ref h1_0), (2, .int x2), (3, .int x3)] [] (w_S cyI h0_0 h0_1 h0_2 h0_3 h0_4 σ0 ++ w_F cyI 7 h1_0 τ1)) (n : Nat) (τ1 : zF) (x2 : Int32) (x3 : Int32) (x4 : Int32), s_X0_traceLeast_15 k4 n σ0 τ1 x2 x3 x4 = some o1 → zW p l e ({ frames := 2, cells := 0, slots := 0, locals := 44 } : Room) s m args below meth c D (va_A (w_S cyI h0_0 h0_1 h0_2 h0_3 h0_4 σ0 ++ w_F cyI 7 h1_0 σ1) sz) 5 0 0 (MQ below (zQv D cyI cyZ sz (w_S cyI h0_0 h0_1 h0_2 h0_3 h0_4 σ0 ++ w_F cyI 7 h1_0 σ1) (w_S cyI h0_0 h0_1 h0_2 h0_3 h0_4 σ0 ++ w_F cyI 7 h1_0 o1)) args s 0 0 (va_A (w_S cyI h0_0 h0_1 h0_2 h0_3 h0_4 σ0 ++ w_F cyI 7 h1_0 σ1) sz)) 15 [(0, .ref h0_0), (1, .ref h1_0), (2, .int x2), (3, .int x3), (4, .int x4)] [] (w_S cyI h0_0 h0_1 h0_2 h0_3 h0_4 σ0 ++ w_F cyI 7 h1_0 τ1) := by
    intro k4 hk4
    intro n
    induction n with
    | zero => intro τ1 x2 x3 x4 h; rw [s_X0_traceLeast_15] at h; exact nomatch h
    | succ n ih =>
      intro τ1 x2 x3 x4 h
      rw [s_X0_traceLeast_15] at h
      refine zq_iload (q := 17) G dX0_traceLeast_15 4 rfl rfl ?_
      refine zq_aload_n (q := 18) G dX0_traceLeast_17 0 rfl rfl rfl ?_
      refine zq_get (q := 21) G zu_X0 rfl zw_X0_f9 dX0_traceLeast_18 0 0 rfl (by decide) ⟨⟨rfl, rfl⟩, rfl⟩ rfl rfl ?_
      refine zq_icmp_ge (tgt := 65) (q := 24) G dX0_traceLeast_21 (by decide) rfl (fun c1 => ?_) (fun c1 => ?_)
      · have h := zit h c1
        refine zq_iinc (q := 68) (v := (x3 + 1)) (lv2 := [(3, .int (x3 + 1)), (0, .ref h0_0), (1, .ref h1_0), (2, .int x2), (4, .int x4)]) G dX0_traceLeast_65 3 rfl rfl (by decide) rfl rfl ?_
        refine zq_goto (q := 4) G dX0_traceLeast_68 (by decide) ?_
        exact zq_sub _ [1, 2, 3, 0] rfl (hk4 _ _ _ h)
      · have h := zie h c1
        refine zq_iload_n (q := 25) G dX0_traceLeast_24 2 rfl rfl rfl ?_
        refine zq_iload (q := 27) G dX0_traceLeast_25 4 rfl rfl ?_
        obtain ⟨z2, hc2, h⟩ := zbd h
        refine zq_callSi (q := 30) (ws2 := (w_S cyI h0_0 h0_1 h0_2 h0_3 h0_4 σ0 ++ w_F cyI 7 h1_0 τ1)) (isC := []) (isR := [0, 1, 2, 3, 4, 5]) (perm := [0, 1, 2, 3, 4, 5]) (rest := []) (As := [.int x2, .int x4]) G zs_X0_59 dX0_traceLeast_27 (fun sz9 => c_X0_isFree l D cyI cyZ x2 x4 z2 hc2 sz9) rfl ⟨rfl, rfl, rfl, rfl⟩ rfl (Nat.le_of_ble_eq_true rfl) ⟨Nat.le_of_ble_eq_true rfl, Nat.le_of_ble_eq_true rfl, Nat.zero_le _, Nat.zero_le _⟩ rfl ?_
        refine zq_if_eq (tgt := 59) (q := 33) G dX0_traceLeast_30 (by decide) rfl (fun c3 => ?_) (fun c3 => ?_)
        · have h := zit h c3
          refine zq_iinc (q := 62) (v := (x4 + 1)) (lv2 := [(4, .int (x4 + 1)), (0, .ref h0_0), (1, .ref h1_0), (2, .int x2), (3, .int x3)]) G dX0_traceLeast_59 4 rfl rfl (by decide) rfl rfl ?_
          refine zq_goto (q := 15) G dX0_traceLeast_62 (by decide) ?_
          exact zq_sub _ [1, 2, 3, 4, 0] rfl (ih _ _ _ _ h)
        · have h := zie h c3
          refine zq_aload_n (q := 34) G dX0_traceLeast_33 0 rfl rfl rfl ?_
          refine zq_iload_n (q := 35) G dX0_traceLeast_34 3 rfl rfl rfl ?_
          refine zq_iload (q := 37) G dX0_traceLeast_35 4 rfl rfl ?_
          refine zq_iload_n (q := 38) G dX0_traceLeast_37 2 rfl rfl rfl ?_
          obtain ⟨z4, hc4, h⟩ := zbd h
          refine zq_callVi (q := 41) (ws2 := (w_S cyI h0_0 h0_1 h0_2 h0_3 h0_4 σ0 ++ w_F cyI 7 h1_0 τ1)) (isC := [0, 1, 2, 3, 4]) (isR := [5]) (perm := [1, 2, 3, 4, 5, 0]) (rest := []) (As := [.int x3, .int x4, .int x2]) G zs_X0_63 dX0_traceLeast_38 (fun sz9 => c_X0_isOnLeast l D cyI cyZ h0_0 h0_1 h0_2 h0_3 h0_4 σ0 x3 x4 x2 z4 hc4 sz9) 0 rfl rfl rfl ⟨rfl, rfl, rfl, rfl⟩ rfl (Nat.le_of_ble_eq_true rfl) ⟨Nat.le_of_ble_eq_true rfl, Nat.le_of_ble_eq_true rfl, Nat.zero_le _, Nat.zero_le _⟩ rfl ?_
          refine zq_if_eq (tgt := 59) (q := 44) G dX0_traceLeast_41 (by decide) rfl (fun c5 => ?_) (fun c5 => ?_)
          · have h := zit h c5
            refine zq_iinc (q := 62) (v := (x4 + 1)) (lv2 := [(4, .int (x4 + 1)), (0, .ref h0_0), (1, .ref h1_0), (2, .int x2), (3, .int x3)]) G dX0_traceLeast_59 4 rfl rfl (by decide) rfl rfl ?_
            refine zq_goto (q := 15) G dX0_traceLeast_62 (by decide) ?_
            exact zq_sub _ [1, 2, 3, 4, 0] rfl (ih _ _ _ _ h)
          · have h := zie h c5
            refine zq_aload_n (q := 45) G dX0_traceLeast_44 1 rfl rfl rfl ?_
            refine zq_iload_n (q := 46) G dX0_traceLeast_45 3 rfl rfl rfl ?_
            refine zq_iload (q := 48) G dX0_traceLeast_46 4 rfl rfl ?_
            obtain ⟨q6, h⟩ := zif h
            refine zq_iast (q := 49) (ws2 := (w_S cyI h0_0 h0_1 h0_2 h0_3 h0_4 σ0 ++ w_F cyI 7 h1_0 (upd τ1 x3.toNatClampNeg x4))) G dX0_traceLeast_48 5 rfl q6 rfl rfl ?_
            refine zq_iload_n (q := 50) G dX0_traceLeast_49 2 rfl rfl rfl ?_
            refine zq_iconst (q := 51) (v := 1) G dX0_traceLeast_50 (by decide) rfl ?_
            refine zq_iload (q := 53) G dX0_traceLeast_51 4 rfl rfl ?_
            refine zq_ishl (q := 54) G dX0_traceLeast_53 rfl ?_
            refine zq_ior (q := 55) G dX0_traceLeast_54 rfl ?_
            refine zq_istore_n (q := 56) (lv2 := [(2, .int (x2 ||| ((1 : Int32) <<< (x4 &&& 31)))), (0, .ref h0_0), (1, .ref h1_0), (3, .int x3), (4, .int x4)]) G dX0_traceLeast_55 rfl (by decide) rfl rfl ?_
            refine zq_goto (q := 65) G dX0_traceLeast_56 (by decide) ?_
            refine zq_iinc (q := 68) (v := (x3 + 1)) (lv2 := [(3, .int (x3 + 1)), (2, .int (x2 ||| ((1 : Int32) <<< (x4 &&& 31)))), (0, .ref h0_0), (1, .ref h1_0), (4, .int x4)]) G dX0_traceLeast_65 3 rfl rfl (by decide) rfl rfl ?_
            refine zq_goto (q := 4) G dX0_traceLeast_68 (by decide) ?_
            exact zq_sub _ [2, 3, 1, 0] rfl (hk4 _ _ _ h)
  have b4 : ∀ (n : Nat) (τ1 : zF) (x2 : Int32) (x3 : Int32), s_X0_traceLeast_4 n σ0 τ1 x2 x3 = some o1 → zW p l e ({ frames := 2, cells := 0, slots := 0, locals := 44 } : Room) s m args below meth c D (va_A (w_S cyI h0_0 h0_1 h0_2 h0_3 h0_4 σ0 ++ w_F cyI 7 h1_0 σ1) sz) 5 0 0 (MQ below (zQv D cyI cyZ sz (w_S cyI h0_0 h0_1 h0_2 h0_3 h0_4 σ0 ++ w_F cyI 7 h1_0 σ1) (w_S cyI h0_0 h0_1 h0_2 h0_3 h0_4 σ0 ++ w_F cyI 7 h1_0 o1)) args s 0 0 (va_A (w_S cyI h0_0 h0_1 h0_2 h0_3 h0_4 σ0 ++ w_F cyI 7 h1_0 σ1) sz)) 4 [(0, .ref h0_0), (1, .ref h1_0), (2, .int x2), (3, .int x3)] [] (w_S cyI h0_0 h0_1 h0_2 h0_3 h0_4 σ0 ++ w_F cyI 7 h1_0 τ1) := by
    intro n
    induction n with
    | zero => intro τ1 x2 x3 h; rw [s_X0_traceLeast_4] at h; exact nomatch h
    | succ n ih =>
      intro τ1 x2 x3 h
      rw [s_X0_traceLeast_4] at h
      refine zq_iload_n (q := 5) G dX0_traceLeast_4 3 rfl rfl rfl ?_
      refine zq_aload_n (q := 6) G dX0_traceLeast_5 0 rfl rfl rfl ?_
      refine zq_get (q := 9) G zu_X0 rfl zw_X0_f9 dX0_traceLeast_6 0 0 rfl (by decide) ⟨⟨rfl, rfl⟩, rfl⟩ rfl rfl ?_
      refine zq_icmp_ge (tgt := 71) (q := 12) G dX0_traceLeast_9 (by decide) rfl (fun c1 => ?_) (fun c1 => ?_)
      · have h := zit h c1
        refine zq_ws (congrArg (fun w9 => (w_S cyI h0_0 h0_1 h0_2 h0_3 h0_4 σ0 ++ w_F cyI 7 h1_0 w9)) (zsome h)) ?_
        exact zq_vret G hlocks hr dX0_traceLeast_71
      · have h := zie h c1
        refine zq_iconst (q := 13) (v := 0) G dX0_traceLeast_12 (by decide) rfl ?_
        refine zq_istore (q := 15) (lv2 := [(4, .int (0 : Int32)), (0, .ref h0_0), (1, .ref h1_0), (2, .int x2), (3, .int x3)]) G dX0_traceLeast_13 (by decide) rfl rfl ?_
        exact zq_sub _ [1, 2, 3, 4, 0] rfl (b15 _ ih _ _ _ _ _ h)
  refine zq_iconst (q := 1) (v := 0) G dX0_traceLeast_0 (by decide) rfl ?_
  refine zq_istore_n (q := 2) (lv2 := [(2, .int (0 : Int32)), (0, .ref h0_0), (1, .ref h1_0)]) G dX0_traceLeast_1 rfl (by decide) rfl rfl ?_
  refine zq_iconst (q := 3) (v := 0) G dX0_traceLeast_2 (by decide) rfl ?_
  refine zq_istore_n (q := 4) (lv2 := [(3, .int (0 : Int32)), (2, .int (0 : Int32)), (0, .ref h0_0), (1, .ref h1_0)]) G dX0_traceLeast_3 rfl (by decide) rfl rfl ?_
  exact zq_sub _ [2, 3, 1, 0] rfl (b4  _ _ _ _ h)
set_option maxHeartbeats 4000000 in
set_option maxRecDepth 100000 in
theorem c_X0_greatestSum (l : Launch) (D : va_G) (cyI cyZ : ClassId) (h0_0 h0_1 h0_2 h0_3 h0_4 : Nat) (σ0 : zS) (r : Int32) (o0 : zS) (h : s_X0_greatestSum σ0 = some (r, o0)) (sz : Nat) : zMi l yX0_greatestSum cX0_greatestSum 7 .int 2 40 D cyI cyZ sz [.ref h0_0] (w_S cyI h0_0 h0_1 h0_2 h0_3 h0_4 σ0) r (w_S cyI h0_0 h0_1 h0_2 h0_3 h0_4 o0) := by
  unfold s_X0_greatestSum at h
  refine zstartI (lv0 := [(0, .ref h0_0)]) (by decide) (Nat.le_of_ble_eq_true rfl) rfl (fun p e s m args below meth c G hr hlocks => ?_)
  have b32 : ∀ (k16 : (zS → Int32 → Option (Int32 × zS))) (hk16 : ∀ (τ0 : zS) (x2 : Int32), k16 τ0 x2 = some (r, o0) → zW p l e ({ frames := 2, cells := 0, slots := 0, locals := 40 } : Room) s m args below meth c D (va_A (w_S cyI h0_0 h0_1 h0_2 h0_3 h0_4 σ0) sz) 7 0 0 (MQ below (zQi D cyI cyZ sz (w_S cyI h0_0 h0_1 h0_2 h0_3 h0_4 σ0) r (w_S cyI h0_0 h0_1 h0_2 h0_3 h0_4 o0)) args s 0 0 (va_A (w_S cyI h0_0 h0_1 h0_2 h0_3 h0_4 σ0) sz)) 16 [(0, .ref h0_0), (2, .int x2)] [] (w_S cyI h0_0 h0_1 h0_2 h0_3 h0_4 τ0)) (n : Nat) (τ0 : zS) (x2 : Int32) (x3 : Int32) (x4 : Int32) (x5 : Int32), s_X0_greatestSum_32 k16 n τ0 x2 x3 x4 x5 = some (r, o0) → zW p l e ({ frames := 2, cells := 0, slots := 0, locals := 40 } : Room) s m args below meth c D (va_A (w_S cyI h0_0 h0_1 h0_2 h0_3 h0_4 σ0) sz) 7 0 0 (MQ below (zQi D cyI cyZ sz (w_S cyI h0_0 h0_1 h0_2 h0_3 h0_4 σ0) r (w_S cyI h0_0 h0_1 h0_2 h0_3 h0_4 o0)) args s 0 0 (va_A (w_S cyI h0_0 h0_1 h0_2 h0_3 h0_4 σ0) sz)) 32 [(0, .ref h0_0), (2, .int x2), (3, .int x3), (4, .int x4), (5, .int x5)] [] (w_S cyI h0_0 h0_1 h0_2 h0_3 h0_4 τ0) := by
    intro k16 hk16
    intro n
    induction n with
    | zero => intro τ0 x2 x3 x4 x5 h; rw [s_X0_greatestSum_32] at h; exact nomatch h
    | succ n ih =>
      intro τ0 x2 x3 x4 x5 h
      rw [s_X0_greatestSum_32] at h
      refine zq_iload (q := 34) G dX0_greatestSum_32 4 rfl rfl ?_
      refine zq_aload_n (q := 35) G dX0_greatestSum_34 0 rfl rfl rfl ?_
      refine zq_get (q := 38) G zu_X0 rfl zw_X0_f9 dX0_greatestSum_35 0 0 rfl (by decide) ⟨⟨rfl, rfl⟩, rfl⟩ rfl rfl ?_
      refine zq_icmp_ge (tgt := 90) (q := 41) G dX0_greatestSum_38 (by decide) rfl (fun c1 => ?_) (fun c1 => ?_)
      · have h := zit h c1
        refine zq_aload_n (q := 91) G dX0_greatestSum_90 0 rfl rfl rfl ?_
        refine zq_get (q := 94) G zu_X0 rfl zw_X0_f25 dX0_greatestSum_91 0 4 rfl (by decide) ⟨⟨rfl, rfl⟩, rfl⟩ rfl rfl ?_
        refine zq_iload_n (q := 95) G dX0_greatestSum_94 1 rfl rfl rfl ?_
        refine zq_iload (q := 97) G dX0_greatestSum_95 3 rfl rfl ?_
        obtain ⟨q2, h⟩ := zif h
        refine zq_iast (q := 98) (ws2 := (w_S cyI h0_0 h0_1 h0_2 h0_3 h0_4 (τ0.1, τ0.2.1, τ0.2.2.1, τ0.2.2.2.1, (upd τ0.2.2.2.2 x2.toNatClampNeg x4)))) G dX0_greatestSum_97 4 rfl q2 rfl rfl ?_
        refine zq_iinc (q := 101) (v := (x2 + (-1))) (lv2 := [(2, .int (x2 + (-1))), (0, .ref h0_0), (3, .int x3), (4, .int x4), (5, .int x5)]) G dX0_greatestSum_98 1 rfl rfl (by decide) rfl rfl ?_
        refine zq_goto (q := 16) G dX0_greatestSum_101 (by decide) ?_
        exact zq_sub _ [1, 0] rfl (hk16 _ _ h)
      · have h := zie h c1
        refine zq_iload_n (q := 42) G dX0_greatestSum_41 1 rfl rfl rfl ?_
        refine zq_iload (q := 44) G dX0_greatestSum_42 4 rfl rfl ?_
        obtain ⟨z3, hc3, h⟩ := zbd h
        refine zq_callSi (q := 47) (ws2 := (w_S cyI h0_0 h0_1 h0_2 h0_3 h0_4 τ0)) (isC := []) (isR := [0, 1, 2, 3, 4]) (perm := [0, 1, 2, 3, 4]) (rest := []) (As := [.int x2, .int x5]) G zs_X0_59 dX0_greatestSum_44 (fun sz9 => c_X0_isFree l D cyI cyZ x2 x5 z3 hc3 sz9) rfl ⟨rfl, rfl, rfl, rfl⟩ rfl (Nat.le_of_ble_eq_true rfl) ⟨Nat.le_of_ble_eq_true rfl, Nat.le_of_ble_eq_true rfl, Nat.zero_le _, Nat.zero_le _⟩ rfl ?_
        refine zq_if_eq (tgt := 84) (q := 50) G dX0_greatestSum_47 (by decide) rfl (fun c4 => ?_) (fun c4 => ?_)
        · have h := zit h c4
          refine zq_iinc (q := 87) (v := (x5 + 1)) (lv2 := [(5, .int (x5 + 1)), (0, .ref h0_0), (2, .int x2), (3, .int x3), (4, .int x4)]) G dX0_greatestSum_84 4 rfl rfl (by decide) rfl rfl ?_
          refine zq_goto (q := 32) G dX0_greatestSum_87 (by decide) ?_
          exact zq_sub _ [1, 2, 3, 4, 0] rfl (ih _ _ _ _ _ h)
        · have h := zie h c4
          refine zq_aload_n (q := 51) G dX0_greatestSum_50 0 rfl rfl rfl ?_
          refine zq_get (q := 54) G zu_X0 rfl zw_X0_f15 dX0_greatestSum_51 0 1 rfl (by decide) ⟨⟨rfl, rfl⟩, rfl⟩ rfl rfl ?_
          refine zq_iload_n (q := 55) G dX0_greatestSum_54 2 rfl rfl rfl ?_
          refine zq_iload (q := 57) G dX0_greatestSum_55 4 rfl rfl ?_
          obtain ⟨z5, hc5, h⟩ := zbd h
          refine zq_callNi (q := 60) (ws2 := (w_S cyI h0_0 h0_1 h0_2 h0_3 h0_4 τ0)) (isC := []) (isR := [0, 1, 2, 3, 4]) (perm := [0, 1, 2, 3, 4]) (rest := [.ref h0_1]) (As := [.int x3, .int x5]) G zs_X0_41 dX0_greatestSum_57 (fun sz9 => c_X3_cellIndex l D cyI cyZ x3 x5 z5 hc5 sz9) rfl ⟨rfl, rfl, rfl, rfl⟩ rfl (Nat.le_of_ble_eq_true rfl) ⟨Nat.le_of_ble_eq_true rfl, Nat.le_of_ble_eq_true rfl, Nat.zero_le _, Nat.zero_le _⟩ rfl ?_
          obtain ⟨q6, h⟩ := zif h
          refine zq_iald (q := 61) G dX0_greatestSum_60 1 rfl q6 rfl ?_
          refine zq_aload_n (q := 62) G dX0_greatestSum_61 0 rfl rfl rfl ?_
          refine zq_get (q := 65) G zu_X0 rfl zw_X0_f25 dX0_greatestSum_62 0 4 rfl (by decide) ⟨⟨rfl, rfl⟩, rfl⟩ rfl rfl ?_
          refine zq_iload_n (q := 66) G dX0_greatestSum_65 1 rfl rfl rfl ?_
          refine zq_iconst (q := 67) (v := 1) G dX0_greatestSum_66 (by decide) rfl ?_
          refine zq_iload (q := 69) G dX0_greatestSum_67 4 rfl rfl ?_
          refine zq_ishl (q := 70) G dX0_greatestSum_69 rfl ?_
          refine zq_ior (q := 71) G dX0_greatestSum_70 rfl ?_
          obtain ⟨q7, h⟩ := zif h
          refine zq_iald (q := 72) G dX0_greatestSum_71 4 rfl q7 rfl ?_
          refine zq_iadd (q := 73) G dX0_greatestSum_72 rfl ?_
          refine zq_istore (q := 75) (lv2 := [(6, .int ((τ0.2.1 z5.toNatClampNeg) + (τ0.2.2.2.2 (x2 ||| ((1 : Int32) <<< (x5 &&& 31))).toNatClampNeg))), (0, .ref h0_0), (2, .int x2), (3, .int x3), (4, .int x4), (5, .int x5)]) G dX0_greatestSum_73 (by decide) rfl rfl ?_
          refine zq_iload (q := 77) G dX0_greatestSum_75 4 rfl rfl ?_
          refine zq_iload (q := 79) G dX0_greatestSum_77 0 rfl rfl ?_
          refine zq_mmax (q := 82) G zl_X0_68 zstat_J9_max_7cf53 zini_J9 zcode_J9_max_7cf53 dX0_greatestSum_79 ⟨Nat.le_of_ble_eq_true rfl, Nat.le_of_ble_eq_true rfl, Nat.zero_le _, Nat.zero_le _⟩ rfl ?_
          refine zq_istore (q := 84) (lv2 := [(4, .int (if x4 < ((τ0.2.1 z5.toNatClampNeg) + (τ0.2.2.2.2 (x2 ||| ((1 : Int32) <<< (x5 &&& 31))).toNatClampNeg)) then ((τ0.2.1 z5.toNatClampNeg) + (τ0.2.2.2.2 (x2 ||| ((1 : Int32) <<< (x5 &&& 31))).toNatClampNeg)) else x4)), (6, .int ((τ0.2.1 z5.toNatClampNeg) + (τ0.2.2.2.2 (x2 ||| ((1 : Int32) <<< (x5 &&& 31))).toNatClampNeg))), (0, .ref h0_0), (2, .int x2), (3, .int x3), (5, .int x5)]) G dX0_greatestSum_82 (by decide) rfl rfl ?_
          refine zq_iinc (q := 87) (v := (x5 + 1)) (lv2 := [(5, .int (x5 + 1)), (4, .int (if x4 < ((τ0.2.1 z5.toNatClampNeg) + (τ0.2.2.2.2 (x2 ||| ((1 : Int32) <<< (x5 &&& 31))).toNatClampNeg)) then ((τ0.2.1 z5.toNatClampNeg) + (τ0.2.2.2.2 (x2 ||| ((1 : Int32) <<< (x5 &&& 31))).toNatClampNeg)) else x4)), (6, .int ((τ0.2.1 z5.toNatClampNeg) + (τ0.2.2.2.2 (x2 ||| ((1 : Int32) <<< (x5 &&& 31))).toNatClampNeg))), (0, .ref h0_0), (2, .int x2), (3, .int x3)]) G dX0_greatestSum_84 5 rfl rfl (by decide) rfl rfl ?_
          refine zq_goto (q := 32) G dX0_greatestSum_87 (by decide) ?_
          exact zq_sub _ [3, 4, 5, 1, 0] rfl (ih _ _ _ _ _ h)
  have b16 : ∀ (n : Nat) (τ0 : zS) (x2 : Int32), s_X0_greatestSum_16 n τ0 x2 = some (r, o0) → zW p l e ({ frames := 2, cells := 0, slots := 0, locals := 40 } : Room) s m args below meth c D (va_A (w_S cyI h0_0 h0_1 h0_2 h0_3 h0_4 σ0) sz) 7 0 0 (MQ below (zQi D cyI cyZ sz (w_S cyI h0_0 h0_1 h0_2 h0_3 h0_4 σ0) r (w_S cyI h0_0 h0_1 h0_2 h0_3 h0_4 o0)) args s 0 0 (va_A (w_S cyI h0_0 h0_1 h0_2 h0_3 h0_4 σ0) sz)) 16 [(0, .ref h0_0), (2, .int x2)] [] (w_S cyI h0_0 h0_1 h0_2 h0_3 h0_4 τ0) := by
    intro n
    induction n with
    | zero => intro τ0 x2 h; rw [s_X0_greatestSum_16] at h; exact nomatch h
    | succ n ih =>
      intro τ0 x2 h
      rw [s_X0_greatestSum_16] at h
      refine zq_iload_n (q := 17) G dX0_greatestSum_16 1 rfl rfl rfl ?_
      refine zq_if_lt (tgt := 104) (q := 20) G dX0_greatestSum_17 (by decide) rfl (fun c1 => ?_) (fun c1 => ?_)
      · have h := zit h c1
        refine zq_aload_n (q := 105) G dX0_greatestSum_104 0 rfl rfl rfl ?_
        refine zq_get (q := 108) G zu_X0 rfl zw_X0_f25 dX0_greatestSum_105 0 4 rfl (by decide) ⟨⟨rfl, rfl⟩, rfl⟩ rfl rfl ?_
        refine zq_iconst (q := 109) (v := 0) G dX0_greatestSum_108 (by decide) rfl ?_
        obtain ⟨q2, h⟩ := zif h
        refine zq_iald (q := 110) G dX0_greatestSum_109 4 rfl q2 rfl ?_
        refine zq_ws (congrArg (fun w9 => (w_S cyI h0_0 h0_1 h0_2 h0_3 h0_4 w9.2)) (zsome h)) ?_
        exact zq_iret G hlocks hr rfl dX0_greatestSum_110 (congrArg Prod.fst (zsome h))
      · have h := zie h c1
        refine zq_iload_n (q := 21) G dX0_greatestSum_20 1 rfl rfl rfl ?_
        obtain ⟨z3, hc3, h⟩ := zbd h
        refine zq_callSi (q := 24) (ws2 := (w_S cyI h0_0 h0_1 h0_2 h0_3 h0_4 τ0)) (isC := []) (isR := [0, 1, 2, 3, 4]) (perm := [0, 1, 2, 3, 4]) (rest := []) (As := [.int x2]) G zs_X0_52 dX0_greatestSum_21 (fun sz9 => c_J6_bitCount_0f7a4 l D cyI cyZ x2 z3 hc3 sz9) rfl ⟨rfl, rfl, rfl, rfl⟩ rfl (Nat.le_of_ble_eq_true rfl) ⟨Nat.le_of_ble_eq_true rfl, Nat.le_of_ble_eq_true rfl, Nat.zero_le _, Nat.zero_le _⟩ rfl ?_
        refine zq_istore_n (q := 25) (lv2 := [(3, .int z3), (0, .ref h0_0), (2, .int x2)]) G dX0_greatestSum_24 rfl (by decide) rfl rfl ?_
        refine zq_ldc (q := 27) G zw_X0_c67 dX0_greatestSum_25 rfl ?_
        refine zq_istore (q := 29) (lv2 := [(4, .int (-2147483648 : Int32)), (3, .int z3), (0, .ref h0_0), (2, .int x2)]) G dX0_greatestSum_27 (by decide) rfl rfl ?_
        refine zq_iconst (q := 30) (v := 0) G dX0_greatestSum_29 (by decide) rfl ?_
        refine zq_istore (q := 32) (lv2 := [(5, .int (0 : Int32)), (4, .int (-2147483648 : Int32)), (3, .int z3), (0, .ref h0_0), (2, .int x2)]) G dX0_greatestSum_30 (by decide) rfl rfl ?_
        exact zq_sub _ [3, 4, 2, 1, 0] rfl (b32 _ ih _ _ _ _ _ _ h)
  refine zq_aload_n (q := 1) G dX0_greatestSum_0 0 rfl rfl rfl ?_
  obtain ⟨z1, hc1, h⟩ := zbd h
  refine zq_callVi (q := 4) (ws2 := (w_S cyI h0_0 h0_1 h0_2 h0_3 h0_4 σ0)) (isC := [0, 1, 2, 3, 4]) (isR := []) (perm := [0, 1, 2, 3, 4]) (rest := []) (As := []) G zs_X0_44 dX0_greatestSum_1 (fun sz9 => c_X0_allColumns l D cyI cyZ h0_0 h0_1 h0_2 h0_3 h0_4 σ0 z1 hc1 sz9) 0 rfl rfl rfl ⟨rfl, rfl, rfl, rfl⟩ rfl (Nat.le_of_ble_eq_true rfl) ⟨Nat.le_of_ble_eq_true rfl, Nat.le_of_ble_eq_true rfl, Nat.zero_le _, Nat.zero_le _⟩ rfl ?_
  refine zq_istore_n (q := 5) (lv2 := [(1, .int z1), (0, .ref h0_0)]) G dX0_greatestSum_4 rfl (by decide) rfl rfl ?_
  refine zq_aload_n (q := 6) G dX0_greatestSum_5 1 rfl rfl rfl ?_
  refine zq_get (q := 9) G zu_X0 rfl zw_X0_f25 dX0_greatestSum_6 0 4 rfl (by decide) ⟨⟨rfl, rfl⟩, rfl⟩ rfl rfl ?_
  refine zq_iload_n (q := 10) G dX0_greatestSum_9 0 rfl rfl rfl ?_
  refine zq_iconst (q := 11) (v := 0) G dX0_greatestSum_10 (by decide) rfl ?_
  obtain ⟨q2, h⟩ := zif h
  refine zq_iast (q := 12) (ws2 := (w_S cyI h0_0 h0_1 h0_2 h0_3 h0_4 (σ0.1, σ0.2.1, σ0.2.2.1, σ0.2.2.2.1, (upd σ0.2.2.2.2 z1.toNatClampNeg (0 : Int32))))) G dX0_greatestSum_11 4 rfl q2 rfl rfl ?_
  refine zq_iload_n (q := 13) G dX0_greatestSum_12 0 rfl rfl rfl ?_
  refine zq_iconst (q := 14) (v := 1) G dX0_greatestSum_13 (by decide) rfl ?_
  refine zq_isub (q := 15) G dX0_greatestSum_14 rfl ?_
  refine zq_istore_n (q := 16) (lv2 := [(2, .int (z1 - (1 : Int32))), (1, .int z1), (0, .ref h0_0)]) G dX0_greatestSum_15 rfl (by decide) rfl rfl ?_
  exact zq_sub _ [2, 0] rfl (b16  _ _ _ h)
set_option maxHeartbeats 4000000 in
set_option maxRecDepth 100000 in
theorem c_X0_leastPeak (l : Launch) (D : va_G) (cyI cyZ : ClassId) (h0_0 h0_1 h0_2 h0_3 h0_4 : Nat) (σ0 : zS) (r : Int32) (o0 : zS) (h : s_X0_leastPeak σ0 = some (r, o0)) (sz : Nat) : zMi l yX0_leastPeak cX0_leastPeak 7 .int 2 40 D cyI cyZ sz [.ref h0_0] (w_S cyI h0_0 h0_1 h0_2 h0_3 h0_4 σ0) r (w_S cyI h0_0 h0_1 h0_2 h0_3 h0_4 o0) := by
  unfold s_X0_leastPeak at h
  refine zstartI (lv0 := [(0, .ref h0_0)]) (by decide) (Nat.le_of_ble_eq_true rfl) rfl (fun p e s m args below meth c G hr hlocks => ?_)
  have b32 : ∀ (k16 : (zS → Int32 → Option (Int32 × zS))) (hk16 : ∀ (τ0 : zS) (x2 : Int32), k16 τ0 x2 = some (r, o0) → zW p l e ({ frames := 2, cells := 0, slots := 0, locals := 40 } : Room) s m args below meth c D (va_A (w_S cyI h0_0 h0_1 h0_2 h0_3 h0_4 σ0) sz) 7 0 0 (MQ below (zQi D cyI cyZ sz (w_S cyI h0_0 h0_1 h0_2 h0_3 h0_4 σ0) r (w_S cyI h0_0 h0_1 h0_2 h0_3 h0_4 o0)) args s 0 0 (va_A (w_S cyI h0_0 h0_1 h0_2 h0_3 h0_4 σ0) sz)) 16 [(0, .ref h0_0), (2, .int x2)] [] (w_S cyI h0_0 h0_1 h0_2 h0_3 h0_4 τ0)) (n : Nat) (τ0 : zS) (x2 : Int32) (x3 : Int32) (x4 : Int32) (x5 : Int32), s_X0_leastPeak_32 k16 n τ0 x2 x3 x4 x5 = some (r, o0) → zW p l e ({ frames := 2, cells := 0, slots := 0, locals := 40 } : Room) s m args below meth c D (va_A (w_S cyI h0_0 h0_1 h0_2 h0_3 h0_4 σ0) sz) 7 0 0 (MQ below (zQi D cyI cyZ sz (w_S cyI h0_0 h0_1 h0_2 h0_3 h0_4 σ0) r (w_S cyI h0_0 h0_1 h0_2 h0_3 h0_4 o0)) args s 0 0 (va_A (w_S cyI h0_0 h0_1 h0_2 h0_3 h0_4 σ0) sz)) 32 [(0, .ref h0_0), (2, .int x2), (3, .int x3), (4, .int x4), (5, .int x5)] [] (w_S cyI h0_0 h0_1 h0_2 h0_3 h0_4 τ0) := by
    intro k16 hk16
    intro n
    induction n with
    | zero => intro τ0 x2 x3 x4 x5 h; rw [s_X0_leastPeak_32] at h; exact nomatch h
    | succ n ih =>
      intro τ0 x2 x3 x4 x5 h
      rw [s_X0_leastPeak_32] at h
      refine zq_iload (q := 34) G dX0_leastPeak_32 4 rfl rfl ?_
      refine zq_aload_n (q := 35) G dX0_leastPeak_34 0 rfl rfl rfl ?_
      refine zq_get (q := 38) G zu_X0 rfl zw_X0_f9 dX0_leastPeak_35 0 0 rfl (by decide) ⟨⟨rfl, rfl⟩, rfl⟩ rfl rfl ?_
      refine zq_icmp_ge (tgt := 92) (q := 41) G dX0_leastPeak_38 (by decide) rfl (fun c1 => ?_) (fun c1 => ?_)
      · have h := zit h c1
        refine zq_aload_n (q := 93) G dX0_leastPeak_92 0 rfl rfl rfl ?_
        refine zq_get (q := 96) G zu_X0 rfl zw_X0_f19 dX0_leastPeak_93 0 2 rfl (by decide) ⟨⟨rfl, rfl⟩, rfl⟩ rfl rfl ?_
        refine zq_iload_n (q := 97) G dX0_leastPeak_96 1 rfl rfl rfl ?_
        refine zq_iload (q := 99) G dX0_leastPeak_97 3 rfl rfl ?_
        obtain ⟨q2, h⟩ := zif h
        refine zq_iast (q := 100) (ws2 := (w_S cyI h0_0 h0_1 h0_2 h0_3 h0_4 (τ0.1, τ0.2.1, (upd τ0.2.2.1 x2.toNatClampNeg x4), τ0.2.2.2.1, τ0.2.2.2.2))) G dX0_leastPeak_99 2 rfl q2 rfl rfl ?_
        refine zq_iinc (q := 103) (v := (x2 + (-1))) (lv2 := [(2, .int (x2 + (-1))), (0, .ref h0_0), (3, .int x3), (4, .int x4), (5, .int x5)]) G dX0_leastPeak_100 1 rfl rfl (by decide) rfl rfl ?_
        refine zq_goto (q := 16) G dX0_leastPeak_103 (by decide) ?_
        exact zq_sub _ [1, 0] rfl (hk16 _ _ h)
      · have h := zie h c1
        refine zq_iload_n (q := 42) G dX0_leastPeak_41 1 rfl rfl rfl ?_
        refine zq_iload (q := 44) G dX0_leastPeak_42 4 rfl rfl ?_
        obtain ⟨z3, hc3, h⟩ := zbd h
        refine zq_callSi (q := 47) (ws2 := (w_S cyI h0_0 h0_1 h0_2 h0_3 h0_4 τ0)) (isC := []) (isR := [0, 1, 2, 3, 4]) (perm := [0, 1, 2, 3, 4]) (rest := []) (As := [.int x2, .int x5]) G zs_X0_59 dX0_leastPeak_44 (fun sz9 => c_X0_isFree l D cyI cyZ x2 x5 z3 hc3 sz9) rfl ⟨rfl, rfl, rfl, rfl⟩ rfl (Nat.le_of_ble_eq_true rfl) ⟨Nat.le_of_ble_eq_true rfl, Nat.le_of_ble_eq_true rfl, Nat.zero_le _, Nat.zero_le _⟩ rfl ?_
        refine zq_if_eq (tgt := 86) (q := 50) G dX0_leastPeak_47 (by decide) rfl (fun c4 => ?_) (fun c4 => ?_)
        · have h := zit h c4
          refine zq_iinc (q := 89) (v := (x5 + 1)) (lv2 := [(5, .int (x5 + 1)), (0, .ref h0_0), (2, .int x2), (3, .int x3), (4, .int x4)]) G dX0_leastPeak_86 4 rfl rfl (by decide) rfl rfl ?_
          refine zq_goto (q := 32) G dX0_leastPeak_89 (by decide) ?_
          exact zq_sub _ [1, 2, 3, 4, 0] rfl (ih _ _ _ _ _ h)
        · have h := zie h c4
          refine zq_aload_n (q := 51) G dX0_leastPeak_50 0 rfl rfl rfl ?_
          refine zq_get (q := 54) G zu_X0 rfl zw_X0_f15 dX0_leastPeak_51 0 1 rfl (by decide) ⟨⟨rfl, rfl⟩, rfl⟩ rfl rfl ?_
          refine zq_iload_n (q := 55) G dX0_leastPeak_54 2 rfl rfl rfl ?_
          refine zq_iload (q := 57) G dX0_leastPeak_55 4 rfl rfl ?_
          obtain ⟨z5, hc5, h⟩ := zbd h
          refine zq_callNi (q := 60) (ws2 := (w_S cyI h0_0 h0_1 h0_2 h0_3 h0_4 τ0)) (isC := []) (isR := [0, 1, 2, 3, 4]) (perm := [0, 1, 2, 3, 4]) (rest := [.ref h0_1]) (As := [.int x3, .int x5]) G zs_X0_41 dX0_leastPeak_57 (fun sz9 => c_X3_cellIndex l D cyI cyZ x3 x5 z5 hc5 sz9) rfl ⟨rfl, rfl, rfl, rfl⟩ rfl (Nat.le_of_ble_eq_true rfl) ⟨Nat.le_of_ble_eq_true rfl, Nat.le_of_ble_eq_true rfl, Nat.zero_le _, Nat.zero_le _⟩ rfl ?_
          obtain ⟨q6, h⟩ := zif h
          refine zq_iald (q := 61) G dX0_leastPeak_60 1 rfl q6 rfl ?_
          refine zq_istore (q := 63) (lv2 := [(6, .int (τ0.2.1 z5.toNatClampNeg)), (0, .ref h0_0), (2, .int x2), (3, .int x3), (4, .int x4), (5, .int x5)]) G dX0_leastPeak_61 (by decide) rfl rfl ?_
          refine zq_iload (q := 65) G dX0_leastPeak_63 4 rfl rfl ?_
          refine zq_iload (q := 67) G dX0_leastPeak_65 0 rfl rfl ?_
          refine zq_aload_n (q := 68) G dX0_leastPeak_67 1 rfl rfl rfl ?_
          refine zq_get (q := 71) G zu_X0 rfl zw_X0_f19 dX0_leastPeak_68 0 2 rfl (by decide) ⟨⟨rfl, rfl⟩, rfl⟩ rfl rfl ?_
          refine zq_iload_n (q := 72) G dX0_leastPeak_71 2 rfl rfl rfl ?_
          refine zq_iconst (q := 73) (v := 1) G dX0_leastPeak_72 (by decide) rfl ?_
          refine zq_iload (q := 75) G dX0_leastPeak_73 5 rfl rfl ?_
          refine zq_ishl (q := 76) G dX0_leastPeak_75 rfl ?_
          refine zq_ior (q := 77) G dX0_leastPeak_76 rfl ?_
          obtain ⟨q7, h⟩ := zif h
          refine zq_iald (q := 78) G dX0_leastPeak_77 2 rfl q7 rfl ?_
          refine zq_mmax (q := 81) G zl_X0_68 zstat_J9_max_7cf53 zini_J9 zcode_J9_max_7cf53 dX0_leastPeak_78 ⟨Nat.le_of_ble_eq_true rfl, Nat.le_of_ble_eq_true rfl, Nat.zero_le _, Nat.zero_le _⟩ rfl ?_
          refine zq_mmin (q := 84) G zl_X0_73 zstat_J9_min_7cf53 zini_J9 zcode_J9_min_7cf53 dX0_leastPeak_81 ⟨Nat.le_of_ble_eq_true rfl, Nat.le_of_ble_eq_true rfl, Nat.zero_le _, Nat.zero_le _⟩ rfl ?_
          refine zq_istore (q := 86) (lv2 := [(4, .int (if (if (τ0.2.1 z5.toNatClampNeg) < (τ0.2.2.1 (x2 ||| ((1 : Int32) <<< (x5 &&& 31))).toNatClampNeg) then (τ0.2.2.1 (x2 ||| ((1 : Int32) <<< (x5 &&& 31))).toNatClampNeg) else (τ0.2.1 z5.toNatClampNeg)) < x4 then (if (τ0.2.1 z5.toNatClampNeg) < (τ0.2.2.1 (x2 ||| ((1 : Int32) <<< (x5 &&& 31))).toNatClampNeg) then (τ0.2.2.1 (x2 ||| ((1 : Int32) <<< (x5 &&& 31))).toNatClampNeg) else (τ0.2.1 z5.toNatClampNeg)) else x4)), (6, .int (τ0.2.1 z5.toNatClampNeg)), (0, .ref h0_0), (2, .int x2), (3, .int x3), (5, .int x5)]) G dX0_leastPeak_84 (by decide) rfl rfl ?_
          refine zq_iinc (q := 89) (v := (x5 + 1)) (lv2 := [(5, .int (x5 + 1)), (4, .int (if (if (τ0.2.1 z5.toNatClampNeg) < (τ0.2.2.1 (x2 ||| ((1 : Int32) <<< (x5 &&& 31))).toNatClampNeg) then (τ0.2.2.1 (x2 ||| ((1 : Int32) <<< (x5 &&& 31))).toNatClampNeg) else (τ0.2.1 z5.toNatClampNeg)) < x4 then (if (τ0.2.1 z5.toNatClampNeg) < (τ0.2.2.1 (x2 ||| ((1 : Int32) <<< (x5 &&& 31))).toNatClampNeg) then (τ0.2.2.1 (x2 ||| ((1 : Int32) <<< (x5 &&& 31))).toNatClampNeg) else (τ0.2.1 z5.toNatClampNeg)) else x4)), (6, .int (τ0.2.1 z5.toNatClampNeg)), (0, .ref h0_0), (2, .int x2), (3, .int x3)]) G dX0_leastPeak_86 5 rfl rfl (by decide) rfl rfl ?_
          refine zq_goto (q := 32) G dX0_leastPeak_89 (by decide) ?_
          exact zq_sub _ [3, 4, 5, 1, 0] rfl (ih _ _ _ _ _ h)
  have b16 : ∀ (n : Nat) (τ0 : zS) (x2 : Int32), s_X0_leastPeak_16 n τ0 x2 = some (r, o0) → zW p l e ({ frames := 2, cells := 0, slots := 0, locals := 40 } : Room) s m args below meth c D (va_A (w_S cyI h0_0 h0_1 h0_2 h0_3 h0_4 σ0) sz) 7 0 0 (MQ below (zQi D cyI cyZ sz (w_S cyI h0_0 h0_1 h0_2 h0_3 h0_4 σ0) r (w_S cyI h0_0 h0_1 h0_2 h0_3 h0_4 o0)) args s 0 0 (va_A (w_S cyI h0_0 h0_1 h0_2 h0_3 h0_4 σ0) sz)) 16 [(0, .ref h0_0), (2, .int x2)] [] (w_S cyI h0_0 h0_1 h0_2 h0_3 h0_4 τ0) := by
    intro n
    induction n with
    | zero => intro τ0 x2 h; rw [s_X0_leastPeak_16] at h; exact nomatch h
    | succ n ih =>
      intro τ0 x2 h
      rw [s_X0_leastPeak_16] at h
      refine zq_iload_n (q := 17) G dX0_leastPeak_16 1 rfl rfl rfl ?_
      refine zq_if_lt (tgt := 106) (q := 20) G dX0_leastPeak_17 (by decide) rfl (fun c1 => ?_) (fun c1 => ?_)
      · have h := zit h c1
        refine zq_aload_n (q := 107) G dX0_leastPeak_106 0 rfl rfl rfl ?_
        refine zq_get (q := 110) G zu_X0 rfl zw_X0_f19 dX0_leastPeak_107 0 2 rfl (by decide) ⟨⟨rfl, rfl⟩, rfl⟩ rfl rfl ?_
        refine zq_iconst (q := 111) (v := 0) G dX0_leastPeak_110 (by decide) rfl ?_
        obtain ⟨q2, h⟩ := zif h
        refine zq_iald (q := 112) G dX0_leastPeak_111 2 rfl q2 rfl ?_
        refine zq_ws (congrArg (fun w9 => (w_S cyI h0_0 h0_1 h0_2 h0_3 h0_4 w9.2)) (zsome h)) ?_
        exact zq_iret G hlocks hr rfl dX0_leastPeak_112 (congrArg Prod.fst (zsome h))
      · have h := zie h c1
        refine zq_iload_n (q := 21) G dX0_leastPeak_20 1 rfl rfl rfl ?_
        obtain ⟨z3, hc3, h⟩ := zbd h
        refine zq_callSi (q := 24) (ws2 := (w_S cyI h0_0 h0_1 h0_2 h0_3 h0_4 τ0)) (isC := []) (isR := [0, 1, 2, 3, 4]) (perm := [0, 1, 2, 3, 4]) (rest := []) (As := [.int x2]) G zs_X0_52 dX0_leastPeak_21 (fun sz9 => c_J6_bitCount_0f7a4 l D cyI cyZ x2 z3 hc3 sz9) rfl ⟨rfl, rfl, rfl, rfl⟩ rfl (Nat.le_of_ble_eq_true rfl) ⟨Nat.le_of_ble_eq_true rfl, Nat.le_of_ble_eq_true rfl, Nat.zero_le _, Nat.zero_le _⟩ rfl ?_
        refine zq_istore_n (q := 25) (lv2 := [(3, .int z3), (0, .ref h0_0), (2, .int x2)]) G dX0_leastPeak_24 rfl (by decide) rfl rfl ?_
        refine zq_ldc (q := 27) G zw_X0_c58 dX0_leastPeak_25 rfl ?_
        refine zq_istore (q := 29) (lv2 := [(4, .int (2147483647 : Int32)), (3, .int z3), (0, .ref h0_0), (2, .int x2)]) G dX0_leastPeak_27 (by decide) rfl rfl ?_
        refine zq_iconst (q := 30) (v := 0) G dX0_leastPeak_29 (by decide) rfl ?_
        refine zq_istore (q := 32) (lv2 := [(5, .int (0 : Int32)), (4, .int (2147483647 : Int32)), (3, .int z3), (0, .ref h0_0), (2, .int x2)]) G dX0_leastPeak_30 (by decide) rfl rfl ?_
        exact zq_sub _ [3, 4, 2, 1, 0] rfl (b32 _ ih _ _ _ _ _ _ h)
  refine zq_aload_n (q := 1) G dX0_leastPeak_0 0 rfl rfl rfl ?_
  obtain ⟨z1, hc1, h⟩ := zbd h
  refine zq_callVi (q := 4) (ws2 := (w_S cyI h0_0 h0_1 h0_2 h0_3 h0_4 σ0)) (isC := [0, 1, 2, 3, 4]) (isR := []) (perm := [0, 1, 2, 3, 4]) (rest := []) (As := []) G zs_X0_44 dX0_leastPeak_1 (fun sz9 => c_X0_allColumns l D cyI cyZ h0_0 h0_1 h0_2 h0_3 h0_4 σ0 z1 hc1 sz9) 0 rfl rfl rfl ⟨rfl, rfl, rfl, rfl⟩ rfl (Nat.le_of_ble_eq_true rfl) ⟨Nat.le_of_ble_eq_true rfl, Nat.le_of_ble_eq_true rfl, Nat.zero_le _, Nat.zero_le _⟩ rfl ?_
  refine zq_istore_n (q := 5) (lv2 := [(1, .int z1), (0, .ref h0_0)]) G dX0_leastPeak_4 rfl (by decide) rfl rfl ?_
  refine zq_aload_n (q := 6) G dX0_leastPeak_5 1 rfl rfl rfl ?_
  refine zq_get (q := 9) G zu_X0 rfl zw_X0_f19 dX0_leastPeak_6 0 2 rfl (by decide) ⟨⟨rfl, rfl⟩, rfl⟩ rfl rfl ?_
  refine zq_iload_n (q := 10) G dX0_leastPeak_9 0 rfl rfl rfl ?_
  refine zq_iconst (q := 11) (v := 0) G dX0_leastPeak_10 (by decide) rfl ?_
  obtain ⟨q2, h⟩ := zif h
  refine zq_iast (q := 12) (ws2 := (w_S cyI h0_0 h0_1 h0_2 h0_3 h0_4 (σ0.1, σ0.2.1, (upd σ0.2.2.1 z1.toNatClampNeg (0 : Int32)), σ0.2.2.2.1, σ0.2.2.2.2))) G dX0_leastPeak_11 2 rfl q2 rfl rfl ?_
  refine zq_iload_n (q := 13) G dX0_leastPeak_12 0 rfl rfl rfl ?_
  refine zq_iconst (q := 14) (v := 1) G dX0_leastPeak_13 (by decide) rfl ?_
  refine zq_isub (q := 15) G dX0_leastPeak_14 rfl ?_
  refine zq_istore_n (q := 16) (lv2 := [(2, .int (z1 - (1 : Int32))), (1, .int z1), (0, .ref h0_0)]) G dX0_leastPeak_15 rfl (by decide) rfl rfl ?_
  exact zq_sub _ [2, 0] rfl (b16  _ _ _ h)
set_option maxHeartbeats 4000000 in
set_option maxRecDepth 100000 in
theorem c_X3_factorial (l : Launch) (D : va_G) (cyI cyZ : ClassId) (p0 : Int32) (r : Int32) (h : s_X3_factorial p0 = some r) (sz : Nat) : zMi l yX3_factorial cX3_factorial 3 .int 0 0 D cyI cyZ sz [.int p0] ([] : va_W) r ([] : va_W) := by
  unfold s_X3_factorial at h
  refine zstartI (lv0 := [(0, .int p0)]) (by decide) (Nat.le_of_ble_eq_true rfl) rfl (fun p e s m args below meth c G hr hlocks => ?_)
  have b4 : ∀ (n : Nat) (x0 : Int32) (x1 : Int32) (x2 : Int32), s_X3_factorial_4 n x0 x1 x2 = some r → zW p l e ({ frames := 0, cells := 0, slots := 0, locals := 0 } : Room) s m args below meth c D (va_A ([] : va_W) sz) 3 0 0 (MQ below (zQi D cyI cyZ sz ([] : va_W) r ([] : va_W)) args s 0 0 (va_A ([] : va_W) sz)) 4 [(0, .int x0), (1, .int x1), (2, .int x2)] [] ([] : va_W) := by
    intro n
    induction n with
    | zero => intro x0 x1 x2 h; rw [s_X3_factorial_4] at h; exact nomatch h
    | succ n ih =>
      intro x0 x1 x2 h
      rw [s_X3_factorial_4] at h
      refine zq_iload_n (q := 5) G dX3_factorial_4 2 rfl rfl rfl ?_
      refine zq_iload_n (q := 6) G dX3_factorial_5 0 rfl rfl rfl ?_
      refine zq_icmp_gt (tgt := 19) (q := 9) G dX3_factorial_6 (by decide) rfl (fun c1 => ?_) (fun c1 => ?_)
      · have h := zit h c1
        refine zq_iload_n (q := 20) G dX3_factorial_19 1 rfl rfl rfl ?_
        exact zq_iret G hlocks hr rfl dX3_factorial_20 (zsome h)
      · have h := zie h c1
        refine zq_iload_n (q := 10) G dX3_factorial_9 1 rfl rfl rfl ?_
        refine zq_iload_n (q := 11) G dX3_factorial_10 2 rfl rfl rfl ?_
        refine zq_imul (q := 12) G dX3_factorial_11 rfl ?_
        refine zq_istore_n (q := 13) (lv2 := [(1, .int (x1 * x2)), (0, .int x0), (2, .int x2)]) G dX3_factorial_12 rfl (by decide) rfl rfl ?_
        refine zq_iinc (q := 16) (v := (x2 + 1)) (lv2 := [(2, .int (x2 + 1)), (1, .int (x1 * x2)), (0, .int x0)]) G dX3_factorial_13 2 rfl rfl (by decide) rfl rfl ?_
        refine zq_goto (q := 4) G dX3_factorial_16 (by decide) ?_
        exact zq_sub _ [2, 1, 0] rfl (ih _ _ _ h)
  refine zq_iconst (q := 1) (v := 1) G dX3_factorial_0 (by decide) rfl ?_
  refine zq_istore_n (q := 2) (lv2 := [(1, .int (1 : Int32)), (0, .int p0)]) G dX3_factorial_1 rfl (by decide) rfl rfl ?_
  refine zq_iconst (q := 3) (v := 2) G dX3_factorial_2 (by decide) rfl ?_
  refine zq_istore_n (q := 4) (lv2 := [(2, .int (2 : Int32)), (1, .int (1 : Int32)), (0, .int p0)]) G dX3_factorial_3 rfl (by decide) rfl rfl ?_
  exact zq_sub _ [2, 1, 0] rfl (b4  _ _ _ _ h)
set_option maxHeartbeats 4000000 in
set_option maxRecDepth 100000 in
theorem c_X0_countFrom (l : Launch) : ∀ (d : Nat) (D : va_G) (cyI cyZ : ClassId) (h0_0 h0_1 h0_2 h0_3 h0_4 : Nat) (σ0 : zS) (p1 : Int32) (p2 : Int32) (p3 : Int32) (r : Int32) (h : s_X0_countFrom d σ0 p1 p2 p3 = some r) (sz : Nat), zMi l yX0_countFrom cX0_countFrom 7 .int (1 + d) (22 + d * 26) D cyI cyZ sz [.ref h0_0, .int p1, .int p2, .int p3] (w_S cyI h0_0 h0_1 h0_2 h0_3 h0_4 σ0) r (w_S cyI h0_0 h0_1 h0_2 h0_3 h0_4 σ0) := by
  intro d
  induction d with
  | zero => intro D cyI cyZ h0_0 h0_1 h0_2 h0_3 h0_4 σ0 p1 p2 p3 r h sz; rw [s_X0_countFrom] at h; exact nomatch h
  | succ d ih0 =>
    intro D cyI cyZ h0_0 h0_1 h0_2 h0_3 h0_4 σ0 p1 p2 p3 r h sz
    have ihd := ih0 D cyI cyZ
    rw [s_X0_countFrom] at h
    generalize s_X0_countFrom d = rec at h ihd
    unfold s_X0_countFrom_step at h
    refine zstartI (lv0 := [(0, .ref h0_0), (1, .int p1), (2, .int p2), (3, .int p3)]) (by decide) (Nat.le_of_ble_eq_true rfl) rfl (fun p e s m args below meth c G hr hlocks => ?_)
    have b46 : ∀ (n : Nat) (x1 : Int32) (x2 : Int32) (x3 : Int32) (x4 : Int32) (x5 : Int32), s_X0_countFrom_46 rec n σ0 x1 x2 x3 x4 x5 = some r → zW p l e ({ frames := 1 + (d + 1), cells := 0, slots := 0, locals := 22 + (d + 1) * 26 } : Room) s m args below meth c D (va_A (w_S cyI h0_0 h0_1 h0_2 h0_3 h0_4 σ0) sz) 7 0 0 (MQ below (zQi D cyI cyZ sz (w_S cyI h0_0 h0_1 h0_2 h0_3 h0_4 σ0) r (w_S cyI h0_0 h0_1 h0_2 h0_3 h0_4 σ0)) args s 0 0 (va_A (w_S cyI h0_0 h0_1 h0_2 h0_3 h0_4 σ0) sz)) 46 [(0, .ref h0_0), (1, .int x1), (2, .int x2), (3, .int x3), (4, .int x4), (5, .int x5)] [] (w_S cyI h0_0 h0_1 h0_2 h0_3 h0_4 σ0) := by
      intro n
      induction n with
      | zero => intro x1 x2 x3 x4 x5 h; rw [s_X0_countFrom_46] at h; exact nomatch h
      | succ n ih =>
        intro x1 x2 x3 x4 x5 h
        rw [s_X0_countFrom_46] at h
        refine zq_iload (q := 48) G dX0_countFrom_46 5 rfl rfl ?_
        refine zq_aload_n (q := 49) G dX0_countFrom_48 0 rfl rfl rfl ?_
        refine zq_get (q := 52) G zu_X0 rfl zw_X0_f9 dX0_countFrom_49 0 0 rfl (by decide) ⟨⟨rfl, rfl⟩, rfl⟩ rfl rfl ?_
        refine zq_icmp_ge (tgt := 105) (q := 55) G dX0_countFrom_52 (by decide) rfl (fun c1 => ?_) (fun c1 => ?_)
        · have h := zit h c1
          refine zq_iload (q := 107) G dX0_countFrom_105 4 rfl rfl ?_
          exact zq_iret G hlocks hr rfl dX0_countFrom_107 (zsome h)
        · have h := zie h c1
          refine zq_iload_n (q := 56) G dX0_countFrom_55 2 rfl rfl rfl ?_
          refine zq_iload (q := 58) G dX0_countFrom_56 5 rfl rfl ?_
          obtain ⟨z2, hc2, h⟩ := zbd h
          refine zq_callSi (q := 61) (ws2 := (w_S cyI h0_0 h0_1 h0_2 h0_3 h0_4 σ0)) (isC := []) (isR := [0, 1, 2, 3, 4]) (perm := [0, 1, 2, 3, 4]) (rest := []) (As := [.int x2, .int x5]) G zs_X0_59 dX0_countFrom_58 (fun sz9 => c_X0_isFree l D cyI cyZ x2 x5 z2 hc2 sz9) rfl ⟨rfl, rfl, rfl, rfl⟩ rfl (Nat.le_of_ble_eq_true rfl) ⟨(by show 0 + 1 ≤ 1 + (d + 1); omega), (by show 8 + (2 + 11) + 0 ≤ 22 + (d + 1) * 26; omega), Nat.zero_le _, Nat.zero_le _⟩ rfl ?_
          refine zq_if_eq (tgt := 99) (q := 64) G dX0_countFrom_61 (by decide) rfl (fun c3 => ?_) (fun c3 => ?_)
          · have h := zit h c3
            refine zq_iinc (q := 102) (v := (x5 + 1)) (lv2 := [(5, .int (x5 + 1)), (0, .ref h0_0), (1, .int x1), (2, .int x2), (3, .int x3), (4, .int x4)]) G dX0_countFrom_99 5 rfl rfl (by decide) rfl rfl ?_
            refine zq_goto (q := 46) G dX0_countFrom_102 (by decide) ?_
            exact zq_sub _ [1, 2, 3, 4, 5, 0] rfl (ih _ _ _ _ _ h)
          · have h := zie h c3
            refine zq_iload_n (q := 65) G dX0_countFrom_64 3 rfl rfl rfl ?_
            refine zq_aload_n (q := 66) G dX0_countFrom_65 0 rfl rfl rfl ?_
            refine zq_get (q := 69) G zu_X0 rfl zw_X0_f15 dX0_countFrom_66 0 1 rfl (by decide) ⟨⟨rfl, rfl⟩, rfl⟩ rfl rfl ?_
            refine zq_iload_n (q := 70) G dX0_countFrom_69 1 rfl rfl rfl ?_
            refine zq_iload (q := 72) G dX0_countFrom_70 5 rfl rfl ?_
            obtain ⟨z4, hc4, h⟩ := zbd h
            refine zq_callNi (q := 75) (ws2 := (w_S cyI h0_0 h0_1 h0_2 h0_3 h0_4 σ0)) (isC := []) (isR := [0, 1, 2, 3, 4]) (perm := [0, 1, 2, 3, 4]) (rest := [.ref h0_1, .int x3]) (As := [.int x1, .int x5]) G zs_X0_41 dX0_countFrom_72 (fun sz9 => c_X3_cellIndex l D cyI cyZ x1 x5 z4 hc4 sz9) rfl ⟨rfl, rfl, rfl, rfl⟩ rfl (Nat.le_of_ble_eq_true rfl) ⟨(by show 0 + 1 ≤ 1 + (d + 1); omega), (by show 8 + (2 + 11) + 0 ≤ 22 + (d + 1) * 26; omega), Nat.zero_le _, Nat.zero_le _⟩ rfl ?_
            obtain ⟨q5, h⟩ := zif h
            refine zq_iald (q := 76) G dX0_countFrom_75 1 rfl q5 rfl ?_
            refine zq_isub (q := 77) G dX0_countFrom_76 rfl ?_
            refine zq_istore (q := 79) (lv2 := [(6, .int (x3 - (σ0.2.1 z4.toNatClampNeg))), (0, .ref h0_0), (1, .int x1), (2, .int x2), (3, .int x3), (4, .int x4), (5, .int x5)]) G dX0_countFrom_77 (by decide) rfl rfl ?_
            refine zq_iload (q := 81) G dX0_countFrom_79 5 rfl rfl ?_
            refine zq_aload_n (q := 82) G dX0_countFrom_81 1 rfl rfl rfl ?_
            refine zq_iload_n (q := 83) G dX0_countFrom_82 2 rfl rfl rfl ?_
            refine zq_iconst (q := 84) (v := 1) G dX0_countFrom_83 (by decide) rfl ?_
            refine zq_iadd (q := 85) G dX0_countFrom_84 rfl ?_
            refine zq_iload_n (q := 86) G dX0_countFrom_85 3 rfl rfl rfl ?_
            refine zq_iconst (q := 87) (v := 1) G dX0_countFrom_86 (by decide) rfl ?_
            refine zq_iload (q := 89) G dX0_countFrom_87 6 rfl rfl ?_
            refine zq_ishl (q := 90) G dX0_countFrom_89 rfl ?_
            refine zq_ior (q := 91) G dX0_countFrom_90 rfl ?_
            refine zq_iload (q := 93) G dX0_countFrom_91 0 rfl rfl ?_
            obtain ⟨z6, hc6, h⟩ := zbd h
            refine zq_callSi (q := 96) (ws2 := (w_S cyI h0_0 h0_1 h0_2 h0_3 h0_4 σ0)) (isC := [0, 1, 2, 3, 4]) (isR := []) (perm := [0, 1, 2, 3, 4]) (rest := [.int x4]) (As := [.ref h0_0, .int (x1 + (1 : Int32)), .int (x2 ||| ((1 : Int32) <<< (x5 &&& 31))), .int (x3 - (σ0.2.1 z4.toNatClampNeg))]) G zs_X0_79 dX0_countFrom_93 (fun sz9 => ihd h0_0 h0_1 h0_2 h0_3 h0_4 σ0 (x1 + (1 : Int32)) (x2 ||| ((1 : Int32) <<< (x5 &&& 31))) (x3 - (σ0.2.1 z4.toNatClampNeg)) z6 hc6 sz9) rfl ⟨rfl, rfl, rfl, rfl⟩ rfl (Nat.le_of_ble_eq_true rfl) ⟨(by show (1 + d) + 1 ≤ 1 + (d + 1); omega), (by show 8 + (7 + 11) + (22 + d * 26) ≤ 22 + (d + 1) * 26; omega), Nat.zero_le _, Nat.zero_le _⟩ rfl ?_
            refine zq_iadd (q := 97) G dX0_countFrom_96 rfl ?_
            refine zq_istore (q := 99) (lv2 := [(4, .int (x4 + z6)), (6, .int (x3 - (σ0.2.1 z4.toNatClampNeg))), (0, .ref h0_0), (1, .int x1), (2, .int x2), (3, .int x3), (5, .int x5)]) G dX0_countFrom_97 (by decide) rfl rfl ?_
            refine zq_iinc (q := 102) (v := (x5 + 1)) (lv2 := [(5, .int (x5 + 1)), (4, .int (x4 + z6)), (6, .int (x3 - (σ0.2.1 z4.toNatClampNeg))), (0, .ref h0_0), (1, .int x1), (2, .int x2), (3, .int x3)]) G dX0_countFrom_99 6 rfl rfl (by decide) rfl rfl ?_
            refine zq_goto (q := 46) G dX0_countFrom_102 (by decide) ?_
            exact zq_sub _ [3, 4, 5, 6, 1, 0] rfl (ih _ _ _ _ _ h)
    refine zq_iload_n (q := 1) G dX0_countFrom_0 3 rfl rfl rfl ?_
    refine zq_aload_n (q := 2) G dX0_countFrom_1 0 rfl rfl rfl ?_
    refine zq_get (q := 5) G zu_X0 rfl zw_X0_f19 dX0_countFrom_2 0 2 rfl (by decide) ⟨⟨rfl, rfl⟩, rfl⟩ rfl rfl ?_
    refine zq_iload_n (q := 6) G dX0_countFrom_5 2 rfl rfl rfl ?_
    obtain ⟨q1, h⟩ := zif h
    refine zq_iald (q := 7) G dX0_countFrom_6 2 rfl q1 rfl ?_
    refine zq_icmp_ge (tgt := 12) (q := 10) G dX0_countFrom_7 (by decide) rfl (fun c2 => ?_) (fun c2 => ?_)
    · have h := zit h c2
      refine zq_iload_n (q := 13) G dX0_countFrom_12 1 rfl rfl rfl ?_
      refine zq_aload_n (q := 14) G dX0_countFrom_13 0 rfl rfl rfl ?_
      refine zq_get (q := 17) G zu_X0 rfl zw_X0_f9 dX0_countFrom_14 0 0 rfl (by decide) ⟨⟨rfl, rfl⟩, rfl⟩ rfl rfl ?_
      refine zq_icmp_ge (tgt := 30) (q := 20) G dX0_countFrom_17 (by decide) rfl (fun c3 => ?_) (fun c3 => ?_)
      · have h := zit h c3
        refine zq_aload_n (q := 31) G dX0_countFrom_30 0 rfl rfl rfl ?_
        refine zq_get (q := 34) G zu_X0 rfl zw_X0_f9 dX0_countFrom_31 0 0 rfl (by decide) ⟨⟨rfl, rfl⟩, rfl⟩ rfl rfl ?_
        refine zq_iload_n (q := 35) G dX0_countFrom_34 1 rfl rfl rfl ?_
        refine zq_isub (q := 36) G dX0_countFrom_35 rfl ?_
        obtain ⟨z4, hc4, h⟩ := zbd h
        refine zq_callNi (q := 39) (ws2 := (w_S cyI h0_0 h0_1 h0_2 h0_3 h0_4 σ0)) (isC := []) (isR := [0, 1, 2, 3, 4]) (perm := [0, 1, 2, 3, 4]) (rest := []) (As := [.int (σ0.1 - p1)]) G zs_X0_76 dX0_countFrom_36 (fun sz9 => c_X3_factorial l D cyI cyZ (σ0.1 - p1) z4 hc4 sz9) rfl ⟨rfl, rfl, rfl, rfl⟩ rfl (Nat.le_of_ble_eq_true rfl) ⟨(by show 0 + 1 ≤ 1 + (d + 1); omega), (by show 8 + (3 + 11) + 0 ≤ 22 + (d + 1) * 26; omega), Nat.zero_le _, Nat.zero_le _⟩ rfl ?_
        exact zq_iret G hlocks hr rfl dX0_countFrom_39 (zsome h)
      · have h := zie h c3
        refine zq_iload_n (q := 21) G dX0_countFrom_20 3 rfl rfl rfl ?_
        refine zq_aload_n (q := 22) G dX0_countFrom_21 0 rfl rfl rfl ?_
        refine zq_get (q := 25) G zu_X0 rfl zw_X0_f25 dX0_countFrom_22 0 4 rfl (by decide) ⟨⟨rfl, rfl⟩, rfl⟩ rfl rfl ?_
        refine zq_iload_n (q := 26) G dX0_countFrom_25 2 rfl rfl rfl ?_
        obtain ⟨q5, h⟩ := zif h
        refine zq_iald (q := 27) G dX0_countFrom_26 4 rfl q5 rfl ?_
        refine zq_icmp_lt (tgt := 40) (q := 30) G dX0_countFrom_27 (by decide) rfl (fun c6 => ?_) (fun c6 => ?_)
        · have h := zit h c6
          refine zq_iconst (q := 41) (v := 0) G dX0_countFrom_40 (by decide) rfl ?_
          refine zq_istore (q := 43) (lv2 := [(4, .int (0 : Int32)), (0, .ref h0_0), (1, .int p1), (2, .int p2), (3, .int p3)]) G dX0_countFrom_41 (by decide) rfl rfl ?_
          refine zq_iconst (q := 44) (v := 0) G dX0_countFrom_43 (by decide) rfl ?_
          refine zq_istore (q := 46) (lv2 := [(5, .int (0 : Int32)), (4, .int (0 : Int32)), (0, .ref h0_0), (1, .int p1), (2, .int p2), (3, .int p3)]) G dX0_countFrom_44 (by decide) rfl rfl ?_
          exact zq_sub _ [2, 3, 4, 5, 1, 0] rfl (b46  _ _ _ _ _ _ h)
        · have h := zie h c6
          refine zq_aload_n (q := 31) G dX0_countFrom_30 0 rfl rfl rfl ?_
          refine zq_get (q := 34) G zu_X0 rfl zw_X0_f9 dX0_countFrom_31 0 0 rfl (by decide) ⟨⟨rfl, rfl⟩, rfl⟩ rfl rfl ?_
          refine zq_iload_n (q := 35) G dX0_countFrom_34 1 rfl rfl rfl ?_
          refine zq_isub (q := 36) G dX0_countFrom_35 rfl ?_
          obtain ⟨z7, hc7, h⟩ := zbd h
          refine zq_callNi (q := 39) (ws2 := (w_S cyI h0_0 h0_1 h0_2 h0_3 h0_4 σ0)) (isC := []) (isR := [0, 1, 2, 3, 4]) (perm := [0, 1, 2, 3, 4]) (rest := []) (As := [.int (σ0.1 - p1)]) G zs_X0_76 dX0_countFrom_36 (fun sz9 => c_X3_factorial l D cyI cyZ (σ0.1 - p1) z7 hc7 sz9) rfl ⟨rfl, rfl, rfl, rfl⟩ rfl (Nat.le_of_ble_eq_true rfl) ⟨(by show 0 + 1 ≤ 1 + (d + 1); omega), (by show 8 + (3 + 11) + 0 ≤ 22 + (d + 1) * 26; omega), Nat.zero_le _, Nat.zero_le _⟩ rfl ?_
          exact zq_iret G hlocks hr rfl dX0_countFrom_39 (zsome h)
    · have h := zie h c2
      refine zq_iconst (q := 11) (v := 0) G dX0_countFrom_10 (by decide) rfl ?_
      exact zq_iret G hlocks hr rfl dX0_countFrom_11 (zsome h)
set_option maxHeartbeats 4000000 in
set_option maxRecDepth 100000 in
theorem c_X1_clearTo (l : Launch) (D : va_G) (cyI cyZ : ClassId) (h0_0 h0_1 h0_2 : Nat) (σ0 : zT) (p0 : Int32) (p1 : Int32) (o0 : zT) (h : s_X1_clearTo σ0 p0 p1 = some o0) (sz : Nat) : zMv l yX1_clearTo cX1_clearTo 4 0 0 D cyI cyZ sz [.ref h0_0, .int p0, .int p1] (w_T cyI cyZ h0_0 h0_1 h0_2 σ0) (w_T cyI cyZ h0_0 h0_1 h0_2 o0) := by
  unfold s_X1_clearTo at h
  refine zstartV (lv0 := [(0, .ref h0_0), (1, .int p0), (2, .int p1)]) (by decide) (Nat.le_of_ble_eq_true rfl) rfl (fun p e s m args below meth c G hr hlocks => ?_)
  have b12 : ∀ (n : Nat) (τ0 : zT) (x3 : Int32), s_X1_clearTo_12 n τ0 x3 = some o0 → zW p l e ({ frames := 0, cells := 0, slots := 0, locals := 0 } : Room) s m args below meth c D (va_A (w_T cyI cyZ h0_0 h0_1 h0_2 σ0) sz) 4 0 0 (MQ below (zQv D cyI cyZ sz (w_T cyI cyZ h0_0 h0_1 h0_2 σ0) (w_T cyI cyZ h0_0 h0_1 h0_2 o0)) args s 0 0 (va_A (w_T cyI cyZ h0_0 h0_1 h0_2 σ0) sz)) 12 [(0, .ref h0_0), (3, .int x3)] [] (w_T cyI cyZ h0_0 h0_1 h0_2 τ0) := by
    intro n
    induction n with
    | zero => intro τ0 x3 h; rw [s_X1_clearTo_12] at h; exact nomatch h
    | succ n ih =>
      intro τ0 x3 h
      rw [s_X1_clearTo_12] at h
      refine zq_iload_n (q := 13) G dX1_clearTo_12 1 rfl rfl rfl ?_
      refine zq_bipush (q := 15) (v := 49) G dX1_clearTo_13 (by decide) rfl ?_
      refine zq_icmp_ge (tgt := 38) (q := 18) G dX1_clearTo_15 (by decide) rfl (fun c1 => ?_) (fun c1 => ?_)
      · have h := zit h c1
        refine zq_ws (congrArg (fun w9 => (w_T cyI cyZ h0_0 h0_1 h0_2 w9)) (zsome h)) ?_
        exact zq_vret G hlocks hr dX1_clearTo_38
      · have h := zie h c1
        refine zq_aload_n (q := 19) G dX1_clearTo_18 0 rfl rfl rfl ?_
        refine zq_get (q := 22) G zu_X1 rfl zw_X1_f18 dX1_clearTo_19 0 2 rfl (by decide) ⟨⟨rfl, rfl⟩, rfl⟩ rfl rfl ?_
        refine zq_iload_n (q := 23) G dX1_clearTo_22 1 rfl rfl rfl ?_
        refine zq_iconst (q := 24) (v := 0) G dX1_clearTo_23 (by decide) rfl ?_
        obtain ⟨q2, h⟩ := zif h
        refine zq_iast (q := 25) (ws2 := (w_T cyI cyZ h0_0 h0_1 h0_2 (τ0.1, τ0.2.1, (upd τ0.2.2.1 x3.toNatClampNeg (0 : Int32)), τ0.2.2.2))) G dX1_clearTo_24 1 rfl q2 rfl rfl ?_
        refine zq_aload_n (q := 26) G dX1_clearTo_25 0 rfl rfl rfl ?_
        refine zq_get (q := 29) G zu_X1 rfl zw_X1_f22 dX1_clearTo_26 0 3 rfl (by decide) ⟨⟨rfl, rfl⟩, rfl⟩ rfl rfl ?_
        refine zq_iload_n (q := 30) G dX1_clearTo_29 1 rfl rfl rfl ?_
        refine zq_iconst (q := 31) (v := 0) G dX1_clearTo_30 (by decide) rfl ?_
        obtain ⟨q3, h⟩ := zif h
        refine zq_zast (q := 32) (ws2 := (w_T cyI cyZ h0_0 h0_1 h0_2 (τ0.1, τ0.2.1, (upd τ0.2.2.1 x3.toNatClampNeg (0 : Int32)), (upd τ0.2.2.2 x3.toNatClampNeg ((0 : Int32) &&& 1))))) G dX1_clearTo_31 2 rfl q3 rfl rfl ?_
        refine zq_iinc (q := 35) (v := (x3 + 1)) (lv2 := [(3, .int (x3 + 1)), (0, .ref h0_0)]) G dX1_clearTo_32 1 rfl rfl (by decide) rfl rfl ?_
        refine zq_goto (q := 12) G dX1_clearTo_35 (by decide) ?_
        exact zq_sub _ [1, 0] rfl (ih _ _ h)
  refine zq_aload_n (q := 1) G dX1_clearTo_0 0 rfl rfl rfl ?_
  refine zq_iload_n (q := 2) G dX1_clearTo_1 1 rfl rfl rfl ?_
  refine zq_put (q := 5) (ws2 := (w_T cyI cyZ h0_0 h0_1 h0_2 (p0, σ0.2.1, σ0.2.2.1, σ0.2.2.2))) G zu_X1 rfl tyX1_ok nmX1 zw_X1_f9 dX1_clearTo_2 0 0 rfl (by decide) ⟨⟨rfl, rfl⟩, rfl⟩ rfl rfl rfl (Nat.le_of_ble_eq_true rfl) rfl rfl ?_
  refine zq_aload_n (q := 6) G dX1_clearTo_5 0 rfl rfl rfl ?_
  refine zq_iload_n (q := 7) G dX1_clearTo_6 2 rfl rfl rfl ?_
  refine zq_put (q := 10) (ws2 := (w_T cyI cyZ h0_0 h0_1 h0_2 (p0, p1, σ0.2.2.1, σ0.2.2.2))) G zu_X1 rfl tyX1_ok nmX1 zw_X1_f15 dX1_clearTo_7 0 1 rfl (by decide) ⟨⟨rfl, rfl⟩, rfl⟩ rfl rfl rfl (Nat.le_of_ble_eq_true rfl) rfl rfl ?_
  refine zq_iconst (q := 11) (v := 0) G dX1_clearTo_10 (by decide) rfl ?_
  refine zq_istore_n (q := 12) (lv2 := [(3, .int (0 : Int32)), (0, .ref h0_0), (1, .int p0), (2, .int p1)]) G dX1_clearTo_11 rfl (by decide) rfl rfl ?_
  exact zq_sub _ [1, 0] rfl (b12  _ _ _ h)
set_option maxHeartbeats 4000000 in
set_option maxRecDepth 100000 in
theorem c_X1_copyFrom (l : Launch) (D : va_G) (cyI cyZ : ClassId) (h0_0 h0_1 h0_2 h1_0 h1_1 h1_2 : Nat) (σ0 : zT) (σ1 : zT) (o0 : zT) (h : s_X1_copyFrom σ0 σ1 = some o0) (sz : Nat) : zMv l yX1_copyFrom cX1_copyFrom 3 0 0 D cyI cyZ sz [.ref h0_0, .ref h1_0] (w_T cyI cyZ h0_0 h0_1 h0_2 σ0 ++ w_T cyI cyZ h1_0 h1_1 h1_2 σ1) (w_T cyI cyZ h0_0 h0_1 h0_2 o0 ++ w_T cyI cyZ h1_0 h1_1 h1_2 σ1) := by
  unfold s_X1_copyFrom at h
  refine zstartV (lv0 := [(0, .ref h0_0), (1, .ref h1_0)]) (by decide) (Nat.le_of_ble_eq_true rfl) rfl (fun p e s m args below meth c G hr hlocks => ?_)
  have b18 : ∀ (n : Nat) (τ0 : zT) (x2 : Int32), s_X1_copyFrom_18 n τ0 σ1 x2 = some o0 → zW p l e ({ frames := 0, cells := 0, slots := 0, locals := 0 } : Room) s m args below meth c D (va_A (w_T cyI cyZ h0_0 h0_1 h0_2 σ0 ++ w_T cyI cyZ h1_0 h1_1 h1_2 σ1) sz) 3 0 0 (MQ below (zQv D cyI cyZ sz (w_T cyI cyZ h0_0 h0_1 h0_2 σ0 ++ w_T cyI cyZ h1_0 h1_1 h1_2 σ1) (w_T cyI cyZ h0_0 h0_1 h0_2 o0 ++ w_T cyI cyZ h1_0 h1_1 h1_2 σ1)) args s 0 0 (va_A (w_T cyI cyZ h0_0 h0_1 h0_2 σ0 ++ w_T cyI cyZ h1_0 h1_1 h1_2 σ1) sz)) 18 [(0, .ref h0_0), (1, .ref h1_0), (2, .int x2)] [] (w_T cyI cyZ h0_0 h0_1 h0_2 τ0 ++ w_T cyI cyZ h1_0 h1_1 h1_2 σ1) := by
    intro n
    induction n with
    | zero => intro τ0 x2 h; rw [s_X1_copyFrom_18] at h; exact nomatch h
    | succ n ih =>
      intro τ0 x2 h
      rw [s_X1_copyFrom_18] at h
      refine zq_iload_n (q := 19) G dX1_copyFrom_18 2 rfl rfl rfl ?_
      refine zq_bipush (q := 21) (v := 49) G dX1_copyFrom_19 (by decide) rfl ?_
      refine zq_icmp_ge (tgt := 54) (q := 24) G dX1_copyFrom_21 (by decide) rfl (fun c1 => ?_) (fun c1 => ?_)
      · have h := zit h c1
        refine zq_ws (congrArg (fun w9 => (w_T cyI cyZ h0_0 h0_1 h0_2 w9 ++ w_T cyI cyZ h1_0 h1_1 h1_2 σ1)) (zsome h)) ?_
        exact zq_vret G hlocks hr dX1_copyFrom_54
      · have h := zie h c1
        refine zq_aload_n (q := 25) G dX1_copyFrom_24 0 rfl rfl rfl ?_
        refine zq_get (q := 28) G zu_X1 rfl zw_X1_f18 dX1_copyFrom_25 0 2 rfl (by decide) ⟨⟨rfl, rfl⟩, rfl⟩ rfl rfl ?_
        refine zq_iload_n (q := 29) G dX1_copyFrom_28 2 rfl rfl rfl ?_
        refine zq_aload_n (q := 30) G dX1_copyFrom_29 1 rfl rfl rfl ?_
        refine zq_get (q := 33) G zu_X1 rfl zw_X1_f18 dX1_copyFrom_30 3 2 rfl (by decide) ⟨⟨rfl, rfl⟩, rfl⟩ rfl rfl ?_
        refine zq_iload_n (q := 34) G dX1_copyFrom_33 2 rfl rfl rfl ?_
        obtain ⟨q2, h⟩ := zif h
        refine zq_iald (q := 35) G dX1_copyFrom_34 4 rfl q2 rfl ?_
        obtain ⟨q3, h⟩ := zif h
        refine zq_iast (q := 36) (ws2 := (w_T cyI cyZ h0_0 h0_1 h0_2 (τ0.1, τ0.2.1, (upd τ0.2.2.1 x2.toNatClampNeg (σ1.2.2.1 x2.toNatClampNeg)), τ0.2.2.2) ++ w_T cyI cyZ h1_0 h1_1 h1_2 σ1)) G dX1_copyFrom_35 1 rfl q3 rfl rfl ?_
        refine zq_aload_n (q := 37) G dX1_copyFrom_36 0 rfl rfl rfl ?_
        refine zq_get (q := 40) G zu_X1 rfl zw_X1_f22 dX1_copyFrom_37 0 3 rfl (by decide) ⟨⟨rfl, rfl⟩, rfl⟩ rfl rfl ?_
        refine zq_iload_n (q := 41) G dX1_copyFrom_40 2 rfl rfl rfl ?_
        refine zq_aload_n (q := 42) G dX1_copyFrom_41 1 rfl rfl rfl ?_
        refine zq_get (q := 45) G zu_X1 rfl zw_X1_f22 dX1_copyFrom_42 3 3 rfl (by decide) ⟨⟨rfl, rfl⟩, rfl⟩ rfl rfl ?_
        refine zq_iload_n (q := 46) G dX1_copyFrom_45 2 rfl rfl rfl ?_
        obtain ⟨q4, h⟩ := zif h
        refine zq_zald (q := 47) G dX1_copyFrom_46 5 rfl q4 rfl ?_
        obtain ⟨q5, h⟩ := zif h
        refine zq_zast (q := 48) (ws2 := (w_T cyI cyZ h0_0 h0_1 h0_2 (τ0.1, τ0.2.1, (upd τ0.2.2.1 x2.toNatClampNeg (σ1.2.2.1 x2.toNatClampNeg)), (upd τ0.2.2.2 x2.toNatClampNeg ((σ1.2.2.2 x2.toNatClampNeg) &&& 1))) ++ w_T cyI cyZ h1_0 h1_1 h1_2 σ1)) G dX1_copyFrom_47 2 rfl q5 rfl rfl ?_
        refine zq_iinc (q := 51) (v := (x2 + 1)) (lv2 := [(2, .int (x2 + 1)), (0, .ref h0_0), (1, .ref h1_0)]) G dX1_copyFrom_48 2 rfl rfl (by decide) rfl rfl ?_
        refine zq_goto (q := 18) G dX1_copyFrom_51 (by decide) ?_
        exact zq_sub _ [1, 2, 0] rfl (ih _ _ h)
  refine zq_aload_n (q := 1) G dX1_copyFrom_0 0 rfl rfl rfl ?_
  refine zq_aload_n (q := 2) G dX1_copyFrom_1 1 rfl rfl rfl ?_
  refine zq_get (q := 5) G zu_X1 rfl zw_X1_f9 dX1_copyFrom_2 3 0 rfl (by decide) ⟨⟨rfl, rfl⟩, rfl⟩ rfl rfl ?_
  refine zq_put (q := 8) (ws2 := (w_T cyI cyZ h0_0 h0_1 h0_2 (σ1.1, σ0.2.1, σ0.2.2.1, σ0.2.2.2) ++ w_T cyI cyZ h1_0 h1_1 h1_2 σ1)) G zu_X1 rfl tyX1_ok nmX1 zw_X1_f9 dX1_copyFrom_5 0 0 rfl (by decide) ⟨⟨rfl, rfl⟩, rfl⟩ rfl rfl rfl (Nat.le_of_ble_eq_true rfl) rfl rfl ?_
  refine zq_aload_n (q := 9) G dX1_copyFrom_8 0 rfl rfl rfl ?_
  refine zq_aload_n (q := 10) G dX1_copyFrom_9 1 rfl rfl rfl ?_
  refine zq_get (q := 13) G zu_X1 rfl zw_X1_f15 dX1_copyFrom_10 3 1 rfl (by decide) ⟨⟨rfl, rfl⟩, rfl⟩ rfl rfl ?_
  refine zq_put (q := 16) (ws2 := (w_T cyI cyZ h0_0 h0_1 h0_2 (σ1.1, σ1.2.1, σ0.2.2.1, σ0.2.2.2) ++ w_T cyI cyZ h1_0 h1_1 h1_2 σ1)) G zu_X1 rfl tyX1_ok nmX1 zw_X1_f15 dX1_copyFrom_13 0 1 rfl (by decide) ⟨⟨rfl, rfl⟩, rfl⟩ rfl rfl rfl (Nat.le_of_ble_eq_true rfl) rfl rfl ?_
  refine zq_iconst (q := 17) (v := 0) G dX1_copyFrom_16 (by decide) rfl ?_
  refine zq_istore_n (q := 18) (lv2 := [(2, .int (0 : Int32)), (0, .ref h0_0), (1, .ref h1_0)]) G dX1_copyFrom_17 rfl (by decide) rfl rfl ?_
  exact zq_sub _ [1, 2, 0] rfl (b18  _ _ _ h)
set_option maxHeartbeats 4000000 in
set_option maxRecDepth 100000 in
theorem c_X1_putNumber (l : Launch) (D : va_G) (cyI cyZ : ClassId) (h0_0 h0_1 h0_2 : Nat) (σ0 : zT) (p0 : Int32) (p1 : Int32) (p2 : Int32) (o0 : zT) (h : s_X1_putNumber σ0 p0 p1 p2 = some o0) (sz : Nat) : zMv l yX1_putNumber cX1_putNumber 4 1 21 D cyI cyZ sz [.ref h0_0, .int p0, .int p1, .int p2] (w_T cyI cyZ h0_0 h0_1 h0_2 σ0) (w_T cyI cyZ h0_0 h0_1 h0_2 o0) := by
  unfold s_X1_putNumber at h
  refine zstartV (lv0 := [(0, .ref h0_0), (1, .int p0), (2, .int p1), (3, .int p2)]) (by decide) (Nat.le_of_ble_eq_true rfl) rfl (fun p e s m args below meth c G hr hlocks => ?_)
  refine zq_aload_n (q := 1) G dX1_putNumber_0 0 rfl rfl rfl ?_
  refine zq_get (q := 4) G zu_X1 rfl zw_X1_f18 dX1_putNumber_1 0 2 rfl (by decide) ⟨⟨rfl, rfl⟩, rfl⟩ rfl rfl ?_
  refine zq_iload_n (q := 5) G dX1_putNumber_4 1 rfl rfl rfl ?_
  refine zq_iload_n (q := 6) G dX1_putNumber_5 2 rfl rfl rfl ?_
  obtain ⟨z1, hc1, h⟩ := zbd h
  refine zq_callNi (q := 9) (ws2 := (w_T cyI cyZ h0_0 h0_1 h0_2 σ0)) (isC := []) (isR := [0, 1, 2]) (perm := [0, 1, 2]) (rest := [.ref h0_1]) (As := [.int p0, .int p1]) G zs_X1_26 dX1_putNumber_6 (fun sz9 => c_X3_cellIndex l D cyI cyZ p0 p1 z1 hc1 sz9) rfl ⟨rfl, rfl, rfl, rfl⟩ rfl (Nat.le_of_ble_eq_true rfl) ⟨Nat.le_of_ble_eq_true rfl, Nat.le_of_ble_eq_true rfl, Nat.zero_le _, Nat.zero_le _⟩ rfl ?_
  refine zq_iload_n (q := 10) G dX1_putNumber_9 3 rfl rfl rfl ?_
  obtain ⟨q2, h⟩ := zif h
  refine zq_iast (q := 11) (ws2 := (w_T cyI cyZ h0_0 h0_1 h0_2 (σ0.1, σ0.2.1, (upd σ0.2.2.1 z1.toNatClampNeg p2), σ0.2.2.2))) G dX1_putNumber_10 1 rfl q2 rfl rfl ?_
  refine zq_ws (congrArg (fun w9 => (w_T cyI cyZ h0_0 h0_1 h0_2 w9)) (zsome h)) ?_
  exact zq_vret G hlocks hr dX1_putNumber_11
set_option maxHeartbeats 4000000 in
set_option maxRecDepth 100000 in
theorem c_X1_putForbidden (l : Launch) (D : va_G) (cyI cyZ : ClassId) (h0_0 h0_1 h0_2 : Nat) (σ0 : zT) (p0 : Int32) (p1 : Int32) (p2 : Int32) (o0 : zT) (h : s_X1_putForbidden σ0 p0 p1 p2 = some o0) (sz : Nat) : zMv l yX1_putForbidden cX1_putForbidden 4 1 21 D cyI cyZ sz [.ref h0_0, .int p0, .int p1, .int p2] (w_T cyI cyZ h0_0 h0_1 h0_2 σ0) (w_T cyI cyZ h0_0 h0_1 h0_2 o0) := by
  unfold s_X1_putForbidden at h
  refine zstartV (lv0 := [(0, .ref h0_0), (1, .int p0), (2, .int p1), (3, .int p2)]) (by decide) (Nat.le_of_ble_eq_true rfl) rfl (fun p e s m args below meth c G hr hlocks => ?_)
  refine zq_aload_n (q := 1) G dX1_putForbidden_0 0 rfl rfl rfl ?_
  refine zq_get (q := 4) G zu_X1 rfl zw_X1_f22 dX1_putForbidden_1 0 3 rfl (by decide) ⟨⟨rfl, rfl⟩, rfl⟩ rfl rfl ?_
  refine zq_iload_n (q := 5) G dX1_putForbidden_4 1 rfl rfl rfl ?_
  refine zq_iload_n (q := 6) G dX1_putForbidden_5 2 rfl rfl rfl ?_
  obtain ⟨z1, hc1, h⟩ := zbd h
  refine zq_callNi (q := 9) (ws2 := (w_T cyI cyZ h0_0 h0_1 h0_2 σ0)) (isC := []) (isR := [0, 1, 2]) (perm := [0, 1, 2]) (rest := [.ref h0_2]) (As := [.int p0, .int p1]) G zs_X1_26 dX1_putForbidden_6 (fun sz9 => c_X3_cellIndex l D cyI cyZ p0 p1 z1 hc1 sz9) rfl ⟨rfl, rfl, rfl, rfl⟩ rfl (Nat.le_of_ble_eq_true rfl) ⟨Nat.le_of_ble_eq_true rfl, Nat.le_of_ble_eq_true rfl, Nat.zero_le _, Nat.zero_le _⟩ rfl ?_
  refine zq_iload_n (q := 10) G dX1_putForbidden_9 3 rfl rfl rfl ?_
  obtain ⟨q2, h⟩ := zif h
  refine zq_zast (q := 11) (ws2 := (w_T cyI cyZ h0_0 h0_1 h0_2 (σ0.1, σ0.2.1, σ0.2.2.1, (upd σ0.2.2.2 z1.toNatClampNeg (p2 &&& 1))))) G dX1_putForbidden_10 2 rfl q2 rfl rfl ?_
  refine zq_ws (congrArg (fun w9 => (w_T cyI cyZ h0_0 h0_1 h0_2 w9)) (zsome h)) ?_
  exact zq_vret G hlocks hr dX1_putForbidden_11
set_option maxHeartbeats 4000000 in
set_option maxRecDepth 100000 in
theorem c_X1_sumOfRow (l : Launch) (D : va_G) (cyI cyZ : ClassId) (h0_0 h0_1 h0_2 : Nat) (σ0 : zT) (p0 : Int32) (r : Int32) (h : s_X1_sumOfRow σ0 p0 = some r) (sz : Nat) : zMi l yX1_sumOfRow cX1_sumOfRow 4 .int 3 65 D cyI cyZ sz [.ref h0_0, .int p0] (w_T cyI cyZ h0_0 h0_1 h0_2 σ0) r (w_T cyI cyZ h0_0 h0_1 h0_2 σ0) := by
  unfold s_X1_sumOfRow at h
  refine zstartI (lv0 := [(0, .ref h0_0), (1, .int p0)]) (by decide) (Nat.le_of_ble_eq_true rfl) rfl (fun p e s m args below meth c G hr hlocks => ?_)
  have b4 : ∀ (n : Nat) (x1 : Int32) (x2 : Int32) (x3 : Int32), s_X1_sumOfRow_4 n σ0 x1 x2 x3 = some r → zW p l e ({ frames := 3, cells := 0, slots := 0, locals := 65 } : Room) s m args below meth c D (va_A (w_T cyI cyZ h0_0 h0_1 h0_2 σ0) sz) 4 0 0 (MQ below (zQi D cyI cyZ sz (w_T cyI cyZ h0_0 h0_1 h0_2 σ0) r (w_T cyI cyZ h0_0 h0_1 h0_2 σ0)) args s 0 0 (va_A (w_T cyI cyZ h0_0 h0_1 h0_2 σ0) sz)) 4 [(0, .ref h0_0), (1, .int x1), (2, .int x2), (3, .int x3)] [] (w_T cyI cyZ h0_0 h0_1 h0_2 σ0) := by
    intro n
    induction n with
    | zero => intro x1 x2 x3 h; rw [s_X1_sumOfRow_4] at h; exact nomatch h
    | succ n ih =>
      intro x1 x2 x3 h
      rw [s_X1_sumOfRow_4] at h
      refine zq_iload_n (q := 5) G dX1_sumOfRow_4 3 rfl rfl rfl ?_
      refine zq_aload_n (q := 6) G dX1_sumOfRow_5 0 rfl rfl rfl ?_
      refine zq_get (q := 9) G zu_X1 rfl zw_X1_f15 dX1_sumOfRow_6 0 1 rfl (by decide) ⟨⟨rfl, rfl⟩, rfl⟩ rfl rfl ?_
      refine zq_icmp_ge (tgt := 27) (q := 12) G dX1_sumOfRow_9 (by decide) rfl (fun c1 => ?_) (fun c1 => ?_)
      · have h := zit h c1
        refine zq_iload_n (q := 28) G dX1_sumOfRow_27 2 rfl rfl rfl ?_
        exact zq_iret G hlocks hr rfl dX1_sumOfRow_28 (zsome h)
      · have h := zie h c1
        refine zq_iload_n (q := 13) G dX1_sumOfRow_12 2 rfl rfl rfl ?_
        refine zq_aload_n (q := 14) G dX1_sumOfRow_13 0 rfl rfl rfl ?_
        refine zq_iload_n (q := 15) G dX1_sumOfRow_14 1 rfl rfl rfl ?_
        refine zq_iload_n (q := 16) G dX1_sumOfRow_15 3 rfl rfl rfl ?_
        obtain ⟨z2, hc2, h⟩ := zbd h
        refine zq_callVi (q := 19) (ws2 := (w_T cyI cyZ h0_0 h0_1 h0_2 σ0)) (isC := [0, 1, 2]) (isR := []) (perm := [0, 1, 2]) (rest := [.int x2]) (As := [.int x1, .int x3]) G zs_X1_37 dX1_sumOfRow_16 (fun sz9 => c_X1_costOf l D cyI cyZ h0_0 h0_1 h0_2 σ0 x1 x3 z2 hc2 sz9) 0 rfl rfl rfl ⟨rfl, rfl, rfl, rfl⟩ rfl (Nat.le_of_ble_eq_true rfl) ⟨Nat.le_of_ble_eq_true rfl, Nat.le_of_ble_eq_true rfl, Nat.zero_le _, Nat.zero_le _⟩ rfl ?_
        refine zq_iadd (q := 20) G dX1_sumOfRow_19 rfl ?_
        refine zq_istore_n (q := 21) (lv2 := [(2, .int (x2 + z2)), (0, .ref h0_0), (1, .int x1), (3, .int x3)]) G dX1_sumOfRow_20 rfl (by decide) rfl rfl ?_
        refine zq_iinc (q := 24) (v := (x3 + 1)) (lv2 := [(3, .int (x3 + 1)), (2, .int (x2 + z2)), (0, .ref h0_0), (1, .int x1)]) G dX1_sumOfRow_21 3 rfl rfl (by decide) rfl rfl ?_
        refine zq_goto (q := 4) G dX1_sumOfRow_24 (by decide) ?_
        exact zq_sub _ [2, 3, 1, 0] rfl (ih _ _ _ h)
  refine zq_iconst (q := 1) (v := 0) G dX1_sumOfRow_0 (by decide) rfl ?_
  refine zq_istore_n (q := 2) (lv2 := [(2, .int (0 : Int32)), (0, .ref h0_0), (1, .int p0)]) G dX1_sumOfRow_1 rfl (by decide) rfl rfl ?_
  refine zq_iconst (q := 3) (v := 0) G dX1_sumOfRow_2 (by decide) rfl ?_
  refine zq_istore_n (q := 4) (lv2 := [(3, .int (0 : Int32)), (2, .int (0 : Int32)), (0, .ref h0_0), (1, .int p0)]) G dX1_sumOfRow_3 rfl (by decide) rfl rfl ?_
  exact zq_sub _ [2, 3, 1, 0] rfl (b4  _ _ _ _ h)
set_option maxHeartbeats 4000000 in
set_option maxRecDepth 100000 in
theorem c_X1_sumOfColumn (l : Launch) (D : va_G) (cyI cyZ : ClassId) (h0_0 h0_1 h0_2 : Nat) (σ0 : zT) (p0 : Int32) (r : Int32) (h : s_X1_sumOfColumn σ0 p0 = some r) (sz : Nat) : zMi l yX1_sumOfColumn cX1_sumOfColumn 4 .int 3 65 D cyI cyZ sz [.ref h0_0, .int p0] (w_T cyI cyZ h0_0 h0_1 h0_2 σ0) r (w_T cyI cyZ h0_0 h0_1 h0_2 σ0) := by
  unfold s_X1_sumOfColumn at h
  refine zstartI (lv0 := [(0, .ref h0_0), (1, .int p0)]) (by decide) (Nat.le_of_ble_eq_true rfl) rfl (fun p e s m args below meth c G hr hlocks => ?_)
  have b4 : ∀ (n : Nat) (x1 : Int32) (x2 : Int32) (x3 : Int32), s_X1_sumOfColumn_4 n σ0 x1 x2 x3 = some r → zW p l e ({ frames := 3, cells := 0, slots := 0, locals := 65 } : Room) s m args below meth c D (va_A (w_T cyI cyZ h0_0 h0_1 h0_2 σ0) sz) 4 0 0 (MQ below (zQi D cyI cyZ sz (w_T cyI cyZ h0_0 h0_1 h0_2 σ0) r (w_T cyI cyZ h0_0 h0_1 h0_2 σ0)) args s 0 0 (va_A (w_T cyI cyZ h0_0 h0_1 h0_2 σ0) sz)) 4 [(0, .ref h0_0), (1, .int x1), (2, .int x2), (3, .int x3)] [] (w_T cyI cyZ h0_0 h0_1 h0_2 σ0) := by
    intro n
    induction n with
    | zero => intro x1 x2 x3 h; rw [s_X1_sumOfColumn_4] at h; exact nomatch h
    | succ n ih =>
      intro x1 x2 x3 h
      rw [s_X1_sumOfColumn_4] at h
      refine zq_iload_n (q := 5) G dX1_sumOfColumn_4 3 rfl rfl rfl ?_
      refine zq_aload_n (q := 6) G dX1_sumOfColumn_5 0 rfl rfl rfl ?_
      refine zq_get (q := 9) G zu_X1 rfl zw_X1_f9 dX1_sumOfColumn_6 0 0 rfl (by decide) ⟨⟨rfl, rfl⟩, rfl⟩ rfl rfl ?_
      refine zq_icmp_ge (tgt := 27) (q := 12) G dX1_sumOfColumn_9 (by decide) rfl (fun c1 => ?_) (fun c1 => ?_)
      · have h := zit h c1
        refine zq_iload_n (q := 28) G dX1_sumOfColumn_27 2 rfl rfl rfl ?_
        exact zq_iret G hlocks hr rfl dX1_sumOfColumn_28 (zsome h)
      · have h := zie h c1
        refine zq_iload_n (q := 13) G dX1_sumOfColumn_12 2 rfl rfl rfl ?_
        refine zq_aload_n (q := 14) G dX1_sumOfColumn_13 0 rfl rfl rfl ?_
        refine zq_iload_n (q := 15) G dX1_sumOfColumn_14 3 rfl rfl rfl ?_
        refine zq_iload_n (q := 16) G dX1_sumOfColumn_15 1 rfl rfl rfl ?_
        obtain ⟨z2, hc2, h⟩ := zbd h
        refine zq_callVi (q := 19) (ws2 := (w_T cyI cyZ h0_0 h0_1 h0_2 σ0)) (isC := [0, 1, 2]) (isR := []) (perm := [0, 1, 2]) (rest := [.int x2]) (As := [.int x3, .int x1]) G zs_X1_37 dX1_sumOfColumn_16 (fun sz9 => c_X1_costOf l D cyI cyZ h0_0 h0_1 h0_2 σ0 x3 x1 z2 hc2 sz9) 0 rfl rfl rfl ⟨rfl, rfl, rfl, rfl⟩ rfl (Nat.le_of_ble_eq_true rfl) ⟨Nat.le_of_ble_eq_true rfl, Nat.le_of_ble_eq_true rfl, Nat.zero_le _, Nat.zero_le _⟩ rfl ?_
        refine zq_iadd (q := 20) G dX1_sumOfColumn_19 rfl ?_
        refine zq_istore_n (q := 21) (lv2 := [(2, .int (x2 + z2)), (0, .ref h0_0), (1, .int x1), (3, .int x3)]) G dX1_sumOfColumn_20 rfl (by decide) rfl rfl ?_
        refine zq_iinc (q := 24) (v := (x3 + 1)) (lv2 := [(3, .int (x3 + 1)), (2, .int (x2 + z2)), (0, .ref h0_0), (1, .int x1)]) G dX1_sumOfColumn_21 3 rfl rfl (by decide) rfl rfl ?_
        refine zq_goto (q := 4) G dX1_sumOfColumn_24 (by decide) ?_
        exact zq_sub _ [2, 3, 1, 0] rfl (ih _ _ _ h)
  refine zq_iconst (q := 1) (v := 0) G dX1_sumOfColumn_0 (by decide) rfl ?_
  refine zq_istore_n (q := 2) (lv2 := [(2, .int (0 : Int32)), (0, .ref h0_0), (1, .int p0)]) G dX1_sumOfColumn_1 rfl (by decide) rfl rfl ?_
  refine zq_iconst (q := 3) (v := 0) G dX1_sumOfColumn_2 (by decide) rfl ?_
  refine zq_istore_n (q := 4) (lv2 := [(3, .int (0 : Int32)), (2, .int (0 : Int32)), (0, .ref h0_0), (1, .int p0)]) G dX1_sumOfColumn_3 rfl (by decide) rfl rfl ?_
  exact zq_sub _ [2, 3, 1, 0] rfl (b4  _ _ _ _ h)
set_option maxHeartbeats 4000000 in
set_option maxRecDepth 100000 in
theorem c_X1_swapCells (l : Launch) (D : va_G) (cyI cyZ : ClassId) (h0_0 h0_1 h0_2 : Nat) (σ0 : zT) (p0 : Int32) (p1 : Int32) (p2 : Int32) (p3 : Int32) (o0 : zT) (h : s_X1_swapCells σ0 p0 p1 p2 p3 = some o0) (sz : Nat) : zMv l yX1_swapCells cX1_swapCells 7 2 44 D cyI cyZ sz [.ref h0_0, .int p0, .int p1, .int p2, .int p3] (w_T cyI cyZ h0_0 h0_1 h0_2 σ0) (w_T cyI cyZ h0_0 h0_1 h0_2 o0) := by
  unfold s_X1_swapCells at h
  refine zstartV (lv0 := [(0, .ref h0_0), (1, .int p0), (2, .int p1), (3, .int p2), (4, .int p3)]) (by decide) (Nat.le_of_ble_eq_true rfl) rfl (fun p e s m args below meth c G hr hlocks => ?_)
  refine zq_aload_n (q := 1) G dX1_swapCells_0 0 rfl rfl rfl ?_
  refine zq_iload_n (q := 2) G dX1_swapCells_1 1 rfl rfl rfl ?_
  refine zq_iload_n (q := 3) G dX1_swapCells_2 2 rfl rfl rfl ?_
  obtain ⟨z1, hc1, h⟩ := zbd h
  refine zq_callVi (q := 6) (ws2 := (w_T cyI cyZ h0_0 h0_1 h0_2 σ0)) (isC := [0, 1, 2]) (isR := []) (perm := [0, 1, 2]) (rest := []) (As := [.int p0, .int p1]) G zs_X1_34 dX1_swapCells_3 (fun sz9 => c_X1_numberAt l D cyI cyZ h0_0 h0_1 h0_2 σ0 p0 p1 z1 hc1 sz9) 0 rfl rfl rfl ⟨rfl, rfl, rfl, rfl⟩ rfl (Nat.le_of_ble_eq_true rfl) ⟨Nat.le_of_ble_eq_true rfl, Nat.le_of_ble_eq_true rfl, Nat.zero_le _, Nat.zero_le _⟩ rfl ?_
  refine zq_istore (q := 8) (lv2 := [(5, .int z1), (0, .ref h0_0), (1, .int p0), (2, .int p1), (3, .int p2), (4, .int p3)]) G dX1_swapCells_6 (by decide) rfl rfl ?_
  refine zq_aload_n (q := 9) G dX1_swapCells_8 1 rfl rfl rfl ?_
  refine zq_iload_n (q := 10) G dX1_swapCells_9 2 rfl rfl rfl ?_
  refine zq_iload_n (q := 11) G dX1_swapCells_10 3 rfl rfl rfl ?_
  obtain ⟨z2, hc2, h⟩ := zbd h
  refine zq_callVi (q := 14) (ws2 := (w_T cyI cyZ h0_0 h0_1 h0_2 σ0)) (isC := [0, 1, 2]) (isR := []) (perm := [0, 1, 2]) (rest := []) (As := [.int p0, .int p1]) G zs_X1_30 dX1_swapCells_11 (fun sz9 => c_X1_isForbidden l D cyI cyZ h0_0 h0_1 h0_2 σ0 p0 p1 z2 hc2 sz9) 0 rfl rfl rfl ⟨rfl, rfl, rfl, rfl⟩ rfl (Nat.le_of_ble_eq_true rfl) ⟨Nat.le_of_ble_eq_true rfl, Nat.le_of_ble_eq_true rfl, Nat.zero_le _, Nat.zero_le _⟩ rfl ?_
  refine zq_istore (q := 16) (lv2 := [(6, .int z2), (5, .int z1), (0, .ref h0_0), (1, .int p0), (2, .int p1), (3, .int p2), (4, .int p3)]) G dX1_swapCells_14 (by decide) rfl rfl ?_
  refine zq_aload_n (q := 17) G dX1_swapCells_16 2 rfl rfl rfl ?_
  refine zq_iload_n (q := 18) G dX1_swapCells_17 3 rfl rfl rfl ?_
  refine zq_iload_n (q := 19) G dX1_swapCells_18 4 rfl rfl rfl ?_
  refine zq_aload_n (q := 20) G dX1_swapCells_19 2 rfl rfl rfl ?_
  refine zq_iload_n (q := 21) G dX1_swapCells_20 5 rfl rfl rfl ?_
  refine zq_iload (q := 23) G dX1_swapCells_21 6 rfl rfl ?_
  obtain ⟨z3, hc3, h⟩ := zbd h
  refine zq_callVi (q := 26) (ws2 := (w_T cyI cyZ h0_0 h0_1 h0_2 σ0)) (isC := [0, 1, 2]) (isR := []) (perm := [0, 1, 2]) (rest := [.int p1, .int p0, .ref h0_0]) (As := [.int p2, .int p3]) G zs_X1_34 dX1_swapCells_23 (fun sz9 => c_X1_numberAt l D cyI cyZ h0_0 h0_1 h0_2 σ0 p2 p3 z3 hc3 sz9) 0 rfl rfl rfl ⟨rfl, rfl, rfl, rfl⟩ rfl (Nat.le_of_ble_eq_true rfl) ⟨Nat.le_of_ble_eq_true rfl, Nat.le_of_ble_eq_true rfl, Nat.zero_le _, Nat.zero_le _⟩ rfl ?_
  obtain ⟨z4, hc4, h⟩ := zbd h
  refine zq_callVv (q := 29) (ws2 := (w_T cyI cyZ h0_0 h0_1 h0_2 z4)) (isC := [0, 1, 2]) (isR := []) (perm := [0, 1, 2]) (rest := []) (As := [.int p0, .int p1, .int z3]) G zs_X1_40 dX1_swapCells_26 (fun sz9 => c_X1_putNumber l D cyI cyZ h0_0 h0_1 h0_2 σ0 p0 p1 z3 z4 hc4 sz9) 0 rfl rfl rfl ⟨rfl, rfl, rfl, rfl⟩ rfl (Nat.le_of_ble_eq_true rfl) ⟨Nat.le_of_ble_eq_true rfl, Nat.le_of_ble_eq_true rfl, Nat.zero_le _, Nat.zero_le _⟩ rfl ?_
  refine zq_aload_n (q := 30) G dX1_swapCells_29 2 rfl rfl rfl ?_
  refine zq_iload_n (q := 31) G dX1_swapCells_30 3 rfl rfl rfl ?_
  refine zq_iload_n (q := 32) G dX1_swapCells_31 4 rfl rfl rfl ?_
  refine zq_aload_n (q := 33) G dX1_swapCells_32 2 rfl rfl rfl ?_
  refine zq_iload_n (q := 34) G dX1_swapCells_33 5 rfl rfl rfl ?_
  refine zq_iload (q := 36) G dX1_swapCells_34 6 rfl rfl ?_
  obtain ⟨z5, hc5, h⟩ := zbd h
  refine zq_callVi (q := 39) (ws2 := (w_T cyI cyZ h0_0 h0_1 h0_2 z4)) (isC := [0, 1, 2]) (isR := []) (perm := [0, 1, 2]) (rest := [.int p1, .int p0, .ref h0_0]) (As := [.int p2, .int p3]) G zs_X1_30 dX1_swapCells_36 (fun sz9 => c_X1_isForbidden l D cyI cyZ h0_0 h0_1 h0_2 z4 p2 p3 z5 hc5 sz9) 0 rfl rfl rfl ⟨rfl, rfl, rfl, rfl⟩ rfl (Nat.le_of_ble_eq_true rfl) ⟨Nat.le_of_ble_eq_true rfl, Nat.le_of_ble_eq_true rfl, Nat.zero_le _, Nat.zero_le _⟩ rfl ?_
  obtain ⟨z6, hc6, h⟩ := zbd h
  refine zq_callVv (q := 42) (ws2 := (w_T cyI cyZ h0_0 h0_1 h0_2 z6)) (isC := [0, 1, 2]) (isR := []) (perm := [0, 1, 2]) (rest := []) (As := [.int p0, .int p1, .int z5]) G zs_X1_44 dX1_swapCells_39 (fun sz9 => c_X1_putForbidden l D cyI cyZ h0_0 h0_1 h0_2 z4 p0 p1 z5 z6 hc6 sz9) 0 rfl rfl rfl ⟨rfl, rfl, rfl, rfl⟩ rfl (Nat.le_of_ble_eq_true rfl) ⟨Nat.le_of_ble_eq_true rfl, Nat.le_of_ble_eq_true rfl, Nat.zero_le _, Nat.zero_le _⟩ rfl ?_
  refine zq_aload_n (q := 43) G dX1_swapCells_42 2 rfl rfl rfl ?_
  refine zq_iload_n (q := 44) G dX1_swapCells_43 5 rfl rfl rfl ?_
  refine zq_iload (q := 46) G dX1_swapCells_44 6 rfl rfl ?_
  refine zq_iload (q := 48) G dX1_swapCells_46 1 rfl rfl ?_
  obtain ⟨z7, hc7, h⟩ := zbd h
  refine zq_callVv (q := 51) (ws2 := (w_T cyI cyZ h0_0 h0_1 h0_2 z7)) (isC := [0, 1, 2]) (isR := []) (perm := [0, 1, 2]) (rest := []) (As := [.int p2, .int p3, .int z1]) G zs_X1_40 dX1_swapCells_48 (fun sz9 => c_X1_putNumber l D cyI cyZ h0_0 h0_1 h0_2 z6 p2 p3 z1 z7 hc7 sz9) 0 rfl rfl rfl ⟨rfl, rfl, rfl, rfl⟩ rfl (Nat.le_of_ble_eq_true rfl) ⟨Nat.le_of_ble_eq_true rfl, Nat.le_of_ble_eq_true rfl, Nat.zero_le _, Nat.zero_le _⟩ rfl ?_
  refine zq_aload_n (q := 52) G dX1_swapCells_51 2 rfl rfl rfl ?_
  refine zq_iload_n (q := 53) G dX1_swapCells_52 5 rfl rfl rfl ?_
  refine zq_iload (q := 55) G dX1_swapCells_53 6 rfl rfl ?_
  refine zq_iload (q := 57) G dX1_swapCells_55 0 rfl rfl ?_
  obtain ⟨z8, hc8, h⟩ := zbd h
  refine zq_callVv (q := 60) (ws2 := (w_T cyI cyZ h0_0 h0_1 h0_2 z8)) (isC := [0, 1, 2]) (isR := []) (perm := [0, 1, 2]) (rest := []) (As := [.int p2, .int p3, .int z2]) G zs_X1_44 dX1_swapCells_57 (fun sz9 => c_X1_putForbidden l D cyI cyZ h0_0 h0_1 h0_2 z7 p2 p3 z2 z8 hc8 sz9) 0 rfl rfl rfl ⟨rfl, rfl, rfl, rfl⟩ rfl (Nat.le_of_ble_eq_true rfl) ⟨Nat.le_of_ble_eq_true rfl, Nat.le_of_ble_eq_true rfl, Nat.zero_le _, Nat.zero_le _⟩ rfl ?_
  refine zq_ws (congrArg (fun w9 => (w_T cyI cyZ h0_0 h0_1 h0_2 w9)) (zsome h)) ?_
  exact zq_vret G hlocks hr dX1_swapCells_60
set_option maxHeartbeats 4000000 in
set_option maxRecDepth 100000 in
theorem c_X2_cancel (l : Launch) (D : va_G) (cyI cyZ : ClassId) (h0_0 h0_1 : Nat) (σ0 : zK) (o0 : zK) (h : s_X2_cancel σ0 = some o0) (sz : Nat) : zMv l yX2_cancel cX2_cancel 1 0 0 D cyI cyZ sz [.ref h0_0] (w_K cyI h0_0 h0_1 σ0) (w_K cyI h0_0 h0_1 o0) := by
  unfold s_X2_cancel at h
  refine zstartV (lv0 := [(0, .ref h0_0)]) (by decide) (Nat.le_of_ble_eq_true rfl) rfl (fun p e s m args below meth c G hr hlocks => ?_)
  refine zq_aload_n (q := 1) G dX2_cancel_0 0 rfl rfl rfl ?_
  refine zq_iconst (q := 2) (v := 0) G dX2_cancel_1 (by decide) rfl ?_
  refine zq_put (q := 5) (ws2 := (w_K cyI h0_0 h0_1 ((0 : Int32), σ0.2.1, σ0.2.2.1, σ0.2.2.2.1, σ0.2.2.2.2))) G zu_X2 rfl tyX2_ok nmX2 zw_X2_f9 dX2_cancel_2 0 0 rfl (by decide) ⟨⟨rfl, rfl⟩, rfl⟩ rfl rfl rfl (Nat.le_of_ble_eq_true rfl) rfl rfl ?_
  refine zq_ws (congrArg (fun w9 => (w_K cyI h0_0 h0_1 w9)) (zsome h)) ?_
  exact zq_vret G hlocks hr dX2_cancel_5
set_option maxHeartbeats 4000000 in
set_option maxRecDepth 100000 in
theorem c_X2_shiftOf (l : Launch) (D : va_G) (cyI cyZ : ClassId) (p0 : Int32) (r : Int32) (h : s_X2_shiftOf p0 = some r) (sz : Nat) : zMi l yX2_shiftOf cX2_shiftOf 1 .int 0 0 D cyI cyZ sz [.int p0] ([] : va_W) r ([] : va_W) := by
  unfold s_X2_shiftOf at h
  refine zstartI (lv0 := [(0, .int p0)]) (by decide) (Nat.le_of_ble_eq_true rfl) rfl (fun p e s m args below meth c G hr hlocks => ?_)
  refine zq_iconst (q := 1) (v := 3) G dX2_shiftOf_0 (by decide) rfl ?_
  refine zq_iconst (q := 2) (v := 5) G dX2_shiftOf_1 (by decide) rfl ?_
  refine zq_iload_n (q := 3) G dX2_shiftOf_2 0 rfl rfl rfl ?_
  refine zq_isub (q := 4) G dX2_shiftOf_3 rfl ?_
  refine zq_imul (q := 5) G dX2_shiftOf_4 rfl ?_
  exact zq_iret G hlocks hr rfl dX2_shiftOf_5 (zsome h)
set_option maxHeartbeats 4000000 in
set_option maxRecDepth 100000 in
theorem c_X2_addKeys (l : Launch) : ∀ (d : Nat) (D : va_G) (cyI cyZ : ClassId) (h0_0 h0_1 h1_0 h1_1 h1_2 : Nat) (σ0 : zK) (σ1 : zT) (p2 : Int32) (p3 : Int32) (p4 : Int32) (o0 : zK) (h : s_X2_addKeys d σ0 σ1 p2 p3 p4 = some o0) (sz : Nat), zMv l yX2_addKeys cX2_addKeys 7 (3 + d) (65 + d * 26) D cyI cyZ sz [.ref h0_0, .ref h1_0, .int p2, .int p3, .int p4] (w_K cyI h0_0 h0_1 σ0 ++ w_T cyI cyZ h1_0 h1_1 h1_2 σ1) (w_K cyI h0_0 h0_1 o0 ++ w_T cyI cyZ h1_0 h1_1 h1_2 σ1) := by
  intro d
  induction d with
  | zero => intro D cyI cyZ h0_0 h0_1 h1_0 h1_1 h1_2 σ0 σ1 p2 p3 p4 o0 h sz; rw [s_X2_addKeys] at h; exact nomatch h
  | succ d ih0 =>
    intro D cyI cyZ h0_0 h0_1 h1_0 h1_1 h1_2 σ0 σ1 p2 p3 p4 o0 h sz
    have ihd := ih0 D cyI cyZ
    rw [s_X2_addKeys] at h
    generalize s_X2_addKeys d = rec at h ihd
    unfold s_X2_addKeys_step at h
    refine zstartV (lv0 := [(0, .ref h0_0), (1, .ref h1_0), (2, .int p2), (3, .int p3), (4, .int p4)]) (by decide) (Nat.le_of_ble_eq_true rfl) rfl (fun p e s m args below meth c G hr hlocks => ?_)
    have b43 : ∀ (n : Nat) (τ0 : zK) (x2 : Int32) (x3 : Int32) (x4 : Int32) (x5 : Int32), s_X2_addKeys_43 rec n τ0 σ1 x2 x3 x4 x5 = some o0 → zW p l e ({ frames := 3 + (d + 1), cells := 0, slots := 0, locals := 65 + (d + 1) * 26 } : Room) s m args below meth c D (va_A (w_K cyI h0_0 h0_1 σ0 ++ w_T cyI cyZ h1_0 h1_1 h1_2 σ1) sz) 7 0 0 (MQ below (zQv D cyI cyZ sz (w_K cyI h0_0 h0_1 σ0 ++ w_T cyI cyZ h1_0 h1_1 h1_2 σ1) (w_K cyI h0_0 h0_1 o0 ++ w_T cyI cyZ h1_0 h1_1 h1_2 σ1)) args s 0 0 (va_A (w_K cyI h0_0 h0_1 σ0 ++ w_T cyI cyZ h1_0 h1_1 h1_2 σ1) sz)) 43 [(0, .ref h0_0), (1, .ref h1_0), (2, .int x2), (3, .int x3), (4, .int x4), (5, .int x5)] [] (w_K cyI h0_0 h0_1 τ0 ++ w_T cyI cyZ h1_0 h1_1 h1_2 σ1) := by
      intro n
      induction n with
      | zero => intro τ0 x2 x3 x4 x5 h; rw [s_X2_addKeys_43] at h; exact nomatch h
      | succ n ih =>
        intro τ0 x2 x3 x4 x5 h
        rw [s_X2_addKeys_43] at h
        refine zq_iload (q := 45) G dX2_addKeys_43 5 rfl rfl ?_
        refine zq_aload_n (q := 46) G dX2_addKeys_45 1 rfl rfl rfl ?_
        refine zq_getN (q := 49) G zu_X1 rfl zw_X2_f31 dX2_addKeys_46 2 0 rfl (by decide) ⟨⟨rfl, rfl⟩, rfl⟩ rfl rfl ?_
        refine zq_icmp_ge (tgt := 106) (q := 52) G dX2_addKeys_49 (by decide) rfl (fun c1 => ?_) (fun c1 => ?_)
        · have h := zit h c1
          refine zq_ws (congrArg (fun w9 => (w_K cyI h0_0 h0_1 w9 ++ w_T cyI cyZ h1_0 h1_1 h1_2 σ1)) (zsome h)) ?_
          exact zq_vret G hlocks hr dX2_addKeys_106
        · have h := zie h c1
          refine zq_iload_n (q := 53) G dX2_addKeys_52 3 rfl rfl rfl ?_
          refine zq_iload (q := 55) G dX2_addKeys_53 5 rfl rfl ?_
          refine zq_ishr (q := 56) G dX2_addKeys_55 rfl ?_
          refine zq_iconst (q := 57) (v := 1) G dX2_addKeys_56 (by decide) rfl ?_
          refine zq_iand (q := 58) G dX2_addKeys_57 rfl ?_
          refine zq_if_ne (tgt := 100) (q := 61) G dX2_addKeys_58 (by decide) rfl (fun c2 => ?_) (fun c2 => ?_)
          · have h := zie h c2
            refine zq_iinc (q := 103) (v := (x5 + 1)) (lv2 := [(5, .int (x5 + 1)), (0, .ref h0_0), (1, .ref h1_0), (2, .int x2), (3, .int x3), (4, .int x4)]) G dX2_addKeys_100 5 rfl rfl (by decide) rfl rfl ?_
            refine zq_goto (q := 43) G dX2_addKeys_103 (by decide) ?_
            exact zq_sub _ [1, 2, 3, 4, 5, 0] rfl (ih _ _ _ _ _ h)
          · have h := zit h c2
            refine zq_aload_n (q := 62) G dX2_addKeys_61 1 rfl rfl rfl ?_
            refine zq_iload_n (q := 63) G dX2_addKeys_62 2 rfl rfl rfl ?_
            refine zq_iload (q := 65) G dX2_addKeys_63 5 rfl rfl ?_
            obtain ⟨z3, hc3, h⟩ := zbd h
            refine zq_callVi (q := 68) (ws2 := (w_K cyI h0_0 h0_1 τ0 ++ w_T cyI cyZ h1_0 h1_1 h1_2 σ1)) (isC := [2, 3, 4]) (isR := [0, 1]) (perm := [0, 1, 2, 3, 4]) (rest := []) (As := [.int x2, .int x5]) G zs_X2_36 dX2_addKeys_65 (fun sz9 => c_X1_costOf l D cyI cyZ h1_0 h1_1 h1_2 σ1 x2 x5 z3 hc3 sz9) 2 rfl rfl rfl ⟨rfl, rfl, rfl, rfl⟩ rfl (Nat.le_of_ble_eq_true rfl) ⟨(by show 2 + 1 ≤ 3 + (d + 1); omega), (by show 8 + (3 + 11) + 43 ≤ 65 + (d + 1) * 26; omega), Nat.zero_le _, Nat.zero_le _⟩ rfl ?_
            refine zq_bipush (q := 70) (v := 18) G dX2_addKeys_68 (by decide) rfl ?_
            refine zq_ishl (q := 71) G dX2_addKeys_70 rfl ?_
            refine zq_iload (q := 73) G dX2_addKeys_71 5 rfl rfl ?_
            refine zq_iload_n (q := 74) G dX2_addKeys_73 2 rfl rfl rfl ?_
            obtain ⟨z4, hc4, h⟩ := zbd h
            refine zq_callSi (q := 77) (ws2 := (w_K cyI h0_0 h0_1 τ0 ++ w_T cyI cyZ h1_0 h1_1 h1_2 σ1)) (isC := []) (isR := [0, 1, 2, 3, 4]) (perm := [0, 1, 2, 3, 4]) (rest := [.int x5, .int (z3 <<< ((18 : Int32) &&& 31))]) (As := [.int x2]) G zs_X2_40 dX2_addKeys_74 (fun sz9 => c_X2_shiftOf l D cyI cyZ x2 z4 hc4 sz9) rfl ⟨rfl, rfl, rfl, rfl⟩ rfl (Nat.le_of_ble_eq_true rfl) ⟨(by show 0 + 1 ≤ 3 + (d + 1); omega), (by show 8 + (1 + 11) + 0 ≤ 65 + (d + 1) * 26; omega), Nat.zero_le _, Nat.zero_le _⟩ rfl ?_
            refine zq_ishl (q := 78) G dX2_addKeys_77 rfl ?_
            refine zq_iadd (q := 79) G dX2_addKeys_78 rfl ?_
            refine zq_istore (q := 81) (lv2 := [(6, .int ((z3 <<< ((18 : Int32) &&& 31)) + (x5 <<< (z4 &&& 31)))), (0, .ref h0_0), (1, .ref h1_0), (2, .int x2), (3, .int x3), (4, .int x4), (5, .int x5)]) G dX2_addKeys_79 (by decide) rfl rfl ?_
            refine zq_aload_n (q := 82) G dX2_addKeys_81 1 rfl rfl rfl ?_
            refine zq_aload_n (q := 83) G dX2_addKeys_82 2 rfl rfl rfl ?_
            refine zq_iload_n (q := 84) G dX2_addKeys_83 3 rfl rfl rfl ?_
            refine zq_iconst (q := 85) (v := 1) G dX2_addKeys_84 (by decide) rfl ?_
            refine zq_iadd (q := 86) G dX2_addKeys_85 rfl ?_
            refine zq_iload_n (q := 87) G dX2_addKeys_86 4 rfl rfl rfl ?_
            refine zq_iconst (q := 88) (v := 1) G dX2_addKeys_87 (by decide) rfl ?_
            refine zq_iload (q := 90) G dX2_addKeys_88 6 rfl rfl ?_
            refine zq_ishl (q := 91) G dX2_addKeys_90 rfl ?_
            refine zq_ior (q := 92) G dX2_addKeys_91 rfl ?_
            refine zq_iload (q := 94) G dX2_addKeys_92 5 rfl rfl ?_
            refine zq_iload (q := 96) G dX2_addKeys_94 0 rfl rfl ?_
            refine zq_iadd (q := 97) G dX2_addKeys_96 rfl ?_
            obtain ⟨z5, hc5, h⟩ := zbd h
            refine zq_callSv (q := 100) (ws2 := (w_K cyI h0_0 h0_1 z5 ++ w_T cyI cyZ h1_0 h1_1 h1_2 σ1)) (isC := [0, 1, 2, 3, 4]) (isR := []) (perm := [0, 1, 2, 3, 4]) (rest := []) (As := [.ref h0_0, .ref h1_0, .int (x2 + (1 : Int32)), .int (x3 ||| ((1 : Int32) <<< (x5 &&& 31))), .int (x4 + ((z3 <<< ((18 : Int32) &&& 31)) + (x5 <<< (z4 &&& 31))))]) G zs_X2_27 dX2_addKeys_97 (fun sz9 => ihd h0_0 h0_1 h1_0 h1_1 h1_2 τ0 σ1 (x2 + (1 : Int32)) (x3 ||| ((1 : Int32) <<< (x5 &&& 31))) (x4 + ((z3 <<< ((18 : Int32) &&& 31)) + (x5 <<< (z4 &&& 31)))) z5 hc5 sz9) rfl ⟨rfl, rfl, rfl, rfl⟩ rfl (Nat.le_of_ble_eq_true rfl) ⟨(by show (3 + d) + 1 ≤ 3 + (d + 1); omega), (by show 8 + (7 + 11) + (65 + d * 26) ≤ 65 + (d + 1) * 26; omega), Nat.zero_le _, Nat.zero_le _⟩ rfl ?_
            refine zq_iinc (q := 103) (v := (x5 + 1)) (lv2 := [(5, .int (x5 + 1)), (6, .int ((z3 <<< ((18 : Int32) &&& 31)) + (x5 <<< (z4 &&& 31)))), (0, .ref h0_0), (1, .ref h1_0), (2, .int x2), (3, .int x3), (4, .int x4)]) G dX2_addKeys_100 6 rfl rfl (by decide) rfl rfl ?_
            refine zq_goto (q := 43) G dX2_addKeys_103 (by decide) ?_
            exact zq_sub _ [2, 3, 4, 5, 6, 0] rfl (ih _ _ _ _ _ h)
    refine zq_iload_n (q := 1) G dX2_addKeys_0 2 rfl rfl rfl ?_
    refine zq_aload_n (q := 2) G dX2_addKeys_1 1 rfl rfl rfl ?_
    refine zq_getN (q := 5) G zu_X1 rfl zw_X2_f31 dX2_addKeys_2 2 0 rfl (by decide) ⟨⟨rfl, rfl⟩, rfl⟩ rfl rfl ?_
    refine zq_icmp_lt (tgt := 40) (q := 8) G dX2_addKeys_5 (by decide) rfl (fun c1 => ?_) (fun c1 => ?_)
    · have h := zit h c1
      refine zq_iconst (q := 41) (v := 0) G dX2_addKeys_40 (by decide) rfl ?_
      refine zq_istore (q := 43) (lv2 := [(5, .int (0 : Int32)), (0, .ref h0_0), (1, .ref h1_0), (2, .int p2), (3, .int p3), (4, .int p4)]) G dX2_addKeys_41 (by decide) rfl rfl ?_
      exact zq_sub _ [1, 2, 3, 4, 5, 0] rfl (b43  _ _ _ _ _ _ h)
    · have h := zie h c1
      refine zq_aload_n (q := 9) G dX2_addKeys_8 0 rfl rfl rfl ?_
      refine zq_get (q := 12) G zu_X2 rfl zw_X2_f20 dX2_addKeys_9 0 3 rfl (by decide) ⟨⟨rfl, rfl⟩, rfl⟩ rfl rfl ?_
      refine zq_sipush (q := 15) (v := 720) G dX2_addKeys_12 (by decide) rfl ?_
      refine zq_icmp_ge (tgt := 39) (q := 18) G dX2_addKeys_15 (by decide) rfl (fun c2 => ?_) (fun c2 => ?_)
      · have h := zit h c2
        refine zq_ws (congrArg (fun w9 => (w_K cyI h0_0 h0_1 w9 ++ w_T cyI cyZ h1_0 h1_1 h1_2 σ1)) (zsome h)) ?_
        exact zq_vret G hlocks hr dX2_addKeys_39
      · have h := zie h c2
        refine zq_aload_n (q := 19) G dX2_addKeys_18 0 rfl rfl rfl ?_
        refine zq_get (q := 22) G zu_X2 rfl zw_X2_f23 dX2_addKeys_19 0 4 rfl (by decide) ⟨⟨rfl, rfl⟩, rfl⟩ rfl rfl ?_
        refine zq_aload_n (q := 23) G dX2_addKeys_22 0 rfl rfl rfl ?_
        refine zq_get (q := 26) G zu_X2 rfl zw_X2_f20 dX2_addKeys_23 0 3 rfl (by decide) ⟨⟨rfl, rfl⟩, rfl⟩ rfl rfl ?_
        refine zq_iload (q := 28) G dX2_addKeys_26 4 rfl rfl ?_
        obtain ⟨q3, h⟩ := zif h
        refine zq_iast (q := 29) (ws2 := (w_K cyI h0_0 h0_1 (σ0.1, σ0.2.1, σ0.2.2.1, σ0.2.2.2.1, (upd σ0.2.2.2.2 σ0.2.2.2.1.toNatClampNeg p4)) ++ w_T cyI cyZ h1_0 h1_1 h1_2 σ1)) G dX2_addKeys_28 1 rfl q3 rfl rfl ?_
        refine zq_aload_n (q := 30) G dX2_addKeys_29 0 rfl rfl rfl ?_
        refine zq_dup (q := 31) G dX2_addKeys_30 rfl rfl ?_
        refine zq_get (q := 34) G zu_X2 rfl zw_X2_f20 dX2_addKeys_31 0 3 rfl (by decide) ⟨⟨rfl, rfl⟩, rfl⟩ rfl rfl ?_
        refine zq_iconst (q := 35) (v := 1) G dX2_addKeys_34 (by decide) rfl ?_
        refine zq_iadd (q := 36) G dX2_addKeys_35 rfl ?_
        refine zq_put (q := 39) (ws2 := (w_K cyI h0_0 h0_1 (σ0.1, σ0.2.1, σ0.2.2.1, (σ0.2.2.2.1 + (1 : Int32)), (upd σ0.2.2.2.2 σ0.2.2.2.1.toNatClampNeg p4)) ++ w_T cyI cyZ h1_0 h1_1 h1_2 σ1)) G zu_X2 rfl tyX2_ok nmX2 zw_X2_f20 dX2_addKeys_36 0 3 rfl (by decide) ⟨⟨rfl, rfl⟩, rfl⟩ rfl rfl rfl (Nat.le_of_ble_eq_true rfl) rfl rfl ?_
        refine zq_ws (congrArg (fun w9 => (w_K cyI h0_0 h0_1 w9 ++ w_T cyI cyZ h1_0 h1_1 h1_2 σ1)) (zsome h)) ?_
        exact zq_vret G hlocks hr dX2_addKeys_39
set_option maxHeartbeats 4000000 in
set_option maxRecDepth 100000 in
theorem c_X2_begin (l : Launch) (D : va_G) (cyI cyZ : ClassId) (h0_0 h0_1 h1_0 h1_1 h1_2 : Nat) (σ0 : zK) (σ1 : zT) (o0 : zK) (h : s_X2_begin σ0 σ1 = some o0) (sz : Nat) : zMv l yX2_begin cX2_begin 2 16 403 D cyI cyZ sz [.ref h0_0, .ref h1_0] (w_K cyI h0_0 h0_1 σ0 ++ w_T cyI cyZ h1_0 h1_1 h1_2 σ1) (w_K cyI h0_0 h0_1 o0 ++ w_T cyI cyZ h1_0 h1_1 h1_2 σ1) := by
  unfold s_X2_begin at h
  refine zstartV (lv0 := [(0, .ref h0_0), (1, .ref h1_0)]) (by decide) (Nat.le_of_ble_eq_true rfl) rfl (fun p e s m args below meth c G hr hlocks => ?_)
  refine zq_aload_n (q := 1) G dX2_begin_0 0 rfl rfl rfl ?_
  refine zq_iconst (q := 2) (v := 1) G dX2_begin_1 (by decide) rfl ?_
  refine zq_put (q := 5) (ws2 := (w_K cyI h0_0 h0_1 ((1 : Int32), σ0.2.1, σ0.2.2.1, σ0.2.2.2.1, σ0.2.2.2.2) ++ w_T cyI cyZ h1_0 h1_1 h1_2 σ1)) G zu_X2 rfl tyX2_ok nmX2 zw_X2_f9 dX2_begin_2 0 0 rfl (by decide) ⟨⟨rfl, rfl⟩, rfl⟩ rfl rfl rfl (Nat.le_of_ble_eq_true rfl) rfl rfl ?_
  refine zq_aload_n (q := 6) G dX2_begin_5 0 rfl rfl rfl ?_
  refine zq_iconst (q := 7) (v := 0) G dX2_begin_6 (by decide) rfl ?_
  refine zq_put (q := 10) (ws2 := (w_K cyI h0_0 h0_1 ((1 : Int32), (0 : Int32), σ0.2.2.1, σ0.2.2.2.1, σ0.2.2.2.2) ++ w_T cyI cyZ h1_0 h1_1 h1_2 σ1)) G zu_X2 rfl tyX2_ok nmX2 zw_X2_f13 dX2_begin_7 0 1 rfl (by decide) ⟨⟨rfl, rfl⟩, rfl⟩ rfl rfl rfl (Nat.le_of_ble_eq_true rfl) rfl rfl ?_
  refine zq_aload_n (q := 11) G dX2_begin_10 0 rfl rfl rfl ?_
  refine zq_iconst (q := 12) (v := -1) G dX2_begin_11 (by decide) rfl ?_
  refine zq_put (q := 15) (ws2 := (w_K cyI h0_0 h0_1 ((1 : Int32), (0 : Int32), (-1 : Int32), σ0.2.2.2.1, σ0.2.2.2.2) ++ w_T cyI cyZ h1_0 h1_1 h1_2 σ1)) G zu_X2 rfl tyX2_ok nmX2 zw_X2_f17 dX2_begin_12 0 2 rfl (by decide) ⟨⟨rfl, rfl⟩, rfl⟩ rfl rfl rfl (Nat.le_of_ble_eq_true rfl) rfl rfl ?_
  refine zq_aload_n (q := 16) G dX2_begin_15 0 rfl rfl rfl ?_
  refine zq_iconst (q := 17) (v := 0) G dX2_begin_16 (by decide) rfl ?_
  refine zq_put (q := 20) (ws2 := (w_K cyI h0_0 h0_1 ((1 : Int32), (0 : Int32), (-1 : Int32), (0 : Int32), σ0.2.2.2.2) ++ w_T cyI cyZ h1_0 h1_1 h1_2 σ1)) G zu_X2 rfl tyX2_ok nmX2 zw_X2_f20 dX2_begin_17 0 3 rfl (by decide) ⟨⟨rfl, rfl⟩, rfl⟩ rfl rfl rfl (Nat.le_of_ble_eq_true rfl) rfl rfl ?_
  refine zq_aload_n (q := 21) G dX2_begin_20 0 rfl rfl rfl ?_
  refine zq_aload_n (q := 22) G dX2_begin_21 1 rfl rfl rfl ?_
  refine zq_iconst (q := 23) (v := 0) G dX2_begin_22 (by decide) rfl ?_
  refine zq_iconst (q := 24) (v := 0) G dX2_begin_23 (by decide) rfl ?_
  refine zq_iconst (q := 25) (v := 0) G dX2_begin_24 (by decide) rfl ?_
  obtain ⟨z1, hc1, h⟩ := zbd h
  refine zq_callSv (q := 28) (ws2 := (w_K cyI h0_0 h0_1 z1 ++ w_T cyI cyZ h1_0 h1_1 h1_2 σ1)) (isC := [0, 1, 2, 3, 4]) (isR := []) (perm := [0, 1, 2, 3, 4]) (rest := []) (As := [.ref h0_0, .ref h1_0, .int (0 : Int32), .int (0 : Int32), .int (0 : Int32)]) G zs_X2_27 dX2_begin_25 (fun sz9 => c_X2_addKeys l 12 D cyI cyZ h0_0 h0_1 h1_0 h1_1 h1_2 ((1 : Int32), (0 : Int32), (-1 : Int32), (0 : Int32), σ0.2.2.2.2) σ1 (0 : Int32) (0 : Int32) (0 : Int32) z1 hc1 sz9) rfl ⟨rfl, rfl, rfl, rfl⟩ rfl (Nat.le_of_ble_eq_true rfl) ⟨Nat.le_of_ble_eq_true rfl, Nat.le_of_ble_eq_true rfl, Nat.zero_le _, Nat.zero_le _⟩ rfl ?_
  refine zq_ws (congrArg (fun w9 => (w_K cyI h0_0 h0_1 w9 ++ w_T cyI cyZ h1_0 h1_1 h1_2 σ1)) (zsome h)) ?_
  exact zq_vret G hlocks hr dX2_begin_28
set_option maxHeartbeats 4000000 in
set_option maxRecDepth 100000 in
theorem c_X2_advance (l : Launch) (D : va_G) (cyI cyZ : ClassId) (h0_0 h0_1 : Nat) (σ0 : zK) (o0 : zK) (h : s_X2_advance σ0 = some o0) (sz : Nat) : zMv l yX2_advance cX2_advance 4 0 0 D cyI cyZ sz [.ref h0_0] (w_K cyI h0_0 h0_1 σ0) (w_K cyI h0_0 h0_1 o0) := by
  unfold s_X2_advance at h
  refine zstartV (lv0 := [(0, .ref h0_0)]) (by decide) (Nat.le_of_ble_eq_true rfl) rfl (fun p e s m args below meth c G hr hlocks => ?_)
  have b5 : ∀ (n : Nat) (τ0 : zK) (x1 : Int32) (x2 : Int32), s_X2_advance_5 n τ0 x1 x2 = some o0 → zW p l e ({ frames := 0, cells := 0, slots := 0, locals := 0 } : Room) s m args below meth c D (va_A (w_K cyI h0_0 h0_1 σ0) sz) 4 0 0 (MQ below (zQv D cyI cyZ sz (w_K cyI h0_0 h0_1 σ0) (w_K cyI h0_0 h0_1 o0)) args s 0 0 (va_A (w_K cyI h0_0 h0_1 σ0) sz)) 5 [(0, .ref h0_0), (1, .int x1), (2, .int x2)] [] (w_K cyI h0_0 h0_1 τ0) := by
    intro n
    induction n with
    | zero => intro τ0 x1 x2 h; rw [s_X2_advance_5] at h; exact nomatch h
    | succ n ih =>
      intro τ0 x1 x2 h
      rw [s_X2_advance_5] at h
      refine zq_iload_n (q := 6) G dX2_advance_5 2 rfl rfl rfl ?_
      refine zq_aload_n (q := 7) G dX2_advance_6 0 rfl rfl rfl ?_
      refine zq_get (q := 10) G zu_X2 rfl zw_X2_f20 dX2_advance_7 0 3 rfl (by decide) ⟨⟨rfl, rfl⟩, rfl⟩ rfl rfl ?_
      refine zq_icmp_ge (tgt := 41) (q := 13) G dX2_advance_10 (by decide) rfl (fun c1 => ?_) (fun c1 => ?_)
      · have h := zit h c1
        refine zq_aload_n (q := 42) G dX2_advance_41 0 rfl rfl rfl ?_
        refine zq_iload_n (q := 43) G dX2_advance_42 1 rfl rfl rfl ?_
        refine zq_put (q := 46) (ws2 := (w_K cyI h0_0 h0_1 (τ0.1, τ0.2.1, x1, τ0.2.2.2.1, τ0.2.2.2.2))) G zu_X2 rfl tyX2_ok nmX2 zw_X2_f17 dX2_advance_43 0 2 rfl (by decide) ⟨⟨rfl, rfl⟩, rfl⟩ rfl rfl rfl (Nat.le_of_ble_eq_true rfl) rfl rfl ?_
        refine zq_aload_n (q := 47) G dX2_advance_46 0 rfl rfl rfl ?_
        refine zq_dup (q := 48) G dX2_advance_47 rfl rfl ?_
        refine zq_get (q := 51) G zu_X2 rfl zw_X2_f13 dX2_advance_48 0 1 rfl (by decide) ⟨⟨rfl, rfl⟩, rfl⟩ rfl rfl ?_
        refine zq_iconst (q := 52) (v := 1) G dX2_advance_51 (by decide) rfl ?_
        refine zq_iadd (q := 53) G dX2_advance_52 rfl ?_
        refine zq_put (q := 56) (ws2 := (w_K cyI h0_0 h0_1 (τ0.1, (τ0.2.1 + (1 : Int32)), x1, τ0.2.2.2.1, τ0.2.2.2.2))) G zu_X2 rfl tyX2_ok nmX2 zw_X2_f13 dX2_advance_53 0 1 rfl (by decide) ⟨⟨rfl, rfl⟩, rfl⟩ rfl rfl rfl (Nat.le_of_ble_eq_true rfl) rfl rfl ?_
        refine zq_ws (congrArg (fun w9 => (w_K cyI h0_0 h0_1 w9)) (zsome h)) ?_
        exact zq_vret G hlocks hr dX2_advance_56
      · have h := zie h c1
        refine zq_aload_n (q := 14) G dX2_advance_13 0 rfl rfl rfl ?_
        refine zq_get (q := 17) G zu_X2 rfl zw_X2_f23 dX2_advance_14 0 4 rfl (by decide) ⟨⟨rfl, rfl⟩, rfl⟩ rfl rfl ?_
        refine zq_iload_n (q := 18) G dX2_advance_17 2 rfl rfl rfl ?_
        obtain ⟨q2, h⟩ := zif h
        refine zq_iald (q := 19) G dX2_advance_18 1 rfl q2 rfl ?_
        refine zq_istore_n (q := 20) (lv2 := [(3, .int (τ0.2.2.2.2 x2.toNatClampNeg)), (0, .ref h0_0), (1, .int x1), (2, .int x2)]) G dX2_advance_19 rfl (by decide) rfl rfl ?_
        refine zq_iload_n (q := 21) G dX2_advance_20 0 rfl rfl rfl ?_
        refine zq_aload_n (q := 22) G dX2_advance_21 1 rfl rfl rfl ?_
        refine zq_get (q := 25) G zu_X2 rfl zw_X2_f17 dX2_advance_22 0 2 rfl (by decide) ⟨⟨rfl, rfl⟩, rfl⟩ rfl rfl ?_
        refine zq_icmp_le (tgt := 35) (q := 28) G dX2_advance_25 (by decide) rfl (fun c3 => ?_) (fun c3 => ?_)
        · have h := zit h c3
          refine zq_iinc (q := 38) (v := (x2 + 1)) (lv2 := [(2, .int (x2 + 1)), (3, .int (τ0.2.2.2.2 x2.toNatClampNeg)), (0, .ref h0_0), (1, .int x1)]) G dX2_advance_35 3 rfl rfl (by decide) rfl rfl ?_
          refine zq_goto (q := 5) G dX2_advance_38 (by decide) ?_
          exact zq_sub _ [2, 3, 0] rfl (ih _ _ _ h)
        · have h := zie h c3
          refine zq_iload_n (q := 29) G dX2_advance_28 0 rfl rfl rfl ?_
          refine zq_iload_n (q := 30) G dX2_advance_29 2 rfl rfl rfl ?_
          refine zq_icmp_ge (tgt := 35) (q := 33) G dX2_advance_30 (by decide) rfl (fun c4 => ?_) (fun c4 => ?_)
          · have h := zit h c4
            refine zq_iinc (q := 38) (v := (x2 + 1)) (lv2 := [(2, .int (x2 + 1)), (3, .int (τ0.2.2.2.2 x2.toNatClampNeg)), (0, .ref h0_0), (1, .int x1)]) G dX2_advance_35 3 rfl rfl (by decide) rfl rfl ?_
            refine zq_goto (q := 5) G dX2_advance_38 (by decide) ?_
            exact zq_sub _ [2, 3, 0] rfl (ih _ _ _ h)
          · have h := zie h c4
            refine zq_iload_n (q := 34) G dX2_advance_33 0 rfl rfl rfl ?_
            refine zq_istore_n (q := 35) (lv2 := [(1, .int (τ0.2.2.2.2 x2.toNatClampNeg)), (3, .int (τ0.2.2.2.2 x2.toNatClampNeg)), (0, .ref h0_0), (2, .int x2)]) G dX2_advance_34 rfl (by decide) rfl rfl ?_
            refine zq_iinc (q := 38) (v := (x2 + 1)) (lv2 := [(2, .int (x2 + 1)), (1, .int (τ0.2.2.2.2 x2.toNatClampNeg)), (3, .int (τ0.2.2.2.2 x2.toNatClampNeg)), (0, .ref h0_0)]) G dX2_advance_35 3 rfl rfl (by decide) rfl rfl ?_
            refine zq_goto (q := 5) G dX2_advance_38 (by decide) ?_
            exact zq_sub _ [3, 1, 0] rfl (ih _ _ _ h)
  refine zq_ldc (q := 2) G zw_X2_c46 dX2_advance_0 rfl ?_
  refine zq_istore_n (q := 3) (lv2 := [(1, .int (2147483647 : Int32)), (0, .ref h0_0)]) G dX2_advance_2 rfl (by decide) rfl rfl ?_
  refine zq_iconst (q := 4) (v := 0) G dX2_advance_3 (by decide) rfl ?_
  refine zq_istore_n (q := 5) (lv2 := [(2, .int (0 : Int32)), (1, .int (2147483647 : Int32)), (0, .ref h0_0)]) G dX2_advance_4 rfl (by decide) rfl rfl ?_
  exact zq_sub _ [2, 1, 0] rfl (b5  _ _ _ _ h)
set_option maxHeartbeats 4000000 in
set_option maxRecDepth 100000 in
theorem c_X2_visitedSum (l : Launch) (D : va_G) (cyI cyZ : ClassId) (h0_0 h0_1 : Nat) (σ0 : zK) (r : Int32) (h : s_X2_visitedSum σ0 = some r) (sz : Nat) : zMi l yX2_visitedSum cX2_visitedSum 1 .int 0 0 D cyI cyZ sz [.ref h0_0] (w_K cyI h0_0 h0_1 σ0) r (w_K cyI h0_0 h0_1 σ0) := by
  unfold s_X2_visitedSum at h
  refine zstartI (lv0 := [(0, .ref h0_0)]) (by decide) (Nat.le_of_ble_eq_true rfl) rfl (fun p e s m args below meth c G hr hlocks => ?_)
  refine zq_aload_n (q := 1) G dX2_visitedSum_0 0 rfl rfl rfl ?_
  refine zq_get (q := 4) G zu_X2 rfl zw_X2_f17 dX2_visitedSum_1 0 2 rfl (by decide) ⟨⟨rfl, rfl⟩, rfl⟩ rfl rfl ?_
  refine zq_bipush (q := 6) (v := 18) G dX2_visitedSum_4 (by decide) rfl ?_
  refine zq_ishr (q := 7) G dX2_visitedSum_6 rfl ?_
  exact zq_iret G hlocks hr rfl dX2_visitedSum_7 (zsome h)
set_option maxHeartbeats 4000000 in
set_option maxRecDepth 100000 in
theorem c_X2_visitedColumn (l : Launch) (D : va_G) (cyI cyZ : ClassId) (h0_0 h0_1 : Nat) (σ0 : zK) (p0 : Int32) (r : Int32) (h : s_X2_visitedColumn σ0 p0 = some r) (sz : Nat) : zMi l yX2_visitedColumn cX2_visitedColumn 2 .int 1 20 D cyI cyZ sz [.ref h0_0, .int p0] (w_K cyI h0_0 h0_1 σ0) r (w_K cyI h0_0 h0_1 σ0) := by
  unfold s_X2_visitedColumn at h
  refine zstartI (lv0 := [(0, .ref h0_0), (1, .int p0)]) (by decide) (Nat.le_of_ble_eq_true rfl) rfl (fun p e s m args below meth c G hr hlocks => ?_)
  refine zq_aload_n (q := 1) G dX2_visitedColumn_0 0 rfl rfl rfl ?_
  refine zq_get (q := 4) G zu_X2 rfl zw_X2_f17 dX2_visitedColumn_1 0 2 rfl (by decide) ⟨⟨rfl, rfl⟩, rfl⟩ rfl rfl ?_
  refine zq_iload_n (q := 5) G dX2_visitedColumn_4 1 rfl rfl rfl ?_
  obtain ⟨z1, hc1, h⟩ := zbd h
  refine zq_callSi (q := 8) (ws2 := (w_K cyI h0_0 h0_1 σ0)) (isC := []) (isR := [0, 1]) (perm := [0, 1]) (rest := [.int σ0.2.2.1]) (As := [.int p0]) G zs_X2_40 dX2_visitedColumn_5 (fun sz9 => c_X2_shiftOf l D cyI cyZ p0 z1 hc1 sz9) rfl ⟨rfl, rfl, rfl, rfl⟩ rfl (Nat.le_of_ble_eq_true rfl) ⟨Nat.le_of_ble_eq_true rfl, Nat.le_of_ble_eq_true rfl, Nat.zero_le _, Nat.zero_le _⟩ rfl ?_
  refine zq_ishr (q := 9) G dX2_visitedColumn_8 rfl ?_
  refine zq_bipush (q := 11) (v := 7) G dX2_visitedColumn_9 (by decide) rfl ?_
  refine zq_iand (q := 12) G dX2_visitedColumn_11 rfl ?_
  exact zq_iret G hlocks hr rfl dX2_visitedColumn_12 (zsome h)
