set_option maxHeartbeats 4000000 in
set_option maxRecDepth 100000 in
theorem c_X3_resize (l : Launch) (hst : l.stackTraces = false) (D : va_G) (cyI cyZ : ClassId) (h0_0 h0_1 h0_2 h0_3 h0_4 h0_5 h0_6 h0_7 h0_8 h0_9 h0_10 h0_11 h0_12 h0_13 h0_14 h0_15 h0_16 : Nat) (σ0 : zC) (p0 : Int32) (p1 : Int32) (z : Sum String Int32) (o0 : zC) (h : s_X3_resize σ0 p0 p1 = some (z, o0)) (sz : Nat) : zXi l yX3_resize cX3_resize 3 .int 7 110 D cyI cyZ sz [.ref h0_0, .int p0, .int p1] (w_C cyI cyZ h0_0 h0_1 h0_2 h0_3 h0_4 h0_5 h0_6 h0_7 h0_8 h0_9 h0_10 h0_11 h0_12 h0_13 h0_14 h0_15 h0_16 σ0) z (w_C cyI cyZ h0_0 h0_1 h0_2 h0_3 h0_4 h0_5 h0_6 h0_7 h0_8 h0_9 h0_10 h0_11 h0_12 h0_13 h0_14 h0_15 h0_16 o0) := by
  unfold s_X3_resize at h
  refine zstartXI (lv0 := [(0, .ref h0_0), (1, .int p0), (2, .int p1)]) (by decide) (Nat.le_of_ble_eq_true rfl) rfl (fun p e s m args below meth c G hr hlocks ht => ?_)
  refine zq_iload_n (q := 1) G dX3_resize_0 1 rfl rfl rfl ?_
  refine zq_iconst (q := 2) (v := 1) G dX3_resize_1 (by decide) rfl ?_
  refine zq_icmp_lt (tgt := 21) (q := 5) G dX3_resize_2 (by decide) rfl (fun c1 => ?_) (fun c1 => ?_)
  · have h := zit h c1
    refine zq_ws (congrArg (fun w9 => (w_C cyI cyZ h0_0 h0_1 h0_2 h0_3 h0_4 h0_5 h0_6 h0_7 h0_8 h0_9 h0_10 h0_11 h0_12 h0_13 h0_14 h0_15 h0_16 w9.2)) (zsome h)) ?_
    exact zq_throw G hlocks hst ht zt_X3_43 dX3_resize_21 dX3_resize_24 dX3_resize_25 dX3_resize_28 ⟨Nat.le_of_ble_eq_true rfl, Nat.le_of_ble_eq_true rfl⟩ rfl rfl (congrArg Prod.fst (zsome h)).symm
  · have h := zie h c1
    refine zq_iload_n (q := 6) G dX3_resize_5 1 rfl rfl rfl ?_
    refine zq_bipush (q := 8) (v := 7) G dX3_resize_6 (by decide) rfl ?_
    refine zq_icmp_gt (tgt := 21) (q := 11) G dX3_resize_8 (by decide) rfl (fun c2 => ?_) (fun c2 => ?_)
    · have h := zit h c2
      refine zq_ws (congrArg (fun w9 => (w_C cyI cyZ h0_0 h0_1 h0_2 h0_3 h0_4 h0_5 h0_6 h0_7 h0_8 h0_9 h0_10 h0_11 h0_12 h0_13 h0_14 h0_15 h0_16 w9.2)) (zsome h)) ?_
      exact zq_throw G hlocks hst ht zt_X3_43 dX3_resize_21 dX3_resize_24 dX3_resize_25 dX3_resize_28 ⟨Nat.le_of_ble_eq_true rfl, Nat.le_of_ble_eq_true rfl⟩ rfl rfl (congrArg Prod.fst (zsome h)).symm
    · have h := zie h c2
      refine zq_iload_n (q := 12) G dX3_resize_11 2 rfl rfl rfl ?_
      refine zq_iconst (q := 13) (v := 1) G dX3_resize_12 (by decide) rfl ?_
      refine zq_icmp_lt (tgt := 21) (q := 16) G dX3_resize_13 (by decide) rfl (fun c3 => ?_) (fun c3 => ?_)
      · have h := zit h c3
        refine zq_ws (congrArg (fun w9 => (w_C cyI cyZ h0_0 h0_1 h0_2 h0_3 h0_4 h0_5 h0_6 h0_7 h0_8 h0_9 h0_10 h0_11 h0_12 h0_13 h0_14 h0_15 h0_16 w9.2)) (zsome h)) ?_
        exact zq_throw G hlocks hst ht zt_X3_43 dX3_resize_21 dX3_resize_24 dX3_resize_25 dX3_resize_28 ⟨Nat.le_of_ble_eq_true rfl, Nat.le_of_ble_eq_true rfl⟩ rfl rfl (congrArg Prod.fst (zsome h)).symm
      · have h := zie h c3
        refine zq_iload_n (q := 17) G dX3_resize_16 2 rfl rfl rfl ?_
        refine zq_iload_n (q := 18) G dX3_resize_17 1 rfl rfl rfl ?_
        refine zq_icmp_le (tgt := 29) (q := 21) G dX3_resize_18 (by decide) rfl (fun c4 => ?_) (fun c4 => ?_)
        · have h := zit h c4
          refine zq_aload_n (q := 30) G dX3_resize_29 0 rfl rfl rfl ?_
          refine zq_get (q := 33) G zu_X3 rfl zw_X3_f12 dX3_resize_30 0 0 rfl (by decide) ⟨⟨rfl, rfl⟩, rfl⟩ rfl rfl ?_
          refine zq_iload_n (q := 34) G dX3_resize_33 1 rfl rfl rfl ?_
          refine zq_iload_n (q := 35) G dX3_resize_34 2 rfl rfl rfl ?_
          obtain ⟨z5, hc5, h⟩ := zbd h
          refine zq_callVv (q := 38) (ws2 := (w_C cyI cyZ h0_0 h0_1 h0_2 h0_3 h0_4 h0_5 h0_6 h0_7 h0_8 h0_9 h0_10 h0_11 h0_12 h0_13 h0_14 h0_15 h0_16 (z5, σ0.2.1, σ0.2.2.1, σ0.2.2.2.1, σ0.2.2.2.2.1, σ0.2.2.2.2.2.1, σ0.2.2.2.2.2.2))) (isC := [1, 2, 3]) (isR := [0, 4, 5, 6, 7, 8, 9, 10, 11, 12, 13, 14, 15, 16]) (perm := [0, 14, 15, 16, 1, 2, 3, 4, 5, 6, 7, 8, 9, 10, 11, 12, 13]) (rest := []) (As := [.int p0, .int p1]) G zs_X3_46 dX3_resize_35 (fun sz9 => c_X1_clearTo l D cyI cyZ h0_1 h0_2 h0_3 σ0.1 p0 p1 z5 hc5 sz9) 1 rfl rfl rfl ⟨rfl, rfl, rfl, rfl⟩ rfl (Nat.le_of_ble_eq_true rfl) ⟨Nat.le_of_ble_eq_true rfl, Nat.le_of_ble_eq_true rfl, Nat.zero_le _, Nat.zero_le _⟩ rfl ?_
          refine zq_aload_n (q := 39) G dX3_resize_38 0 rfl rfl rfl ?_
          refine zq_get (q := 42) G zu_X3 rfl zw_X3_f39 dX3_resize_39 0 6 rfl (by decide) ⟨⟨rfl, rfl⟩, rfl⟩ rfl rfl ?_
          obtain ⟨z6, hc6, h⟩ := zbd h
          refine zq_callVv (q := 45) (ws2 := (w_C cyI cyZ h0_0 h0_1 h0_2 h0_3 h0_4 h0_5 h0_6 h0_7 h0_8 h0_9 h0_10 h0_11 h0_12 h0_13 h0_14 h0_15 h0_16 (z5, σ0.2.1, σ0.2.2.1, σ0.2.2.2.1, σ0.2.2.2.2.1, σ0.2.2.2.2.2.1, z6))) (isC := [15, 16]) (isR := [0, 1, 2, 3, 4, 5, 6, 7, 8, 9, 10, 11, 12, 13, 14]) (perm := [0, 1, 2, 3, 4, 5, 6, 7, 8, 9, 10, 11, 12, 13, 14, 15, 16]) (rest := []) (As := []) G zs_X3_50 dX3_resize_42 (fun sz9 => c_X2_cancel l D cyI cyZ h0_15 h0_16 σ0.2.2.2.2.2.2 z6 hc6 sz9) 15 rfl rfl rfl ⟨rfl, rfl, rfl, rfl⟩ rfl (Nat.le_of_ble_eq_true rfl) ⟨Nat.le_of_ble_eq_true rfl, Nat.le_of_ble_eq_true rfl, Nat.zero_le _, Nat.zero_le _⟩ rfl ?_
          refine zq_iload_n (q := 46) G dX3_resize_45 1 rfl rfl rfl ?_
          refine zq_iload_n (q := 47) G dX3_resize_46 2 rfl rfl rfl ?_
          refine zq_imul (q := 48) G dX3_resize_47 rfl ?_
          refine zq_ws (congrArg (fun w9 => (w_C cyI cyZ h0_0 h0_1 h0_2 h0_3 h0_4 h0_5 h0_6 h0_7 h0_8 h0_9 h0_10 h0_11 h0_12 h0_13 h0_14 h0_15 h0_16 w9.2)) (zsome h)) ?_
          exact zq_iretX G hlocks hr rfl dX3_resize_48 (congrArg Prod.fst (zsome h)).symm
        · have h := zie h c4
          refine zq_ws (congrArg (fun w9 => (w_C cyI cyZ h0_0 h0_1 h0_2 h0_3 h0_4 h0_5 h0_6 h0_7 h0_8 h0_9 h0_10 h0_11 h0_12 h0_13 h0_14 h0_15 h0_16 w9.2)) (zsome h)) ?_
          exact zq_throw G hlocks hst ht zt_X3_43 dX3_resize_21 dX3_resize_24 dX3_resize_25 dX3_resize_28 ⟨Nat.le_of_ble_eq_true rfl, Nat.le_of_ble_eq_true rfl⟩ rfl rfl (congrArg Prod.fst (zsome h)).symm
set_option maxHeartbeats 4000000 in
set_option maxRecDepth 100000 in
theorem c_X3_requireRow (l : Launch) (hst : l.stackTraces = false) (D : va_G) (cyI cyZ : ClassId) (h0_0 h0_1 h0_2 h0_3 h0_4 h0_5 h0_6 h0_7 h0_8 h0_9 h0_10 h0_11 h0_12 h0_13 h0_14 h0_15 h0_16 : Nat) (σ0 : zC) (p0 : Int32) (z : Sum String Unit) (h : s_X3_requireRow σ0 p0 = some z) (sz : Nat) : zXv l yX3_requireRow cX3_requireRow 2 7 110 D cyI cyZ sz [.ref h0_0, .int p0] (w_C cyI cyZ h0_0 h0_1 h0_2 h0_3 h0_4 h0_5 h0_6 h0_7 h0_8 h0_9 h0_10 h0_11 h0_12 h0_13 h0_14 h0_15 h0_16 σ0) z (w_C cyI cyZ h0_0 h0_1 h0_2 h0_3 h0_4 h0_5 h0_6 h0_7 h0_8 h0_9 h0_10 h0_11 h0_12 h0_13 h0_14 h0_15 h0_16 σ0) := by
  unfold s_X3_requireRow at h
  refine zstartXV (lv0 := [(0, .ref h0_0), (1, .int p0)]) (by decide) (Nat.le_of_ble_eq_true rfl) rfl (fun p e s m args below meth c G hr hlocks ht => ?_)
  refine zq_iload_n (q := 1) G dX3_requireRow_0 1 rfl rfl rfl ?_
  refine zq_if_lt (tgt := 15) (q := 4) G dX3_requireRow_1 (by decide) rfl (fun c1 => ?_) (fun c1 => ?_)
  · have h := zit h c1
    exact zq_throw G hlocks hst ht zt_X3_247 dX3_requireRow_15 dX3_requireRow_18 dX3_requireRow_19 dX3_requireRow_22 ⟨Nat.le_of_ble_eq_true rfl, Nat.le_of_ble_eq_true rfl⟩ rfl rfl (zsome h).symm
  · have h := zie h c1
    refine zq_iload_n (q := 5) G dX3_requireRow_4 1 rfl rfl rfl ?_
    refine zq_aload_n (q := 6) G dX3_requireRow_5 0 rfl rfl rfl ?_
    refine zq_get (q := 9) G zu_X3 rfl zw_X3_f12 dX3_requireRow_6 0 0 rfl (by decide) ⟨⟨rfl, rfl⟩, rfl⟩ rfl rfl ?_
    refine zq_getN (q := 12) G zu_X1 rfl zw_X3_f83 dX3_requireRow_9 1 0 rfl (by decide) ⟨⟨rfl, rfl⟩, rfl⟩ rfl rfl ?_
    refine zq_icmp_lt (tgt := 23) (q := 15) G dX3_requireRow_12 (by decide) rfl (fun c2 => ?_) (fun c2 => ?_)
    · have h := zit h c2
      exact zq_vretX G hlocks hr dX3_requireRow_23 (zsome h).symm
    · have h := zie h c2
      exact zq_throw G hlocks hst ht zt_X3_247 dX3_requireRow_15 dX3_requireRow_18 dX3_requireRow_19 dX3_requireRow_22 ⟨Nat.le_of_ble_eq_true rfl, Nat.le_of_ble_eq_true rfl⟩ rfl rfl (zsome h).symm
set_option maxHeartbeats 4000000 in
set_option maxRecDepth 100000 in
theorem c_X3_requireRealColumn (l : Launch) (hst : l.stackTraces = false) (D : va_G) (cyI cyZ : ClassId) (h0_0 h0_1 h0_2 h0_3 h0_4 h0_5 h0_6 h0_7 h0_8 h0_9 h0_10 h0_11 h0_12 h0_13 h0_14 h0_15 h0_16 : Nat) (σ0 : zC) (p0 : Int32) (z : Sum String Unit) (h : s_X3_requireRealColumn σ0 p0 = some z) (sz : Nat) : zXv l yX3_requireRealColumn cX3_requireRealColumn 2 7 110 D cyI cyZ sz [.ref h0_0, .int p0] (w_C cyI cyZ h0_0 h0_1 h0_2 h0_3 h0_4 h0_5 h0_6 h0_7 h0_8 h0_9 h0_10 h0_11 h0_12 h0_13 h0_14 h0_15 h0_16 σ0) z (w_C cyI cyZ h0_0 h0_1 h0_2 h0_3 h0_4 h0_5 h0_6 h0_7 h0_8 h0_9 h0_10 h0_11 h0_12 h0_13 h0_14 h0_15 h0_16 σ0) := by
  unfold s_X3_requireRealColumn at h
  refine zstartXV (lv0 := [(0, .ref h0_0), (1, .int p0)]) (by decide) (Nat.le_of_ble_eq_true rfl) rfl (fun p e s m args below meth c G hr hlocks ht => ?_)
  refine zq_iload_n (q := 1) G dX3_requireRealColumn_0 1 rfl rfl rfl ?_
  refine zq_if_lt (tgt := 15) (q := 4) G dX3_requireRealColumn_1 (by decide) rfl (fun c1 => ?_) (fun c1 => ?_)
  · have h := zit h c1
    exact zq_throw G hlocks hst ht zt_X3_247 dX3_requireRealColumn_15 dX3_requireRealColumn_18 dX3_requireRealColumn_19 dX3_requireRealColumn_22 ⟨Nat.le_of_ble_eq_true rfl, Nat.le_of_ble_eq_true rfl⟩ rfl rfl (zsome h).symm
  · have h := zie h c1
    refine zq_iload_n (q := 5) G dX3_requireRealColumn_4 1 rfl rfl rfl ?_
    refine zq_aload_n (q := 6) G dX3_requireRealColumn_5 0 rfl rfl rfl ?_
    refine zq_get (q := 9) G zu_X3 rfl zw_X3_f12 dX3_requireRealColumn_6 0 0 rfl (by decide) ⟨⟨rfl, rfl⟩, rfl⟩ rfl rfl ?_
    refine zq_getN (q := 12) G zu_X1 rfl zw_X3_f72 dX3_requireRealColumn_9 1 1 rfl (by decide) ⟨⟨rfl, rfl⟩, rfl⟩ rfl rfl ?_
    refine zq_icmp_lt (tgt := 23) (q := 15) G dX3_requireRealColumn_12 (by decide) rfl (fun c2 => ?_) (fun c2 => ?_)
    · have h := zit h c2
      exact zq_vretX G hlocks hr dX3_requireRealColumn_23 (zsome h).symm
    · have h := zie h c2
      exact zq_throw G hlocks hst ht zt_X3_247 dX3_requireRealColumn_15 dX3_requireRealColumn_18 dX3_requireRealColumn_19 dX3_requireRealColumn_22 ⟨Nat.le_of_ble_eq_true rfl, Nat.le_of_ble_eq_true rfl⟩ rfl rfl (zsome h).symm
set_option maxHeartbeats 4000000 in
set_option maxRecDepth 100000 in
theorem c_X3_requireRealCell (l : Launch) (hst : l.stackTraces = false) (D : va_G) (cyI cyZ : ClassId) (h0_0 h0_1 h0_2 h0_3 h0_4 h0_5 h0_6 h0_7 h0_8 h0_9 h0_10 h0_11 h0_12 h0_13 h0_14 h0_15 h0_16 : Nat) (σ0 : zC) (p0 : Int32) (p1 : Int32) (z : Sum String Unit) (h : s_X3_requireRealCell σ0 p0 p1 = some z) (sz : Nat) : zXv l yX3_requireRealCell cX3_requireRealCell 3 8 131 D cyI cyZ sz [.ref h0_0, .int p0, .int p1] (w_C cyI cyZ h0_0 h0_1 h0_2 h0_3 h0_4 h0_5 h0_6 h0_7 h0_8 h0_9 h0_10 h0_11 h0_12 h0_13 h0_14 h0_15 h0_16 σ0) z (w_C cyI cyZ h0_0 h0_1 h0_2 h0_3 h0_4 h0_5 h0_6 h0_7 h0_8 h0_9 h0_10 h0_11 h0_12 h0_13 h0_14 h0_15 h0_16 σ0) := by
  unfold s_X3_requireRealCell at h
  refine zstartXV (lv0 := [(0, .ref h0_0), (1, .int p0), (2, .int p1)]) (by decide) (Nat.le_of_ble_eq_true rfl) rfl (fun p e s m args below meth c G hr hlocks ht => ?_)
  refine zq_aload_n (q := 1) G dX3_requireRealCell_0 0 rfl rfl rfl ?_
  refine zq_iload_n (q := 2) G dX3_requireRealCell_1 1 rfl rfl rfl ?_
  obtain ⟨z1, hc1, h⟩ := zbd h
  rcases zsum z1 with ⟨E1, e1⟩ | ⟨r1, e1⟩
  · have h := zselL2 h e1
    exact zq_outVv (ws2 := (w_C cyI cyZ h0_0 h0_1 h0_2 h0_3 h0_4 h0_5 h0_6 h0_7 h0_8 h0_9 h0_10 h0_11 h0_12 h0_13 h0_14 h0_15 h0_16 σ0)) (isC := [0, 1, 2, 3, 4, 5, 6, 7, 8, 9, 10, 11, 12, 13, 14, 15, 16]) (isR := []) (perm := [0, 1, 2, 3, 4, 5, 6, 7, 8, 9, 10, 11, 12, 13, 14, 15, 16]) (rest := []) (As := [.int p0]) G hlocks ht zs_X3_64 dX3_requireRealCell_2 (fun sz9 => c_X3_requireRow l hst D cyI cyZ h0_0 h0_1 h0_2 h0_3 h0_4 h0_5 h0_6 h0_7 h0_8 h0_9 h0_10 h0_11 h0_12 h0_13 h0_14 h0_15 h0_16 σ0 p0 (.inl E1) (hc1.trans (congrArg some e1)) sz9) 0 rfl rfl rfl ⟨rfl, rfl, rfl, rfl⟩ rfl (Nat.le_of_ble_eq_true rfl) ⟨Nat.le_of_ble_eq_true rfl, Nat.le_of_ble_eq_true rfl⟩ rfl rfl (zsome h).symm rfl
  · have h := zselR2 h e1
    refine zq_callVv (q := 5) (ws2 := (w_C cyI cyZ h0_0 h0_1 h0_2 h0_3 h0_4 h0_5 h0_6 h0_7 h0_8 h0_9 h0_10 h0_11 h0_12 h0_13 h0_14 h0_15 h0_16 σ0)) (isC := [0, 1, 2, 3, 4, 5, 6, 7, 8, 9, 10, 11, 12, 13, 14, 15, 16]) (isR := []) (perm := [0, 1, 2, 3, 4, 5, 6, 7, 8, 9, 10, 11, 12, 13, 14, 15, 16]) (rest := []) (As := [.int p0]) G zs_X3_64 dX3_requireRealCell_2 (fun sz9 => zXv_ret (c_X3_requireRow l hst D cyI cyZ h0_0 h0_1 h0_2 h0_3 h0_4 h0_5 h0_6 h0_7 h0_8 h0_9 h0_10 h0_11 h0_12 h0_13 h0_14 h0_15 h0_16 σ0 p0 (.inr r1) (hc1.trans (congrArg some e1)) sz9)) 0 rfl rfl rfl ⟨rfl, rfl, rfl, rfl⟩ rfl (Nat.le_of_ble_eq_true rfl) ⟨Nat.le_of_ble_eq_true rfl, Nat.le_of_ble_eq_true rfl, Nat.zero_le _, Nat.zero_le _⟩ rfl ?_
    refine zq_aload_n (q := 6) G dX3_requireRealCell_5 0 rfl rfl rfl ?_
    refine zq_iload_n (q := 7) G dX3_requireRealCell_6 2 rfl rfl rfl ?_
    obtain ⟨z2, hc2, h⟩ := zbd h
    rcases zsum z2 with ⟨E2, e2⟩ | ⟨r2, e2⟩
    · have h := zselL2 h e2
      exact zq_outVv (ws2 := (w_C cyI cyZ h0_0 h0_1 h0_2 h0_3 h0_4 h0_5 h0_6 h0_7 h0_8 h0_9 h0_10 h0_11 h0_12 h0_13 h0_14 h0_15 h0_16 σ0)) (isC := [0, 1, 2, 3, 4, 5, 6, 7, 8, 9, 10, 11, 12, 13, 14, 15, 16]) (isR := []) (perm := [0, 1, 2, 3, 4, 5, 6, 7, 8, 9, 10, 11, 12, 13, 14, 15, 16]) (rest := []) (As := [.int p1]) G hlocks ht zs_X3_113 dX3_requireRealCell_7 (fun sz9 => c_X3_requireRealColumn l hst D cyI cyZ h0_0 h0_1 h0_2 h0_3 h0_4 h0_5 h0_6 h0_7 h0_8 h0_9 h0_10 h0_11 h0_12 h0_13 h0_14 h0_15 h0_16 σ0 p1 (.inl E2) (hc2.trans (congrArg some e2)) sz9) 0 rfl rfl rfl ⟨rfl, rfl, rfl, rfl⟩ rfl (Nat.le_of_ble_eq_true rfl) ⟨Nat.le_of_ble_eq_true rfl, Nat.le_of_ble_eq_true rfl⟩ rfl rfl (zsome h).symm rfl
    · have h := zselR2 h e2
      refine zq_callVv (q := 10) (ws2 := (w_C cyI cyZ h0_0 h0_1 h0_2 h0_3 h0_4 h0_5 h0_6 h0_7 h0_8 h0_9 h0_10 h0_11 h0_12 h0_13 h0_14 h0_15 h0_16 σ0)) (isC := [0, 1, 2, 3, 4, 5, 6, 7, 8, 9, 10, 11, 12, 13, 14, 15, 16]) (isR := []) (perm := [0, 1, 2, 3, 4, 5, 6, 7, 8, 9, 10, 11, 12, 13, 14, 15, 16]) (rest := []) (As := [.int p1]) G zs_X3_113 dX3_requireRealCell_7 (fun sz9 => zXv_ret (c_X3_requireRealColumn l hst D cyI cyZ h0_0 h0_1 h0_2 h0_3 h0_4 h0_5 h0_6 h0_7 h0_8 h0_9 h0_10 h0_11 h0_12 h0_13 h0_14 h0_15 h0_16 σ0 p1 (.inr r2) (hc2.trans (congrArg some e2)) sz9)) 0 rfl rfl rfl ⟨rfl, rfl, rfl, rfl⟩ rfl (Nat.le_of_ble_eq_true rfl) ⟨Nat.le_of_ble_eq_true rfl, Nat.le_of_ble_eq_true rfl, Nat.zero_le _, Nat.zero_le _⟩ rfl ?_
      exact zq_vretX G hlocks hr dX3_requireRealCell_10 (zsome h).symm
set_option maxHeartbeats 4000000 in
set_option maxRecDepth 100000 in
theorem c_X3_setCost (l : Launch) (hst : l.stackTraces = false) (D : va_G) (cyI cyZ : ClassId) (h0_0 h0_1 h0_2 h0_3 h0_4 h0_5 h0_6 h0_7 h0_8 h0_9 h0_10 h0_11 h0_12 h0_13 h0_14 h0_15 h0_16 : Nat) (σ0 : zC) (p0 : Int32) (p1 : Int32) (p2 : Int32) (z : Sum String Int32) (o0 : zC) (h : s_X3_setCost σ0 p0 p1 p2 = some (z, o0)) (sz : Nat) : zXi l yX3_setCost cX3_setCost 5 .int 9 153 D cyI cyZ sz [.ref h0_0, .int p0, .int p1, .int p2] (w_C cyI cyZ h0_0 h0_1 h0_2 h0_3 h0_4 h0_5 h0_6 h0_7 h0_8 h0_9 h0_10 h0_11 h0_12 h0_13 h0_14 h0_15 h0_16 σ0) z (w_C cyI cyZ h0_0 h0_1 h0_2 h0_3 h0_4 h0_5 h0_6 h0_7 h0_8 h0_9 h0_10 h0_11 h0_12 h0_13 h0_14 h0_15 h0_16 o0) := by
  unfold s_X3_setCost at h
  refine zstartXI (lv0 := [(0, .ref h0_0), (1, .int p0), (2, .int p1), (3, .int p2)]) (by decide) (Nat.le_of_ble_eq_true rfl) rfl (fun p e s m args below meth c G hr hlocks ht => ?_)
  refine zq_aload_n (q := 1) G dX3_setCost_0 0 rfl rfl rfl ?_
  refine zq_iload_n (q := 2) G dX3_setCost_1 1 rfl rfl rfl ?_
  refine zq_iload_n (q := 3) G dX3_setCost_2 2 rfl rfl rfl ?_
  obtain ⟨z1, hc1, h⟩ := zbd h
  rcases zsum z1 with ⟨E1, e1⟩ | ⟨r1, e1⟩
  · have h := zselL2 h e1
    exact zq_outVv (ws2 := (w_C cyI cyZ h0_0 h0_1 h0_2 h0_3 h0_4 h0_5 h0_6 h0_7 h0_8 h0_9 h0_10 h0_11 h0_12 h0_13 h0_14 h0_15 h0_16 σ0)) (isC := [0, 1, 2, 3, 4, 5, 6, 7, 8, 9, 10, 11, 12, 13, 14, 15, 16]) (isR := []) (perm := [0, 1, 2, 3, 4, 5, 6, 7, 8, 9, 10, 11, 12, 13, 14, 15, 16]) (rest := []) (As := [.int p0, .int p1]) G hlocks ht zs_X3_53 dX3_setCost_3 (fun sz9 => c_X3_requireRealCell l hst D cyI cyZ h0_0 h0_1 h0_2 h0_3 h0_4 h0_5 h0_6 h0_7 h0_8 h0_9 h0_10 h0_11 h0_12 h0_13 h0_14 h0_15 h0_16 σ0 p0 p1 (.inl E1) (hc1.trans (congrArg some e1)) sz9) 0 rfl rfl rfl ⟨rfl, rfl, rfl, rfl⟩ rfl (Nat.le_of_ble_eq_true rfl) ⟨Nat.le_of_ble_eq_true rfl, Nat.le_of_ble_eq_true rfl⟩ rfl rfl (congrArg Prod.fst (zsome h)).symm (congrArg (fun w9 => (w_C cyI cyZ h0_0 h0_1 h0_2 h0_3 h0_4 h0_5 h0_6 h0_7 h0_8 h0_9 h0_10 h0_11 h0_12 h0_13 h0_14 h0_15 h0_16 w9.2)) (zsome h))
  · have h := zselR2 h e1
    refine zq_callVv (q := 6) (ws2 := (w_C cyI cyZ h0_0 h0_1 h0_2 h0_3 h0_4 h0_5 h0_6 h0_7 h0_8 h0_9 h0_10 h0_11 h0_12 h0_13 h0_14 h0_15 h0_16 σ0)) (isC := [0, 1, 2, 3, 4, 5, 6, 7, 8, 9, 10, 11, 12, 13, 14, 15, 16]) (isR := []) (perm := [0, 1, 2, 3, 4, 5, 6, 7, 8, 9, 10, 11, 12, 13, 14, 15, 16]) (rest := []) (As := [.int p0, .int p1]) G zs_X3_53 dX3_setCost_3 (fun sz9 => zXv_ret (c_X3_requireRealCell l hst D cyI cyZ h0_0 h0_1 h0_2 h0_3 h0_4 h0_5 h0_6 h0_7 h0_8 h0_9 h0_10 h0_11 h0_12 h0_13 h0_14 h0_15 h0_16 σ0 p0 p1 (.inr r1) (hc1.trans (congrArg some e1)) sz9)) 0 rfl rfl rfl ⟨rfl, rfl, rfl, rfl⟩ rfl (Nat.le_of_ble_eq_true rfl) ⟨Nat.le_of_ble_eq_true rfl, Nat.le_of_ble_eq_true rfl, Nat.zero_le _, Nat.zero_le _⟩ rfl ?_
    refine zq_iload_n (q := 7) G dX3_setCost_6 3 rfl rfl rfl ?_
    refine zq_if_lt (tgt := 16) (q := 10) G dX3_setCost_7 (by decide) rfl (fun c2 => ?_) (fun c2 => ?_)
    · have h := zit h c2
      refine zq_ws (congrArg (fun w9 => (w_C cyI cyZ h0_0 h0_1 h0_2 h0_3 h0_4 h0_5 h0_6 h0_7 h0_8 h0_9 h0_10 h0_11 h0_12 h0_13 h0_14 h0_15 h0_16 w9.2)) (zsome h)) ?_
      exact zq_throw G hlocks hst ht zt_X3_43 dX3_setCost_16 dX3_setCost_19 dX3_setCost_20 dX3_setCost_23 ⟨Nat.le_of_ble_eq_true rfl, Nat.le_of_ble_eq_true rfl⟩ rfl rfl (congrArg Prod.fst (zsome h)).symm
    · have h := zie h c2
      refine zq_iload_n (q := 11) G dX3_setCost_10 3 rfl rfl rfl ?_
      refine zq_bipush (q := 13) (v := 99) G dX3_setCost_11 (by decide) rfl ?_
      refine zq_icmp_le (tgt := 24) (q := 16) G dX3_setCost_13 (by decide) rfl (fun c3 => ?_) (fun c3 => ?_)
      · have h := zit h c3
        refine zq_aload_n (q := 25) G dX3_setCost_24 0 rfl rfl rfl ?_
        refine zq_get (q := 28) G zu_X3 rfl zw_X3_f12 dX3_setCost_25 0 0 rfl (by decide) ⟨⟨rfl, rfl⟩, rfl⟩ rfl rfl ?_
        refine zq_iload_n (q := 29) G dX3_setCost_28 1 rfl rfl rfl ?_
        refine zq_iload_n (q := 30) G dX3_setCost_29 2 rfl rfl rfl ?_
        obtain ⟨z4, hc4, h⟩ := zbd h
        refine zq_callVi (q := 33) (ws2 := (w_C cyI cyZ h0_0 h0_1 h0_2 h0_3 h0_4 h0_5 h0_6 h0_7 h0_8 h0_9 h0_10 h0_11 h0_12 h0_13 h0_14 h0_15 h0_16 σ0)) (isC := [1, 2, 3]) (isR := [0, 4, 5, 6, 7, 8, 9, 10, 11, 12, 13, 14, 15, 16]) (perm := [0, 14, 15, 16, 1, 2, 3, 4, 5, 6, 7, 8, 9, 10, 11, 12, 13]) (rest := []) (As := [.int p0, .int p1]) G zs_X3_56 dX3_setCost_30 (fun sz9 => c_X1_numberAt l D cyI cyZ h0_1 h0_2 h0_3 σ0.1 p0 p1 z4 hc4 sz9) 1 rfl rfl rfl ⟨rfl, rfl, rfl, rfl⟩ rfl (Nat.le_of_ble_eq_true rfl) ⟨Nat.le_of_ble_eq_true rfl, Nat.le_of_ble_eq_true rfl, Nat.zero_le _, Nat.zero_le _⟩ rfl ?_
        refine zq_istore (q := 35) (lv2 := [(4, .int z4), (0, .ref h0_0), (1, .int p0), (2, .int p1), (3, .int p2)]) G dX3_setCost_33 (by decide) rfl rfl ?_
        refine zq_aload_n (q := 36) G dX3_setCost_35 1 rfl rfl rfl ?_
        refine zq_get (q := 39) G zu_X3 rfl zw_X3_f12 dX3_setCost_36 0 0 rfl (by decide) ⟨⟨rfl, rfl⟩, rfl⟩ rfl rfl ?_
        refine zq_iload_n (q := 40) G dX3_setCost_39 2 rfl rfl rfl ?_
        refine zq_iload_n (q := 41) G dX3_setCost_40 3 rfl rfl rfl ?_
        refine zq_iload_n (q := 42) G dX3_setCost_41 4 rfl rfl rfl ?_
        obtain ⟨z5, hc5, h⟩ := zbd h
        refine zq_callVv (q := 45) (ws2 := (w_C cyI cyZ h0_0 h0_1 h0_2 h0_3 h0_4 h0_5 h0_6 h0_7 h0_8 h0_9 h0_10 h0_11 h0_12 h0_13 h0_14 h0_15 h0_16 (z5, σ0.2.1, σ0.2.2.1, σ0.2.2.2.1, σ0.2.2.2.2.1, σ0.2.2.2.2.2.1, σ0.2.2.2.2.2.2))) (isC := [1, 2, 3]) (isR := [0, 4, 5, 6, 7, 8, 9, 10, 11, 12, 13, 14, 15, 16]) (perm := [0, 14, 15, 16, 1, 2, 3, 4, 5, 6, 7, 8, 9, 10, 11, 12, 13]) (rest := []) (As := [.int p0, .int p1, .int p2]) G zs_X3_60 dX3_setCost_42 (fun sz9 => c_X1_putNumber l D cyI cyZ h0_1 h0_2 h0_3 σ0.1 p0 p1 p2 z5 hc5 sz9) 1 rfl rfl rfl ⟨rfl, rfl, rfl, rfl⟩ rfl (Nat.le_of_ble_eq_true rfl) ⟨Nat.le_of_ble_eq_true rfl, Nat.le_of_ble_eq_true rfl, Nat.zero_le _, Nat.zero_le _⟩ rfl ?_
        refine zq_aload_n (q := 46) G dX3_setCost_45 1 rfl rfl rfl ?_
        refine zq_get (q := 49) G zu_X3 rfl zw_X3_f39 dX3_setCost_46 0 6 rfl (by decide) ⟨⟨rfl, rfl⟩, rfl⟩ rfl rfl ?_
        obtain ⟨z6, hc6, h⟩ := zbd h
        refine zq_callVv (q := 52) (ws2 := (w_C cyI cyZ h0_0 h0_1 h0_2 h0_3 h0_4 h0_5 h0_6 h0_7 h0_8 h0_9 h0_10 h0_11 h0_12 h0_13 h0_14 h0_15 h0_16 (z5, σ0.2.1, σ0.2.2.1, σ0.2.2.2.1, σ0.2.2.2.2.1, σ0.2.2.2.2.2.1, z6))) (isC := [15, 16]) (isR := [0, 1, 2, 3, 4, 5, 6, 7, 8, 9, 10, 11, 12, 13, 14]) (perm := [0, 1, 2, 3, 4, 5, 6, 7, 8, 9, 10, 11, 12, 13, 14, 15, 16]) (rest := []) (As := []) G zs_X3_50 dX3_setCost_49 (fun sz9 => c_X2_cancel l D cyI cyZ h0_15 h0_16 σ0.2.2.2.2.2.2 z6 hc6 sz9) 15 rfl rfl rfl ⟨rfl, rfl, rfl, rfl⟩ rfl (Nat.le_of_ble_eq_true rfl) ⟨Nat.le_of_ble_eq_true rfl, Nat.le_of_ble_eq_true rfl, Nat.zero_le _, Nat.zero_le _⟩ rfl ?_
        refine zq_iload (q := 54) G dX3_setCost_52 0 rfl rfl ?_
        refine zq_ws (congrArg (fun w9 => (w_C cyI cyZ h0_0 h0_1 h0_2 h0_3 h0_4 h0_5 h0_6 h0_7 h0_8 h0_9 h0_10 h0_11 h0_12 h0_13 h0_14 h0_15 h0_16 w9.2)) (zsome h)) ?_
        exact zq_iretX G hlocks hr rfl dX3_setCost_54 (congrArg Prod.fst (zsome h)).symm
      · have h := zie h c3
        refine zq_ws (congrArg (fun w9 => (w_C cyI cyZ h0_0 h0_1 h0_2 h0_3 h0_4 h0_5 h0_6 h0_7 h0_8 h0_9 h0_10 h0_11 h0_12 h0_13 h0_14 h0_15 h0_16 w9.2)) (zsome h)) ?_
        exact zq_throw G hlocks hst ht zt_X3_43 dX3_setCost_16 dX3_setCost_19 dX3_setCost_20 dX3_setCost_23 ⟨Nat.le_of_ble_eq_true rfl, Nat.le_of_ble_eq_true rfl⟩ rfl rfl (congrArg Prod.fst (zsome h)).symm
set_option maxHeartbeats 4000000 in
set_option maxRecDepth 100000 in
theorem c_X3_packedBound (l : Launch) (D : va_G) (cyI cyZ : ClassId) (h0_0 h0_1 h0_2 h0_3 h0_4 h0_5 h0_6 h0_7 h0_8 h0_9 h0_10 h0_11 h0_12 h0_13 h0_14 h0_15 h0_16 : Nat) (σ0 : zC) (r : Int64) (h : s_X3_packedBound σ0 = some r) (sz : Nat) : zMl l yX3_packedBound cX3_packedBound 4 .long 0 0 D cyI cyZ sz [.ref h0_0] (w_C cyI cyZ h0_0 h0_1 h0_2 h0_3 h0_4 h0_5 h0_6 h0_7 h0_8 h0_9 h0_10 h0_11 h0_12 h0_13 h0_14 h0_15 h0_16 σ0) r (w_C cyI cyZ h0_0 h0_1 h0_2 h0_3 h0_4 h0_5 h0_6 h0_7 h0_8 h0_9 h0_10 h0_11 h0_12 h0_13 h0_14 h0_15 h0_16 σ0) := by
  unfold s_X3_packedBound at h
  refine zstartL (lv0 := [(0, .ref h0_0)]) (by decide) (Nat.le_of_ble_eq_true rfl) rfl (fun p e s m args below meth c G hr hlocks => ?_)
  have b4 : ∀ (n : Nat) (x1 : Int64) (x3 : Int32), s_X3_packedBound_4 n σ0 x1 x3 = some r → zW p l e ({ frames := 0, cells := 0, slots := 0, locals := 0 } : Room) s m args below meth c D (va_A (w_C cyI cyZ h0_0 h0_1 h0_2 h0_3 h0_4 h0_5 h0_6 h0_7 h0_8 h0_9 h0_10 h0_11 h0_12 h0_13 h0_14 h0_15 h0_16 σ0) sz) 4 0 0 (MQ below (zQl D cyI cyZ sz (w_C cyI cyZ h0_0 h0_1 h0_2 h0_3 h0_4 h0_5 h0_6 h0_7 h0_8 h0_9 h0_10 h0_11 h0_12 h0_13 h0_14 h0_15 h0_16 σ0) r (w_C cyI cyZ h0_0 h0_1 h0_2 h0_3 h0_4 h0_5 h0_6 h0_7 h0_8 h0_9 h0_10 h0_11 h0_12 h0_13 h0_14 h0_15 h0_16 σ0)) args s 0 0 (va_A (w_C cyI cyZ h0_0 h0_1 h0_2 h0_3 h0_4 h0_5 h0_6 h0_7 h0_8 h0_9 h0_10 h0_11 h0_12 h0_13 h0_14 h0_15 h0_16 σ0) sz)) 4 [(0, .ref h0_0), (1, .long x1), (3, .int x3)] [] (w_C cyI cyZ h0_0 h0_1 h0_2 h0_3 h0_4 h0_5 h0_6 h0_7 h0_8 h0_9 h0_10 h0_11 h0_12 h0_13 h0_14 h0_15 h0_16 σ0) := by
    intro n
    induction n with
    | zero => intro x1 x3 h; rw [s_X3_packedBound_4] at h; exact nomatch h
    | succ n ih =>
      intro x1 x3 h
      rw [s_X3_packedBound_4] at h
      refine zq_iload_n (q := 5) G dX3_packedBound_4 2 rfl rfl rfl ?_
      refine zq_aload_n (q := 6) G dX3_packedBound_5 0 rfl rfl rfl ?_
      refine zq_get (q := 9) G zu_X3 rfl zw_X3_f12 dX3_packedBound_6 0 0 rfl (by decide) ⟨⟨rfl, rfl⟩, rfl⟩ rfl rfl ?_
      refine zq_getN (q := 12) G zu_X1 rfl zw_X3_f72 dX3_packedBound_9 1 1 rfl (by decide) ⟨⟨rfl, rfl⟩, rfl⟩ rfl rfl ?_
      refine zq_icmp_ge (tgt := 27) (q := 15) G dX3_packedBound_12 (by decide) rfl (fun c1 => ?_) (fun c1 => ?_)
      · have h := zit h c1
        refine zq_lload_n (q := 28) G dX3_packedBound_27 1 rfl rfl rfl ?_
        exact zq_lret G hlocks hr dX3_packedBound_28 (zsome h)
      · have h := zie h c1
        refine zq_lload_n (q := 16) G dX3_packedBound_15 1 rfl rfl rfl ?_
        refine zq_ldc2 (q := 19) G zw_X3_c76 dX3_packedBound_16 rfl ?_
        refine zq_lmul (q := 20) G dX3_packedBound_19 rfl ?_
        refine zq_lstore_n (q := 21) (lv2 := [(1, .long (x1 * (100 : Int64))), (0, .ref h0_0), (3, .int x3)]) G dX3_packedBound_20 rfl (by decide) rfl rfl ?_
        refine zq_iinc (q := 24) (v := (x3 + 1)) (lv2 := [(3, .int (x3 + 1)), (1, .long (x1 * (100 : Int64))), (0, .ref h0_0)]) G dX3_packedBound_21 2 rfl rfl (by decide) rfl rfl ?_
        refine zq_goto (q := 4) G dX3_packedBound_24 (by decide) ?_
        exact zq_sub _ [2, 1, 0] rfl (ih _ _ h)
  refine zq_lconst (q := 1) (v := 1) G dX3_packedBound_0 (by decide) rfl ?_
  refine zq_lstore_n (q := 2) (lv2 := [(1, .long (1 : Int64)), (0, .ref h0_0)]) G dX3_packedBound_1 rfl (by decide) rfl rfl ?_
  refine zq_iconst (q := 3) (v := 0) G dX3_packedBound_2 (by decide) rfl ?_
  refine zq_istore_n (q := 4) (lv2 := [(3, .int (0 : Int32)), (1, .long (1 : Int64)), (0, .ref h0_0)]) G dX3_packedBound_3 rfl (by decide) rfl rfl ?_
  exact zq_sub _ [2, 1, 0] rfl (b4  _ _ _ h)
set_option maxHeartbeats 4000000 in
set_option maxRecDepth 100000 in
theorem c_X3_setRow (l : Launch) (hst : l.stackTraces = false) (D : va_G) (cyI cyZ : ClassId) (h0_0 h0_1 h0_2 h0_3 h0_4 h0_5 h0_6 h0_7 h0_8 h0_9 h0_10 h0_11 h0_12 h0_13 h0_14 h0_15 h0_16 : Nat) (σ0 : zC) (p0 : Int32) (p1 : Int64) (z : Sum String Int32) (o0 : zC) (h : s_X3_setRow σ0 p0 p1 = some (z, o0)) (sz : Nat) : zXi l yX3_setRow cX3_setRow 9 .int 8 131 D cyI cyZ sz [.ref h0_0, .int p0, .long p1] (w_C cyI cyZ h0_0 h0_1 h0_2 h0_3 h0_4 h0_5 h0_6 h0_7 h0_8 h0_9 h0_10 h0_11 h0_12 h0_13 h0_14 h0_15 h0_16 σ0) z (w_C cyI cyZ h0_0 h0_1 h0_2 h0_3 h0_4 h0_5 h0_6 h0_7 h0_8 h0_9 h0_10 h0_11 h0_12 h0_13 h0_14 h0_15 h0_16 o0) := by
  unfold s_X3_setRow at h
  refine zstartXI (lv0 := [(0, .ref h0_0), (1, .int p0), (2, .long p1)]) (by decide) (Nat.le_of_ble_eq_true rfl) rfl (fun p e s m args below meth c G hr hlocks ht => ?_)
  have b46 : ∀ (n : Nat) (τ0 : zC) (x1 : Int32) (x4 : Int64) (x6 : Int32) (x7 : Int32), s_X3_setRow_46 n τ0 x1 x4 x6 x7 = some (z, o0) → zW p l e ({ frames := 8, cells := zmc z, slots := zms z, locals := 131 } : Room) s m args below meth c D (va_A (w_C cyI cyZ h0_0 h0_1 h0_2 h0_3 h0_4 h0_5 h0_6 h0_7 h0_8 h0_9 h0_10 h0_11 h0_12 h0_13 h0_14 h0_15 h0_16 σ0) sz) 9 0 0 (vx_MQ below (zQXi D cyI cyZ sz (w_C cyI cyZ h0_0 h0_1 h0_2 h0_3 h0_4 h0_5 h0_6 h0_7 h0_8 h0_9 h0_10 h0_11 h0_12 h0_13 h0_14 h0_15 h0_16 σ0) z (w_C cyI cyZ h0_0 h0_1 h0_2 h0_3 h0_4 h0_5 h0_6 h0_7 h0_8 h0_9 h0_10 h0_11 h0_12 h0_13 h0_14 h0_15 h0_16 o0)) (zXC D cyI cyZ sz (w_C cyI cyZ h0_0 h0_1 h0_2 h0_3 h0_4 h0_5 h0_6 h0_7 h0_8 h0_9 h0_10 h0_11 h0_12 h0_13 h0_14 h0_15 h0_16 σ0) z (w_C cyI cyZ h0_0 h0_1 h0_2 h0_3 h0_4 h0_5 h0_6 h0_7 h0_8 h0_9 h0_10 h0_11 h0_12 h0_13 h0_14 h0_15 h0_16 o0)) args s (zmc z) (zms z) (va_A (w_C cyI cyZ h0_0 h0_1 h0_2 h0_3 h0_4 h0_5 h0_6 h0_7 h0_8 h0_9 h0_10 h0_11 h0_12 h0_13 h0_14 h0_15 h0_16 σ0) sz)) 46 [(0, .ref h0_0), (1, .int x1), (4, .long x4), (6, .int x6), (7, .int x7)] [] (w_C cyI cyZ h0_0 h0_1 h0_2 h0_3 h0_4 h0_5 h0_6 h0_7 h0_8 h0_9 h0_10 h0_11 h0_12 h0_13 h0_14 h0_15 h0_16 τ0) := by
    intro n
    induction n with
    | zero => intro τ0 x1 x4 x6 x7 h; rw [s_X3_setRow_46] at h; exact nomatch h
    | succ n ih =>
      intro τ0 x1 x4 x6 x7 h
      rw [s_X3_setRow_46] at h
      refine zq_iload (q := 48) G dX3_setRow_46 4 rfl rfl ?_
      refine zq_if_lt (tgt := 95) (q := 51) G dX3_setRow_48 (by decide) rfl (fun c1 => ?_) (fun c1 => ?_)
      · have h := zit h c1
        refine zq_aload_n (q := 96) G dX3_setRow_95 0 rfl rfl rfl ?_
        refine zq_get (q := 99) G zu_X3 rfl zw_X3_f39 dX3_setRow_96 0 6 rfl (by decide) ⟨⟨rfl, rfl⟩, rfl⟩ rfl rfl ?_
        obtain ⟨z2, hc2, h⟩ := zbd h
        refine zq_callVv (q := 102) (ws2 := (w_C cyI cyZ h0_0 h0_1 h0_2 h0_3 h0_4 h0_5 h0_6 h0_7 h0_8 h0_9 h0_10 h0_11 h0_12 h0_13 h0_14 h0_15 h0_16 (τ0.1, τ0.2.1, τ0.2.2.1, τ0.2.2.2.1, τ0.2.2.2.2.1, τ0.2.2.2.2.2.1, z2))) (isC := [15, 16]) (isR := [0, 1, 2, 3, 4, 5, 6, 7, 8, 9, 10, 11, 12, 13, 14]) (perm := [0, 1, 2, 3, 4, 5, 6, 7, 8, 9, 10, 11, 12, 13, 14, 15, 16]) (rest := []) (As := []) G zs_X3_50 dX3_setRow_99 (fun sz9 => c_X2_cancel l D cyI cyZ h0_15 h0_16 τ0.2.2.2.2.2.2 z2 hc2 sz9) 15 rfl rfl rfl ⟨rfl, rfl, rfl, rfl⟩ rfl (Nat.le_of_ble_eq_true rfl) ⟨Nat.le_of_ble_eq_true rfl, Nat.le_of_ble_eq_true rfl, Nat.zero_le _, Nat.zero_le _⟩ rfl ?_
        refine zq_iload (q := 104) G dX3_setRow_102 3 rfl rfl ?_
        refine zq_ws (congrArg (fun w9 => (w_C cyI cyZ h0_0 h0_1 h0_2 h0_3 h0_4 h0_5 h0_6 h0_7 h0_8 h0_9 h0_10 h0_11 h0_12 h0_13 h0_14 h0_15 h0_16 w9.2)) (zsome h)) ?_
        exact zq_iretX G hlocks hr rfl dX3_setRow_104 (congrArg Prod.fst (zsome h)).symm
      · have h := zie h c1
        refine zq_lload (q := 53) G dX3_setRow_51 2 rfl rfl ?_
        refine zq_ldc2 (q := 56) G zw_X3_c76 dX3_setRow_53 rfl ?_
        refine zq_lrem (q := 57) G dX3_setRow_56 (by decide) rfl ?_
        refine zq_l2i (q := 58) G dX3_setRow_57 rfl ?_
        refine zq_istore (q := 60) (lv2 := [(8, .int ((x4 - x4 / (100 : Int64) * (100 : Int64)).toInt32)), (0, .ref h0_0), (1, .int x1), (4, .long x4), (6, .int x6), (7, .int x7)]) G dX3_setRow_58 (by decide) rfl rfl ?_
        refine zq_lload (q := 62) G dX3_setRow_60 3 rfl rfl ?_
        refine zq_ldc2 (q := 65) G zw_X3_c76 dX3_setRow_62 rfl ?_
        refine zq_ldiv (q := 66) G dX3_setRow_65 (by decide) rfl ?_
        refine zq_lstore (q := 68) (lv2 := [(4, .long (x4 / (100 : Int64))), (8, .int ((x4 - x4 / (100 : Int64) * (100 : Int64)).toInt32)), (0, .ref h0_0), (1, .int x1), (6, .int x6), (7, .int x7)]) G dX3_setRow_66 (by decide) rfl rfl ?_
        refine zq_aload_n (q := 69) G dX3_setRow_68 2 rfl rfl rfl ?_
        refine zq_get (q := 72) G zu_X3 rfl zw_X3_f12 dX3_setRow_69 0 0 rfl (by decide) ⟨⟨rfl, rfl⟩, rfl⟩ rfl rfl ?_
        refine zq_iload_n (q := 73) G dX3_setRow_72 3 rfl rfl rfl ?_
        refine zq_iload (q := 75) G dX3_setRow_73 5 rfl rfl ?_
        refine zq_iload (q := 77) G dX3_setRow_75 1 rfl rfl ?_
        obtain ⟨z3, hc3, h⟩ := zbd h
        refine zq_callVv (q := 80) (ws2 := (w_C cyI cyZ h0_0 h0_1 h0_2 h0_3 h0_4 h0_5 h0_6 h0_7 h0_8 h0_9 h0_10 h0_11 h0_12 h0_13 h0_14 h0_15 h0_16 (z3, τ0.2.1, τ0.2.2.1, τ0.2.2.2.1, τ0.2.2.2.2.1, τ0.2.2.2.2.2.1, τ0.2.2.2.2.2.2))) (isC := [1, 2, 3]) (isR := [0, 4, 5, 6, 7, 8, 9, 10, 11, 12, 13, 14, 15, 16]) (perm := [0, 14, 15, 16, 1, 2, 3, 4, 5, 6, 7, 8, 9, 10, 11, 12, 13]) (rest := []) (As := [.int x1, .int x7, .int ((x4 - x4 / (100 : Int64) * (100 : Int64)).toInt32)]) G zs_X3_60 dX3_setRow_77 (fun sz9 => c_X1_putNumber l D cyI cyZ h0_1 h0_2 h0_3 τ0.1 x1 x7 ((x4 - x4 / (100 : Int64) * (100 : Int64)).toInt32) z3 hc3 sz9) 1 rfl rfl rfl ⟨rfl, rfl, rfl, rfl⟩ rfl (Nat.le_of_ble_eq_true rfl) ⟨Nat.le_of_ble_eq_true rfl, Nat.le_of_ble_eq_true rfl, Nat.zero_le _, Nat.zero_le _⟩ rfl ?_
        refine zq_iload (q := 82) G dX3_setRow_80 4 rfl rfl ?_
        refine zq_iload (q := 84) G dX3_setRow_82 1 rfl rfl ?_
        refine zq_mmin (q := 87) G zl_X3_78 zstat_J9_min_7cf53 zini_J9 zcode_J9_min_7cf53 dX3_setRow_84 ⟨Nat.le_of_ble_eq_true rfl, Nat.le_of_ble_eq_true rfl, Nat.zero_le _, Nat.zero_le _⟩ rfl ?_
        refine zq_istore (q := 89) (lv2 := [(6, .int (if ((x4 - x4 / (100 : Int64) * (100 : Int64)).toInt32) < x6 then ((x4 - x4 / (100 : Int64) * (100 : Int64)).toInt32) else x6)), (4, .long (x4 / (100 : Int64))), (8, .int ((x4 - x4 / (100 : Int64) * (100 : Int64)).toInt32)), (0, .ref h0_0), (1, .int x1), (7, .int x7)]) G dX3_setRow_87 (by decide) rfl rfl ?_
        refine zq_iinc (q := 92) (v := (x7 + (-1))) (lv2 := [(7, .int (x7 + (-1))), (6, .int (if ((x4 - x4 / (100 : Int64) * (100 : Int64)).toInt32) < x6 then ((x4 - x4 / (100 : Int64) * (100 : Int64)).toInt32) else x6)), (4, .long (x4 / (100 : Int64))), (8, .int ((x4 - x4 / (100 : Int64) * (100 : Int64)).toInt32)), (0, .ref h0_0), (1, .int x1)]) G dX3_setRow_89 5 rfl rfl (by decide) rfl rfl ?_
        refine zq_goto (q := 46) G dX3_setRow_92 (by decide) ?_
        exact zq_sub _ [4, 5, 2, 1, 0] rfl (ih _ _ _ _ _ h)
  refine zq_aload_n (q := 1) G dX3_setRow_0 0 rfl rfl rfl ?_
  refine zq_iload_n (q := 2) G dX3_setRow_1 1 rfl rfl rfl ?_
  obtain ⟨z1, hc1, h⟩ := zbd h
  rcases zsum z1 with ⟨E1, e1⟩ | ⟨r1, e1⟩
  · have h := zselL2 h e1
    exact zq_outVv (ws2 := (w_C cyI cyZ h0_0 h0_1 h0_2 h0_3 h0_4 h0_5 h0_6 h0_7 h0_8 h0_9 h0_10 h0_11 h0_12 h0_13 h0_14 h0_15 h0_16 σ0)) (isC := [0, 1, 2, 3, 4, 5, 6, 7, 8, 9, 10, 11, 12, 13, 14, 15, 16]) (isR := []) (perm := [0, 1, 2, 3, 4, 5, 6, 7, 8, 9, 10, 11, 12, 13, 14, 15, 16]) (rest := []) (As := [.int p0]) G hlocks ht zs_X3_64 dX3_setRow_2 (fun sz9 => c_X3_requireRow l hst D cyI cyZ h0_0 h0_1 h0_2 h0_3 h0_4 h0_5 h0_6 h0_7 h0_8 h0_9 h0_10 h0_11 h0_12 h0_13 h0_14 h0_15 h0_16 σ0 p0 (.inl E1) (hc1.trans (congrArg some e1)) sz9) 0 rfl rfl rfl ⟨rfl, rfl, rfl, rfl⟩ rfl (Nat.le_of_ble_eq_true rfl) ⟨Nat.le_of_ble_eq_true rfl, Nat.le_of_ble_eq_true rfl⟩ rfl rfl (congrArg Prod.fst (zsome h)).symm (congrArg (fun w9 => (w_C cyI cyZ h0_0 h0_1 h0_2 h0_3 h0_4 h0_5 h0_6 h0_7 h0_8 h0_9 h0_10 h0_11 h0_12 h0_13 h0_14 h0_15 h0_16 w9.2)) (zsome h))
  · have h := zselR2 h e1
    refine zq_callVv (q := 5) (ws2 := (w_C cyI cyZ h0_0 h0_1 h0_2 h0_3 h0_4 h0_5 h0_6 h0_7 h0_8 h0_9 h0_10 h0_11 h0_12 h0_13 h0_14 h0_15 h0_16 σ0)) (isC := [0, 1, 2, 3, 4, 5, 6, 7, 8, 9, 10, 11, 12, 13, 14, 15, 16]) (isR := []) (perm := [0, 1, 2, 3, 4, 5, 6, 7, 8, 9, 10, 11, 12, 13, 14, 15, 16]) (rest := []) (As := [.int p0]) G zs_X3_64 dX3_setRow_2 (fun sz9 => zXv_ret (c_X3_requireRow l hst D cyI cyZ h0_0 h0_1 h0_2 h0_3 h0_4 h0_5 h0_6 h0_7 h0_8 h0_9 h0_10 h0_11 h0_12 h0_13 h0_14 h0_15 h0_16 σ0 p0 (.inr r1) (hc1.trans (congrArg some e1)) sz9)) 0 rfl rfl rfl ⟨rfl, rfl, rfl, rfl⟩ rfl (Nat.le_of_ble_eq_true rfl) ⟨Nat.le_of_ble_eq_true rfl, Nat.le_of_ble_eq_true rfl, Nat.zero_le _, Nat.zero_le _⟩ rfl ?_
    refine zq_lload_n (q := 6) G dX3_setRow_5 2 rfl rfl rfl ?_
    refine zq_lconst (q := 7) (v := 0) G dX3_setRow_6 (by decide) rfl ?_
    refine zq_lcmp (q := 8) G dX3_setRow_7 rfl ?_
    refine zq_if_lt (tgt := 20) (q := 11) G dX3_setRow_8 (by decide) rfl (fun c2 => ?_) (fun c2 => ?_)
    · have h := zit h c2
      refine zq_ws (congrArg (fun w9 => (w_C cyI cyZ h0_0 h0_1 h0_2 h0_3 h0_4 h0_5 h0_6 h0_7 h0_8 h0_9 h0_10 h0_11 h0_12 h0_13 h0_14 h0_15 h0_16 w9.2)) (zsome h)) ?_
      exact zq_throw G hlocks hst ht zt_X3_43 dX3_setRow_20 dX3_setRow_23 dX3_setRow_24 dX3_setRow_27 ⟨Nat.le_of_ble_eq_true rfl, Nat.le_of_ble_eq_true rfl⟩ rfl rfl (congrArg Prod.fst (zsome h)).symm
    · have h := zie h c2
      refine zq_lload_n (q := 12) G dX3_setRow_11 2 rfl rfl rfl ?_
      refine zq_aload_n (q := 13) G dX3_setRow_12 0 rfl rfl rfl ?_
      obtain ⟨z3, hc3, h⟩ := zbd h
      refine zq_callVl (q := 16) (ws2 := (w_C cyI cyZ h0_0 h0_1 h0_2 h0_3 h0_4 h0_5 h0_6 h0_7 h0_8 h0_9 h0_10 h0_11 h0_12 h0_13 h0_14 h0_15 h0_16 σ0)) (isC := [0, 1, 2, 3, 4, 5, 6, 7, 8, 9, 10, 11, 12, 13, 14, 15, 16]) (isR := []) (perm := [0, 1, 2, 3, 4, 5, 6, 7, 8, 9, 10, 11, 12, 13, 14, 15, 16]) (rest := [.long p1]) (As := []) G zs_X3_68 dX3_setRow_13 (fun sz9 => c_X3_packedBound l D cyI cyZ h0_0 h0_1 h0_2 h0_3 h0_4 h0_5 h0_6 h0_7 h0_8 h0_9 h0_10 h0_11 h0_12 h0_13 h0_14 h0_15 h0_16 σ0 z3 hc3 sz9) 0 rfl rfl rfl ⟨rfl, rfl, rfl, rfl⟩ rfl (Nat.le_of_ble_eq_true rfl) ⟨Nat.le_of_ble_eq_true rfl, Nat.le_of_ble_eq_true rfl, Nat.zero_le _, Nat.zero_le _⟩ rfl ?_
      refine zq_lcmp (q := 17) G dX3_setRow_16 rfl ?_
      refine zq_if_lt (tgt := 28) (q := 20) G dX3_setRow_17 (by decide) rfl (fun c4 => ?_) (fun c4 => ?_)
      · have h := zit h c4
        refine zq_lload_n (q := 29) G dX3_setRow_28 2 rfl rfl rfl ?_
        refine zq_lstore (q := 31) (lv2 := [(4, .long p1), (0, .ref h0_0), (1, .int p0), (2, .long p1)]) G dX3_setRow_29 (by decide) rfl rfl ?_
        refine zq_bipush (q := 33) (v := 99) G dX3_setRow_31 (by decide) rfl ?_
        refine zq_istore (q := 35) (lv2 := [(6, .int (99 : Int32)), (4, .long p1), (0, .ref h0_0), (1, .int p0), (2, .long p1)]) G dX3_setRow_33 (by decide) rfl rfl ?_
        refine zq_aload_n (q := 36) G dX3_setRow_35 2 rfl rfl rfl ?_
        refine zq_get (q := 39) G zu_X3 rfl zw_X3_f12 dX3_setRow_36 0 0 rfl (by decide) ⟨⟨rfl, rfl⟩, rfl⟩ rfl rfl ?_
        refine zq_getN (q := 42) G zu_X1 rfl zw_X3_f72 dX3_setRow_39 1 1 rfl (by decide) ⟨⟨rfl, rfl⟩, rfl⟩ rfl rfl ?_
        refine zq_iconst (q := 43) (v := 1) G dX3_setRow_42 (by decide) rfl ?_
        refine zq_isub (q := 44) G dX3_setRow_43 rfl ?_
        refine zq_istore (q := 46) (lv2 := [(7, .int (σ0.1.2.1 - (1 : Int32))), (6, .int (99 : Int32)), (4, .long p1), (0, .ref h0_0), (1, .int p0), (2, .long p1)]) G dX3_setRow_44 (by decide) rfl rfl ?_
        exact zq_sub _ [3, 4, 2, 1, 0] rfl (b46  _ _ _ _ _ _ h)
      · have h := zie h c4
        refine zq_ws (congrArg (fun w9 => (w_C cyI cyZ h0_0 h0_1 h0_2 h0_3 h0_4 h0_5 h0_6 h0_7 h0_8 h0_9 h0_10 h0_11 h0_12 h0_13 h0_14 h0_15 h0_16 w9.2)) (zsome h)) ?_
        exact zq_throw G hlocks hst ht zt_X3_43 dX3_setRow_20 dX3_setRow_23 dX3_setRow_24 dX3_setRow_27 ⟨Nat.le_of_ble_eq_true rfl, Nat.le_of_ble_eq_true rfl⟩ rfl rfl (congrArg Prod.fst (zsome h)).symm
set_option maxHeartbeats 4000000 in
set_option maxRecDepth 100000 in
theorem c_X3_fill (l : Launch) (hst : l.stackTraces = false) (D : va_G) (cyI cyZ : ClassId) (h0_0 h0_1 h0_2 h0_3 h0_4 h0_5 h0_6 h0_7 h0_8 h0_9 h0_10 h0_11 h0_12 h0_13 h0_14 h0_15 h0_16 : Nat) (σ0 : zC) (p0 : Int32) (p1 : Int32) (z : Sum String Int32) (o0 : zC) (h : s_X3_fill σ0 p0 p1 = some (z, o0)) (sz : Nat) : zXi l yX3_fill cX3_fill 8 .int 7 110 D cyI cyZ sz [.ref h0_0, .int p0, .int p1] (w_C cyI cyZ h0_0 h0_1 h0_2 h0_3 h0_4 h0_5 h0_6 h0_7 h0_8 h0_9 h0_10 h0_11 h0_12 h0_13 h0_14 h0_15 h0_16 σ0) z (w_C cyI cyZ h0_0 h0_1 h0_2 h0_3 h0_4 h0_5 h0_6 h0_7 h0_8 h0_9 h0_10 h0_11 h0_12 h0_13 h0_14 h0_15 h0_16 o0) := by
  unfold s_X3_fill at h
  refine zstartXI (lv0 := [(0, .ref h0_0), (1, .int p0), (2, .int p1)]) (by decide) (Nat.le_of_ble_eq_true rfl) rfl (fun p e s m args below meth c G hr hlocks ht => ?_)
  have b52 : ∀ (k37 : (zC → Int32 → Int32 → Int32 → Int32 → Option ((Sum String Int32) × zC))) (hk37 : ∀ (τ0 : zC) (x2 : Int32) (x3 : Int32) (x4 : Int32) (x5 : Int32), k37 τ0 x2 x3 x4 x5 = some (z, o0) → zW p l e ({ frames := 7, cells := zmc z, slots := zms z, locals := 110 } : Room) s m args below meth c D (va_A (w_C cyI cyZ h0_0 h0_1 h0_2 h0_3 h0_4 h0_5 h0_6 h0_7 h0_8 h0_9 h0_10 h0_11 h0_12 h0_13 h0_14 h0_15 h0_16 σ0) sz) 8 0 0 (vx_MQ below (zQXi D cyI cyZ sz (w_C cyI cyZ h0_0 h0_1 h0_2 h0_3 h0_4 h0_5 h0_6 h0_7 h0_8 h0_9 h0_10 h0_11 h0_12 h0_13 h0_14 h0_15 h0_16 σ0) z (w_C cyI cyZ h0_0 h0_1 h0_2 h0_3 h0_4 h0_5 h0_6 h0_7 h0_8 h0_9 h0_10 h0_11 h0_12 h0_13 h0_14 h0_15 h0_16 o0)) (zXC D cyI cyZ sz (w_C cyI cyZ h0_0 h0_1 h0_2 h0_3 h0_4 h0_5 h0_6 h0_7 h0_8 h0_9 h0_10 h0_11 h0_12 h0_13 h0_14 h0_15 h0_16 σ0) z (w_C cyI cyZ h0_0 h0_1 h0_2 h0_3 h0_4 h0_5 h0_6 h0_7 h0_8 h0_9 h0_10 h0_11 h0_12 h0_13 h0_14 h0_15 h0_16 o0)) args s (zmc z) (zms z) (va_A (w_C cyI cyZ h0_0 h0_1 h0_2 h0_3 h0_4 h0_5 h0_6 h0_7 h0_8 h0_9 h0_10 h0_11 h0_12 h0_13 h0_14 h0_15 h0_16 σ0) sz)) 37 [(0, .ref h0_0), (2, .int x2), (3, .int x3), (4, .int x4), (5, .int x5)] [] (w_C cyI cyZ h0_0 h0_1 h0_2 h0_3 h0_4 h0_5 h0_6 h0_7 h0_8 h0_9 h0_10 h0_11 h0_12 h0_13 h0_14 h0_15 h0_16 τ0)) (n : Nat) (τ0 : zC) (x2 : Int32) (x3 : Int32) (x4 : Int32) (x5 : Int32) (x6 : Int32), s_X3_fill_52 k37 n τ0 x2 x3 x4 x5 x6 = some (z, o0) → zW p l e ({ frames := 7, cells := zmc z, slots := zms z, locals := 110 } : Room) s m args below meth c D (va_A (w_C cyI cyZ h0_0 h0_1 h0_2 h0_3 h0_4 h0_5 h0_6 h0_7 h0_8 h0_9 h0_10 h0_11 h0_12 h0_13 h0_14 h0_15 h0_16 σ0) sz) 8 0 0 (vx_MQ below (zQXi D cyI cyZ sz (w_C cyI cyZ h0_0 h0_1 h0_2 h0_3 h0_4 h0_5 h0_6 h0_7 h0_8 h0_9 h0_10 h0_11 h0_12 h0_13 h0_14 h0_15 h0_16 σ0) z (w_C cyI cyZ h0_0 h0_1 h0_2 h0_3 h0_4 h0_5 h0_6 h0_7 h0_8 h0_9 h0_10 h0_11 h0_12 h0_13 h0_14 h0_15 h0_16 o0)) (zXC D cyI cyZ sz (w_C cyI cyZ h0_0 h0_1 h0_2 h0_3 h0_4 h0_5 h0_6 h0_7 h0_8 h0_9 h0_10 h0_11 h0_12 h0_13 h0_14 h0_15 h0_16 σ0) z (w_C cyI cyZ h0_0 h0_1 h0_2 h0_3 h0_4 h0_5 h0_6 h0_7 h0_8 h0_9 h0_10 h0_11 h0_12 h0_13 h0_14 h0_15 h0_16 o0)) args s (zmc z) (zms z) (va_A (w_C cyI cyZ h0_0 h0_1 h0_2 h0_3 h0_4 h0_5 h0_6 h0_7 h0_8 h0_9 h0_10 h0_11 h0_12 h0_13 h0_14 h0_15 h0_16 σ0) sz)) 52 [(0, .ref h0_0), (2, .int x2), (3, .int x3), (4, .int x4), (5, .int x5), (6, .int x6)] [] (w_C cyI cyZ h0_0 h0_1 h0_2 h0_3 h0_4 h0_5 h0_6 h0_7 h0_8 h0_9 h0_10 h0_11 h0_12 h0_13 h0_14 h0_15 h0_16 τ0) := by
    intro k37 hk37
    intro n
    induction n with
    | zero => intro τ0 x2 x3 x4 x5 x6 h; rw [s_X3_fill_52] at h; exact nomatch h
    | succ n ih =>
      intro τ0 x2 x3 x4 x5 x6 h
      rw [s_X3_fill_52] at h
      refine zq_iload (q := 54) G dX3_fill_52 5 rfl rfl ?_
      refine zq_aload_n (q := 55) G dX3_fill_54 0 rfl rfl rfl ?_
      refine zq_get (q := 58) G zu_X3 rfl zw_X3_f12 dX3_fill_55 0 0 rfl (by decide) ⟨⟨rfl, rfl⟩, rfl⟩ rfl rfl ?_
      refine zq_getN (q := 61) G zu_X1 rfl zw_X3_f72 dX3_fill_58 1 1 rfl (by decide) ⟨⟨rfl, rfl⟩, rfl⟩ rfl rfl ?_
      refine zq_icmp_ge (tgt := 121) (q := 64) G dX3_fill_61 (by decide) rfl (fun c1 => ?_) (fun c1 => ?_)
      · have h := zit h c1
        refine zq_iinc (q := 124) (v := (x5 + 1)) (lv2 := [(5, .int (x5 + 1)), (0, .ref h0_0), (2, .int x2), (3, .int x3), (4, .int x4), (6, .int x6)]) G dX3_fill_121 4 rfl rfl (by decide) rfl rfl ?_
        refine zq_goto (q := 37) G dX3_fill_124 (by decide) ?_
        exact zq_sub _ [1, 2, 3, 4, 0] rfl (hk37 _ _ _ _ _ h)
      · have h := zie h c1
        refine zq_bipush (q := 66) (v := 37) G dX3_fill_64 (by decide) rfl ?_
        refine zq_iload_n (q := 67) G dX3_fill_66 2 rfl rfl rfl ?_
        refine zq_imul (q := 68) G dX3_fill_67 rfl ?_
        refine zq_bipush (q := 70) (v := 11) G dX3_fill_68 (by decide) rfl ?_
        refine zq_iadd (q := 71) G dX3_fill_70 rfl ?_
        refine zq_sipush (q := 74) (v := 10007) G dX3_fill_71 (by decide) rfl ?_
        refine zq_irem (q := 75) G dX3_fill_74 (by decide) rfl ?_
        refine zq_istore_n (q := 76) (lv2 := [(3, .int ((((37 : Int32) * x3) + (11 : Int32)) - (((37 : Int32) * x3) + (11 : Int32)) / (10007 : Int32) * (10007 : Int32))), (0, .ref h0_0), (2, .int x2), (4, .int x4), (5, .int x5), (6, .int x6)]) G dX3_fill_75 rfl (by decide) rfl rfl ?_
        refine zq_iload_n (q := 77) G dX3_fill_76 0 rfl rfl rfl ?_
        refine zq_iload_n (q := 78) G dX3_fill_77 2 rfl rfl rfl ?_
        refine zq_iconst (q := 79) (v := 1) G dX3_fill_78 (by decide) rfl ?_
        refine zq_iadd (q := 80) G dX3_fill_79 rfl ?_
        obtain ⟨q2, h⟩ := zif h
        refine zq_irem (q := 81) G dX3_fill_80 q2 rfl ?_
        refine zq_istore (q := 83) (lv2 := [(7, .int (((((37 : Int32) * x3) + (11 : Int32)) - (((37 : Int32) * x3) + (11 : Int32)) / (10007 : Int32) * (10007 : Int32)) - ((((37 : Int32) * x3) + (11 : Int32)) - (((37 : Int32) * x3) + (11 : Int32)) / (10007 : Int32) * (10007 : Int32)) / (x2 + (1 : Int32)) * (x2 + (1 : Int32)))), (3, .int ((((37 : Int32) * x3) + (11 : Int32)) - (((37 : Int32) * x3) + (11 : Int32)) / (10007 : Int32) * (10007 : Int32))), (0, .ref h0_0), (2, .int x2), (4, .int x4), (5, .int x5), (6, .int x6)]) G dX3_fill_81 (by decide) rfl rfl ?_
        refine zq_aload_n (q := 84) G dX3_fill_83 2 rfl rfl rfl ?_
        refine zq_get (q := 87) G zu_X3 rfl zw_X3_f12 dX3_fill_84 0 0 rfl (by decide) ⟨⟨rfl, rfl⟩, rfl⟩ rfl rfl ?_
        refine zq_iload (q := 89) G dX3_fill_87 5 rfl rfl ?_
        refine zq_iload (q := 91) G dX3_fill_89 6 rfl rfl ?_
        refine zq_iload (q := 93) G dX3_fill_91 0 rfl rfl ?_
        obtain ⟨z3, hc3, h⟩ := zbd h
        refine zq_callVv (q := 96) (ws2 := (w_C cyI cyZ h0_0 h0_1 h0_2 h0_3 h0_4 h0_5 h0_6 h0_7 h0_8 h0_9 h0_10 h0_11 h0_12 h0_13 h0_14 h0_15 h0_16 (z3, τ0.2.1, τ0.2.2.1, τ0.2.2.2.1, τ0.2.2.2.2.1, τ0.2.2.2.2.2.1, τ0.2.2.2.2.2.2))) (isC := [1, 2, 3]) (isR := [0, 4, 5, 6, 7, 8, 9, 10, 11, 12, 13, 14, 15, 16]) (perm := [0, 14, 15, 16, 1, 2, 3, 4, 5, 6, 7, 8, 9, 10, 11, 12, 13]) (rest := []) (As := [.int x5, .int x6, .int (((((37 : Int32) * x3) + (11 : Int32)) - (((37 : Int32) * x3) + (11 : Int32)) / (10007 : Int32) * (10007 : Int32)) - ((((37 : Int32) * x3) + (11 : Int32)) - (((37 : Int32) * x3) + (11 : Int32)) / (10007 : Int32) * (10007 : Int32)) / (x2 + (1 : Int32)) * (x2 + (1 : Int32)))]) G zs_X3_60 dX3_fill_93 (fun sz9 => c_X1_putNumber l D cyI cyZ h0_1 h0_2 h0_3 τ0.1 x5 x6 (((((37 : Int32) * x3) + (11 : Int32)) - (((37 : Int32) * x3) + (11 : Int32)) / (10007 : Int32) * (10007 : Int32)) - ((((37 : Int32) * x3) + (11 : Int32)) - (((37 : Int32) * x3) + (11 : Int32)) / (10007 : Int32) * (10007 : Int32)) / (x2 + (1 : Int32)) * (x2 + (1 : Int32))) z3 hc3 sz9) 1 rfl rfl rfl ⟨rfl, rfl, rfl, rfl⟩ rfl (Nat.le_of_ble_eq_true rfl) ⟨Nat.le_of_ble_eq_true rfl, Nat.le_of_ble_eq_true rfl, Nat.zero_le _, Nat.zero_le _⟩ rfl ?_
        refine zq_aload_n (q := 97) G dX3_fill_96 2 rfl rfl rfl ?_
        refine zq_get (q := 100) G zu_X3 rfl zw_X3_f12 dX3_fill_97 0 0 rfl (by decide) ⟨⟨rfl, rfl⟩, rfl⟩ rfl rfl ?_
        refine zq_iload (q := 102) G dX3_fill_100 5 rfl rfl ?_
        refine zq_iload (q := 104) G dX3_fill_102 6 rfl rfl ?_
        refine zq_iconst (q := 105) (v := 0) G dX3_fill_104 (by decide) rfl ?_
        obtain ⟨z4, hc4, h⟩ := zbd h
        refine zq_callVv (q := 108) (ws2 := (w_C cyI cyZ h0_0 h0_1 h0_2 h0_3 h0_4 h0_5 h0_6 h0_7 h0_8 h0_9 h0_10 h0_11 h0_12 h0_13 h0_14 h0_15 h0_16 (z4, τ0.2.1, τ0.2.2.1, τ0.2.2.2.1, τ0.2.2.2.2.1, τ0.2.2.2.2.2.1, τ0.2.2.2.2.2.2))) (isC := [1, 2, 3]) (isR := [0, 4, 5, 6, 7, 8, 9, 10, 11, 12, 13, 14, 15, 16]) (perm := [0, 14, 15, 16, 1, 2, 3, 4, 5, 6, 7, 8, 9, 10, 11, 12, 13]) (rest := []) (As := [.int x5, .int x6, .int (0 : Int32)]) G zs_X3_86 dX3_fill_105 (fun sz9 => c_X1_putForbidden l D cyI cyZ h0_1 h0_2 h0_3 z3 x5 x6 (0 : Int32) z4 hc4 sz9) 1 rfl rfl rfl ⟨rfl, rfl, rfl, rfl⟩ rfl (Nat.le_of_ble_eq_true rfl) ⟨Nat.le_of_ble_eq_true rfl, Nat.le_of_ble_eq_true rfl, Nat.zero_le _, Nat.zero_le _⟩ rfl ?_
        refine zq_iload (q := 110) G dX3_fill_108 4 rfl rfl ?_
        refine zq_iload (q := 112) G dX3_fill_110 0 rfl rfl ?_
        refine zq_iadd (q := 113) G dX3_fill_112 rfl ?_
        refine zq_istore (q := 115) (lv2 := [(4, .int (x4 + (((((37 : Int32) * x3) + (11 : Int32)) - (((37 : Int32) * x3) + (11 : Int32)) / (10007 : Int32) * (10007 : Int32)) - ((((37 : Int32) * x3) + (11 : Int32)) - (((37 : Int32) * x3) + (11 : Int32)) / (10007 : Int32) * (10007 : Int32)) / (x2 + (1 : Int32)) * (x2 + (1 : Int32))))), (7, .int (((((37 : Int32) * x3) + (11 : Int32)) - (((37 : Int32) * x3) + (11 : Int32)) / (10007 : Int32) * (10007 : Int32)) - ((((37 : Int32) * x3) + (11 : Int32)) - (((37 : Int32) * x3) + (11 : Int32)) / (10007 : Int32) * (10007 : Int32)) / (x2 + (1 : Int32)) * (x2 + (1 : Int32)))), (3, .int ((((37 : Int32) * x3) + (11 : Int32)) - (((37 : Int32) * x3) + (11 : Int32)) / (10007 : Int32) * (10007 : Int32))), (0, .ref h0_0), (2, .int x2), (5, .int x5), (6, .int x6)]) G dX3_fill_113 (by decide) rfl rfl ?_
        refine zq_iinc (q := 118) (v := (x6 + 1)) (lv2 := [(6, .int (x6 + 1)), (4, .int (x4 + (((((37 : Int32) * x3) + (11 : Int32)) - (((37 : Int32) * x3) + (11 : Int32)) / (10007 : Int32) * (10007 : Int32)) - ((((37 : Int32) * x3) + (11 : Int32)) - (((37 : Int32) * x3) + (11 : Int32)) / (10007 : Int32) * (10007 : Int32)) / (x2 + (1 : Int32)) * (x2 + (1 : Int32))))), (7, .int (((((37 : Int32) * x3) + (11 : Int32)) - (((37 : Int32) * x3) + (11 : Int32)) / (10007 : Int32) * (10007 : Int32)) - ((((37 : Int32) * x3) + (11 : Int32)) - (((37 : Int32) * x3) + (11 : Int32)) / (10007 : Int32) * (10007 : Int32)) / (x2 + (1 : Int32)) * (x2 + (1 : Int32)))), (3, .int ((((37 : Int32) * x3) + (11 : Int32)) - (((37 : Int32) * x3) + (11 : Int32)) / (10007 : Int32) * (10007 : Int32))), (0, .ref h0_0), (2, .int x2), (5, .int x5)]) G dX3_fill_115 6 rfl rfl (by decide) rfl rfl ?_
        refine zq_goto (q := 52) G dX3_fill_118 (by decide) ?_
        exact zq_sub _ [4, 5, 3, 1, 6, 0] rfl (ih _ _ _ _ _ _ h)
  have b37 : ∀ (n : Nat) (τ0 : zC) (x2 : Int32) (x3 : Int32) (x4 : Int32) (x5 : Int32), s_X3_fill_37 n τ0 x2 x3 x4 x5 = some (z, o0) → zW p l e ({ frames := 7, cells := zmc z, slots := zms z, locals := 110 } : Room) s m args below meth c D (va_A (w_C cyI cyZ h0_0 h0_1 h0_2 h0_3 h0_4 h0_5 h0_6 h0_7 h0_8 h0_9 h0_10 h0_11 h0_12 h0_13 h0_14 h0_15 h0_16 σ0) sz) 8 0 0 (vx_MQ below (zQXi D cyI cyZ sz (w_C cyI cyZ h0_0 h0_1 h0_2 h0_3 h0_4 h0_5 h0_6 h0_7 h0_8 h0_9 h0_10 h0_11 h0_12 h0_13 h0_14 h0_15 h0_16 σ0) z (w_C cyI cyZ h0_0 h0_1 h0_2 h0_3 h0_4 h0_5 h0_6 h0_7 h0_8 h0_9 h0_10 h0_11 h0_12 h0_13 h0_14 h0_15 h0_16 o0)) (zXC D cyI cyZ sz (w_C cyI cyZ h0_0 h0_1 h0_2 h0_3 h0_4 h0_5 h0_6 h0_7 h0_8 h0_9 h0_10 h0_11 h0_12 h0_13 h0_14 h0_15 h0_16 σ0) z (w_C cyI cyZ h0_0 h0_1 h0_2 h0_3 h0_4 h0_5 h0_6 h0_7 h0_8 h0_9 h0_10 h0_11 h0_12 h0_13 h0_14 h0_15 h0_16 o0)) args s (zmc z) (zms z) (va_A (w_C cyI cyZ h0_0 h0_1 h0_2 h0_3 h0_4 h0_5 h0_6 h0_7 h0_8 h0_9 h0_10 h0_11 h0_12 h0_13 h0_14 h0_15 h0_16 σ0) sz)) 37 [(0, .ref h0_0), (2, .int x2), (3, .int x3), (4, .int x4), (5, .int x5)] [] (w_C cyI cyZ h0_0 h0_1 h0_2 h0_3 h0_4 h0_5 h0_6 h0_7 h0_8 h0_9 h0_10 h0_11 h0_12 h0_13 h0_14 h0_15 h0_16 τ0) := by
    intro n
    induction n with
    | zero => intro τ0 x2 x3 x4 x5 h; rw [s_X3_fill_37] at h; exact nomatch h
    | succ n ih =>
      intro τ0 x2 x3 x4 x5 h
      rw [s_X3_fill_37] at h
      refine zq_iload (q := 39) G dX3_fill_37 4 rfl rfl ?_
      refine zq_aload_n (q := 40) G dX3_fill_39 0 rfl rfl rfl ?_
      refine zq_get (q := 43) G zu_X3 rfl zw_X3_f12 dX3_fill_40 0 0 rfl (by decide) ⟨⟨rfl, rfl⟩, rfl⟩ rfl rfl ?_
      refine zq_getN (q := 46) G zu_X1 rfl zw_X3_f83 dX3_fill_43 1 0 rfl (by decide) ⟨⟨rfl, rfl⟩, rfl⟩ rfl rfl ?_
      refine zq_icmp_ge (tgt := 127) (q := 49) G dX3_fill_46 (by decide) rfl (fun c1 => ?_) (fun c1 => ?_)
      · have h := zit h c1
        refine zq_aload_n (q := 128) G dX3_fill_127 0 rfl rfl rfl ?_
        refine zq_get (q := 131) G zu_X3 rfl zw_X3_f39 dX3_fill_128 0 6 rfl (by decide) ⟨⟨rfl, rfl⟩, rfl⟩ rfl rfl ?_
        obtain ⟨z2, hc2, h⟩ := zbd h
        refine zq_callVv (q := 134) (ws2 := (w_C cyI cyZ h0_0 h0_1 h0_2 h0_3 h0_4 h0_5 h0_6 h0_7 h0_8 h0_9 h0_10 h0_11 h0_12 h0_13 h0_14 h0_15 h0_16 (τ0.1, τ0.2.1, τ0.2.2.1, τ0.2.2.2.1, τ0.2.2.2.2.1, τ0.2.2.2.2.2.1, z2))) (isC := [15, 16]) (isR := [0, 1, 2, 3, 4, 5, 6, 7, 8, 9, 10, 11, 12, 13, 14]) (perm := [0, 1, 2, 3, 4, 5, 6, 7, 8, 9, 10, 11, 12, 13, 14, 15, 16]) (rest := []) (As := []) G zs_X3_50 dX3_fill_131 (fun sz9 => c_X2_cancel l D cyI cyZ h0_15 h0_16 τ0.2.2.2.2.2.2 z2 hc2 sz9) 15 rfl rfl rfl ⟨rfl, rfl, rfl, rfl⟩ rfl (Nat.le_of_ble_eq_true rfl) ⟨Nat.le_of_ble_eq_true rfl, Nat.le_of_ble_eq_true rfl, Nat.zero_le _, Nat.zero_le _⟩ rfl ?_
        refine zq_iload (q := 136) G dX3_fill_134 3 rfl rfl ?_
        refine zq_ws (congrArg (fun w9 => (w_C cyI cyZ h0_0 h0_1 h0_2 h0_3 h0_4 h0_5 h0_6 h0_7 h0_8 h0_9 h0_10 h0_11 h0_12 h0_13 h0_14 h0_15 h0_16 w9.2)) (zsome h)) ?_
        exact zq_iretX G hlocks hr rfl dX3_fill_136 (congrArg Prod.fst (zsome h)).symm
      · have h := zie h c1
        refine zq_iconst (q := 50) (v := 0) G dX3_fill_49 (by decide) rfl ?_
        refine zq_istore (q := 52) (lv2 := [(6, .int (0 : Int32)), (0, .ref h0_0), (2, .int x2), (3, .int x3), (4, .int x4), (5, .int x5)]) G dX3_fill_50 (by decide) rfl rfl ?_
        exact zq_sub _ [1, 2, 3, 4, 5, 0] rfl (b52 _ ih _ _ _ _ _ _ _ h)
  refine zq_iload_n (q := 1) G dX3_fill_0 1 rfl rfl rfl ?_
  refine zq_if_lt (tgt := 21) (q := 4) G dX3_fill_1 (by decide) rfl (fun c1 => ?_) (fun c1 => ?_)
  · have h := zit h c1
    refine zq_ws (congrArg (fun w9 => (w_C cyI cyZ h0_0 h0_1 h0_2 h0_3 h0_4 h0_5 h0_6 h0_7 h0_8 h0_9 h0_10 h0_11 h0_12 h0_13 h0_14 h0_15 h0_16 w9.2)) (zsome h)) ?_
    exact zq_throw G hlocks hst ht zt_X3_43 dX3_fill_21 dX3_fill_24 dX3_fill_25 dX3_fill_28 ⟨Nat.le_of_ble_eq_true rfl, Nat.le_of_ble_eq_true rfl⟩ rfl rfl (congrArg Prod.fst (zsome h)).symm
  · have h := zie h c1
    refine zq_iload_n (q := 5) G dX3_fill_4 1 rfl rfl rfl ?_
    refine zq_sipush (q := 8) (v := 9999) G dX3_fill_5 (by decide) rfl ?_
    refine zq_icmp_gt (tgt := 21) (q := 11) G dX3_fill_8 (by decide) rfl (fun c2 => ?_) (fun c2 => ?_)
    · have h := zit h c2
      refine zq_ws (congrArg (fun w9 => (w_C cyI cyZ h0_0 h0_1 h0_2 h0_3 h0_4 h0_5 h0_6 h0_7 h0_8 h0_9 h0_10 h0_11 h0_12 h0_13 h0_14 h0_15 h0_16 w9.2)) (zsome h)) ?_
      exact zq_throw G hlocks hst ht zt_X3_43 dX3_fill_21 dX3_fill_24 dX3_fill_25 dX3_fill_28 ⟨Nat.le_of_ble_eq_true rfl, Nat.le_of_ble_eq_true rfl⟩ rfl rfl (congrArg Prod.fst (zsome h)).symm
    · have h := zie h c2
      refine zq_iload_n (q := 12) G dX3_fill_11 2 rfl rfl rfl ?_
      refine zq_if_lt (tgt := 21) (q := 15) G dX3_fill_12 (by decide) rfl (fun c3 => ?_) (fun c3 => ?_)
      · have h := zit h c3
        refine zq_ws (congrArg (fun w9 => (w_C cyI cyZ h0_0 h0_1 h0_2 h0_3 h0_4 h0_5 h0_6 h0_7 h0_8 h0_9 h0_10 h0_11 h0_12 h0_13 h0_14 h0_15 h0_16 w9.2)) (zsome h)) ?_
        exact zq_throw G hlocks hst ht zt_X3_43 dX3_fill_21 dX3_fill_24 dX3_fill_25 dX3_fill_28 ⟨Nat.le_of_ble_eq_true rfl, Nat.le_of_ble_eq_true rfl⟩ rfl rfl (congrArg Prod.fst (zsome h)).symm
      · have h := zie h c3
        refine zq_iload_n (q := 16) G dX3_fill_15 2 rfl rfl rfl ?_
        refine zq_bipush (q := 18) (v := 99) G dX3_fill_16 (by decide) rfl ?_
        refine zq_icmp_le (tgt := 29) (q := 21) G dX3_fill_18 (by decide) rfl (fun c4 => ?_) (fun c4 => ?_)
        · have h := zit h c4
          refine zq_iload_n (q := 30) G dX3_fill_29 1 rfl rfl rfl ?_
          refine zq_istore_n (q := 31) (lv2 := [(3, .int p0), (0, .ref h0_0), (1, .int p0), (2, .int p1)]) G dX3_fill_30 rfl (by decide) rfl rfl ?_
          refine zq_iconst (q := 32) (v := 0) G dX3_fill_31 (by decide) rfl ?_
          refine zq_istore (q := 34) (lv2 := [(4, .int (0 : Int32)), (3, .int p0), (0, .ref h0_0), (1, .int p0), (2, .int p1)]) G dX3_fill_32 (by decide) rfl rfl ?_
          refine zq_iconst (q := 35) (v := 0) G dX3_fill_34 (by decide) rfl ?_
          refine zq_istore (q := 37) (lv2 := [(5, .int (0 : Int32)), (4, .int (0 : Int32)), (3, .int p0), (0, .ref h0_0), (1, .int p0), (2, .int p1)]) G dX3_fill_35 (by decide) rfl rfl ?_
          exact zq_sub _ [3, 5, 2, 1, 0] rfl (b37  _ _ _ _ _ _ h)
        · have h := zie h c4
          refine zq_ws (congrArg (fun w9 => (w_C cyI cyZ h0_0 h0_1 h0_2 h0_3 h0_4 h0_5 h0_6 h0_7 h0_8 h0_9 h0_10 h0_11 h0_12 h0_13 h0_14 h0_15 h0_16 w9.2)) (zsome h)) ?_
          exact zq_throw G hlocks hst ht zt_X3_43 dX3_fill_21 dX3_fill_24 dX3_fill_25 dX3_fill_28 ⟨Nat.le_of_ble_eq_true rfl, Nat.le_of_ble_eq_true rfl⟩ rfl rfl (congrArg Prod.fst (zsome h)).symm
set_option maxHeartbeats 4000000 in
set_option maxRecDepth 100000 in
theorem c_X3_forbiddenCount (l : Launch) (D : va_G) (cyI cyZ : ClassId) (h0_0 h0_1 h0_2 h0_3 h0_4 h0_5 h0_6 h0_7 h0_8 h0_9 h0_10 h0_11 h0_12 h0_13 h0_14 h0_15 h0_16 : Nat) (σ0 : zC) (r : Int32) (h : s_X3_forbiddenCount σ0 = some r) (sz : Nat) : zMi l yX3_forbiddenCount cX3_forbiddenCount 4 .int 2 43 D cyI cyZ sz [.ref h0_0] (w_C cyI cyZ h0_0 h0_1 h0_2 h0_3 h0_4 h0_5 h0_6 h0_7 h0_8 h0_9 h0_10 h0_11 h0_12 h0_13 h0_14 h0_15 h0_16 σ0) r (w_C cyI cyZ h0_0 h0_1 h0_2 h0_3 h0_4 h0_5 h0_6 h0_7 h0_8 h0_9 h0_10 h0_11 h0_12 h0_13 h0_14 h0_15 h0_16 σ0) := by
  unfold s_X3_forbiddenCount at h
  refine zstartI (lv0 := [(0, .ref h0_0)]) (by decide) (Nat.le_of_ble_eq_true rfl) rfl (fun p e s m args below meth c G hr hlocks => ?_)
  have b17 : ∀ (k4 : (zC → Int32 → Int32 → Option (Int32))) (hk4 : ∀ (x1 : Int32) (x2 : Int32), k4 σ0 x1 x2 = some r → zW p l e ({ frames := 2, cells := 0, slots := 0, locals := 43 } : Room) s m args below meth c D (va_A (w_C cyI cyZ h0_0 h0_1 h0_2 h0_3 h0_4 h0_5 h0_6 h0_7 h0_8 h0_9 h0_10 h0_11 h0_12 h0_13 h0_14 h0_15 h0_16 σ0) sz) 4 0 0 (MQ below (zQi D cyI cyZ sz (w_C cyI cyZ h0_0 h0_1 h0_2 h0_3 h0_4 h0_5 h0_6 h0_7 h0_8 h0_9 h0_10 h0_11 h0_12 h0_13 h0_14 h0_15 h0_16 σ0) r (w_C cyI cyZ h0_0 h0_1 h0_2 h0_3 h0_4 h0_5 h0_6 h0_7 h0_8 h0_9 h0_10 h0_11 h0_12 h0_13 h0_14 h0_15 h0_16 σ0)) args s 0 0 (va_A (w_C cyI cyZ h0_0 h0_1 h0_2 h0_3 h0_4 h0_5 h0_6 h0_7 h0_8 h0_9 h0_10 h0_11 h0_12 h0_13 h0_14 h0_15 h0_16 σ0) sz)) 4 [(0, .ref h0_0), (1, .int x1), (2, .int x2)] [] (w_C cyI cyZ h0_0 h0_1 h0_2 h0_3 h0_4 h0_5 h0_6 h0_7 h0_8 h0_9 h0_10 h0_11 h0_12 h0_13 h0_14 h0_15 h0_16 σ0)) (n : Nat) (x1 : Int32) (x2 : Int32) (x3 : Int32), s_X3_forbiddenCount_17 k4 n σ0 x1 x2 x3 = some r → zW p l e ({ frames := 2, cells := 0, slots := 0, locals := 43 } : Room) s m args below meth c D (va_A (w_C cyI cyZ h0_0 h0_1 h0_2 h0_3 h0_4 h0_5 h0_6 h0_7 h0_8 h0_9 h0_10 h0_11 h0_12 h0_13 h0_14 h0_15 h0_16 σ0) sz) 4 0 0 (MQ below (zQi D cyI cyZ sz (w_C cyI cyZ h0_0 h0_1 h0_2 h0_3 h0_4 h0_5 h0_6 h0_7 h0_8 h0_9 h0_10 h0_11 h0_12 h0_13 h0_14 h0_15 h0_16 σ0) r (w_C cyI cyZ h0_0 h0_1 h0_2 h0_3 h0_4 h0_5 h0_6 h0_7 h0_8 h0_9 h0_10 h0_11 h0_12 h0_13 h0_14 h0_15 h0_16 σ0)) args s 0 0 (va_A (w_C cyI cyZ h0_0 h0_1 h0_2 h0_3 h0_4 h0_5 h0_6 h0_7 h0_8 h0_9 h0_10 h0_11 h0_12 h0_13 h0_14 h0_15 h0_16 σ0) sz)) 17 [(0, .ref h0_0), (1, .int x1), (2, .int x2), (3, .int x3)] [] (w_C cyI cyZ h0_0 h0_1 h0_2 h0_3 h0_4 h0_5 h0_6 h0_7 h0_8 h0_9 h0_10 h0_11 h0_12 h0_13 h0_14 h0_15 h0_16 σ0) := by
    intro k4 hk4
    intro n
    induction n with
    | zero => intro x1 x2 x3 h; rw [s_X3_forbiddenCount_17] at h; exact nomatch h
    | succ n ih =>
      intro x1 x2 x3 h
      rw [s_X3_forbiddenCount_17] at h
      refine zq_iload_n (q := 18) G dX3_forbiddenCount_17 3 rfl rfl rfl ?_
      refine zq_aload_n (q := 19) G dX3_forbiddenCount_18 0 rfl rfl rfl ?_
      refine zq_get (q := 22) G zu_X3 rfl zw_X3_f12 dX3_forbiddenCount_19 0 0 rfl (by decide) ⟨⟨rfl, rfl⟩, rfl⟩ rfl rfl ?_
      refine zq_getN (q := 25) G zu_X1 rfl zw_X3_f72 dX3_forbiddenCount_22 1 1 rfl (by decide) ⟨⟨rfl, rfl⟩, rfl⟩ rfl rfl ?_
      refine zq_icmp_ge (tgt := 49) (q := 28) G dX3_forbiddenCount_25 (by decide) rfl (fun c1 => ?_) (fun c1 => ?_)
      · have h := zit h c1
        refine zq_iinc (q := 52) (v := (x2 + 1)) (lv2 := [(2, .int (x2 + 1)), (0, .ref h0_0), (1, .int x1), (3, .int x3)]) G dX3_forbiddenCount_49 2 rfl rfl (by decide) rfl rfl ?_
        refine zq_goto (q := 4) G dX3_forbiddenCount_52 (by decide) ?_
        exact zq_sub _ [1, 2, 0] rfl (hk4 _ _ h)
      · have h := zie h c1
        refine zq_aload_n (q := 29) G dX3_forbiddenCount_28 0 rfl rfl rfl ?_
        refine zq_get (q := 32) G zu_X3 rfl zw_X3_f12 dX3_forbiddenCount_29 0 0 rfl (by decide) ⟨⟨rfl, rfl⟩, rfl⟩ rfl rfl ?_
        refine zq_iload_n (q := 33) G dX3_forbiddenCount_32 2 rfl rfl rfl ?_
        refine zq_iload_n (q := 34) G dX3_forbiddenCount_33 3 rfl rfl rfl ?_
        obtain ⟨z2, hc2, h⟩ := zbd h
        refine zq_callVi (q := 37) (ws2 := (w_C cyI cyZ h0_0 h0_1 h0_2 h0_3 h0_4 h0_5 h0_6 h0_7 h0_8 h0_9 h0_10 h0_11 h0_12 h0_13 h0_14 h0_15 h0_16 σ0)) (isC := [1, 2, 3]) (isR := [0, 4, 5, 6, 7, 8, 9, 10, 11, 12, 13, 14, 15, 16]) (perm := [0, 14, 15, 16, 1, 2, 3, 4, 5, 6, 7, 8, 9, 10, 11, 12, 13]) (rest := []) (As := [.int x2, .int x3]) G zs_X3_133 dX3_forbiddenCount_34 (fun sz9 => c_X1_isForbidden l D cyI cyZ h0_1 h0_2 h0_3 σ0.1 x2 x3 z2 hc2 sz9) 1 rfl rfl rfl ⟨rfl, rfl, rfl, rfl⟩ rfl (Nat.le_of_ble_eq_true rfl) ⟨Nat.le_of_ble_eq_true rfl, Nat.le_of_ble_eq_true rfl, Nat.zero_le _, Nat.zero_le _⟩ rfl ?_
        refine zq_if_eq (tgt := 43) (q := 40) G dX3_forbiddenCount_37 (by decide) rfl (fun c3 => ?_) (fun c3 => ?_)
        · have h := zit h c3
          refine zq_iinc (q := 46) (v := (x3 + 1)) (lv2 := [(3, .int (x3 + 1)), (0, .ref h0_0), (1, .int x1), (2, .int x2)]) G dX3_forbiddenCount_43 3 rfl rfl (by decide) rfl rfl ?_
          refine zq_goto (q := 17) G dX3_forbiddenCount_46 (by decide) ?_
          exact zq_sub _ [1, 2, 3, 0] rfl (ih _ _ _ h)
        · have h := zie h c3
          refine zq_iinc (q := 43) (v := (x1 + 1)) (lv2 := [(1, .int (x1 + 1)), (0, .ref h0_0), (2, .int x2), (3, .int x3)]) G dX3_forbiddenCount_40 1 rfl rfl (by decide) rfl rfl ?_
          refine zq_iinc (q := 46) (v := (x3 + 1)) (lv2 := [(3, .int (x3 + 1)), (1, .int (x1 + 1)), (0, .ref h0_0), (2, .int x2)]) G dX3_forbiddenCount_43 3 rfl rfl (by decide) rfl rfl ?_
          refine zq_goto (q := 17) G dX3_forbiddenCount_46 (by decide) ?_
          exact zq_sub _ [2, 1, 3, 0] rfl (ih _ _ _ h)
  have b4 : ∀ (n : Nat) (x1 : Int32) (x2 : Int32), s_X3_forbiddenCount_4 n σ0 x1 x2 = some r → zW p l e ({ frames := 2, cells := 0, slots := 0, locals := 43 } : Room) s m args below meth c D (va_A (w_C cyI cyZ h0_0 h0_1 h0_2 h0_3 h0_4 h0_5 h0_6 h0_7 h0_8 h0_9 h0_10 h0_11 h0_12 h0_13 h0_14 h0_15 h0_16 σ0) sz) 4 0 0 (MQ below (zQi D cyI cyZ sz (w_C cyI cyZ h0_0 h0_1 h0_2 h0_3 h0_4 h0_5 h0_6 h0_7 h0_8 h0_9 h0_10 h0_11 h0_12 h0_13 h0_14 h0_15 h0_16 σ0) r (w_C cyI cyZ h0_0 h0_1 h0_2 h0_3 h0_4 h0_5 h0_6 h0_7 h0_8 h0_9 h0_10 h0_11 h0_12 h0_13 h0_14 h0_15 h0_16 σ0)) args s 0 0 (va_A (w_C cyI cyZ h0_0 h0_1 h0_2 h0_3 h0_4 h0_5 h0_6 h0_7 h0_8 h0_9 h0_10 h0_11 h0_12 h0_13 h0_14 h0_15 h0_16 σ0) sz)) 4 [(0, .ref h0_0), (1, .int x1), (2, .int x2)] [] (w_C cyI cyZ h0_0 h0_1 h0_2 h0_3 h0_4 h0_5 h0_6 h0_7 h0_8 h0_9 h0_10 h0_11 h0_12 h0_13 h0_14 h0_15 h0_16 σ0) := by
    intro n
    induction n with
    | zero => intro x1 x2 h; rw [s_X3_forbiddenCount_4] at h; exact nomatch h
    | succ n ih =>
      intro x1 x2 h
      rw [s_X3_forbiddenCount_4] at h
      refine zq_iload_n (q := 5) G dX3_forbiddenCount_4 2 rfl rfl rfl ?_
      refine zq_aload_n (q := 6) G dX3_forbiddenCount_5 0 rfl rfl rfl ?_
      refine zq_get (q := 9) G zu_X3 rfl zw_X3_f12 dX3_forbiddenCount_6 0 0 rfl (by decide) ⟨⟨rfl, rfl⟩, rfl⟩ rfl rfl ?_
      refine zq_getN (q := 12) G zu_X1 rfl zw_X3_f83 dX3_forbiddenCount_9 1 0 rfl (by decide) ⟨⟨rfl, rfl⟩, rfl⟩ rfl rfl ?_
      refine zq_icmp_ge (tgt := 55) (q := 15) G dX3_forbiddenCount_12 (by decide) rfl (fun c1 => ?_) (fun c1 => ?_)
      · have h := zit h c1
        refine zq_iload_n (q := 56) G dX3_forbiddenCount_55 1 rfl rfl rfl ?_
        exact zq_iret G hlocks hr rfl dX3_forbiddenCount_56 (zsome h)
      · have h := zie h c1
        refine zq_iconst (q := 16) (v := 0) G dX3_forbiddenCount_15 (by decide) rfl ?_
        refine zq_istore_n (q := 17) (lv2 := [(3, .int (0 : Int32)), (0, .ref h0_0), (1, .int x1), (2, .int x2)]) G dX3_forbiddenCount_16 rfl (by decide) rfl rfl ?_
        exact zq_sub _ [1, 2, 3, 0] rfl (b17 _ ih _ _ _ _ h)
  refine zq_iconst (q := 1) (v := 0) G dX3_forbiddenCount_0 (by decide) rfl ?_
  refine zq_istore_n (q := 2) (lv2 := [(1, .int (0 : Int32)), (0, .ref h0_0)]) G dX3_forbiddenCount_1 rfl (by decide) rfl rfl ?_
  refine zq_iconst (q := 3) (v := 0) G dX3_forbiddenCount_2 (by decide) rfl ?_
  refine zq_istore_n (q := 4) (lv2 := [(2, .int (0 : Int32)), (1, .int (0 : Int32)), (0, .ref h0_0)]) G dX3_forbiddenCount_3 rfl (by decide) rfl rfl ?_
  exact zq_sub _ [2, 1, 0] rfl (b4  _ _ _ h)
set_option maxHeartbeats 4000000 in
set_option maxRecDepth 100000 in
theorem c_X3_setForbidden (l : Launch) (hst : l.stackTraces = false) (D : va_G) (cyI cyZ : ClassId) (h0_0 h0_1 h0_2 h0_3 h0_4 h0_5 h0_6 h0_7 h0_8 h0_9 h0_10 h0_11 h0_12 h0_13 h0_14 h0_15 h0_16 : Nat) (σ0 : zC) (p0 : Int32) (p1 : Int32) (p2 : Int32) (z : Sum String Int32) (o0 : zC) (h : s_X3_setForbidden σ0 p0 p1 p2 = some (z, o0)) (sz : Nat) : zXi l yX3_setForbidden cX3_setForbidden 4 .int 9 153 D cyI cyZ sz [.ref h0_0, .int p0, .int p1, .int p2] (w_C cyI cyZ h0_0 h0_1 h0_2 h0_3 h0_4 h0_5 h0_6 h0_7 h0_8 h0_9 h0_10 h0_11 h0_12 h0_13 h0_14 h0_15 h0_16 σ0) z (w_C cyI cyZ h0_0 h0_1 h0_2 h0_3 h0_4 h0_5 h0_6 h0_7 h0_8 h0_9 h0_10 h0_11 h0_12 h0_13 h0_14 h0_15 h0_16 o0) := by
  unfold s_X3_setForbidden at h
  refine zstartXI (lv0 := [(0, .ref h0_0), (1, .int p0), (2, .int p1), (3, .int p2)]) (by decide) (Nat.le_of_ble_eq_true rfl) rfl (fun p e s m args below meth c G hr hlocks ht => ?_)
  refine zq_aload_n (q := 1) G dX3_setForbidden_0 0 rfl rfl rfl ?_
  refine zq_iload_n (q := 2) G dX3_setForbidden_1 1 rfl rfl rfl ?_
  refine zq_iload_n (q := 3) G dX3_setForbidden_2 2 rfl rfl rfl ?_
  obtain ⟨z1, hc1, h⟩ := zbd h
  rcases zsum z1 with ⟨E1, e1⟩ | ⟨r1, e1⟩
  · have h := zselL2 h e1
    exact zq_outVv (ws2 := (w_C cyI cyZ h0_0 h0_1 h0_2 h0_3 h0_4 h0_5 h0_6 h0_7 h0_8 h0_9 h0_10 h0_11 h0_12 h0_13 h0_14 h0_15 h0_16 σ0)) (isC := [0, 1, 2, 3, 4, 5, 6, 7, 8, 9, 10, 11, 12, 13, 14, 15, 16]) (isR := []) (perm := [0, 1, 2, 3, 4, 5, 6, 7, 8, 9, 10, 11, 12, 13, 14, 15, 16]) (rest := []) (As := [.int p0, .int p1]) G hlocks ht zs_X3_53 dX3_setForbidden_3 (fun sz9 => c_X3_requireRealCell l hst D cyI cyZ h0_0 h0_1 h0_2 h0_3 h0_4 h0_5 h0_6 h0_7 h0_8 h0_9 h0_10 h0_11 h0_12 h0_13 h0_14 h0_15 h0_16 σ0 p0 p1 (.inl E1) (hc1.trans (congrArg some e1)) sz9) 0 rfl rfl rfl ⟨rfl, rfl, rfl, rfl⟩ rfl (Nat.le_of_ble_eq_true rfl) ⟨Nat.le_of_ble_eq_true rfl, Nat.le_of_ble_eq_true rfl⟩ rfl rfl (congrArg Prod.fst (zsome h)).symm (congrArg (fun w9 => (w_C cyI cyZ h0_0 h0_1 h0_2 h0_3 h0_4 h0_5 h0_6 h0_7 h0_8 h0_9 h0_10 h0_11 h0_12 h0_13 h0_14 h0_15 h0_16 w9.2)) (zsome h))
  · have h := zselR2 h e1
    refine zq_callVv (q := 6) (ws2 := (w_C cyI cyZ h0_0 h0_1 h0_2 h0_3 h0_4 h0_5 h0_6 h0_7 h0_8 h0_9 h0_10 h0_11 h0_12 h0_13 h0_14 h0_15 h0_16 σ0)) (isC := [0, 1, 2, 3, 4, 5, 6, 7, 8, 9, 10, 11, 12, 13, 14, 15, 16]) (isR := []) (perm := [0, 1, 2, 3, 4, 5, 6, 7, 8, 9, 10, 11, 12, 13, 14, 15, 16]) (rest := []) (As := [.int p0, .int p1]) G zs_X3_53 dX3_setForbidden_3 (fun sz9 => zXv_ret (c_X3_requireRealCell l hst D cyI cyZ h0_0 h0_1 h0_2 h0_3 h0_4 h0_5 h0_6 h0_7 h0_8 h0_9 h0_10 h0_11 h0_12 h0_13 h0_14 h0_15 h0_16 σ0 p0 p1 (.inr r1) (hc1.trans (congrArg some e1)) sz9)) 0 rfl rfl rfl ⟨rfl, rfl, rfl, rfl⟩ rfl (Nat.le_of_ble_eq_true rfl) ⟨Nat.le_of_ble_eq_true rfl, Nat.le_of_ble_eq_true rfl, Nat.zero_le _, Nat.zero_le _⟩ rfl ?_
    refine zq_aload_n (q := 7) G dX3_setForbidden_6 0 rfl rfl rfl ?_
    refine zq_get (q := 10) G zu_X3 rfl zw_X3_f12 dX3_setForbidden_7 0 0 rfl (by decide) ⟨⟨rfl, rfl⟩, rfl⟩ rfl rfl ?_
    refine zq_iload_n (q := 11) G dX3_setForbidden_10 1 rfl rfl rfl ?_
    refine zq_iload_n (q := 12) G dX3_setForbidden_11 2 rfl rfl rfl ?_
    refine zq_iload_n (q := 13) G dX3_setForbidden_12 3 rfl rfl rfl ?_
    obtain ⟨z2, hc2, h⟩ := zbd h
    refine zq_callVv (q := 16) (ws2 := (w_C cyI cyZ h0_0 h0_1 h0_2 h0_3 h0_4 h0_5 h0_6 h0_7 h0_8 h0_9 h0_10 h0_11 h0_12 h0_13 h0_14 h0_15 h0_16 (z2, σ0.2.1, σ0.2.2.1, σ0.2.2.2.1, σ0.2.2.2.2.1, σ0.2.2.2.2.2.1, σ0.2.2.2.2.2.2))) (isC := [1, 2, 3]) (isR := [0, 4, 5, 6, 7, 8, 9, 10, 11, 12, 13, 14, 15, 16]) (perm := [0, 14, 15, 16, 1, 2, 3, 4, 5, 6, 7, 8, 9, 10, 11, 12, 13]) (rest := []) (As := [.int p0, .int p1, .int p2]) G zs_X3_86 dX3_setForbidden_13 (fun sz9 => c_X1_putForbidden l D cyI cyZ h0_1 h0_2 h0_3 σ0.1 p0 p1 p2 z2 hc2 sz9) 1 rfl rfl rfl ⟨rfl, rfl, rfl, rfl⟩ rfl (Nat.le_of_ble_eq_true rfl) ⟨Nat.le_of_ble_eq_true rfl, Nat.le_of_ble_eq_true rfl, Nat.zero_le _, Nat.zero_le _⟩ rfl ?_
    refine zq_aload_n (q := 17) G dX3_setForbidden_16 0 rfl rfl rfl ?_
    refine zq_get (q := 20) G zu_X3 rfl zw_X3_f39 dX3_setForbidden_17 0 6 rfl (by decide) ⟨⟨rfl, rfl⟩, rfl⟩ rfl rfl ?_
    obtain ⟨z3, hc3, h⟩ := zbd h
    refine zq_callVv (q := 23) (ws2 := (w_C cyI cyZ h0_0 h0_1 h0_2 h0_3 h0_4 h0_5 h0_6 h0_7 h0_8 h0_9 h0_10 h0_11 h0_12 h0_13 h0_14 h0_15 h0_16 (z2, σ0.2.1, σ0.2.2.1, σ0.2.2.2.1, σ0.2.2.2.2.1, σ0.2.2.2.2.2.1, z3))) (isC := [15, 16]) (isR := [0, 1, 2, 3, 4, 5, 6, 7, 8, 9, 10, 11, 12, 13, 14]) (perm := [0, 1, 2, 3, 4, 5, 6, 7, 8, 9, 10, 11, 12, 13, 14, 15, 16]) (rest := []) (As := []) G zs_X3_50 dX3_setForbidden_20 (fun sz9 => c_X2_cancel l D cyI cyZ h0_15 h0_16 σ0.2.2.2.2.2.2 z3 hc3 sz9) 15 rfl rfl rfl ⟨rfl, rfl, rfl, rfl⟩ rfl (Nat.le_of_ble_eq_true rfl) ⟨Nat.le_of_ble_eq_true rfl, Nat.le_of_ble_eq_true rfl, Nat.zero_le _, Nat.zero_le _⟩ rfl ?_
    refine zq_aload_n (q := 24) G dX3_setForbidden_23 0 rfl rfl rfl ?_
    obtain ⟨z4, hc4, h⟩ := zbd h
    refine zq_callVi (q := 27) (ws2 := (w_C cyI cyZ h0_0 h0_1 h0_2 h0_3 h0_4 h0_5 h0_6 h0_7 h0_8 h0_9 h0_10 h0_11 h0_12 h0_13 h0_14 h0_15 h0_16 (z2, σ0.2.1, σ0.2.2.1, σ0.2.2.2.1, σ0.2.2.2.2.1, σ0.2.2.2.2.2.1, z3))) (isC := [0, 1, 2, 3, 4, 5, 6, 7, 8, 9, 10, 11, 12, 13, 14, 15, 16]) (isR := []) (perm := [0, 1, 2, 3, 4, 5, 6, 7, 8, 9, 10, 11, 12, 13, 14, 15, 16]) (rest := []) (As := []) G zs_X3_90 dX3_setForbidden_24 (fun sz9 => c_X3_forbiddenCount l D cyI cyZ h0_0 h0_1 h0_2 h0_3 h0_4 h0_5 h0_6 h0_7 h0_8 h0_9 h0_10 h0_11 h0_12 h0_13 h0_14 h0_15 h0_16 (z2, σ0.2.1, σ0.2.2.1, σ0.2.2.2.1, σ0.2.2.2.2.1, σ0.2.2.2.2.2.1, z3) z4 hc4 sz9) 0 rfl rfl rfl ⟨rfl, rfl, rfl, rfl⟩ rfl (Nat.le_of_ble_eq_true rfl) ⟨Nat.le_of_ble_eq_true rfl, Nat.le_of_ble_eq_true rfl, Nat.zero_le _, Nat.zero_le _⟩ rfl ?_
    refine zq_ws (congrArg (fun w9 => (w_C cyI cyZ h0_0 h0_1 h0_2 h0_3 h0_4 h0_5 h0_6 h0_7 h0_8 h0_9 h0_10 h0_11 h0_12 h0_13 h0_14 h0_15 h0_16 w9.2)) (zsome h)) ?_
    exact zq_iretX G hlocks hr rfl dX3_setForbidden_27 (congrArg Prod.fst (zsome h)).symm
set_option maxHeartbeats 4000000 in
set_option maxRecDepth 100000 in
theorem c_X3_isColumn (l : Launch) (D : va_G) (cyI cyZ : ClassId) (h0_0 h0_1 h0_2 h0_3 h0_4 h0_5 h0_6 h0_7 h0_8 h0_9 h0_10 h0_11 h0_12 h0_13 h0_14 h0_15 h0_16 : Nat) (σ0 : zC) (p0 : Int32) (r : Int32) (h : s_X3_isColumn σ0 p0 = some r) (sz : Nat) : zMi l yX3_isColumn cX3_isColumn 2 .boolean 0 0 D cyI cyZ sz [.ref h0_0, .int p0] (w_C cyI cyZ h0_0 h0_1 h0_2 h0_3 h0_4 h0_5 h0_6 h0_7 h0_8 h0_9 h0_10 h0_11 h0_12 h0_13 h0_14 h0_15 h0_16 σ0) r (w_C cyI cyZ h0_0 h0_1 h0_2 h0_3 h0_4 h0_5 h0_6 h0_7 h0_8 h0_9 h0_10 h0_11 h0_12 h0_13 h0_14 h0_15 h0_16 σ0) := by
  unfold s_X3_isColumn at h
  refine zstartI (lv0 := [(0, .ref h0_0), (1, .int p0)]) (by decide) (Nat.le_of_ble_eq_true rfl) rfl (fun p e s m args below meth c G hr hlocks => ?_)
  refine zq_iload_n (q := 1) G dX3_isColumn_0 1 rfl rfl rfl ?_
  refine zq_if_lt (tgt := 19) (q := 4) G dX3_isColumn_1 (by decide) rfl (fun c1 => ?_) (fun c1 => ?_)
  · have h := zit h c1
    refine zq_iconst (q := 20) (v := 0) G dX3_isColumn_19 (by decide) rfl ?_
    exact zq_iret G hlocks hr rfl dX3_isColumn_20 (zsome h)
  · have h := zie h c1
    refine zq_iload_n (q := 5) G dX3_isColumn_4 1 rfl rfl rfl ?_
    refine zq_aload_n (q := 6) G dX3_isColumn_5 0 rfl rfl rfl ?_
    refine zq_get (q := 9) G zu_X3 rfl zw_X3_f12 dX3_isColumn_6 0 0 rfl (by decide) ⟨⟨rfl, rfl⟩, rfl⟩ rfl rfl ?_
    refine zq_getN (q := 12) G zu_X1 rfl zw_X3_f83 dX3_isColumn_9 1 0 rfl (by decide) ⟨⟨rfl, rfl⟩, rfl⟩ rfl rfl ?_
    refine zq_icmp_ge (tgt := 19) (q := 15) G dX3_isColumn_12 (by decide) rfl (fun c2 => ?_) (fun c2 => ?_)
    · have h := zit h c2
      refine zq_iconst (q := 20) (v := 0) G dX3_isColumn_19 (by decide) rfl ?_
      exact zq_iret G hlocks hr rfl dX3_isColumn_20 (zsome h)
    · have h := zie h c2
      refine zq_iconst (q := 16) (v := 1) G dX3_isColumn_15 (by decide) rfl ?_
      refine zq_goto (q := 20) G dX3_isColumn_16 (by decide) ?_
      exact zq_iret G hlocks hr rfl dX3_isColumn_20 (zsome h)
set_option maxHeartbeats 4000000 in
set_option maxRecDepth 100000 in
theorem c_X3_requireColumn (l : Launch) (hst : l.stackTraces = false) (D : va_G) (cyI cyZ : ClassId) (h0_0 h0_1 h0_2 h0_3 h0_4 h0_5 h0_6 h0_7 h0_8 h0_9 h0_10 h0_11 h0_12 h0_13 h0_14 h0_15 h0_16 : Nat) (σ0 : zC) (p0 : Int32) (z : Sum String Unit) (h : s_X3_requireColumn σ0 p0 = some z) (sz : Nat) : zXv l yX3_requireColumn cX3_requireColumn 2 7 110 D cyI cyZ sz [.ref h0_0, .int p0] (w_C cyI cyZ h0_0 h0_1 h0_2 h0_3 h0_4 h0_5 h0_6 h0_7 h0_8 h0_9 h0_10 h0_11 h0_12 h0_13 h0_14 h0_15 h0_16 σ0) z (w_C cyI cyZ h0_0 h0_1 h0_2 h0_3 h0_4 h0_5 h0_6 h0_7 h0_8 h0_9 h0_10 h0_11 h0_12 h0_13 h0_14 h0_15 h0_16 σ0) := by
  unfold s_X3_requireColumn at h
  refine zstartXV (lv0 := [(0, .ref h0_0), (1, .int p0)]) (by decide) (Nat.le_of_ble_eq_true rfl) rfl (fun p e s m args below meth c G hr hlocks ht => ?_)
  refine zq_aload_n (q := 1) G dX3_requireColumn_0 0 rfl rfl rfl ?_
  refine zq_iload_n (q := 2) G dX3_requireColumn_1 1 rfl rfl rfl ?_
  obtain ⟨z1, hc1, h⟩ := zbd h
  refine zq_callVi (q := 5) (ws2 := (w_C cyI cyZ h0_0 h0_1 h0_2 h0_3 h0_4 h0_5 h0_6 h0_7 h0_8 h0_9 h0_10 h0_11 h0_12 h0_13 h0_14 h0_15 h0_16 σ0)) (isC := [0, 1, 2, 3, 4, 5, 6, 7, 8, 9, 10, 11, 12, 13, 14, 15, 16]) (isR := []) (perm := [0, 1, 2, 3, 4, 5, 6, 7, 8, 9, 10, 11, 12, 13, 14, 15, 16]) (rest := []) (As := [.int p0]) G zs_X3_177 dX3_requireColumn_2 (fun sz9 => c_X3_isColumn l D cyI cyZ h0_0 h0_1 h0_2 h0_3 h0_4 h0_5 h0_6 h0_7 h0_8 h0_9 h0_10 h0_11 h0_12 h0_13 h0_14 h0_15 h0_16 σ0 p0 z1 hc1 sz9) 0 rfl rfl rfl ⟨rfl, rfl, rfl, rfl⟩ rfl (Nat.le_of_ble_eq_true rfl) ⟨Nat.le_of_ble_eq_true rfl, Nat.le_of_ble_eq_true rfl, Nat.zero_le _, Nat.zero_le _⟩ rfl ?_
  refine zq_if_ne (tgt := 16) (q := 8) G dX3_requireColumn_5 (by decide) rfl (fun c2 => ?_) (fun c2 => ?_)
  · have h := zie h c2
    exact zq_vretX G hlocks hr dX3_requireColumn_16 (zsome h).symm
  · have h := zit h c2
    exact zq_throw G hlocks hst ht zt_X3_247 dX3_requireColumn_8 dX3_requireColumn_11 dX3_requireColumn_12 dX3_requireColumn_15 ⟨Nat.le_of_ble_eq_true rfl, Nat.le_of_ble_eq_true rfl⟩ rfl rfl (zsome h).symm
set_option maxHeartbeats 4000000 in
set_option maxRecDepth 100000 in
theorem c_X3_requireCell (l : Launch) (hst : l.stackTraces = false) (D : va_G) (cyI cyZ : ClassId) (h0_0 h0_1 h0_2 h0_3 h0_4 h0_5 h0_6 h0_7 h0_8 h0_9 h0_10 h0_11 h0_12 h0_13 h0_14 h0_15 h0_16 : Nat) (σ0 : zC) (p0 : Int32) (p1 : Int32) (z : Sum String Unit) (h : s_X3_requireCell σ0 p0 p1 = some z) (sz : Nat) : zXv l yX3_requireCell cX3_requireCell 3 8 131 D cyI cyZ sz [.ref h0_0, .int p0, .int p1] (w_C cyI cyZ h0_0 h0_1 h0_2 h0_3 h0_4 h0_5 h0_6 h0_7 h0_8 h0_9 h0_10 h0_11 h0_12 h0_13 h0_14 h0_15 h0_16 σ0) z (w_C cyI cyZ h0_0 h0_1 h0_2 h0_3 h0_4 h0_5 h0_6 h0_7 h0_8 h0_9 h0_10 h0_11 h0_12 h0_13 h0_14 h0_15 h0_16 σ0) := by
  unfold s_X3_requireCell at h
  refine zstartXV (lv0 := [(0, .ref h0_0), (1, .int p0), (2, .int p1)]) (by decide) (Nat.le_of_ble_eq_true rfl) rfl (fun p e s m args below meth c G hr hlocks ht => ?_)
  refine zq_aload_n (q := 1) G dX3_requireCell_0 0 rfl rfl rfl ?_
  refine zq_iload_n (q := 2) G dX3_requireCell_1 1 rfl rfl rfl ?_
  obtain ⟨z1, hc1, h⟩ := zbd h
  rcases zsum z1 with ⟨E1, e1⟩ | ⟨r1, e1⟩
  · have h := zselL2 h e1
    exact zq_outVv (ws2 := (w_C cyI cyZ h0_0 h0_1 h0_2 h0_3 h0_4 h0_5 h0_6 h0_7 h0_8 h0_9 h0_10 h0_11 h0_12 h0_13 h0_14 h0_15 h0_16 σ0)) (isC := [0, 1, 2, 3, 4, 5, 6, 7, 8, 9, 10, 11, 12, 13, 14, 15, 16]) (isR := []) (perm := [0, 1, 2, 3, 4, 5, 6, 7, 8, 9, 10, 11, 12, 13, 14, 15, 16]) (rest := []) (As := [.int p0]) G hlocks ht zs_X3_64 dX3_requireCell_2 (fun sz9 => c_X3_requireRow l hst D cyI cyZ h0_0 h0_1 h0_2 h0_3 h0_4 h0_5 h0_6 h0_7 h0_8 h0_9 h0_10 h0_11 h0_12 h0_13 h0_14 h0_15 h0_16 σ0 p0 (.inl E1) (hc1.trans (congrArg some e1)) sz9) 0 rfl rfl rfl ⟨rfl, rfl, rfl, rfl⟩ rfl (Nat.le_of_ble_eq_true rfl) ⟨Nat.le_of_ble_eq_true rfl, Nat.le_of_ble_eq_true rfl⟩ rfl rfl (zsome h).symm rfl
  · have h := zselR2 h e1
    refine zq_callVv (q := 5) (ws2 := (w_C cyI cyZ h0_0 h0_1 h0_2 h0_3 h0_4 h0_5 h0_6 h0_7 h0_8 h0_9 h0_10 h0_11 h0_12 h0_13 h0_14 h0_15 h0_16 σ0)) (isC := [0, 1, 2, 3, 4, 5, 6, 7, 8, 9, 10, 11, 12, 13, 14, 15, 16]) (isR := []) (perm := [0, 1, 2, 3, 4, 5, 6, 7, 8, 9, 10, 11, 12, 13, 14, 15, 16]) (rest := []) (As := [.int p0]) G zs_X3_64 dX3_requireCell_2 (fun sz9 => zXv_ret (c_X3_requireRow l hst D cyI cyZ h0_0 h0_1 h0_2 h0_3 h0_4 h0_5 h0_6 h0_7 h0_8 h0_9 h0_10 h0_11 h0_12 h0_13 h0_14 h0_15 h0_16 σ0 p0 (.inr r1) (hc1.trans (congrArg some e1)) sz9)) 0 rfl rfl rfl ⟨rfl, rfl, rfl, rfl⟩ rfl (Nat.le_of_ble_eq_true rfl) ⟨Nat.le_of_ble_eq_true rfl, Nat.le_of_ble_eq_true rfl, Nat.zero_le _, Nat.zero_le _⟩ rfl ?_
    refine zq_aload_n (q := 6) G dX3_requireCell_5 0 rfl rfl rfl ?_
    refine zq_iload_n (q := 7) G dX3_requireCell_6 2 rfl rfl rfl ?_
    obtain ⟨z2, hc2, h⟩ := zbd h
    rcases zsum z2 with ⟨E2, e2⟩ | ⟨r2, e2⟩
    · have h := zselL2 h e2
      exact zq_outVv (ws2 := (w_C cyI cyZ h0_0 h0_1 h0_2 h0_3 h0_4 h0_5 h0_6 h0_7 h0_8 h0_9 h0_10 h0_11 h0_12 h0_13 h0_14 h0_15 h0_16 σ0)) (isC := [0, 1, 2, 3, 4, 5, 6, 7, 8, 9, 10, 11, 12, 13, 14, 15, 16]) (isR := []) (perm := [0, 1, 2, 3, 4, 5, 6, 7, 8, 9, 10, 11, 12, 13, 14, 15, 16]) (rest := []) (As := [.int p1]) G hlocks ht zs_X3_152 dX3_requireCell_7 (fun sz9 => c_X3_requireColumn l hst D cyI cyZ h0_0 h0_1 h0_2 h0_3 h0_4 h0_5 h0_6 h0_7 h0_8 h0_9 h0_10 h0_11 h0_12 h0_13 h0_14 h0_15 h0_16 σ0 p1 (.inl E2) (hc2.trans (congrArg some e2)) sz9) 0 rfl rfl rfl ⟨rfl, rfl, rfl, rfl⟩ rfl (Nat.le_of_ble_eq_true rfl) ⟨Nat.le_of_ble_eq_true rfl, Nat.le_of_ble_eq_true rfl⟩ rfl rfl (zsome h).symm rfl
    · have h := zselR2 h e2
      refine zq_callVv (q := 10) (ws2 := (w_C cyI cyZ h0_0 h0_1 h0_2 h0_3 h0_4 h0_5 h0_6 h0_7 h0_8 h0_9 h0_10 h0_11 h0_12 h0_13 h0_14 h0_15 h0_16 σ0)) (isC := [0, 1, 2, 3, 4, 5, 6, 7, 8, 9, 10, 11, 12, 13, 14, 15, 16]) (isR := []) (perm := [0, 1, 2, 3, 4, 5, 6, 7, 8, 9, 10, 11, 12, 13, 14, 15, 16]) (rest := []) (As := [.int p1]) G zs_X3_152 dX3_requireCell_7 (fun sz9 => zXv_ret (c_X3_requireColumn l hst D cyI cyZ h0_0 h0_1 h0_2 h0_3 h0_4 h0_5 h0_6 h0_7 h0_8 h0_9 h0_10 h0_11 h0_12 h0_13 h0_14 h0_15 h0_16 σ0 p1 (.inr r2) (hc2.trans (congrArg some e2)) sz9)) 0 rfl rfl rfl ⟨rfl, rfl, rfl, rfl⟩ rfl (Nat.le_of_ble_eq_true rfl) ⟨Nat.le_of_ble_eq_true rfl, Nat.le_of_ble_eq_true rfl, Nat.zero_le _, Nat.zero_le _⟩ rfl ?_
      exact zq_vretX G hlocks hr dX3_requireCell_10 (zsome h).symm
set_option maxHeartbeats 4000000 in
set_option maxRecDepth 100000 in
theorem c_X3_costAt (l : Launch) (hst : l.stackTraces = false) (D : va_G) (cyI cyZ : ClassId) (h0_0 h0_1 h0_2 h0_3 h0_4 h0_5 h0_6 h0_7 h0_8 h0_9 h0_10 h0_11 h0_12 h0_13 h0_14 h0_15 h0_16 : Nat) (σ0 : zC) (p0 : Int32) (p1 : Int32) (z : Sum String Int32) (h : s_X3_costAt σ0 p0 p1 = some z) (sz : Nat) : zXi l yX3_costAt cX3_costAt 3 .int 9 153 D cyI cyZ sz [.ref h0_0, .int p0, .int p1] (w_C cyI cyZ h0_0 h0_1 h0_2 h0_3 h0_4 h0_5 h0_6 h0_7 h0_8 h0_9 h0_10 h0_11 h0_12 h0_13 h0_14 h0_15 h0_16 σ0) z (w_C cyI cyZ h0_0 h0_1 h0_2 h0_3 h0_4 h0_5 h0_6 h0_7 h0_8 h0_9 h0_10 h0_11 h0_12 h0_13 h0_14 h0_15 h0_16 σ0) := by
  unfold s_X3_costAt at h
  refine zstartXI (lv0 := [(0, .ref h0_0), (1, .int p0), (2, .int p1)]) (by decide) (Nat.le_of_ble_eq_true rfl) rfl (fun p e s m args below meth c G hr hlocks ht => ?_)
  refine zq_aload_n (q := 1) G dX3_costAt_0 0 rfl rfl rfl ?_
  refine zq_iload_n (q := 2) G dX3_costAt_1 1 rfl rfl rfl ?_
  refine zq_iload_n (q := 3) G dX3_costAt_2 2 rfl rfl rfl ?_
  obtain ⟨z1, hc1, h⟩ := zbd h
  rcases zsum z1 with ⟨E1, e1⟩ | ⟨r1, e1⟩
  · have h := zselL2 h e1
    exact zq_outVv (ws2 := (w_C cyI cyZ h0_0 h0_1 h0_2 h0_3 h0_4 h0_5 h0_6 h0_7 h0_8 h0_9 h0_10 h0_11 h0_12 h0_13 h0_14 h0_15 h0_16 σ0)) (isC := [0, 1, 2, 3, 4, 5, 6, 7, 8, 9, 10, 11, 12, 13, 14, 15, 16]) (isR := []) (perm := [0, 1, 2, 3, 4, 5, 6, 7, 8, 9, 10, 11, 12, 13, 14, 15, 16]) (rest := []) (As := [.int p0, .int p1]) G hlocks ht zs_X3_94 dX3_costAt_3 (fun sz9 => c_X3_requireCell l hst D cyI cyZ h0_0 h0_1 h0_2 h0_3 h0_4 h0_5 h0_6 h0_7 h0_8 h0_9 h0_10 h0_11 h0_12 h0_13 h0_14 h0_15 h0_16 σ0 p0 p1 (.inl E1) (hc1.trans (congrArg some e1)) sz9) 0 rfl rfl rfl ⟨rfl, rfl, rfl, rfl⟩ rfl (Nat.le_of_ble_eq_true rfl) ⟨Nat.le_of_ble_eq_true rfl, Nat.le_of_ble_eq_true rfl⟩ rfl rfl (zsome h).symm rfl
  · have h := zselR2 h e1
    refine zq_callVv (q := 6) (ws2 := (w_C cyI cyZ h0_0 h0_1 h0_2 h0_3 h0_4 h0_5 h0_6 h0_7 h0_8 h0_9 h0_10 h0_11 h0_12 h0_13 h0_14 h0_15 h0_16 σ0)) (isC := [0, 1, 2, 3, 4, 5, 6, 7, 8, 9, 10, 11, 12, 13, 14, 15, 16]) (isR := []) (perm := [0, 1, 2, 3, 4, 5, 6, 7, 8, 9, 10, 11, 12, 13, 14, 15, 16]) (rest := []) (As := [.int p0, .int p1]) G zs_X3_94 dX3_costAt_3 (fun sz9 => zXv_ret (c_X3_requireCell l hst D cyI cyZ h0_0 h0_1 h0_2 h0_3 h0_4 h0_5 h0_6 h0_7 h0_8 h0_9 h0_10 h0_11 h0_12 h0_13 h0_14 h0_15 h0_16 σ0 p0 p1 (.inr r1) (hc1.trans (congrArg some e1)) sz9)) 0 rfl rfl rfl ⟨rfl, rfl, rfl, rfl⟩ rfl (Nat.le_of_ble_eq_true rfl) ⟨Nat.le_of_ble_eq_true rfl, Nat.le_of_ble_eq_true rfl, Nat.zero_le _, Nat.zero_le _⟩ rfl ?_
    refine zq_aload_n (q := 7) G dX3_costAt_6 0 rfl rfl rfl ?_
    refine zq_get (q := 10) G zu_X3 rfl zw_X3_f12 dX3_costAt_7 0 0 rfl (by decide) ⟨⟨rfl, rfl⟩, rfl⟩ rfl rfl ?_
    refine zq_iload_n (q := 11) G dX3_costAt_10 1 rfl rfl rfl ?_
    refine zq_iload_n (q := 12) G dX3_costAt_11 2 rfl rfl rfl ?_
    obtain ⟨z2, hc2, h⟩ := zbd h
    refine zq_callVi (q := 15) (ws2 := (w_C cyI cyZ h0_0 h0_1 h0_2 h0_3 h0_4 h0_5 h0_6 h0_7 h0_8 h0_9 h0_10 h0_11 h0_12 h0_13 h0_14 h0_15 h0_16 σ0)) (isC := [1, 2, 3]) (isR := [0, 4, 5, 6, 7, 8, 9, 10, 11, 12, 13, 14, 15, 16]) (perm := [0, 14, 15, 16, 1, 2, 3, 4, 5, 6, 7, 8, 9, 10, 11, 12, 13]) (rest := []) (As := [.int p0, .int p1]) G zs_X3_97 dX3_costAt_12 (fun sz9 => c_X1_costOf l D cyI cyZ h0_1 h0_2 h0_3 σ0.1 p0 p1 z2 hc2 sz9) 1 rfl rfl rfl ⟨rfl, rfl, rfl, rfl⟩ rfl (Nat.le_of_ble_eq_true rfl) ⟨Nat.le_of_ble_eq_true rfl, Nat.le_of_ble_eq_true rfl, Nat.zero_le _, Nat.zero_le _⟩ rfl ?_
    exact zq_iretX G hlocks hr rfl dX3_costAt_15 (zsome h).symm
set_option maxHeartbeats 4000000 in
set_option maxRecDepth 100000 in
theorem c_X3_requireAddend (l : Launch) (hst : l.stackTraces = false) (D : va_G) (cyI cyZ : ClassId) (h0_0 h0_1 h0_2 h0_3 h0_4 h0_5 h0_6 h0_7 h0_8 h0_9 h0_10 h0_11 h0_12 h0_13 h0_14 h0_15 h0_16 : Nat) (σ0 : zC) (p0 : Int32) (z : Sum String Unit) (h : s_X3_requireAddend σ0 p0 = some z) (sz : Nat) : zXv l yX3_requireAddend cX3_requireAddend 2 7 110 D cyI cyZ sz [.ref h0_0, .int p0] (w_C cyI cyZ h0_0 h0_1 h0_2 h0_3 h0_4 h0_5 h0_6 h0_7 h0_8 h0_9 h0_10 h0_11 h0_12 h0_13 h0_14 h0_15 h0_16 σ0) z (w_C cyI cyZ h0_0 h0_1 h0_2 h0_3 h0_4 h0_5 h0_6 h0_7 h0_8 h0_9 h0_10 h0_11 h0_12 h0_13 h0_14 h0_15 h0_16 σ0) := by
  unfold s_X3_requireAddend at h
  refine zstartXV (lv0 := [(0, .ref h0_0), (1, .int p0)]) (by decide) (Nat.le_of_ble_eq_true rfl) rfl (fun p e s m args below meth c G hr hlocks ht => ?_)
  refine zq_iload_n (q := 1) G dX3_requireAddend_0 1 rfl rfl rfl ?_
  refine zq_bipush (q := 3) (v := -99) G dX3_requireAddend_1 (by decide) rfl ?_
  refine zq_icmp_lt (tgt := 12) (q := 6) G dX3_requireAddend_3 (by decide) rfl (fun c1 => ?_) (fun c1 => ?_)
  · have h := zit h c1
    exact zq_throw G hlocks hst ht zt_X3_43 dX3_requireAddend_12 dX3_requireAddend_15 dX3_requireAddend_16 dX3_requireAddend_19 ⟨Nat.le_of_ble_eq_true rfl, Nat.le_of_ble_eq_true rfl⟩ rfl rfl (zsome h).symm
  · have h := zie h c1
    refine zq_iload_n (q := 7) G dX3_requireAddend_6 1 rfl rfl rfl ?_
    refine zq_bipush (q := 9) (v := 99) G dX3_requireAddend_7 (by decide) rfl ?_
    refine zq_icmp_le (tgt := 20) (q := 12) G dX3_requireAddend_9 (by decide) rfl (fun c2 => ?_) (fun c2 => ?_)
    · have h := zit h c2
      exact zq_vretX G hlocks hr dX3_requireAddend_20 (zsome h).symm
    · have h := zie h c2
      exact zq_throw G hlocks hst ht zt_X3_43 dX3_requireAddend_12 dX3_requireAddend_15 dX3_requireAddend_16 dX3_requireAddend_19 ⟨Nat.le_of_ble_eq_true rfl, Nat.le_of_ble_eq_true rfl⟩ rfl rfl (zsome h).symm
set_option maxHeartbeats 4000000 in
set_option maxRecDepth 100000 in
theorem c_X3_requireNoDummyColumn (l : Launch) (hst : l.stackTraces = false) (D : va_G) (cyI cyZ : ClassId) (h0_0 h0_1 h0_2 h0_3 h0_4 h0_5 h0_6 h0_7 h0_8 h0_9 h0_10 h0_11 h0_12 h0_13 h0_14 h0_15 h0_16 : Nat) (σ0 : zC) (z : Sum String Unit) (h : s_X3_requireNoDummyColumn σ0 = some z) (sz : Nat) : zXv l yX3_requireNoDummyColumn cX3_requireNoDummyColumn 1 7 110 D cyI cyZ sz [.ref h0_0] (w_C cyI cyZ h0_0 h0_1 h0_2 h0_3 h0_4 h0_5 h0_6 h0_7 h0_8 h0_9 h0_10 h0_11 h0_12 h0_13 h0_14 h0_15 h0_16 σ0) z (w_C cyI cyZ h0_0 h0_1 h0_2 h0_3 h0_4 h0_5 h0_6 h0_7 h0_8 h0_9 h0_10 h0_11 h0_12 h0_13 h0_14 h0_15 h0_16 σ0) := by
  unfold s_X3_requireNoDummyColumn at h
  refine zstartXV (lv0 := [(0, .ref h0_0)]) (by decide) (Nat.le_of_ble_eq_true rfl) rfl (fun p e s m args below meth c G hr hlocks ht => ?_)
  refine zq_aload_n (q := 1) G dX3_requireNoDummyColumn_0 0 rfl rfl rfl ?_
  refine zq_get (q := 4) G zu_X3 rfl zw_X3_f12 dX3_requireNoDummyColumn_1 0 0 rfl (by decide) ⟨⟨rfl, rfl⟩, rfl⟩ rfl rfl ?_
  refine zq_getN (q := 7) G zu_X1 rfl zw_X3_f72 dX3_requireNoDummyColumn_4 1 1 rfl (by decide) ⟨⟨rfl, rfl⟩, rfl⟩ rfl rfl ?_
  refine zq_aload_n (q := 8) G dX3_requireNoDummyColumn_7 0 rfl rfl rfl ?_
  refine zq_get (q := 11) G zu_X3 rfl zw_X3_f12 dX3_requireNoDummyColumn_8 0 0 rfl (by decide) ⟨⟨rfl, rfl⟩, rfl⟩ rfl rfl ?_
  refine zq_getN (q := 14) G zu_X1 rfl zw_X3_f83 dX3_requireNoDummyColumn_11 1 0 rfl (by decide) ⟨⟨rfl, rfl⟩, rfl⟩ rfl rfl ?_
  refine zq_icmp_ge (tgt := 25) (q := 17) G dX3_requireNoDummyColumn_14 (by decide) rfl (fun c1 => ?_) (fun c1 => ?_)
  · have h := zit h c1
    exact zq_vretX G hlocks hr dX3_requireNoDummyColumn_25 (zsome h).symm
  · have h := zie h c1
    exact zq_throw G hlocks hst ht zt_X3_181 dX3_requireNoDummyColumn_17 dX3_requireNoDummyColumn_20 dX3_requireNoDummyColumn_21 dX3_requireNoDummyColumn_24 ⟨Nat.le_of_ble_eq_true rfl, Nat.le_of_ble_eq_true rfl⟩ rfl rfl (zsome h).symm
set_option maxHeartbeats 4000000 in
set_option maxRecDepth 100000 in
theorem c_X3_requireAddable (l : Launch) (hst : l.stackTraces = false) (D : va_G) (cyI cyZ : ClassId) (h0_0 h0_1 h0_2 h0_3 h0_4 h0_5 h0_6 h0_7 h0_8 h0_9 h0_10 h0_11 h0_12 h0_13 h0_14 h0_15 h0_16 : Nat) (σ0 : zC) (p0 : Int32) (p1 : Int32) (p2 : Int32) (z : Sum String Unit) (h : s_X3_requireAddable σ0 p0 p1 p2 = some z) (sz : Nat) : zXv l yX3_requireAddable cX3_requireAddable 5 7 110 D cyI cyZ sz [.ref h0_0, .int p0, .int p1, .int p2] (w_C cyI cyZ h0_0 h0_1 h0_2 h0_3 h0_4 h0_5 h0_6 h0_7 h0_8 h0_9 h0_10 h0_11 h0_12 h0_13 h0_14 h0_15 h0_16 σ0) z (w_C cyI cyZ h0_0 h0_1 h0_2 h0_3 h0_4 h0_5 h0_6 h0_7 h0_8 h0_9 h0_10 h0_11 h0_12 h0_13 h0_14 h0_15 h0_16 σ0) := by
  unfold s_X3_requireAddable at h
  refine zstartXV (lv0 := [(0, .ref h0_0), (1, .int p0), (2, .int p1), (3, .int p2)]) (by decide) (Nat.le_of_ble_eq_true rfl) rfl (fun p e s m args below meth c G hr hlocks ht => ?_)
  refine zq_aload_n (q := 1) G dX3_requireAddable_0 0 rfl rfl rfl ?_
  refine zq_get (q := 4) G zu_X3 rfl zw_X3_f12 dX3_requireAddable_1 0 0 rfl (by decide) ⟨⟨rfl, rfl⟩, rfl⟩ rfl rfl ?_
  refine zq_iload_n (q := 5) G dX3_requireAddable_4 1 rfl rfl rfl ?_
  refine zq_iload_n (q := 6) G dX3_requireAddable_5 2 rfl rfl rfl ?_
  obtain ⟨z1, hc1, h⟩ := zbd h
  refine zq_callVi (q := 9) (ws2 := (w_C cyI cyZ h0_0 h0_1 h0_2 h0_3 h0_4 h0_5 h0_6 h0_7 h0_8 h0_9 h0_10 h0_11 h0_12 h0_13 h0_14 h0_15 h0_16 σ0)) (isC := [1, 2, 3]) (isR := [0, 4, 5, 6, 7, 8, 9, 10, 11, 12, 13, 14, 15, 16]) (perm := [0, 14, 15, 16, 1, 2, 3, 4, 5, 6, 7, 8, 9, 10, 11, 12, 13]) (rest := []) (As := [.int p0, .int p1]) G zs_X3_56 dX3_requireAddable_6 (fun sz9 => c_X1_numberAt l D cyI cyZ h0_1 h0_2 h0_3 σ0.1 p0 p1 z1 hc1 sz9) 1 rfl rfl rfl ⟨rfl, rfl, rfl, rfl⟩ rfl (Nat.le_of_ble_eq_true rfl) ⟨Nat.le_of_ble_eq_true rfl, Nat.le_of_ble_eq_true rfl, Nat.zero_le _, Nat.zero_le _⟩ rfl ?_
  refine zq_iload_n (q := 10) G dX3_requireAddable_9 3 rfl rfl rfl ?_
  refine zq_iadd (q := 11) G dX3_requireAddable_10 rfl ?_
  refine zq_istore (q := 13) (lv2 := [(4, .int (z1 + p2)), (0, .ref h0_0), (1, .int p0), (2, .int p1), (3, .int p2)]) G dX3_requireAddable_11 (by decide) rfl rfl ?_
  refine zq_aload_n (q := 14) G dX3_requireAddable_13 1 rfl rfl rfl ?_
  refine zq_get (q := 17) G zu_X3 rfl zw_X3_f12 dX3_requireAddable_14 0 0 rfl (by decide) ⟨⟨rfl, rfl⟩, rfl⟩ rfl rfl ?_
  refine zq_iload_n (q := 18) G dX3_requireAddable_17 2 rfl rfl rfl ?_
  refine zq_iload_n (q := 19) G dX3_requireAddable_18 3 rfl rfl rfl ?_
  obtain ⟨z2, hc2, h⟩ := zbd h
  refine zq_callVi (q := 22) (ws2 := (w_C cyI cyZ h0_0 h0_1 h0_2 h0_3 h0_4 h0_5 h0_6 h0_7 h0_8 h0_9 h0_10 h0_11 h0_12 h0_13 h0_14 h0_15 h0_16 σ0)) (isC := [1, 2, 3]) (isR := [0, 4, 5, 6, 7, 8, 9, 10, 11, 12, 13, 14, 15, 16]) (perm := [0, 14, 15, 16, 1, 2, 3, 4, 5, 6, 7, 8, 9, 10, 11, 12, 13]) (rest := []) (As := [.int p0, .int p1]) G zs_X3_133 dX3_requireAddable_19 (fun sz9 => c_X1_isForbidden l D cyI cyZ h0_1 h0_2 h0_3 σ0.1 p0 p1 z2 hc2 sz9) 1 rfl rfl rfl ⟨rfl, rfl, rfl, rfl⟩ rfl (Nat.le_of_ble_eq_true rfl) ⟨Nat.le_of_ble_eq_true rfl, Nat.le_of_ble_eq_true rfl, Nat.zero_le _, Nat.zero_le _⟩ rfl ?_
  refine zq_if_ne (tgt := 37) (q := 25) G dX3_requireAddable_22 (by decide) rfl (fun c3 => ?_) (fun c3 => ?_)
  · have h := zie h c3
    exact zq_throw G hlocks hst ht zt_X3_181 dX3_requireAddable_37 dX3_requireAddable_40 dX3_requireAddable_41 dX3_requireAddable_44 ⟨Nat.le_of_ble_eq_true rfl, Nat.le_of_ble_eq_true rfl⟩ rfl rfl (zsome h).symm
  · have h := zit h c3
    refine zq_iload (q := 27) G dX3_requireAddable_25 0 rfl rfl ?_
    refine zq_if_lt (tgt := 37) (q := 30) G dX3_requireAddable_27 (by decide) rfl (fun c4 => ?_) (fun c4 => ?_)
    · have h := zit h c4
      exact zq_throw G hlocks hst ht zt_X3_181 dX3_requireAddable_37 dX3_requireAddable_40 dX3_requireAddable_41 dX3_requireAddable_44 ⟨Nat.le_of_ble_eq_true rfl, Nat.le_of_ble_eq_true rfl⟩ rfl rfl (zsome h).symm
    · have h := zie h c4
      refine zq_iload (q := 32) G dX3_requireAddable_30 0 rfl rfl ?_
      refine zq_bipush (q := 34) (v := 99) G dX3_requireAddable_32 (by decide) rfl ?_
      refine zq_icmp_le (tgt := 45) (q := 37) G dX3_requireAddable_34 (by decide) rfl (fun c5 => ?_) (fun c5 => ?_)
      · have h := zit h c5
        exact zq_vretX G hlocks hr dX3_requireAddable_45 (zsome h).symm
      · have h := zie h c5
        exact zq_throw G hlocks hst ht zt_X3_181 dX3_requireAddable_37 dX3_requireAddable_40 dX3_requireAddable_41 dX3_requireAddable_44 ⟨Nat.le_of_ble_eq_true rfl, Nat.le_of_ble_eq_true rfl⟩ rfl rfl (zsome h).symm
set_option maxHeartbeats 4000000 in
set_option maxRecDepth 100000 in
theorem c_X3_addToRow (l : Launch) (hst : l.stackTraces = false) (D : va_G) (cyI cyZ : ClassId) (h0_0 h0_1 h0_2 h0_3 h0_4 h0_5 h0_6 h0_7 h0_8 h0_9 h0_10 h0_11 h0_12 h0_13 h0_14 h0_15 h0_16 : Nat) (σ0 : zC) (p0 : Int32) (p1 : Int32) (z : Sum String Int32) (o0 : zC) (h : s_X3_addToRow σ0 p0 p1 = some (z, o0)) (sz : Nat) : zXi l yX3_addToRow cX3_addToRow 4 .int 8 134 D cyI cyZ sz [.ref h0_0, .int p0, .int p1] (w_C cyI cyZ h0_0 h0_1 h0_2 h0_3 h0_4 h0_5 h0_6 h0_7 h0_8 h0_9 h0_10 h0_11 h0_12 h0_13 h0_14 h0_15 h0_16 σ0) z (w_C cyI cyZ h0_0 h0_1 h0_2 h0_3 h0_4 h0_5 h0_6 h0_7 h0_8 h0_9 h0_10 h0_11 h0_12 h0_13 h0_14 h0_15 h0_16 o0) := by
  unfold s_X3_addToRow at h
  refine zstartXI (lv0 := [(0, .ref h0_0), (1, .int p0), (2, .int p1)]) (by decide) (Nat.le_of_ble_eq_true rfl) rfl (fun p e s m args below meth c G hr hlocks ht => ?_)
  have b42 : ∀ (n : Nat) (τ0 : zC) (x1 : Int32) (x2 : Int32) (x3 : Int32), s_X3_addToRow_42 n τ0 x1 x2 x3 = some (z, o0) → zW p l e ({ frames := 8, cells := zmc z, slots := zms z, locals := 134 } : Room) s m args below meth c D (va_A (w_C cyI cyZ h0_0 h0_1 h0_2 h0_3 h0_4 h0_5 h0_6 h0_7 h0_8 h0_9 h0_10 h0_11 h0_12 h0_13 h0_14 h0_15 h0_16 σ0) sz) 4 0 0 (vx_MQ below (zQXi D cyI cyZ sz (w_C cyI cyZ h0_0 h0_1 h0_2 h0_3 h0_4 h0_5 h0_6 h0_7 h0_8 h0_9 h0_10 h0_11 h0_12 h0_13 h0_14 h0_15 h0_16 σ0) z (w_C cyI cyZ h0_0 h0_1 h0_2 h0_3 h0_4 h0_5 h0_6 h0_7 h0_8 h0_9 h0_10 h0_11 h0_12 h0_13 h0_14 h0_15 h0_16 o0)) (zXC D cyI cyZ sz (w_C cyI cyZ h0_0 h0_1 h0_2 h0_3 h0_4 h0_5 h0_6 h0_7 h0_8 h0_9 h0_10 h0_11 h0_12 h0_13 h0_14 h0_15 h0_16 σ0) z (w_C cyI cyZ h0_0 h0_1 h0_2 h0_3 h0_4 h0_5 h0_6 h0_7 h0_8 h0_9 h0_10 h0_11 h0_12 h0_13 h0_14 h0_15 h0_16 o0)) args s (zmc z) (zms z) (va_A (w_C cyI cyZ h0_0 h0_1 h0_2 h0_3 h0_4 h0_5 h0_6 h0_7 h0_8 h0_9 h0_10 h0_11 h0_12 h0_13 h0_14 h0_15 h0_16 σ0) sz)) 42 [(0, .ref h0_0), (1, .int x1), (2, .int x2), (3, .int x3)] [] (w_C cyI cyZ h0_0 h0_1 h0_2 h0_3 h0_4 h0_5 h0_6 h0_7 h0_8 h0_9 h0_10 h0_11 h0_12 h0_13 h0_14 h0_15 h0_16 τ0) := by
    intro n
    induction n with
    | zero => intro τ0 x1 x2 x3 h; rw [s_X3_addToRow_42] at h; exact nomatch h
    | succ n ih =>
      intro τ0 x1 x2 x3 h
      rw [s_X3_addToRow_42] at h
      refine zq_iload_n (q := 43) G dX3_addToRow_42 3 rfl rfl rfl ?_
      refine zq_aload_n (q := 44) G dX3_addToRow_43 0 rfl rfl rfl ?_
      refine zq_get (q := 47) G zu_X3 rfl zw_X3_f12 dX3_addToRow_44 0 0 rfl (by decide) ⟨⟨rfl, rfl⟩, rfl⟩ rfl rfl ?_
      refine zq_getN (q := 50) G zu_X1 rfl zw_X3_f72 dX3_addToRow_47 1 1 rfl (by decide) ⟨⟨rfl, rfl⟩, rfl⟩ rfl rfl ?_
      refine zq_icmp_ge (tgt := 79) (q := 53) G dX3_addToRow_50 (by decide) rfl (fun c1 => ?_) (fun c1 => ?_)
      · have h := zit h c1
        refine zq_aload_n (q := 80) G dX3_addToRow_79 0 rfl rfl rfl ?_
        refine zq_get (q := 83) G zu_X3 rfl zw_X3_f39 dX3_addToRow_80 0 6 rfl (by decide) ⟨⟨rfl, rfl⟩, rfl⟩ rfl rfl ?_
        obtain ⟨z2, hc2, h⟩ := zbd h
        refine zq_callVv (q := 86) (ws2 := (w_C cyI cyZ h0_0 h0_1 h0_2 h0_3 h0_4 h0_5 h0_6 h0_7 h0_8 h0_9 h0_10 h0_11 h0_12 h0_13 h0_14 h0_15 h0_16 (τ0.1, τ0.2.1, τ0.2.2.1, τ0.2.2.2.1, τ0.2.2.2.2.1, τ0.2.2.2.2.2.1, z2))) (isC := [15, 16]) (isR := [0, 1, 2, 3, 4, 5, 6, 7, 8, 9, 10, 11, 12, 13, 14]) (perm := [0, 1, 2, 3, 4, 5, 6, 7, 8, 9, 10, 11, 12, 13, 14, 15, 16]) (rest := []) (As := []) G zs_X3_50 dX3_addToRow_83 (fun sz9 => c_X2_cancel l D cyI cyZ h0_15 h0_16 τ0.2.2.2.2.2.2 z2 hc2 sz9) 15 rfl rfl rfl ⟨rfl, rfl, rfl, rfl⟩ rfl (Nat.le_of_ble_eq_true rfl) ⟨Nat.le_of_ble_eq_true rfl, Nat.le_of_ble_eq_true rfl, Nat.zero_le _, Nat.zero_le _⟩ rfl ?_
        refine zq_aload_n (q := 87) G dX3_addToRow_86 0 rfl rfl rfl ?_
        refine zq_get (q := 90) G zu_X3 rfl zw_X3_f12 dX3_addToRow_87 0 0 rfl (by decide) ⟨⟨rfl, rfl⟩, rfl⟩ rfl rfl ?_
        refine zq_iload_n (q := 91) G dX3_addToRow_90 1 rfl rfl rfl ?_
        obtain ⟨z3, hc3, h⟩ := zbd h
        refine zq_callVi (q := 94) (ws2 := (w_C cyI cyZ h0_0 h0_1 h0_2 h0_3 h0_4 h0_5 h0_6 h0_7 h0_8 h0_9 h0_10 h0_11 h0_12 h0_13 h0_14 h0_15 h0_16 (τ0.1, τ0.2.1, τ0.2.2.1, τ0.2.2.2.1, τ0.2.2.2.2.1, τ0.2.2.2.2.2.1, z2))) (isC := [1, 2, 3]) (isR := [0, 4, 5, 6, 7, 8, 9, 10, 11, 12, 13, 14, 15, 16]) (perm := [0, 14, 15, 16, 1, 2, 3, 4, 5, 6, 7, 8, 9, 10, 11, 12, 13]) (rest := []) (As := [.int x1]) G zs_X3_109 dX3_addToRow_91 (fun sz9 => c_X1_sumOfRow l D cyI cyZ h0_1 h0_2 h0_3 τ0.1 x1 z3 hc3 sz9) 1 rfl rfl rfl ⟨rfl, rfl, rfl, rfl⟩ rfl (Nat.le_of_ble_eq_true rfl) ⟨Nat.le_of_ble_eq_true rfl, Nat.le_of_ble_eq_true rfl, Nat.zero_le _, Nat.zero_le _⟩ rfl ?_
        refine zq_ws (congrArg (fun w9 => (w_C cyI cyZ h0_0 h0_1 h0_2 h0_3 h0_4 h0_5 h0_6 h0_7 h0_8 h0_9 h0_10 h0_11 h0_12 h0_13 h0_14 h0_15 h0_16 w9.2)) (zsome h)) ?_
        exact zq_iretX G hlocks hr rfl dX3_addToRow_94 (congrArg Prod.fst (zsome h)).symm
      · have h := zie h c1
        refine zq_aload_n (q := 54) G dX3_addToRow_53 0 rfl rfl rfl ?_
        refine zq_get (q := 57) G zu_X3 rfl zw_X3_f12 dX3_addToRow_54 0 0 rfl (by decide) ⟨⟨rfl, rfl⟩, rfl⟩ rfl rfl ?_
        refine zq_iload_n (q := 58) G dX3_addToRow_57 1 rfl rfl rfl ?_
        refine zq_iload_n (q := 59) G dX3_addToRow_58 3 rfl rfl rfl ?_
        refine zq_aload_n (q := 60) G dX3_addToRow_59 0 rfl rfl rfl ?_
        refine zq_get (q := 63) G zu_X3 rfl zw_X3_f12 dX3_addToRow_60 0 0 rfl (by decide) ⟨⟨rfl, rfl⟩, rfl⟩ rfl rfl ?_
        refine zq_iload_n (q := 64) G dX3_addToRow_63 1 rfl rfl rfl ?_
        refine zq_iload_n (q := 65) G dX3_addToRow_64 3 rfl rfl rfl ?_
        obtain ⟨z4, hc4, h⟩ := zbd h
        refine zq_callVi (q := 68) (ws2 := (w_C cyI cyZ h0_0 h0_1 h0_2 h0_3 h0_4 h0_5 h0_6 h0_7 h0_8 h0_9 h0_10 h0_11 h0_12 h0_13 h0_14 h0_15 h0_16 τ0)) (isC := [1, 2, 3]) (isR := [0, 4, 5, 6, 7, 8, 9, 10, 11, 12, 13, 14, 15, 16]) (perm := [0, 14, 15, 16, 1, 2, 3, 4, 5, 6, 7, 8, 9, 10, 11, 12, 13]) (rest := [.int x3, .int x1, .ref h0_1]) (As := [.int x1, .int x3]) G zs_X3_56 dX3_addToRow_65 (fun sz9 => c_X1_numberAt l D cyI cyZ h0_1 h0_2 h0_3 τ0.1 x1 x3 z4 hc4 sz9) 1 rfl rfl rfl ⟨rfl, rfl, rfl, rfl⟩ rfl (Nat.le_of_ble_eq_true rfl) ⟨Nat.le_of_ble_eq_true rfl, Nat.le_of_ble_eq_true rfl, Nat.zero_le _, Nat.zero_le _⟩ rfl ?_
        refine zq_iload_n (q := 69) G dX3_addToRow_68 2 rfl rfl rfl ?_
        refine zq_iadd (q := 70) G dX3_addToRow_69 rfl ?_
        obtain ⟨z5, hc5, h⟩ := zbd h
        refine zq_callVv (q := 73) (ws2 := (w_C cyI cyZ h0_0 h0_1 h0_2 h0_3 h0_4 h0_5 h0_6 h0_7 h0_8 h0_9 h0_10 h0_11 h0_12 h0_13 h0_14 h0_15 h0_16 (z5, τ0.2.1, τ0.2.2.1, τ0.2.2.2.1, τ0.2.2.2.2.1, τ0.2.2.2.2.2.1, τ0.2.2.2.2.2.2))) (isC := [1, 2, 3]) (isR := [0, 4, 5, 6, 7, 8, 9, 10, 11, 12, 13, 14, 15, 16]) (perm := [0, 14, 15, 16, 1, 2, 3, 4, 5, 6, 7, 8, 9, 10, 11, 12, 13]) (rest := []) (As := [.int x1, .int x3, .int (z4 + x2)]) G zs_X3_60 dX3_addToRow_70 (fun sz9 => c_X1_putNumber l D cyI cyZ h0_1 h0_2 h0_3 τ0.1 x1 x3 (z4 + x2) z5 hc5 sz9) 1 rfl rfl rfl ⟨rfl, rfl, rfl, rfl⟩ rfl (Nat.le_of_ble_eq_true rfl) ⟨Nat.le_of_ble_eq_true rfl, Nat.le_of_ble_eq_true rfl, Nat.zero_le _, Nat.zero_le _⟩ rfl ?_
        refine zq_iinc (q := 76) (v := (x3 + 1)) (lv2 := [(3, .int (x3 + 1)), (0, .ref h0_0), (1, .int x1), (2, .int x2)]) G dX3_addToRow_73 3 rfl rfl (by decide) rfl rfl ?_
        refine zq_goto (q := 42) G dX3_addToRow_76 (by decide) ?_
        exact zq_sub _ [1, 2, 3, 0] rfl (ih _ _ _ _ h)
  have b16 : ∀ (n : Nat) (τ0 : zC) (x1 : Int32) (x2 : Int32) (x3 : Int32), s_X3_addToRow_16 n τ0 x1 x2 x3 = some (z, o0) → zW p l e ({ frames := 8, cells := zmc z, slots := zms z, locals := 134 } : Room) s m args below meth c D (va_A (w_C cyI cyZ h0_0 h0_1 h0_2 h0_3 h0_4 h0_5 h0_6 h0_7 h0_8 h0_9 h0_10 h0_11 h0_12 h0_13 h0_14 h0_15 h0_16 σ0) sz) 4 0 0 (vx_MQ below (zQXi D cyI cyZ sz (w_C cyI cyZ h0_0 h0_1 h0_2 h0_3 h0_4 h0_5 h0_6 h0_7 h0_8 h0_9 h0_10 h0_11 h0_12 h0_13 h0_14 h0_15 h0_16 σ0) z (w_C cyI cyZ h0_0 h0_1 h0_2 h0_3 h0_4 h0_5 h0_6 h0_7 h0_8 h0_9 h0_10 h0_11 h0_12 h0_13 h0_14 h0_15 h0_16 o0)) (zXC D cyI cyZ sz (w_C cyI cyZ h0_0 h0_1 h0_2 h0_3 h0_4 h0_5 h0_6 h0_7 h0_8 h0_9 h0_10 h0_11 h0_12 h0_13 h0_14 h0_15 h0_16 σ0) z (w_C cyI cyZ h0_0 h0_1 h0_2 h0_3 h0_4 h0_5 h0_6 h0_7 h0_8 h0_9 h0_10 h0_11 h0_12 h0_13 h0_14 h0_15 h0_16 o0)) args s (zmc z) (zms z) (va_A (w_C cyI cyZ h0_0 h0_1 h0_2 h0_3 h0_4 h0_5 h0_6 h0_7 h0_8 h0_9 h0_10 h0_11 h0_12 h0_13 h0_14 h0_15 h0_16 σ0) sz)) 16 [(0, .ref h0_0), (1, .int x1), (2, .int x2), (3, .int x3)] [] (w_C cyI cyZ h0_0 h0_1 h0_2 h0_3 h0_4 h0_5 h0_6 h0_7 h0_8 h0_9 h0_10 h0_11 h0_12 h0_13 h0_14 h0_15 h0_16 τ0) := by
    intro n
    induction n with
    | zero => intro τ0 x1 x2 x3 h; rw [s_X3_addToRow_16] at h; exact nomatch h
    | succ n ih =>
      intro τ0 x1 x2 x3 h
      rw [s_X3_addToRow_16] at h
      refine zq_iload_n (q := 17) G dX3_addToRow_16 3 rfl rfl rfl ?_
      refine zq_aload_n (q := 18) G dX3_addToRow_17 0 rfl rfl rfl ?_
      refine zq_get (q := 21) G zu_X3 rfl zw_X3_f12 dX3_addToRow_18 0 0 rfl (by decide) ⟨⟨rfl, rfl⟩, rfl⟩ rfl rfl ?_
      refine zq_getN (q := 24) G zu_X1 rfl zw_X3_f72 dX3_addToRow_21 1 1 rfl (by decide) ⟨⟨rfl, rfl⟩, rfl⟩ rfl rfl ?_
      refine zq_icmp_ge (tgt := 40) (q := 27) G dX3_addToRow_24 (by decide) rfl (fun c1 => ?_) (fun c1 => ?_)
      · have h := zit h c1
        refine zq_iconst (q := 41) (v := 0) G dX3_addToRow_40 (by decide) rfl ?_
        refine zq_istore_n (q := 42) (lv2 := [(3, .int (0 : Int32)), (0, .ref h0_0), (1, .int x1), (2, .int x2)]) G dX3_addToRow_41 rfl (by decide) rfl rfl ?_
        exact zq_sub _ [1, 2, 3, 0] rfl (b42  _ _ _ _ _ h)
      · have h := zie h c1
        refine zq_aload_n (q := 28) G dX3_addToRow_27 0 rfl rfl rfl ?_
        refine zq_iload_n (q := 29) G dX3_addToRow_28 1 rfl rfl rfl ?_
        refine zq_iload_n (q := 30) G dX3_addToRow_29 3 rfl rfl rfl ?_
        refine zq_iload_n (q := 31) G dX3_addToRow_30 2 rfl rfl rfl ?_
        obtain ⟨z2, hc2, h⟩ := zbd h
        rcases zsum z2 with ⟨E2, e2⟩ | ⟨r2, e2⟩
        · have h := zselL2 h e2
          exact zq_outVv (ws2 := (w_C cyI cyZ h0_0 h0_1 h0_2 h0_3 h0_4 h0_5 h0_6 h0_7 h0_8 h0_9 h0_10 h0_11 h0_12 h0_13 h0_14 h0_15 h0_16 τ0)) (isC := [0, 1, 2, 3, 4, 5, 6, 7, 8, 9, 10, 11, 12, 13, 14, 15, 16]) (isR := []) (perm := [0, 1, 2, 3, 4, 5, 6, 7, 8, 9, 10, 11, 12, 13, 14, 15, 16]) (rest := []) (As := [.int x1, .int x3, .int x2]) G hlocks ht zs_X3_106 dX3_addToRow_31 (fun sz9 => c_X3_requireAddable l hst D cyI cyZ h0_0 h0_1 h0_2 h0_3 h0_4 h0_5 h0_6 h0_7 h0_8 h0_9 h0_10 h0_11 h0_12 h0_13 h0_14 h0_15 h0_16 τ0 x1 x3 x2 (.inl E2) (hc2.trans (congrArg some e2)) sz9) 0 rfl rfl rfl ⟨rfl, rfl, rfl, rfl⟩ rfl (Nat.le_of_ble_eq_true rfl) ⟨Nat.le_of_ble_eq_true rfl, Nat.le_of_ble_eq_true rfl⟩ rfl rfl (congrArg Prod.fst (zsome h)).symm (congrArg (fun w9 => (w_C cyI cyZ h0_0 h0_1 h0_2 h0_3 h0_4 h0_5 h0_6 h0_7 h0_8 h0_9 h0_10 h0_11 h0_12 h0_13 h0_14 h0_15 h0_16 w9.2)) (zsome h))
        · have h := zselR2 h e2
          refine zq_callVv (q := 34) (ws2 := (w_C cyI cyZ h0_0 h0_1 h0_2 h0_3 h0_4 h0_5 h0_6 h0_7 h0_8 h0_9 h0_10 h0_11 h0_12 h0_13 h0_14 h0_15 h0_16 τ0)) (isC := [0, 1, 2, 3, 4, 5, 6, 7, 8, 9, 10, 11, 12, 13, 14, 15, 16]) (isR := []) (perm := [0, 1, 2, 3, 4, 5, 6, 7, 8, 9, 10, 11, 12, 13, 14, 15, 16]) (rest := []) (As := [.int x1, .int x3, .int x2]) G zs_X3_106 dX3_addToRow_31 (fun sz9 => zXv_ret (c_X3_requireAddable l hst D cyI cyZ h0_0 h0_1 h0_2 h0_3 h0_4 h0_5 h0_6 h0_7 h0_8 h0_9 h0_10 h0_11 h0_12 h0_13 h0_14 h0_15 h0_16 τ0 x1 x3 x2 (.inr r2) (hc2.trans (congrArg some e2)) sz9)) 0 rfl rfl rfl ⟨rfl, rfl, rfl, rfl⟩ rfl (Nat.le_of_ble_eq_true rfl) ⟨Nat.le_of_ble_eq_true rfl, Nat.le_of_ble_eq_true rfl, Nat.zero_le _, Nat.zero_le _⟩ rfl ?_
          refine zq_iinc (q := 37) (v := (x3 + 1)) (lv2 := [(3, .int (x3 + 1)), (0, .ref h0_0), (1, .int x1), (2, .int x2)]) G dX3_addToRow_34 3 rfl rfl (by decide) rfl rfl ?_
          refine zq_goto (q := 16) G dX3_addToRow_37 (by decide) ?_
          exact zq_sub _ [1, 2, 3, 0] rfl (ih _ _ _ _ h)
  refine zq_aload_n (q := 1) G dX3_addToRow_0 0 rfl rfl rfl ?_
  refine zq_iload_n (q := 2) G dX3_addToRow_1 1 rfl rfl rfl ?_
  obtain ⟨z1, hc1, h⟩ := zbd h
  rcases zsum z1 with ⟨E1, e1⟩ | ⟨r1, e1⟩
  · have h := zselL2 h e1
    exact zq_outVv (ws2 := (w_C cyI cyZ h0_0 h0_1 h0_2 h0_3 h0_4 h0_5 h0_6 h0_7 h0_8 h0_9 h0_10 h0_11 h0_12 h0_13 h0_14 h0_15 h0_16 σ0)) (isC := [0, 1, 2, 3, 4, 5, 6, 7, 8, 9, 10, 11, 12, 13, 14, 15, 16]) (isR := []) (perm := [0, 1, 2, 3, 4, 5, 6, 7, 8, 9, 10, 11, 12, 13, 14, 15, 16]) (rest := []) (As := [.int p0]) G hlocks ht zs_X3_64 dX3_addToRow_2 (fun sz9 => c_X3_requireRow l hst D cyI cyZ h0_0 h0_1 h0_2 h0_3 h0_4 h0_5 h0_6 h0_7 h0_8 h0_9 h0_10 h0_11 h0_12 h0_13 h0_14 h0_15 h0_16 σ0 p0 (.inl E1) (hc1.trans (congrArg some e1)) sz9) 0 rfl rfl rfl ⟨rfl, rfl, rfl, rfl⟩ rfl (Nat.le_of_ble_eq_true rfl) ⟨Nat.le_of_ble_eq_true rfl, Nat.le_of_ble_eq_true rfl⟩ rfl rfl (congrArg Prod.fst (zsome h)).symm (congrArg (fun w9 => (w_C cyI cyZ h0_0 h0_1 h0_2 h0_3 h0_4 h0_5 h0_6 h0_7 h0_8 h0_9 h0_10 h0_11 h0_12 h0_13 h0_14 h0_15 h0_16 w9.2)) (zsome h))
  · have h := zselR2 h e1
    refine zq_callVv (q := 5) (ws2 := (w_C cyI cyZ h0_0 h0_1 h0_2 h0_3 h0_4 h0_5 h0_6 h0_7 h0_8 h0_9 h0_10 h0_11 h0_12 h0_13 h0_14 h0_15 h0_16 σ0)) (isC := [0, 1, 2, 3, 4, 5, 6, 7, 8, 9, 10, 11, 12, 13, 14, 15, 16]) (isR := []) (perm := [0, 1, 2, 3, 4, 5, 6, 7, 8, 9, 10, 11, 12, 13, 14, 15, 16]) (rest := []) (As := [.int p0]) G zs_X3_64 dX3_addToRow_2 (fun sz9 => zXv_ret (c_X3_requireRow l hst D cyI cyZ h0_0 h0_1 h0_2 h0_3 h0_4 h0_5 h0_6 h0_7 h0_8 h0_9 h0_10 h0_11 h0_12 h0_13 h0_14 h0_15 h0_16 σ0 p0 (.inr r1) (hc1.trans (congrArg some e1)) sz9)) 0 rfl rfl rfl ⟨rfl, rfl, rfl, rfl⟩ rfl (Nat.le_of_ble_eq_true rfl) ⟨Nat.le_of_ble_eq_true rfl, Nat.le_of_ble_eq_true rfl, Nat.zero_le _, Nat.zero_le _⟩ rfl ?_
    refine zq_aload_n (q := 6) G dX3_addToRow_5 0 rfl rfl rfl ?_
    refine zq_iload_n (q := 7) G dX3_addToRow_6 2 rfl rfl rfl ?_
    obtain ⟨z2, hc2, h⟩ := zbd h
    rcases zsum z2 with ⟨E2, e2⟩ | ⟨r2, e2⟩
    · have h := zselL2 h e2
      exact zq_outVv (ws2 := (w_C cyI cyZ h0_0 h0_1 h0_2 h0_3 h0_4 h0_5 h0_6 h0_7 h0_8 h0_9 h0_10 h0_11 h0_12 h0_13 h0_14 h0_15 h0_16 σ0)) (isC := [0, 1, 2, 3, 4, 5, 6, 7, 8, 9, 10, 11, 12, 13, 14, 15, 16]) (isR := []) (perm := [0, 1, 2, 3, 4, 5, 6, 7, 8, 9, 10, 11, 12, 13, 14, 15, 16]) (rest := []) (As := [.int p1]) G hlocks ht zs_X3_100 dX3_addToRow_7 (fun sz9 => c_X3_requireAddend l hst D cyI cyZ h0_0 h0_1 h0_2 h0_3 h0_4 h0_5 h0_6 h0_7 h0_8 h0_9 h0_10 h0_11 h0_12 h0_13 h0_14 h0_15 h0_16 σ0 p1 (.inl E2) (hc2.trans (congrArg some e2)) sz9) 0 rfl rfl rfl ⟨rfl, rfl, rfl, rfl⟩ rfl (Nat.le_of_ble_eq_true rfl) ⟨Nat.le_of_ble_eq_true rfl, Nat.le_of_ble_eq_true rfl⟩ rfl rfl (congrArg Prod.fst (zsome h)).symm (congrArg (fun w9 => (w_C cyI cyZ h0_0 h0_1 h0_2 h0_3 h0_4 h0_5 h0_6 h0_7 h0_8 h0_9 h0_10 h0_11 h0_12 h0_13 h0_14 h0_15 h0_16 w9.2)) (zsome h))
    · have h := zselR2 h e2
      refine zq_callVv (q := 10) (ws2 := (w_C cyI cyZ h0_0 h0_1 h0_2 h0_3 h0_4 h0_5 h0_6 h0_7 h0_8 h0_9 h0_10 h0_11 h0_12 h0_13 h0_14 h0_15 h0_16 σ0)) (isC := [0, 1, 2, 3, 4, 5, 6, 7, 8, 9, 10, 11, 12, 13, 14, 15, 16]) (isR := []) (perm := [0, 1, 2, 3, 4, 5, 6, 7, 8, 9, 10, 11, 12, 13, 14, 15, 16]) (rest := []) (As := [.int p1]) G zs_X3_100 dX3_addToRow_7 (fun sz9 => zXv_ret (c_X3_requireAddend l hst D cyI cyZ h0_0 h0_1 h0_2 h0_3 h0_4 h0_5 h0_6 h0_7 h0_8 h0_9 h0_10 h0_11 h0_12 h0_13 h0_14 h0_15 h0_16 σ0 p1 (.inr r2) (hc2.trans (congrArg some e2)) sz9)) 0 rfl rfl rfl ⟨rfl, rfl, rfl, rfl⟩ rfl (Nat.le_of_ble_eq_true rfl) ⟨Nat.le_of_ble_eq_true rfl, Nat.le_of_ble_eq_true rfl, Nat.zero_le _, Nat.zero_le _⟩ rfl ?_
      refine zq_aload_n (q := 11) G dX3_addToRow_10 0 rfl rfl rfl ?_
      obtain ⟨z3, hc3, h⟩ := zbd h
      rcases zsum z3 with ⟨E3, e3⟩ | ⟨r3, e3⟩
      · have h := zselL2 h e3
        exact zq_outVv (ws2 := (w_C cyI cyZ h0_0 h0_1 h0_2 h0_3 h0_4 h0_5 h0_6 h0_7 h0_8 h0_9 h0_10 h0_11 h0_12 h0_13 h0_14 h0_15 h0_16 σ0)) (isC := [0, 1, 2, 3, 4, 5, 6, 7, 8, 9, 10, 11, 12, 13, 14, 15, 16]) (isR := []) (perm := [0, 1, 2, 3, 4, 5, 6, 7, 8, 9, 10, 11, 12, 13, 14, 15, 16]) (rest := []) (As := []) G hlocks ht zs_X3_103 dX3_addToRow_11 (fun sz9 => c_X3_requireNoDummyColumn l hst D cyI cyZ h0_0 h0_1 h0_2 h0_3 h0_4 h0_5 h0_6 h0_7 h0_8 h0_9 h0_10 h0_11 h0_12 h0_13 h0_14 h0_15 h0_16 σ0 (.inl E3) (hc3.trans (congrArg some e3)) sz9) 0 rfl rfl rfl ⟨rfl, rfl, rfl, rfl⟩ rfl (Nat.le_of_ble_eq_true rfl) ⟨Nat.le_of_ble_eq_true rfl, Nat.le_of_ble_eq_true rfl⟩ rfl rfl (congrArg Prod.fst (zsome h)).symm (congrArg (fun w9 => (w_C cyI cyZ h0_0 h0_1 h0_2 h0_3 h0_4 h0_5 h0_6 h0_7 h0_8 h0_9 h0_10 h0_11 h0_12 h0_13 h0_14 h0_15 h0_16 w9.2)) (zsome h))
      · have h := zselR2 h e3
        refine zq_callVv (q := 14) (ws2 := (w_C cyI cyZ h0_0 h0_1 h0_2 h0_3 h0_4 h0_5 h0_6 h0_7 h0_8 h0_9 h0_10 h0_11 h0_12 h0_13 h0_14 h0_15 h0_16 σ0)) (isC := [0, 1, 2, 3, 4, 5, 6, 7, 8, 9, 10, 11, 12, 13, 14, 15, 16]) (isR := []) (perm := [0, 1, 2, 3, 4, 5, 6, 7, 8, 9, 10, 11, 12, 13, 14, 15, 16]) (rest := []) (As := []) G zs_X3_103 dX3_addToRow_11 (fun sz9 => zXv_ret (c_X3_requireNoDummyColumn l hst D cyI cyZ h0_0 h0_1 h0_2 h0_3 h0_4 h0_5 h0_6 h0_7 h0_8 h0_9 h0_10 h0_11 h0_12 h0_13 h0_14 h0_15 h0_16 σ0 (.inr r3) (hc3.trans (congrArg some e3)) sz9)) 0 rfl rfl rfl ⟨rfl, rfl, rfl, rfl⟩ rfl (Nat.le_of_ble_eq_true rfl) ⟨Nat.le_of_ble_eq_true rfl, Nat.le_of_ble_eq_true rfl, Nat.zero_le _, Nat.zero_le _⟩ rfl ?_
        refine zq_iconst (q := 15) (v := 0) G dX3_addToRow_14 (by decide) rfl ?_
        refine zq_istore_n (q := 16) (lv2 := [(3, .int (0 : Int32)), (0, .ref h0_0), (1, .int p0), (2, .int p1)]) G dX3_addToRow_15 rfl (by decide) rfl rfl ?_
        exact zq_sub _ [1, 2, 3, 0] rfl (b16  _ _ _ _ _ h)
set_option maxHeartbeats 4000000 in
set_option maxRecDepth 100000 in
theorem c_X3_addToColumn (l : Launch) (hst : l.stackTraces = false) (D : va_G) (cyI cyZ : ClassId) (h0_0 h0_1 h0_2 h0_3 h0_4 h0_5 h0_6 h0_7 h0_8 h0_9 h0_10 h0_11 h0_12 h0_13 h0_14 h0_15 h0_16 : Nat) (σ0 : zC) (p0 : Int32) (p1 : Int32) (z : Sum String Int32) (o0 : zC) (h : s_X3_addToColumn σ0 p0 p1 = some (z, o0)) (sz : Nat) : zXi l yX3_addToColumn cX3_addToColumn 4 .int 8 134 D cyI cyZ sz [.ref h0_0, .int p0, .int p1] (w_C cyI cyZ h0_0 h0_1 h0_2 h0_3 h0_4 h0_5 h0_6 h0_7 h0_8 h0_9 h0_10 h0_11 h0_12 h0_13 h0_14 h0_15 h0_16 σ0) z (w_C cyI cyZ h0_0 h0_1 h0_2 h0_3 h0_4 h0_5 h0_6 h0_7 h0_8 h0_9 h0_10 h0_11 h0_12 h0_13 h0_14 h0_15 h0_16 o0) := by
  unfold s_X3_addToColumn at h
  refine zstartXI (lv0 := [(0, .ref h0_0), (1, .int p0), (2, .int p1)]) (by decide) (Nat.le_of_ble_eq_true rfl) rfl (fun p e s m args below meth c G hr hlocks ht => ?_)
  have b38 : ∀ (n : Nat) (τ0 : zC) (x1 : Int32) (x2 : Int32) (x3 : Int32), s_X3_addToColumn_38 n τ0 x1 x2 x3 = some (z, o0) → zW p l e ({ frames := 8, cells := zmc z, slots := zms z, locals := 134 } : Room) s m args below meth c D (va_A (w_C cyI cyZ h0_0 h0_1 h0_2 h0_3 h0_4 h0_5 h0_6 h0_7 h0_8 h0_9 h0_10 h0_11 h0_12 h0_13 h0_14 h0_15 h0_16 σ0) sz) 4 0 0 (vx_MQ below (zQXi D cyI cyZ sz (w_C cyI cyZ h0_0 h0_1 h0_2 h0_3 h0_4 h0_5 h0_6 h0_7 h0_8 h0_9 h0_10 h0_11 h0_12 h0_13 h0_14 h0_15 h0_16 σ0) z (w_C cyI cyZ h0_0 h0_1 h0_2 h0_3 h0_4 h0_5 h0_6 h0_7 h0_8 h0_9 h0_10 h0_11 h0_12 h0_13 h0_14 h0_15 h0_16 o0)) (zXC D cyI cyZ sz (w_C cyI cyZ h0_0 h0_1 h0_2 h0_3 h0_4 h0_5 h0_6 h0_7 h0_8 h0_9 h0_10 h0_11 h0_12 h0_13 h0_14 h0_15 h0_16 σ0) z (w_C cyI cyZ h0_0 h0_1 h0_2 h0_3 h0_4 h0_5 h0_6 h0_7 h0_8 h0_9 h0_10 h0_11 h0_12 h0_13 h0_14 h0_15 h0_16 o0)) args s (zmc z) (zms z) (va_A (w_C cyI cyZ h0_0 h0_1 h0_2 h0_3 h0_4 h0_5 h0_6 h0_7 h0_8 h0_9 h0_10 h0_11 h0_12 h0_13 h0_14 h0_15 h0_16 σ0) sz)) 38 [(0, .ref h0_0), (1, .int x1), (2, .int x2), (3, .int x3)] [] (w_C cyI cyZ h0_0 h0_1 h0_2 h0_3 h0_4 h0_5 h0_6 h0_7 h0_8 h0_9 h0_10 h0_11 h0_12 h0_13 h0_14 h0_15 h0_16 τ0) := by
    intro n
    induction n with
    | zero => intro τ0 x1 x2 x3 h; rw [s_X3_addToColumn_38] at h; exact nomatch h
    | succ n ih =>
      intro τ0 x1 x2 x3 h
      rw [s_X3_addToColumn_38] at h
      refine zq_iload_n (q := 39) G dX3_addToColumn_38 3 rfl rfl rfl ?_
      refine zq_aload_n (q := 40) G dX3_addToColumn_39 0 rfl rfl rfl ?_
      refine zq_get (q := 43) G zu_X3 rfl zw_X3_f12 dX3_addToColumn_40 0 0 rfl (by decide) ⟨⟨rfl, rfl⟩, rfl⟩ rfl rfl ?_
      refine zq_getN (q := 46) G zu_X1 rfl zw_X3_f83 dX3_addToColumn_43 1 0 rfl (by decide) ⟨⟨rfl, rfl⟩, rfl⟩ rfl rfl ?_
      refine zq_icmp_ge (tgt := 75) (q := 49) G dX3_addToColumn_46 (by decide) rfl (fun c1 => ?_) (fun c1 => ?_)
      · have h := zit h c1
        refine zq_aload_n (q := 76) G dX3_addToColumn_75 0 rfl rfl rfl ?_
        refine zq_get (q := 79) G zu_X3 rfl zw_X3_f39 dX3_addToColumn_76 0 6 rfl (by decide) ⟨⟨rfl, rfl⟩, rfl⟩ rfl rfl ?_
        obtain ⟨z2, hc2, h⟩ := zbd h
        refine zq_callVv (q := 82) (ws2 := (w_C cyI cyZ h0_0 h0_1 h0_2 h0_3 h0_4 h0_5 h0_6 h0_7 h0_8 h0_9 h0_10 h0_11 h0_12 h0_13 h0_14 h0_15 h0_16 (τ0.1, τ0.2.1, τ0.2.2.1, τ0.2.2.2.1, τ0.2.2.2.2.1, τ0.2.2.2.2.2.1, z2))) (isC := [15, 16]) (isR := [0, 1, 2, 3, 4, 5, 6, 7, 8, 9, 10, 11, 12, 13, 14]) (perm := [0, 1, 2, 3, 4, 5, 6, 7, 8, 9, 10, 11, 12, 13, 14, 15, 16]) (rest := []) (As := []) G zs_X3_50 dX3_addToColumn_79 (fun sz9 => c_X2_cancel l D cyI cyZ h0_15 h0_16 τ0.2.2.2.2.2.2 z2 hc2 sz9) 15 rfl rfl rfl ⟨rfl, rfl, rfl, rfl⟩ rfl (Nat.le_of_ble_eq_true rfl) ⟨Nat.le_of_ble_eq_true rfl, Nat.le_of_ble_eq_true rfl, Nat.zero_le _, Nat.zero_le _⟩ rfl ?_
        refine zq_aload_n (q := 83) G dX3_addToColumn_82 0 rfl rfl rfl ?_
        refine zq_get (q := 86) G zu_X3 rfl zw_X3_f12 dX3_addToColumn_83 0 0 rfl (by decide) ⟨⟨rfl, rfl⟩, rfl⟩ rfl rfl ?_
        refine zq_iload_n (q := 87) G dX3_addToColumn_86 1 rfl rfl rfl ?_
        obtain ⟨z3, hc3, h⟩ := zbd h
        refine zq_callVi (q := 90) (ws2 := (w_C cyI cyZ h0_0 h0_1 h0_2 h0_3 h0_4 h0_5 h0_6 h0_7 h0_8 h0_9 h0_10 h0_11 h0_12 h0_13 h0_14 h0_15 h0_16 (τ0.1, τ0.2.1, τ0.2.2.1, τ0.2.2.2.1, τ0.2.2.2.2.1, τ0.2.2.2.2.2.1, z2))) (isC := [1, 2, 3]) (isR := [0, 4, 5, 6, 7, 8, 9, 10, 11, 12, 13, 14, 15, 16]) (perm := [0, 14, 15, 16, 1, 2, 3, 4, 5, 6, 7, 8, 9, 10, 11, 12, 13]) (rest := []) (As := [.int x1]) G zs_X3_116 dX3_addToColumn_87 (fun sz9 => c_X1_sumOfColumn l D cyI cyZ h0_1 h0_2 h0_3 τ0.1 x1 z3 hc3 sz9) 1 rfl rfl rfl ⟨rfl, rfl, rfl, rfl⟩ rfl (Nat.le_of_ble_eq_true rfl) ⟨Nat.le_of_ble_eq_true rfl, Nat.le_of_ble_eq_true rfl, Nat.zero_le _, Nat.zero_le _⟩ rfl ?_
        refine zq_ws (congrArg (fun w9 => (w_C cyI cyZ h0_0 h0_1 h0_2 h0_3 h0_4 h0_5 h0_6 h0_7 h0_8 h0_9 h0_10 h0_11 h0_12 h0_13 h0_14 h0_15 h0_16 w9.2)) (zsome h)) ?_
        exact zq_iretX G hlocks hr rfl dX3_addToColumn_90 (congrArg Prod.fst (zsome h)).symm
      · have h := zie h c1
        refine zq_aload_n (q := 50) G dX3_addToColumn_49 0 rfl rfl rfl ?_
        refine zq_get (q := 53) G zu_X3 rfl zw_X3_f12 dX3_addToColumn_50 0 0 rfl (by decide) ⟨⟨rfl, rfl⟩, rfl⟩ rfl rfl ?_
        refine zq_iload_n (q := 54) G dX3_addToColumn_53 3 rfl rfl rfl ?_
        refine zq_iload_n (q := 55) G dX3_addToColumn_54 1 rfl rfl rfl ?_
        refine zq_aload_n (q := 56) G dX3_addToColumn_55 0 rfl rfl rfl ?_
        refine zq_get (q := 59) G zu_X3 rfl zw_X3_f12 dX3_addToColumn_56 0 0 rfl (by decide) ⟨⟨rfl, rfl⟩, rfl⟩ rfl rfl ?_
        refine zq_iload_n (q := 60) G dX3_addToColumn_59 3 rfl rfl rfl ?_
        refine zq_iload_n (q := 61) G dX3_addToColumn_60 1 rfl rfl rfl ?_
        obtain ⟨z4, hc4, h⟩ := zbd h
        refine zq_callVi (q := 64) (ws2 := (w_C cyI cyZ h0_0 h0_1 h0_2 h0_3 h0_4 h0_5 h0_6 h0_7 h0_8 h0_9 h0_10 h0_11 h0_12 h0_13 h0_14 h0_15 h0_16 τ0)) (isC := [1, 2, 3]) (isR := [0, 4, 5, 6, 7, 8, 9, 10, 11, 12, 13, 14, 15, 16]) (perm := [0, 14, 15, 16, 1, 2, 3, 4, 5, 6, 7, 8, 9, 10, 11, 12, 13]) (rest := [.int x1, .int x3, .ref h0_1]) (As := [.int x3, .int x1]) G zs_X3_56 dX3_addToColumn_61 (fun sz9 => c_X1_numberAt l D cyI cyZ h0_1 h0_2 h0_3 τ0.1 x3 x1 z4 hc4 sz9) 1 rfl rfl rfl ⟨rfl, rfl, rfl, rfl⟩ rfl (Nat.le_of_ble_eq_true rfl) ⟨Nat.le_of_ble_eq_true rfl, Nat.le_of_ble_eq_true rfl, Nat.zero_le _, Nat.zero_le _⟩ rfl ?_
        refine zq_iload_n (q := 65) G dX3_addToColumn_64 2 rfl rfl rfl ?_
        refine zq_iadd (q := 66) G dX3_addToColumn_65 rfl ?_
        obtain ⟨z5, hc5, h⟩ := zbd h
        refine zq_callVv (q := 69) (ws2 := (w_C cyI cyZ h0_0 h0_1 h0_2 h0_3 h0_4 h0_5 h0_6 h0_7 h0_8 h0_9 h0_10 h0_11 h0_12 h0_13 h0_14 h0_15 h0_16 (z5, τ0.2.1, τ0.2.2.1, τ0.2.2.2.1, τ0.2.2.2.2.1, τ0.2.2.2.2.2.1, τ0.2.2.2.2.2.2))) (isC := [1, 2, 3]) (isR := [0, 4, 5, 6, 7, 8, 9, 10, 11, 12, 13, 14, 15, 16]) (perm := [0, 14, 15, 16, 1, 2, 3, 4, 5, 6, 7, 8, 9, 10, 11, 12, 13]) (rest := []) (As := [.int x3, .int x1, .int (z4 + x2)]) G zs_X3_60 dX3_addToColumn_66 (fun sz9 => c_X1_putNumber l D cyI cyZ h0_1 h0_2 h0_3 τ0.1 x3 x1 (z4 + x2) z5 hc5 sz9) 1 rfl rfl rfl ⟨rfl, rfl, rfl, rfl⟩ rfl (Nat.le_of_ble_eq_true rfl) ⟨Nat.le_of_ble_eq_true rfl, Nat.le_of_ble_eq_true rfl, Nat.zero_le _, Nat.zero_le _⟩ rfl ?_
        refine zq_iinc (q := 72) (v := (x3 + 1)) (lv2 := [(3, .int (x3 + 1)), (0, .ref h0_0), (1, .int x1), (2, .int x2)]) G dX3_addToColumn_69 3 rfl rfl (by decide) rfl rfl ?_
        refine zq_goto (q := 38) G dX3_addToColumn_72 (by decide) ?_
        exact zq_sub _ [1, 2, 3, 0] rfl (ih _ _ _ _ h)
  have b12 : ∀ (n : Nat) (τ0 : zC) (x1 : Int32) (x2 : Int32) (x3 : Int32), s_X3_addToColumn_12 n τ0 x1 x2 x3 = some (z, o0) → zW p l e ({ frames := 8, cells := zmc z, slots := zms z, locals := 134 } : Room) s m args below meth c D (va_A (w_C cyI cyZ h0_0 h0_1 h0_2 h0_3 h0_4 h0_5 h0_6 h0_7 h0_8 h0_9 h0_10 h0_11 h0_12 h0_13 h0_14 h0_15 h0_16 σ0) sz) 4 0 0 (vx_MQ below (zQXi D cyI cyZ sz (w_C cyI cyZ h0_0 h0_1 h0_2 h0_3 h0_4 h0_5 h0_6 h0_7 h0_8 h0_9 h0_10 h0_11 h0_12 h0_13 h0_14 h0_15 h0_16 σ0) z (w_C cyI cyZ h0_0 h0_1 h0_2 h0_3 h0_4 h0_5 h0_6 h0_7 h0_8 h0_9 h0_10 h0_11 h0_12 h0_13 h0_14 h0_15 h0_16 o0)) (zXC D cyI cyZ sz (w_C cyI cyZ h0_0 h0_1 h0_2 h0_3 h0_4 h0_5 h0_6 h0_7 h0_8 h0_9 h0_10 h0_11 h0_12 h0_13 h0_14 h0_15 h0_16 σ0) z (w_C cyI cyZ h0_0 h0_1 h0_2 h0_3 h0_4 h0_5 h0_6 h0_7 h0_8 h0_9 h0_10 h0_11 h0_12 h0_13 h0_14 h0_15 h0_16 o0)) args s (zmc z) (zms z) (va_A (w_C cyI cyZ h0_0 h0_1 h0_2 h0_3 h0_4 h0_5 h0_6 h0_7 h0_8 h0_9 h0_10 h0_11 h0_12 h0_13 h0_14 h0_15 h0_16 σ0) sz)) 12 [(0, .ref h0_0), (1, .int x1), (2, .int x2), (3, .int x3)] [] (w_C cyI cyZ h0_0 h0_1 h0_2 h0_3 h0_4 h0_5 h0_6 h0_7 h0_8 h0_9 h0_10 h0_11 h0_12 h0_13 h0_14 h0_15 h0_16 τ0) := by
    intro n
    induction n with
    | zero => intro τ0 x1 x2 x3 h; rw [s_X3_addToColumn_12] at h; exact nomatch h
    | succ n ih =>
      intro τ0 x1 x2 x3 h
      rw [s_X3_addToColumn_12] at h
      refine zq_iload_n (q := 13) G dX3_addToColumn_12 3 rfl rfl rfl ?_
      refine zq_aload_n (q := 14) G dX3_addToColumn_13 0 rfl rfl rfl ?_
      refine zq_get (q := 17) G zu_X3 rfl zw_X3_f12 dX3_addToColumn_14 0 0 rfl (by decide) ⟨⟨rfl, rfl⟩, rfl⟩ rfl rfl ?_
      refine zq_getN (q := 20) G zu_X1 rfl zw_X3_f83 dX3_addToColumn_17 1 0 rfl (by decide) ⟨⟨rfl, rfl⟩, rfl⟩ rfl rfl ?_
      refine zq_icmp_ge (tgt := 36) (q := 23) G dX3_addToColumn_20 (by decide) rfl (fun c1 => ?_) (fun c1 => ?_)
      · have h := zit h c1
        refine zq_iconst (q := 37) (v := 0) G dX3_addToColumn_36 (by decide) rfl ?_
        refine zq_istore_n (q := 38) (lv2 := [(3, .int (0 : Int32)), (0, .ref h0_0), (1, .int x1), (2, .int x2)]) G dX3_addToColumn_37 rfl (by decide) rfl rfl ?_
        exact zq_sub _ [1, 2, 3, 0] rfl (b38  _ _ _ _ _ h)
      · have h := zie h c1
        refine zq_aload_n (q := 24) G dX3_addToColumn_23 0 rfl rfl rfl ?_
        refine zq_iload_n (q := 25) G dX3_addToColumn_24 3 rfl rfl rfl ?_
        refine zq_iload_n (q := 26) G dX3_addToColumn_25 1 rfl rfl rfl ?_
        refine zq_iload_n (q := 27) G dX3_addToColumn_26 2 rfl rfl rfl ?_
        obtain ⟨z2, hc2, h⟩ := zbd h
        rcases zsum z2 with ⟨E2, e2⟩ | ⟨r2, e2⟩
        · have h := zselL2 h e2
          exact zq_outVv (ws2 := (w_C cyI cyZ h0_0 h0_1 h0_2 h0_3 h0_4 h0_5 h0_6 h0_7 h0_8 h0_9 h0_10 h0_11 h0_12 h0_13 h0_14 h0_15 h0_16 τ0)) (isC := [0, 1, 2, 3, 4, 5, 6, 7, 8, 9, 10, 11, 12, 13, 14, 15, 16]) (isR := []) (perm := [0, 1, 2, 3, 4, 5, 6, 7, 8, 9, 10, 11, 12, 13, 14, 15, 16]) (rest := []) (As := [.int x3, .int x1, .int x2]) G hlocks ht zs_X3_106 dX3_addToColumn_27 (fun sz9 => c_X3_requireAddable l hst D cyI cyZ h0_0 h0_1 h0_2 h0_3 h0_4 h0_5 h0_6 h0_7 h0_8 h0_9 h0_10 h0_11 h0_12 h0_13 h0_14 h0_15 h0_16 τ0 x3 x1 x2 (.inl E2) (hc2.trans (congrArg some e2)) sz9) 0 rfl rfl rfl ⟨rfl, rfl, rfl, rfl⟩ rfl (Nat.le_of_ble_eq_true rfl) ⟨Nat.le_of_ble_eq_true rfl, Nat.le_of_ble_eq_true rfl⟩ rfl rfl (congrArg Prod.fst (zsome h)).symm (congrArg (fun w9 => (w_C cyI cyZ h0_0 h0_1 h0_2 h0_3 h0_4 h0_5 h0_6 h0_7 h0_8 h0_9 h0_10 h0_11 h0_12 h0_13 h0_14 h0_15 h0_16 w9.2)) (zsome h))
        · have h := zselR2 h e2
          refine zq_callVv (q := 30) (ws2 := (w_C cyI cyZ h0_0 h0_1 h0_2 h0_3 h0_4 h0_5 h0_6 h0_7 h0_8 h0_9 h0_10 h0_11 h0_12 h0_13 h0_14 h0_15 h0_16 τ0)) (isC := [0, 1, 2, 3, 4, 5, 6, 7, 8, 9, 10, 11, 12, 13, 14, 15, 16]) (isR := []) (perm := [0, 1, 2, 3, 4, 5, 6, 7, 8, 9, 10, 11, 12, 13, 14, 15, 16]) (rest := []) (As := [.int x3, .int x1, .int x2]) G zs_X3_106 dX3_addToColumn_27 (fun sz9 => zXv_ret (c_X3_requireAddable l hst D cyI cyZ h0_0 h0_1 h0_2 h0_3 h0_4 h0_5 h0_6 h0_7 h0_8 h0_9 h0_10 h0_11 h0_12 h0_13 h0_14 h0_15 h0_16 τ0 x3 x1 x2 (.inr r2) (hc2.trans (congrArg some e2)) sz9)) 0 rfl rfl rfl ⟨rfl, rfl, rfl, rfl⟩ rfl (Nat.le_of_ble_eq_true rfl) ⟨Nat.le_of_ble_eq_true rfl, Nat.le_of_ble_eq_true rfl, Nat.zero_le _, Nat.zero_le _⟩ rfl ?_
          refine zq_iinc (q := 33) (v := (x3 + 1)) (lv2 := [(3, .int (x3 + 1)), (0, .ref h0_0), (1, .int x1), (2, .int x2)]) G dX3_addToColumn_30 3 rfl rfl (by decide) rfl rfl ?_
          refine zq_goto (q := 12) G dX3_addToColumn_33 (by decide) ?_
          exact zq_sub _ [1, 2, 3, 0] rfl (ih _ _ _ _ h)
  refine zq_aload_n (q := 1) G dX3_addToColumn_0 0 rfl rfl rfl ?_
  refine zq_iload_n (q := 2) G dX3_addToColumn_1 1 rfl rfl rfl ?_
  obtain ⟨z1, hc1, h⟩ := zbd h
  rcases zsum z1 with ⟨E1, e1⟩ | ⟨r1, e1⟩
  · have h := zselL2 h e1
    exact zq_outVv (ws2 := (w_C cyI cyZ h0_0 h0_1 h0_2 h0_3 h0_4 h0_5 h0_6 h0_7 h0_8 h0_9 h0_10 h0_11 h0_12 h0_13 h0_14 h0_15 h0_16 σ0)) (isC := [0, 1, 2, 3, 4, 5, 6, 7, 8, 9, 10, 11, 12, 13, 14, 15, 16]) (isR := []) (perm := [0, 1, 2, 3, 4, 5, 6, 7, 8, 9, 10, 11, 12, 13, 14, 15, 16]) (rest := []) (As := [.int p0]) G hlocks ht zs_X3_113 dX3_addToColumn_2 (fun sz9 => c_X3_requireRealColumn l hst D cyI cyZ h0_0 h0_1 h0_2 h0_3 h0_4 h0_5 h0_6 h0_7 h0_8 h0_9 h0_10 h0_11 h0_12 h0_13 h0_14 h0_15 h0_16 σ0 p0 (.inl E1) (hc1.trans (congrArg some e1)) sz9) 0 rfl rfl rfl ⟨rfl, rfl, rfl, rfl⟩ rfl (Nat.le_of_ble_eq_true rfl) ⟨Nat.le_of_ble_eq_true rfl, Nat.le_of_ble_eq_true rfl⟩ rfl rfl (congrArg Prod.fst (zsome h)).symm (congrArg (fun w9 => (w_C cyI cyZ h0_0 h0_1 h0_2 h0_3 h0_4 h0_5 h0_6 h0_7 h0_8 h0_9 h0_10 h0_11 h0_12 h0_13 h0_14 h0_15 h0_16 w9.2)) (zsome h))
  · have h := zselR2 h e1
    refine zq_callVv (q := 5) (ws2 := (w_C cyI cyZ h0_0 h0_1 h0_2 h0_3 h0_4 h0_5 h0_6 h0_7 h0_8 h0_9 h0_10 h0_11 h0_12 h0_13 h0_14 h0_15 h0_16 σ0)) (isC := [0, 1, 2, 3, 4, 5, 6, 7, 8, 9, 10, 11, 12, 13, 14, 15, 16]) (isR := []) (perm := [0, 1, 2, 3, 4, 5, 6, 7, 8, 9, 10, 11, 12, 13, 14, 15, 16]) (rest := []) (As := [.int p0]) G zs_X3_113 dX3_addToColumn_2 (fun sz9 => zXv_ret (c_X3_requireRealColumn l hst D cyI cyZ h0_0 h0_1 h0_2 h0_3 h0_4 h0_5 h0_6 h0_7 h0_8 h0_9 h0_10 h0_11 h0_12 h0_13 h0_14 h0_15 h0_16 σ0 p0 (.inr r1) (hc1.trans (congrArg some e1)) sz9)) 0 rfl rfl rfl ⟨rfl, rfl, rfl, rfl⟩ rfl (Nat.le_of_ble_eq_true rfl) ⟨Nat.le_of_ble_eq_true rfl, Nat.le_of_ble_eq_true rfl, Nat.zero_le _, Nat.zero_le _⟩ rfl ?_
    refine zq_aload_n (q := 6) G dX3_addToColumn_5 0 rfl rfl rfl ?_
    refine zq_iload_n (q := 7) G dX3_addToColumn_6 2 rfl rfl rfl ?_
    obtain ⟨z2, hc2, h⟩ := zbd h
    rcases zsum z2 with ⟨E2, e2⟩ | ⟨r2, e2⟩
    · have h := zselL2 h e2
      exact zq_outVv (ws2 := (w_C cyI cyZ h0_0 h0_1 h0_2 h0_3 h0_4 h0_5 h0_6 h0_7 h0_8 h0_9 h0_10 h0_11 h0_12 h0_13 h0_14 h0_15 h0_16 σ0)) (isC := [0, 1, 2, 3, 4, 5, 6, 7, 8, 9, 10, 11, 12, 13, 14, 15, 16]) (isR := []) (perm := [0, 1, 2, 3, 4, 5, 6, 7, 8, 9, 10, 11, 12, 13, 14, 15, 16]) (rest := []) (As := [.int p1]) G hlocks ht zs_X3_100 dX3_addToColumn_7 (fun sz9 => c_X3_requireAddend l hst D cyI cyZ h0_0 h0_1 h0_2 h0_3 h0_4 h0_5 h0_6 h0_7 h0_8 h0_9 h0_10 h0_11 h0_12 h0_13 h0_14 h0_15 h0_16 σ0 p1 (.inl E2) (hc2.trans (congrArg some e2)) sz9) 0 rfl rfl rfl ⟨rfl, rfl, rfl, rfl⟩ rfl (Nat.le_of_ble_eq_true rfl) ⟨Nat.le_of_ble_eq_true rfl, Nat.le_of_ble_eq_true rfl⟩ rfl rfl (congrArg Prod.fst (zsome h)).symm (congrArg (fun w9 => (w_C cyI cyZ h0_0 h0_1 h0_2 h0_3 h0_4 h0_5 h0_6 h0_7 h0_8 h0_9 h0_10 h0_11 h0_12 h0_13 h0_14 h0_15 h0_16 w9.2)) (zsome h))
    · have h := zselR2 h e2
      refine zq_callVv (q := 10) (ws2 := (w_C cyI cyZ h0_0 h0_1 h0_2 h0_3 h0_4 h0_5 h0_6 h0_7 h0_8 h0_9 h0_10 h0_11 h0_12 h0_13 h0_14 h0_15 h0_16 σ0)) (isC := [0, 1, 2, 3, 4, 5, 6, 7, 8, 9, 10, 11, 12, 13, 14, 15, 16]) (isR := []) (perm := [0, 1, 2, 3, 4, 5, 6, 7, 8, 9, 10, 11, 12, 13, 14, 15, 16]) (rest := []) (As := [.int p1]) G zs_X3_100 dX3_addToColumn_7 (fun sz9 => zXv_ret (c_X3_requireAddend l hst D cyI cyZ h0_0 h0_1 h0_2 h0_3 h0_4 h0_5 h0_6 h0_7 h0_8 h0_9 h0_10 h0_11 h0_12 h0_13 h0_14 h0_15 h0_16 σ0 p1 (.inr r2) (hc2.trans (congrArg some e2)) sz9)) 0 rfl rfl rfl ⟨rfl, rfl, rfl, rfl⟩ rfl (Nat.le_of_ble_eq_true rfl) ⟨Nat.le_of_ble_eq_true rfl, Nat.le_of_ble_eq_true rfl, Nat.zero_le _, Nat.zero_le _⟩ rfl ?_
      refine zq_iconst (q := 11) (v := 0) G dX3_addToColumn_10 (by decide) rfl ?_
      refine zq_istore_n (q := 12) (lv2 := [(3, .int (0 : Int32)), (0, .ref h0_0), (1, .int p0), (2, .int p1)]) G dX3_addToColumn_11 rfl (by decide) rfl rfl ?_
      exact zq_sub _ [1, 2, 3, 0] rfl (b12  _ _ _ _ _ h)
set_option maxHeartbeats 4000000 in
set_option maxRecDepth 100000 in
theorem c_X3_swapRows (l : Launch) (hst : l.stackTraces = false) (D : va_G) (cyI cyZ : ClassId) (h0_0 h0_1 h0_2 h0_3 h0_4 h0_5 h0_6 h0_7 h0_8 h0_9 h0_10 h0_11 h0_12 h0_13 h0_14 h0_15 h0_16 : Nat) (σ0 : zC) (p0 : Int32) (p1 : Int32) (z : Sum String Int32) (o0 : zC) (h : s_X3_swapRows σ0 p0 p1 = some (z, o0)) (sz : Nat) : zXi l yX3_swapRows cX3_swapRows 4 .int 8 131 D cyI cyZ sz [.ref h0_0, .int p0, .int p1] (w_C cyI cyZ h0_0 h0_1 h0_2 h0_3 h0_4 h0_5 h0_6 h0_7 h0_8 h0_9 h0_10 h0_11 h0_12 h0_13 h0_14 h0_15 h0_16 σ0) z (w_C cyI cyZ h0_0 h0_1 h0_2 h0_3 h0_4 h0_5 h0_6 h0_7 h0_8 h0_9 h0_10 h0_11 h0_12 h0_13 h0_14 h0_15 h0_16 o0) := by
  unfold s_X3_swapRows at h
  refine zstartXI (lv0 := [(0, .ref h0_0), (1, .int p0), (2, .int p1)]) (by decide) (Nat.le_of_ble_eq_true rfl) rfl (fun p e s m args below meth c G hr hlocks ht => ?_)
  have b12 : ∀ (n : Nat) (τ0 : zC) (x1 : Int32) (x2 : Int32) (x3 : Int32), s_X3_swapRows_12 n τ0 x1 x2 x3 = some (z, o0) → zW p l e ({ frames := 8, cells := zmc z, slots := zms z, locals := 131 } : Room) s m args below meth c D (va_A (w_C cyI cyZ h0_0 h0_1 h0_2 h0_3 h0_4 h0_5 h0_6 h0_7 h0_8 h0_9 h0_10 h0_11 h0_12 h0_13 h0_14 h0_15 h0_16 σ0) sz) 4 0 0 (vx_MQ below (zQXi D cyI cyZ sz (w_C cyI cyZ h0_0 h0_1 h0_2 h0_3 h0_4 h0_5 h0_6 h0_7 h0_8 h0_9 h0_10 h0_11 h0_12 h0_13 h0_14 h0_15 h0_16 σ0) z (w_C cyI cyZ h0_0 h0_1 h0_2 h0_3 h0_4 h0_5 h0_6 h0_7 h0_8 h0_9 h0_10 h0_11 h0_12 h0_13 h0_14 h0_15 h0_16 o0)) (zXC D cyI cyZ sz (w_C cyI cyZ h0_0 h0_1 h0_2 h0_3 h0_4 h0_5 h0_6 h0_7 h0_8 h0_9 h0_10 h0_11 h0_12 h0_13 h0_14 h0_15 h0_16 σ0) z (w_C cyI cyZ h0_0 h0_1 h0_2 h0_3 h0_4 h0_5 h0_6 h0_7 h0_8 h0_9 h0_10 h0_11 h0_12 h0_13 h0_14 h0_15 h0_16 o0)) args s (zmc z) (zms z) (va_A (w_C cyI cyZ h0_0 h0_1 h0_2 h0_3 h0_4 h0_5 h0_6 h0_7 h0_8 h0_9 h0_10 h0_11 h0_12 h0_13 h0_14 h0_15 h0_16 σ0) sz)) 12 [(0, .ref h0_0), (1, .int x1), (2, .int x2), (3, .int x3)] [] (w_C cyI cyZ h0_0 h0_1 h0_2 h0_3 h0_4 h0_5 h0_6 h0_7 h0_8 h0_9 h0_10 h0_11 h0_12 h0_13 h0_14 h0_15 h0_16 τ0) := by
    intro n
    induction n with
    | zero => intro τ0 x1 x2 x3 h; rw [s_X3_swapRows_12] at h; exact nomatch h
    | succ n ih =>
      intro τ0 x1 x2 x3 h
      rw [s_X3_swapRows_12] at h
      refine zq_iload_n (q := 13) G dX3_swapRows_12 3 rfl rfl rfl ?_
      refine zq_aload_n (q := 14) G dX3_swapRows_13 0 rfl rfl rfl ?_
      refine zq_get (q := 17) G zu_X3 rfl zw_X3_f12 dX3_swapRows_14 0 0 rfl (by decide) ⟨⟨rfl, rfl⟩, rfl⟩ rfl rfl ?_
      refine zq_getN (q := 20) G zu_X1 rfl zw_X3_f72 dX3_swapRows_17 1 1 rfl (by decide) ⟨⟨rfl, rfl⟩, rfl⟩ rfl rfl ?_
      refine zq_icmp_ge (tgt := 40) (q := 23) G dX3_swapRows_20 (by decide) rfl (fun c1 => ?_) (fun c1 => ?_)
      · have h := zit h c1
        refine zq_aload_n (q := 41) G dX3_swapRows_40 0 rfl rfl rfl ?_
        refine zq_get (q := 44) G zu_X3 rfl zw_X3_f39 dX3_swapRows_41 0 6 rfl (by decide) ⟨⟨rfl, rfl⟩, rfl⟩ rfl rfl ?_
        obtain ⟨z2, hc2, h⟩ := zbd h
        refine zq_callVv (q := 47) (ws2 := (w_C cyI cyZ h0_0 h0_1 h0_2 h0_3 h0_4 h0_5 h0_6 h0_7 h0_8 h0_9 h0_10 h0_11 h0_12 h0_13 h0_14 h0_15 h0_16 (τ0.1, τ0.2.1, τ0.2.2.1, τ0.2.2.2.1, τ0.2.2.2.2.1, τ0.2.2.2.2.2.1, z2))) (isC := [15, 16]) (isR := [0, 1, 2, 3, 4, 5, 6, 7, 8, 9, 10, 11, 12, 13, 14]) (perm := [0, 1, 2, 3, 4, 5, 6, 7, 8, 9, 10, 11, 12, 13, 14, 15, 16]) (rest := []) (As := []) G zs_X3_50 dX3_swapRows_44 (fun sz9 => c_X2_cancel l D cyI cyZ h0_15 h0_16 τ0.2.2.2.2.2.2 z2 hc2 sz9) 15 rfl rfl rfl ⟨rfl, rfl, rfl, rfl⟩ rfl (Nat.le_of_ble_eq_true rfl) ⟨Nat.le_of_ble_eq_true rfl, Nat.le_of_ble_eq_true rfl, Nat.zero_le _, Nat.zero_le _⟩ rfl ?_
        refine zq_aload_n (q := 48) G dX3_swapRows_47 0 rfl rfl rfl ?_
        refine zq_get (q := 51) G zu_X3 rfl zw_X3_f12 dX3_swapRows_48 0 0 rfl (by decide) ⟨⟨rfl, rfl⟩, rfl⟩ rfl rfl ?_
        refine zq_iload_n (q := 52) G dX3_swapRows_51 1 rfl rfl rfl ?_
        obtain ⟨z3, hc3, h⟩ := zbd h
        refine zq_callVi (q := 55) (ws2 := (w_C cyI cyZ h0_0 h0_1 h0_2 h0_3 h0_4 h0_5 h0_6 h0_7 h0_8 h0_9 h0_10 h0_11 h0_12 h0_13 h0_14 h0_15 h0_16 (τ0.1, τ0.2.1, τ0.2.2.1, τ0.2.2.2.1, τ0.2.2.2.2.1, τ0.2.2.2.2.2.1, z2))) (isC := [1, 2, 3]) (isR := [0, 4, 5, 6, 7, 8, 9, 10, 11, 12, 13, 14, 15, 16]) (perm := [0, 14, 15, 16, 1, 2, 3, 4, 5, 6, 7, 8, 9, 10, 11, 12, 13]) (rest := []) (As := [.int x1]) G zs_X3_109 dX3_swapRows_52 (fun sz9 => c_X1_sumOfRow l D cyI cyZ h0_1 h0_2 h0_3 τ0.1 x1 z3 hc3 sz9) 1 rfl rfl rfl ⟨rfl, rfl, rfl, rfl⟩ rfl (Nat.le_of_ble_eq_true rfl) ⟨Nat.le_of_ble_eq_true rfl, Nat.le_of_ble_eq_true rfl, Nat.zero_le _, Nat.zero_le _⟩ rfl ?_
        refine zq_ws (congrArg (fun w9 => (w_C cyI cyZ h0_0 h0_1 h0_2 h0_3 h0_4 h0_5 h0_6 h0_7 h0_8 h0_9 h0_10 h0_11 h0_12 h0_13 h0_14 h0_15 h0_16 w9.2)) (zsome h)) ?_
        exact zq_iretX G hlocks hr rfl dX3_swapRows_55 (congrArg Prod.fst (zsome h)).symm
      · have h := zie h c1
        refine zq_aload_n (q := 24) G dX3_swapRows_23 0 rfl rfl rfl ?_
        refine zq_get (q := 27) G zu_X3 rfl zw_X3_f12 dX3_swapRows_24 0 0 rfl (by decide) ⟨⟨rfl, rfl⟩, rfl⟩ rfl rfl ?_
        refine zq_iload_n (q := 28) G dX3_swapRows_27 1 rfl rfl rfl ?_
        refine zq_iload_n (q := 29) G dX3_swapRows_28 3 rfl rfl rfl ?_
        refine zq_iload_n (q := 30) G dX3_swapRows_29 2 rfl rfl rfl ?_
        refine zq_iload_n (q := 31) G dX3_swapRows_30 3 rfl rfl rfl ?_
        obtain ⟨z4, hc4, h⟩ := zbd h
        refine zq_callVv (q := 34) (ws2 := (w_C cyI cyZ h0_0 h0_1 h0_2 h0_3 h0_4 h0_5 h0_6 h0_7 h0_8 h0_9 h0_10 h0_11 h0_12 h0_13 h0_14 h0_15 h0_16 (z4, τ0.2.1, τ0.2.2.1, τ0.2.2.2.1, τ0.2.2.2.2.1, τ0.2.2.2.2.2.1, τ0.2.2.2.2.2.2))) (isC := [1, 2, 3]) (isR := [0, 4, 5, 6, 7, 8, 9, 10, 11, 12, 13, 14, 15, 16]) (perm := [0, 14, 15, 16, 1, 2, 3, 4, 5, 6, 7, 8, 9, 10, 11, 12, 13]) (rest := []) (As := [.int x1, .int x3, .int x2, .int x3]) G zs_X3_119 dX3_swapRows_31 (fun sz9 => c_X1_swapCells l D cyI cyZ h0_1 h0_2 h0_3 τ0.1 x1 x3 x2 x3 z4 hc4 sz9) 1 rfl rfl rfl ⟨rfl, rfl, rfl, rfl⟩ rfl (Nat.le_of_ble_eq_true rfl) ⟨Nat.le_of_ble_eq_true rfl, Nat.le_of_ble_eq_true rfl, Nat.zero_le _, Nat.zero_le _⟩ rfl ?_
        refine zq_iinc (q := 37) (v := (x3 + 1)) (lv2 := [(3, .int (x3 + 1)), (0, .ref h0_0), (1, .int x1), (2, .int x2)]) G dX3_swapRows_34 3 rfl rfl (by decide) rfl rfl ?_
        refine zq_goto (q := 12) G dX3_swapRows_37 (by decide) ?_
        exact zq_sub _ [1, 2, 3, 0] rfl (ih _ _ _ _ h)
  refine zq_aload_n (q := 1) G dX3_swapRows_0 0 rfl rfl rfl ?_
  refine zq_iload_n (q := 2) G dX3_swapRows_1 1 rfl rfl rfl ?_
  obtain ⟨z1, hc1, h⟩ := zbd h
  rcases zsum z1 with ⟨E1, e1⟩ | ⟨r1, e1⟩
  · have h := zselL2 h e1
    exact zq_outVv (ws2 := (w_C cyI cyZ h0_0 h0_1 h0_2 h0_3 h0_4 h0_5 h0_6 h0_7 h0_8 h0_9 h0_10 h0_11 h0_12 h0_13 h0_14 h0_15 h0_16 σ0)) (isC := [0, 1, 2, 3, 4, 5, 6, 7, 8, 9, 10, 11, 12, 13, 14, 15, 16]) (isR := []) (perm := [0, 1, 2, 3, 4, 5, 6, 7, 8, 9, 10, 11, 12, 13, 14, 15, 16]) (rest := []) (As := [.int p0]) G hlocks ht zs_X3_64 dX3_swapRows_2 (fun sz9 => c_X3_requireRow l hst D cyI cyZ h0_0 h0_1 h0_2 h0_3 h0_4 h0_5 h0_6 h0_7 h0_8 h0_9 h0_10 h0_11 h0_12 h0_13 h0_14 h0_15 h0_16 σ0 p0 (.inl E1) (hc1.trans (congrArg some e1)) sz9) 0 rfl rfl rfl ⟨rfl, rfl, rfl, rfl⟩ rfl (Nat.le_of_ble_eq_true rfl) ⟨Nat.le_of_ble_eq_true rfl, Nat.le_of_ble_eq_true rfl⟩ rfl rfl (congrArg Prod.fst (zsome h)).symm (congrArg (fun w9 => (w_C cyI cyZ h0_0 h0_1 h0_2 h0_3 h0_4 h0_5 h0_6 h0_7 h0_8 h0_9 h0_10 h0_11 h0_12 h0_13 h0_14 h0_15 h0_16 w9.2)) (zsome h))
  · have h := zselR2 h e1
    refine zq_callVv (q := 5) (ws2 := (w_C cyI cyZ h0_0 h0_1 h0_2 h0_3 h0_4 h0_5 h0_6 h0_7 h0_8 h0_9 h0_10 h0_11 h0_12 h0_13 h0_14 h0_15 h0_16 σ0)) (isC := [0, 1, 2, 3, 4, 5, 6, 7, 8, 9, 10, 11, 12, 13, 14, 15, 16]) (isR := []) (perm := [0, 1, 2, 3, 4, 5, 6, 7, 8, 9, 10, 11, 12, 13, 14, 15, 16]) (rest := []) (As := [.int p0]) G zs_X3_64 dX3_swapRows_2 (fun sz9 => zXv_ret (c_X3_requireRow l hst D cyI cyZ h0_0 h0_1 h0_2 h0_3 h0_4 h0_5 h0_6 h0_7 h0_8 h0_9 h0_10 h0_11 h0_12 h0_13 h0_14 h0_15 h0_16 σ0 p0 (.inr r1) (hc1.trans (congrArg some e1)) sz9)) 0 rfl rfl rfl ⟨rfl, rfl, rfl, rfl⟩ rfl (Nat.le_of_ble_eq_true rfl) ⟨Nat.le_of_ble_eq_true rfl, Nat.le_of_ble_eq_true rfl, Nat.zero_le _, Nat.zero_le _⟩ rfl ?_
    refine zq_aload_n (q := 6) G dX3_swapRows_5 0 rfl rfl rfl ?_
    refine zq_iload_n (q := 7) G dX3_swapRows_6 2 rfl rfl rfl ?_
    obtain ⟨z2, hc2, h⟩ := zbd h
    rcases zsum z2 with ⟨E2, e2⟩ | ⟨r2, e2⟩
    · have h := zselL2 h e2
      exact zq_outVv (ws2 := (w_C cyI cyZ h0_0 h0_1 h0_2 h0_3 h0_4 h0_5 h0_6 h0_7 h0_8 h0_9 h0_10 h0_11 h0_12 h0_13 h0_14 h0_15 h0_16 σ0)) (isC := [0, 1, 2, 3, 4, 5, 6, 7, 8, 9, 10, 11, 12, 13, 14, 15, 16]) (isR := []) (perm := [0, 1, 2, 3, 4, 5, 6, 7, 8, 9, 10, 11, 12, 13, 14, 15, 16]) (rest := []) (As := [.int p1]) G hlocks ht zs_X3_64 dX3_swapRows_7 (fun sz9 => c_X3_requireRow l hst D cyI cyZ h0_0 h0_1 h0_2 h0_3 h0_4 h0_5 h0_6 h0_7 h0_8 h0_9 h0_10 h0_11 h0_12 h0_13 h0_14 h0_15 h0_16 σ0 p1 (.inl E2) (hc2.trans (congrArg some e2)) sz9) 0 rfl rfl rfl ⟨rfl, rfl, rfl, rfl⟩ rfl (Nat.le_of_ble_eq_true rfl) ⟨Nat.le_of_ble_eq_true rfl, Nat.le_of_ble_eq_true rfl⟩ rfl rfl (congrArg Prod.fst (zsome h)).symm (congrArg (fun w9 => (w_C cyI cyZ h0_0 h0_1 h0_2 h0_3 h0_4 h0_5 h0_6 h0_7 h0_8 h0_9 h0_10 h0_11 h0_12 h0_13 h0_14 h0_15 h0_16 w9.2)) (zsome h))
    · have h := zselR2 h e2
      refine zq_callVv (q := 10) (ws2 := (w_C cyI cyZ h0_0 h0_1 h0_2 h0_3 h0_4 h0_5 h0_6 h0_7 h0_8 h0_9 h0_10 h0_11 h0_12 h0_13 h0_14 h0_15 h0_16 σ0)) (isC := [0, 1, 2, 3, 4, 5, 6, 7, 8, 9, 10, 11, 12, 13, 14, 15, 16]) (isR := []) (perm := [0, 1, 2, 3, 4, 5, 6, 7, 8, 9, 10, 11, 12, 13, 14, 15, 16]) (rest := []) (As := [.int p1]) G zs_X3_64 dX3_swapRows_7 (fun sz9 => zXv_ret (c_X3_requireRow l hst D cyI cyZ h0_0 h0_1 h0_2 h0_3 h0_4 h0_5 h0_6 h0_7 h0_8 h0_9 h0_10 h0_11 h0_12 h0_13 h0_14 h0_15 h0_16 σ0 p1 (.inr r2) (hc2.trans (congrArg some e2)) sz9)) 0 rfl rfl rfl ⟨rfl, rfl, rfl, rfl⟩ rfl (Nat.le_of_ble_eq_true rfl) ⟨Nat.le_of_ble_eq_true rfl, Nat.le_of_ble_eq_true rfl, Nat.zero_le _, Nat.zero_le _⟩ rfl ?_
      refine zq_iconst (q := 11) (v := 0) G dX3_swapRows_10 (by decide) rfl ?_
      refine zq_istore_n (q := 12) (lv2 := [(3, .int (0 : Int32)), (0, .ref h0_0), (1, .int p0), (2, .int p1)]) G dX3_swapRows_11 rfl (by decide) rfl rfl ?_
      exact zq_sub _ [1, 2, 3, 0] rfl (b12  _ _ _ _ _ h)
set_option maxHeartbeats 4000000 in
set_option maxRecDepth 100000 in
theorem c_X3_swapColumns (l : Launch) (hst : l.stackTraces = false) (D : va_G) (cyI cyZ : ClassId) (h0_0 h0_1 h0_2 h0_3 h0_4 h0_5 h0_6 h0_7 h0_8 h0_9 h0_10 h0_11 h0_12 h0_13 h0_14 h0_15 h0_16 : Nat) (σ0 : zC) (p0 : Int32) (p1 : Int32) (z : Sum String Int32) (o0 : zC) (h : s_X3_swapColumns σ0 p0 p1 = some (z, o0)) (sz : Nat) : zXi l yX3_swapColumns cX3_swapColumns 4 .int 8 131 D cyI cyZ sz [.ref h0_0, .int p0, .int p1] (w_C cyI cyZ h0_0 h0_1 h0_2 h0_3 h0_4 h0_5 h0_6 h0_7 h0_8 h0_9 h0_10 h0_11 h0_12 h0_13 h0_14 h0_15 h0_16 σ0) z (w_C cyI cyZ h0_0 h0_1 h0_2 h0_3 h0_4 h0_5 h0_6 h0_7 h0_8 h0_9 h0_10 h0_11 h0_12 h0_13 h0_14 h0_15 h0_16 o0) := by
  unfold s_X3_swapColumns at h
  refine zstartXI (lv0 := [(0, .ref h0_0), (1, .int p0), (2, .int p1)]) (by decide) (Nat.le_of_ble_eq_true rfl) rfl (fun p e s m args below meth c G hr hlocks ht => ?_)
  have b12 : ∀ (n : Nat) (τ0 : zC) (x1 : Int32) (x2 : Int32) (x3 : Int32), s_X3_swapColumns_12 n τ0 x1 x2 x3 = some (z, o0) → zW p l e ({ frames := 8, cells := zmc z, slots := zms z, locals := 131 } : Room) s m args below meth c D (va_A (w_C cyI cyZ h0_0 h0_1 h0_2 h0_3 h0_4 h0_5 h0_6 h0_7 h0_8 h0_9 h0_10 h0_11 h0_12 h0_13 h0_14 h0_15 h0_16 σ0) sz) 4 0 0 (vx_MQ below (zQXi D cyI cyZ sz (w_C cyI cyZ h0_0 h0_1 h0_2 h0_3 h0_4 h0_5 h0_6 h0_7 h0_8 h0_9 h0_10 h0_11 h0_12 h0_13 h0_14 h0_15 h0_16 σ0) z (w_C cyI cyZ h0_0 h0_1 h0_2 h0_3 h0_4 h0_5 h0_6 h0_7 h0_8 h0_9 h0_10 h0_11 h0_12 h0_13 h0_14 h0_15 h0_16 o0)) (zXC D cyI cyZ sz (w_C cyI cyZ h0_0 h0_1 h0_2 h0_3 h0_4 h0_5 h0_6 h0_7 h0_8 h0_9 h0_10 h0_11 h0_12 h0_13 h0_14 h0_15 h0_16 σ0) z (w_C cyI cyZ h0_0 h0_1 h0_2 h0_3 h0_4 h0_5 h0_6 h0_7 h0_8 h0_9 h0_10 h0_11 h0_12 h0_13 h0_14 h0_15 h0_16 o0)) args s (zmc z) (zms z) (va_A (w_C cyI cyZ h0_0 h0_1 h0_2 h0_3 h0_4 h0_5 h0_6 h0_7 h0_8 h0_9 h0_10 h0_11 h0_12 h0_13 h0_14 h0_15 h0_16 σ0) sz)) 12 [(0, .ref h0_0), (1, .int x1), (2, .int x2), (3, .int x3)] [] (w_C cyI cyZ h0_0 h0_1 h0_2 h0_3 h0_4 h0_5 h0_6 h0_7 h0_8 h0_9 h0_10 h0_11 h0_12 h0_13 h0_14 h0_15 h0_16 τ0) := by
    intro n
    induction n with
    | zero => intro τ0 x1 x2 x3 h; rw [s_X3_swapColumns_12] at h; exact nomatch h
    | succ n ih =>
      intro τ0 x1 x2 x3 h
      rw [s_X3_swapColumns_12] at h
      refine zq_iload_n (q := 13) G dX3_swapColumns_12 3 rfl rfl rfl ?_
      refine zq_aload_n (q := 14) G dX3_swapColumns_13 0 rfl rfl rfl ?_
      refine zq_get (q := 17) G zu_X3 rfl zw_X3_f12 dX3_swapColumns_14 0 0 rfl (by decide) ⟨⟨rfl, rfl⟩, rfl⟩ rfl rfl ?_
      refine zq_getN (q := 20) G zu_X1 rfl zw_X3_f83 dX3_swapColumns_17 1 0 rfl (by decide) ⟨⟨rfl, rfl⟩, rfl⟩ rfl rfl ?_
      refine zq_icmp_ge (tgt := 40) (q := 23) G dX3_swapColumns_20 (by decide) rfl (fun c1 => ?_) (fun c1 => ?_)
      · have h := zit h c1
        refine zq_aload_n (q := 41) G dX3_swapColumns_40 0 rfl rfl rfl ?_
        refine zq_get (q := 44) G zu_X3 rfl zw_X3_f39 dX3_swapColumns_41 0 6 rfl (by decide) ⟨⟨rfl, rfl⟩, rfl⟩ rfl rfl ?_
        obtain ⟨z2, hc2, h⟩ := zbd h
        refine zq_callVv (q := 47) (ws2 := (w_C cyI cyZ h0_0 h0_1 h0_2 h0_3 h0_4 h0_5 h0_6 h0_7 h0_8 h0_9 h0_10 h0_11 h0_12 h0_13 h0_14 h0_15 h0_16 (τ0.1, τ0.2.1, τ0.2.2.1, τ0.2.2.2.1, τ0.2.2.2.2.1, τ0.2.2.2.2.2.1, z2))) (isC := [15, 16]) (isR := [0, 1, 2, 3, 4, 5, 6, 7, 8, 9, 10, 11, 12, 13, 14]) (perm := [0, 1, 2, 3, 4, 5, 6, 7, 8, 9, 10, 11, 12, 13, 14, 15, 16]) (rest := []) (As := []) G zs_X3_50 dX3_swapColumns_44 (fun sz9 => c_X2_cancel l D cyI cyZ h0_15 h0_16 τ0.2.2.2.2.2.2 z2 hc2 sz9) 15 rfl rfl rfl ⟨rfl, rfl, rfl, rfl⟩ rfl (Nat.le_of_ble_eq_true rfl) ⟨Nat.le_of_ble_eq_true rfl, Nat.le_of_ble_eq_true rfl, Nat.zero_le _, Nat.zero_le _⟩ rfl ?_
        refine zq_aload_n (q := 48) G dX3_swapColumns_47 0 rfl rfl rfl ?_
        refine zq_get (q := 51) G zu_X3 rfl zw_X3_f12 dX3_swapColumns_48 0 0 rfl (by decide) ⟨⟨rfl, rfl⟩, rfl⟩ rfl rfl ?_
        refine zq_iload_n (q := 52) G dX3_swapColumns_51 1 rfl rfl rfl ?_
        obtain ⟨z3, hc3, h⟩ := zbd h
        refine zq_callVi (q := 55) (ws2 := (w_C cyI cyZ h0_0 h0_1 h0_2 h0_3 h0_4 h0_5 h0_6 h0_7 h0_8 h0_9 h0_10 h0_11 h0_12 h0_13 h0_14 h0_15 h0_16 (τ0.1, τ0.2.1, τ0.2.2.1, τ0.2.2.2.1, τ0.2.2.2.2.1, τ0.2.2.2.2.2.1, z2))) (isC := [1, 2, 3]) (isR := [0, 4, 5, 6, 7, 8, 9, 10, 11, 12, 13, 14, 15, 16]) (perm := [0, 14, 15, 16, 1, 2, 3, 4, 5, 6, 7, 8, 9, 10, 11, 12, 13]) (rest := []) (As := [.int x1]) G zs_X3_116 dX3_swapColumns_52 (fun sz9 => c_X1_sumOfColumn l D cyI cyZ h0_1 h0_2 h0_3 τ0.1 x1 z3 hc3 sz9) 1 rfl rfl rfl ⟨rfl, rfl, rfl, rfl⟩ rfl (Nat.le_of_ble_eq_true rfl) ⟨Nat.le_of_ble_eq_true rfl, Nat.le_of_ble_eq_true rfl, Nat.zero_le _, Nat.zero_le _⟩ rfl ?_
        refine zq_ws (congrArg (fun w9 => (w_C cyI cyZ h0_0 h0_1 h0_2 h0_3 h0_4 h0_5 h0_6 h0_7 h0_8 h0_9 h0_10 h0_11 h0_12 h0_13 h0_14 h0_15 h0_16 w9.2)) (zsome h)) ?_
        exact zq_iretX G hlocks hr rfl dX3_swapColumns_55 (congrArg Prod.fst (zsome h)).symm
      · have h := zie h c1
        refine zq_aload_n (q := 24) G dX3_swapColumns_23 0 rfl rfl rfl ?_
        refine zq_get (q := 27) G zu_X3 rfl zw_X3_f12 dX3_swapColumns_24 0 0 rfl (by decide) ⟨⟨rfl, rfl⟩, rfl⟩ rfl rfl ?_
        refine zq_iload_n (q := 28) G dX3_swapColumns_27 3 rfl rfl rfl ?_
        refine zq_iload_n (q := 29) G dX3_swapColumns_28 1 rfl rfl rfl ?_
        refine zq_iload_n (q := 30) G dX3_swapColumns_29 3 rfl rfl rfl ?_
        refine zq_iload_n (q := 31) G dX3_swapColumns_30 2 rfl rfl rfl ?_
        obtain ⟨z4, hc4, h⟩ := zbd h
        refine zq_callVv (q := 34) (ws2 := (w_C cyI cyZ h0_0 h0_1 h0_2 h0_3 h0_4 h0_5 h0_6 h0_7 h0_8 h0_9 h0_10 h0_11 h0_12 h0_13 h0_14 h0_15 h0_16 (z4, τ0.2.1, τ0.2.2.1, τ0.2.2.2.1, τ0.2.2.2.2.1, τ0.2.2.2.2.2.1, τ0.2.2.2.2.2.2))) (isC := [1, 2, 3]) (isR := [0, 4, 5, 6, 7, 8, 9, 10, 11, 12, 13, 14, 15, 16]) (perm := [0, 14, 15, 16, 1, 2, 3, 4, 5, 6, 7, 8, 9, 10, 11, 12, 13]) (rest := []) (As := [.int x3, .int x1, .int x3, .int x2]) G zs_X3_119 dX3_swapColumns_31 (fun sz9 => c_X1_swapCells l D cyI cyZ h0_1 h0_2 h0_3 τ0.1 x3 x1 x3 x2 z4 hc4 sz9) 1 rfl rfl rfl ⟨rfl, rfl, rfl, rfl⟩ rfl (Nat.le_of_ble_eq_true rfl) ⟨Nat.le_of_ble_eq_true rfl, Nat.le_of_ble_eq_true rfl, Nat.zero_le _, Nat.zero_le _⟩ rfl ?_
        refine zq_iinc (q := 37) (v := (x3 + 1)) (lv2 := [(3, .int (x3 + 1)), (0, .ref h0_0), (1, .int x1), (2, .int x2)]) G dX3_swapColumns_34 3 rfl rfl (by decide) rfl rfl ?_
        refine zq_goto (q := 12) G dX3_swapColumns_37 (by decide) ?_
        exact zq_sub _ [1, 2, 3, 0] rfl (ih _ _ _ _ h)
  refine zq_aload_n (q := 1) G dX3_swapColumns_0 0 rfl rfl rfl ?_
  refine zq_iload_n (q := 2) G dX3_swapColumns_1 1 rfl rfl rfl ?_
  obtain ⟨z1, hc1, h⟩ := zbd h
  rcases zsum z1 with ⟨E1, e1⟩ | ⟨r1, e1⟩
  · have h := zselL2 h e1
    exact zq_outVv (ws2 := (w_C cyI cyZ h0_0 h0_1 h0_2 h0_3 h0_4 h0_5 h0_6 h0_7 h0_8 h0_9 h0_10 h0_11 h0_12 h0_13 h0_14 h0_15 h0_16 σ0)) (isC := [0, 1, 2, 3, 4, 5, 6, 7, 8, 9, 10, 11, 12, 13, 14, 15, 16]) (isR := []) (perm := [0, 1, 2, 3, 4, 5, 6, 7, 8, 9, 10, 11, 12, 13, 14, 15, 16]) (rest := []) (As := [.int p0]) G hlocks ht zs_X3_113 dX3_swapColumns_2 (fun sz9 => c_X3_requireRealColumn l hst D cyI cyZ h0_0 h0_1 h0_2 h0_3 h0_4 h0_5 h0_6 h0_7 h0_8 h0_9 h0_10 h0_11 h0_12 h0_13 h0_14 h0_15 h0_16 σ0 p0 (.inl E1) (hc1.trans (congrArg some e1)) sz9) 0 rfl rfl rfl ⟨rfl, rfl, rfl, rfl⟩ rfl (Nat.le_of_ble_eq_true rfl) ⟨Nat.le_of_ble_eq_true rfl, Nat.le_of_ble_eq_true rfl⟩ rfl rfl (congrArg Prod.fst (zsome h)).symm (congrArg (fun w9 => (w_C cyI cyZ h0_0 h0_1 h0_2 h0_3 h0_4 h0_5 h0_6 h0_7 h0_8 h0_9 h0_10 h0_11 h0_12 h0_13 h0_14 h0_15 h0_16 w9.2)) (zsome h))
  · have h := zselR2 h e1
    refine zq_callVv (q := 5) (ws2 := (w_C cyI cyZ h0_0 h0_1 h0_2 h0_3 h0_4 h0_5 h0_6 h0_7 h0_8 h0_9 h0_10 h0_11 h0_12 h0_13 h0_14 h0_15 h0_16 σ0)) (isC := [0, 1, 2, 3, 4, 5, 6, 7, 8, 9, 10, 11, 12, 13, 14, 15, 16]) (isR := []) (perm := [0, 1, 2, 3, 4, 5, 6, 7, 8, 9, 10, 11, 12, 13, 14, 15, 16]) (rest := []) (As := [.int p0]) G zs_X3_113 dX3_swapColumns_2 (fun sz9 => zXv_ret (c_X3_requireRealColumn l hst D cyI cyZ h0_0 h0_1 h0_2 h0_3 h0_4 h0_5 h0_6 h0_7 h0_8 h0_9 h0_10 h0_11 h0_12 h0_13 h0_14 h0_15 h0_16 σ0 p0 (.inr r1) (hc1.trans (congrArg some e1)) sz9)) 0 rfl rfl rfl ⟨rfl, rfl, rfl, rfl⟩ rfl (Nat.le_of_ble_eq_true rfl) ⟨Nat.le_of_ble_eq_true rfl, Nat.le_of_ble_eq_true rfl, Nat.zero_le _, Nat.zero_le _⟩ rfl ?_
    refine zq_aload_n (q := 6) G dX3_swapColumns_5 0 rfl rfl rfl ?_
    refine zq_iload_n (q := 7) G dX3_swapColumns_6 2 rfl rfl rfl ?_
    obtain ⟨z2, hc2, h⟩ := zbd h
    rcases zsum z2 with ⟨E2, e2⟩ | ⟨r2, e2⟩
    · have h := zselL2 h e2
      exact zq_outVv (ws2 := (w_C cyI cyZ h0_0 h0_1 h0_2 h0_3 h0_4 h0_5 h0_6 h0_7 h0_8 h0_9 h0_10 h0_11 h0_12 h0_13 h0_14 h0_15 h0_16 σ0)) (isC := [0, 1, 2, 3, 4, 5, 6, 7, 8, 9, 10, 11, 12, 13, 14, 15, 16]) (isR := []) (perm := [0, 1, 2, 3, 4, 5, 6, 7, 8, 9, 10, 11, 12, 13, 14, 15, 16]) (rest := []) (As := [.int p1]) G hlocks ht zs_X3_113 dX3_swapColumns_7 (fun sz9 => c_X3_requireRealColumn l hst D cyI cyZ h0_0 h0_1 h0_2 h0_3 h0_4 h0_5 h0_6 h0_7 h0_8 h0_9 h0_10 h0_11 h0_12 h0_13 h0_14 h0_15 h0_16 σ0 p1 (.inl E2) (hc2.trans (congrArg some e2)) sz9) 0 rfl rfl rfl ⟨rfl, rfl, rfl, rfl⟩ rfl (Nat.le_of_ble_eq_true rfl) ⟨Nat.le_of_ble_eq_true rfl, Nat.le_of_ble_eq_true rfl⟩ rfl rfl (congrArg Prod.fst (zsome h)).symm (congrArg (fun w9 => (w_C cyI cyZ h0_0 h0_1 h0_2 h0_3 h0_4 h0_5 h0_6 h0_7 h0_8 h0_9 h0_10 h0_11 h0_12 h0_13 h0_14 h0_15 h0_16 w9.2)) (zsome h))
    · have h := zselR2 h e2
      refine zq_callVv (q := 10) (ws2 := (w_C cyI cyZ h0_0 h0_1 h0_2 h0_3 h0_4 h0_5 h0_6 h0_7 h0_8 h0_9 h0_10 h0_11 h0_12 h0_13 h0_14 h0_15 h0_16 σ0)) (isC := [0, 1, 2, 3, 4, 5, 6, 7, 8, 9, 10, 11, 12, 13, 14, 15, 16]) (isR := []) (perm := [0, 1, 2, 3, 4, 5, 6, 7, 8, 9, 10, 11, 12, 13, 14, 15, 16]) (rest := []) (As := [.int p1]) G zs_X3_113 dX3_swapColumns_7 (fun sz9 => zXv_ret (c_X3_requireRealColumn l hst D cyI cyZ h0_0 h0_1 h0_2 h0_3 h0_4 h0_5 h0_6 h0_7 h0_8 h0_9 h0_10 h0_11 h0_12 h0_13 h0_14 h0_15 h0_16 σ0 p1 (.inr r2) (hc2.trans (congrArg some e2)) sz9)) 0 rfl rfl rfl ⟨rfl, rfl, rfl, rfl⟩ rfl (Nat.le_of_ble_eq_true rfl) ⟨Nat.le_of_ble_eq_true rfl, Nat.le_of_ble_eq_true rfl, Nat.zero_le _, Nat.zero_le _⟩ rfl ?_
      refine zq_iconst (q := 11) (v := 0) G dX3_swapColumns_10 (by decide) rfl ?_
      refine zq_istore_n (q := 12) (lv2 := [(3, .int (0 : Int32)), (0, .ref h0_0), (1, .int p0), (2, .int p1)]) G dX3_swapColumns_11 rfl (by decide) rfl rfl ?_
      exact zq_sub _ [1, 2, 3, 0] rfl (b12  _ _ _ _ _ h)
set_option maxHeartbeats 4000000 in
set_option maxRecDepth 100000 in
theorem c_X3_transpose (l : Launch) (hst : l.stackTraces = false) (D : va_G) (cyI cyZ : ClassId) (h0_0 h0_1 h0_2 h0_3 h0_4 h0_5 h0_6 h0_7 h0_8 h0_9 h0_10 h0_11 h0_12 h0_13 h0_14 h0_15 h0_16 : Nat) (σ0 : zC) (z : Sum String Int32) (o0 : zC) (h : s_X3_transpose σ0 = some (z, o0)) (sz : Nat) : zXi l yX3_transpose cX3_transpose 3 .int 8 130 D cyI cyZ sz [.ref h0_0] (w_C cyI cyZ h0_0 h0_1 h0_2 h0_3 h0_4 h0_5 h0_6 h0_7 h0_8 h0_9 h0_10 h0_11 h0_12 h0_13 h0_14 h0_15 h0_16 σ0) z (w_C cyI cyZ h0_0 h0_1 h0_2 h0_3 h0_4 h0_5 h0_6 h0_7 h0_8 h0_9 h0_10 h0_11 h0_12 h0_13 h0_14 h0_15 h0_16 o0) := by
  unfold s_X3_transpose at h
  refine zstartXI (lv0 := [(0, .ref h0_0)]) (by decide) (Nat.le_of_ble_eq_true rfl) rfl (fun p e s m args below meth c G hr hlocks ht => ?_)
  have b19 : ∀ (k6 : (zC → Int32 → Option ((Sum String Int32) × zC))) (hk6 : ∀ (τ0 : zC) (x1 : Int32), k6 τ0 x1 = some (z, o0) → zW p l e ({ frames := 8, cells := zmc z, slots := zms z, locals := 130 } : Room) s m args below meth c D (va_A (w_C cyI cyZ h0_0 h0_1 h0_2 h0_3 h0_4 h0_5 h0_6 h0_7 h0_8 h0_9 h0_10 h0_11 h0_12 h0_13 h0_14 h0_15 h0_16 σ0) sz) 3 0 0 (vx_MQ below (zQXi D cyI cyZ sz (w_C cyI cyZ h0_0 h0_1 h0_2 h0_3 h0_4 h0_5 h0_6 h0_7 h0_8 h0_9 h0_10 h0_11 h0_12 h0_13 h0_14 h0_15 h0_16 σ0) z (w_C cyI cyZ h0_0 h0_1 h0_2 h0_3 h0_4 h0_5 h0_6 h0_7 h0_8 h0_9 h0_10 h0_11 h0_12 h0_13 h0_14 h0_15 h0_16 o0)) (zXC D cyI cyZ sz (w_C cyI cyZ h0_0 h0_1 h0_2 h0_3 h0_4 h0_5 h0_6 h0_7 h0_8 h0_9 h0_10 h0_11 h0_12 h0_13 h0_14 h0_15 h0_16 σ0) z (w_C cyI cyZ h0_0 h0_1 h0_2 h0_3 h0_4 h0_5 h0_6 h0_7 h0_8 h0_9 h0_10 h0_11 h0_12 h0_13 h0_14 h0_15 h0_16 o0)) args s (zmc z) (zms z) (va_A (w_C cyI cyZ h0_0 h0_1 h0_2 h0_3 h0_4 h0_5 h0_6 h0_7 h0_8 h0_9 h0_10 h0_11 h0_12 h0_13 h0_14 h0_15 h0_16 σ0) sz)) 6 [(0, .ref h0_0), (1, .int x1)] [] (w_C cyI cyZ h0_0 h0_1 h0_2 h0_3 h0_4 h0_5 h0_6 h0_7 h0_8 h0_9 h0_10 h0_11 h0_12 h0_13 h0_14 h0_15 h0_16 τ0)) (n : Nat) (τ0 : zC) (x1 : Int32) (x2 : Int32), s_X3_transpose_19 k6 n τ0 x1 x2 = some (z, o0) → zW p l e ({ frames := 8, cells := zmc z, slots := zms z, locals := 130 } : Room) s m args below meth c D (va_A (w_C cyI cyZ h0_0 h0_1 h0_2 h0_3 h0_4 h0_5 h0_6 h0_7 h0_8 h0_9 h0_10 h0_11 h0_12 h0_13 h0_14 h0_15 h0_16 σ0) sz) 3 0 0 (vx_MQ below (zQXi D cyI cyZ sz (w_C cyI cyZ h0_0 h0_1 h0_2 h0_3 h0_4 h0_5 h0_6 h0_7 h0_8 h0_9 h0_10 h0_11 h0_12 h0_13 h0_14 h0_15 h0_16 σ0) z (w_C cyI cyZ h0_0 h0_1 h0_2 h0_3 h0_4 h0_5 h0_6 h0_7 h0_8 h0_9 h0_10 h0_11 h0_12 h0_13 h0_14 h0_15 h0_16 o0)) (zXC D cyI cyZ sz (w_C cyI cyZ h0_0 h0_1 h0_2 h0_3 h0_4 h0_5 h0_6 h0_7 h0_8 h0_9 h0_10 h0_11 h0_12 h0_13 h0_14 h0_15 h0_16 σ0) z (w_C cyI cyZ h0_0 h0_1 h0_2 h0_3 h0_4 h0_5 h0_6 h0_7 h0_8 h0_9 h0_10 h0_11 h0_12 h0_13 h0_14 h0_15 h0_16 o0)) args s (zmc z) (zms z) (va_A (w_C cyI cyZ h0_0 h0_1 h0_2 h0_3 h0_4 h0_5 h0_6 h0_7 h0_8 h0_9 h0_10 h0_11 h0_12 h0_13 h0_14 h0_15 h0_16 σ0) sz)) 19 [(0, .ref h0_0), (1, .int x1), (2, .int x2)] [] (w_C cyI cyZ h0_0 h0_1 h0_2 h0_3 h0_4 h0_5 h0_6 h0_7 h0_8 h0_9 h0_10 h0_11 h0_12 h0_13 h0_14 h0_15 h0_16 τ0) := by
    intro k6 hk6
    intro n
    induction n with
    | zero => intro τ0 x1 x2 h; rw [s_X3_transpose_19] at h; exact nomatch h
    | succ n ih =>
      intro τ0 x1 x2 h
      rw [s_X3_transpose_19] at h
      refine zq_iload_n (q := 20) G dX3_transpose_19 2 rfl rfl rfl ?_
      refine zq_iload_n (q := 21) G dX3_transpose_20 1 rfl rfl rfl ?_
      refine zq_icmp_ge (tgt := 41) (q := 24) G dX3_transpose_21 (by decide) rfl (fun c1 => ?_) (fun c1 => ?_)
      · have h := zit h c1
        refine zq_iinc (q := 44) (v := (x1 + 1)) (lv2 := [(1, .int (x1 + 1)), (0, .ref h0_0), (2, .int x2)]) G dX3_transpose_41 1 rfl rfl (by decide) rfl rfl ?_
        refine zq_goto (q := 6) G dX3_transpose_44 (by decide) ?_
        exact zq_sub _ [1, 0] rfl (hk6 _ _ h)
      · have h := zie h c1
        refine zq_aload_n (q := 25) G dX3_transpose_24 0 rfl rfl rfl ?_
        refine zq_get (q := 28) G zu_X3 rfl zw_X3_f12 dX3_transpose_25 0 0 rfl (by decide) ⟨⟨rfl, rfl⟩, rfl⟩ rfl rfl ?_
        refine zq_iload_n (q := 29) G dX3_transpose_28 1 rfl rfl rfl ?_
        refine zq_iload_n (q := 30) G dX3_transpose_29 2 rfl rfl rfl ?_
        refine zq_iload_n (q := 31) G dX3_transpose_30 2 rfl rfl rfl ?_
        refine zq_iload_n (q := 32) G dX3_transpose_31 1 rfl rfl rfl ?_
        obtain ⟨z2, hc2, h⟩ := zbd h
        refine zq_callVv (q := 35) (ws2 := (w_C cyI cyZ h0_0 h0_1 h0_2 h0_3 h0_4 h0_5 h0_6 h0_7 h0_8 h0_9 h0_10 h0_11 h0_12 h0_13 h0_14 h0_15 h0_16 (z2, τ0.2.1, τ0.2.2.1, τ0.2.2.2.1, τ0.2.2.2.2.1, τ0.2.2.2.2.2.1, τ0.2.2.2.2.2.2))) (isC := [1, 2, 3]) (isR := [0, 4, 5, 6, 7, 8, 9, 10, 11, 12, 13, 14, 15, 16]) (perm := [0, 14, 15, 16, 1, 2, 3, 4, 5, 6, 7, 8, 9, 10, 11, 12, 13]) (rest := []) (As := [.int x1, .int x2, .int x2, .int x1]) G zs_X3_119 dX3_transpose_32 (fun sz9 => c_X1_swapCells l D cyI cyZ h0_1 h0_2 h0_3 τ0.1 x1 x2 x2 x1 z2 hc2 sz9) 1 rfl rfl rfl ⟨rfl, rfl, rfl, rfl⟩ rfl (Nat.le_of_ble_eq_true rfl) ⟨Nat.le_of_ble_eq_true rfl, Nat.le_of_ble_eq_true rfl, Nat.zero_le _, Nat.zero_le _⟩ rfl ?_
        refine zq_iinc (q := 38) (v := (x2 + 1)) (lv2 := [(2, .int (x2 + 1)), (0, .ref h0_0), (1, .int x1)]) G dX3_transpose_35 2 rfl rfl (by decide) rfl rfl ?_
        refine zq_goto (q := 19) G dX3_transpose_38 (by decide) ?_
        exact zq_sub _ [1, 2, 0] rfl (ih _ _ _ h)
  have b6 : ∀ (n : Nat) (τ0 : zC) (x1 : Int32), s_X3_transpose_6 n τ0 x1 = some (z, o0) → zW p l e ({ frames := 8, cells := zmc z, slots := zms z, locals := 130 } : Room) s m args below meth c D (va_A (w_C cyI cyZ h0_0 h0_1 h0_2 h0_3 h0_4 h0_5 h0_6 h0_7 h0_8 h0_9 h0_10 h0_11 h0_12 h0_13 h0_14 h0_15 h0_16 σ0) sz) 3 0 0 (vx_MQ below (zQXi D cyI cyZ sz (w_C cyI cyZ h0_0 h0_1 h0_2 h0_3 h0_4 h0_5 h0_6 h0_7 h0_8 h0_9 h0_10 h0_11 h0_12 h0_13 h0_14 h0_15 h0_16 σ0) z (w_C cyI cyZ h0_0 h0_1 h0_2 h0_3 h0_4 h0_5 h0_6 h0_7 h0_8 h0_9 h0_10 h0_11 h0_12 h0_13 h0_14 h0_15 h0_16 o0)) (zXC D cyI cyZ sz (w_C cyI cyZ h0_0 h0_1 h0_2 h0_3 h0_4 h0_5 h0_6 h0_7 h0_8 h0_9 h0_10 h0_11 h0_12 h0_13 h0_14 h0_15 h0_16 σ0) z (w_C cyI cyZ h0_0 h0_1 h0_2 h0_3 h0_4 h0_5 h0_6 h0_7 h0_8 h0_9 h0_10 h0_11 h0_12 h0_13 h0_14 h0_15 h0_16 o0)) args s (zmc z) (zms z) (va_A (w_C cyI cyZ h0_0 h0_1 h0_2 h0_3 h0_4 h0_5 h0_6 h0_7 h0_8 h0_9 h0_10 h0_11 h0_12 h0_13 h0_14 h0_15 h0_16 σ0) sz)) 6 [(0, .ref h0_0), (1, .int x1)] [] (w_C cyI cyZ h0_0 h0_1 h0_2 h0_3 h0_4 h0_5 h0_6 h0_7 h0_8 h0_9 h0_10 h0_11 h0_12 h0_13 h0_14 h0_15 h0_16 τ0) := by
    intro n
    induction n with
    | zero => intro τ0 x1 h; rw [s_X3_transpose_6] at h; exact nomatch h
    | succ n ih =>
      intro τ0 x1 h
      rw [s_X3_transpose_6] at h
      refine zq_iload_n (q := 7) G dX3_transpose_6 1 rfl rfl rfl ?_
      refine zq_aload_n (q := 8) G dX3_transpose_7 0 rfl rfl rfl ?_
      refine zq_get (q := 11) G zu_X3 rfl zw_X3_f12 dX3_transpose_8 0 0 rfl (by decide) ⟨⟨rfl, rfl⟩, rfl⟩ rfl rfl ?_
      refine zq_getN (q := 14) G zu_X1 rfl zw_X3_f83 dX3_transpose_11 1 0 rfl (by decide) ⟨⟨rfl, rfl⟩, rfl⟩ rfl rfl ?_
      refine zq_icmp_ge (tgt := 47) (q := 17) G dX3_transpose_14 (by decide) rfl (fun c1 => ?_) (fun c1 => ?_)
      · have h := zit h c1
        refine zq_aload_n (q := 48) G dX3_transpose_47 0 rfl rfl rfl ?_
        refine zq_get (q := 51) G zu_X3 rfl zw_X3_f39 dX3_transpose_48 0 6 rfl (by decide) ⟨⟨rfl, rfl⟩, rfl⟩ rfl rfl ?_
        obtain ⟨z2, hc2, h⟩ := zbd h
        refine zq_callVv (q := 54) (ws2 := (w_C cyI cyZ h0_0 h0_1 h0_2 h0_3 h0_4 h0_5 h0_6 h0_7 h0_8 h0_9 h0_10 h0_11 h0_12 h0_13 h0_14 h0_15 h0_16 (τ0.1, τ0.2.1, τ0.2.2.1, τ0.2.2.2.1, τ0.2.2.2.2.1, τ0.2.2.2.2.2.1, z2))) (isC := [15, 16]) (isR := [0, 1, 2, 3, 4, 5, 6, 7, 8, 9, 10, 11, 12, 13, 14]) (perm := [0, 1, 2, 3, 4, 5, 6, 7, 8, 9, 10, 11, 12, 13, 14, 15, 16]) (rest := []) (As := []) G zs_X3_50 dX3_transpose_51 (fun sz9 => c_X2_cancel l D cyI cyZ h0_15 h0_16 τ0.2.2.2.2.2.2 z2 hc2 sz9) 15 rfl rfl rfl ⟨rfl, rfl, rfl, rfl⟩ rfl (Nat.le_of_ble_eq_true rfl) ⟨Nat.le_of_ble_eq_true rfl, Nat.le_of_ble_eq_true rfl, Nat.zero_le _, Nat.zero_le _⟩ rfl ?_
        refine zq_aload_n (q := 55) G dX3_transpose_54 0 rfl rfl rfl ?_
        refine zq_get (q := 58) G zu_X3 rfl zw_X3_f12 dX3_transpose_55 0 0 rfl (by decide) ⟨⟨rfl, rfl⟩, rfl⟩ rfl rfl ?_
        refine zq_getN (q := 61) G zu_X1 rfl zw_X3_f83 dX3_transpose_58 1 0 rfl (by decide) ⟨⟨rfl, rfl⟩, rfl⟩ rfl rfl ?_
        refine zq_ws (congrArg (fun w9 => (w_C cyI cyZ h0_0 h0_1 h0_2 h0_3 h0_4 h0_5 h0_6 h0_7 h0_8 h0_9 h0_10 h0_11 h0_12 h0_13 h0_14 h0_15 h0_16 w9.2)) (zsome h)) ?_
        exact zq_iretX G hlocks hr rfl dX3_transpose_61 (congrArg Prod.fst (zsome h)).symm
      · have h := zie h c1
        refine zq_iconst (q := 18) (v := 0) G dX3_transpose_17 (by decide) rfl ?_
        refine zq_istore_n (q := 19) (lv2 := [(2, .int (0 : Int32)), (0, .ref h0_0), (1, .int x1)]) G dX3_transpose_18 rfl (by decide) rfl rfl ?_
        exact zq_sub _ [1, 2, 0] rfl (b19 _ ih _ _ _ _ h)
  refine zq_aload_n (q := 1) G dX3_transpose_0 0 rfl rfl rfl ?_
  obtain ⟨z1, hc1, h⟩ := zbd h
  rcases zsum z1 with ⟨E1, e1⟩ | ⟨r1, e1⟩
  · have h := zselL2 h e1
    exact zq_outVv (ws2 := (w_C cyI cyZ h0_0 h0_1 h0_2 h0_3 h0_4 h0_5 h0_6 h0_7 h0_8 h0_9 h0_10 h0_11 h0_12 h0_13 h0_14 h0_15 h0_16 σ0)) (isC := [0, 1, 2, 3, 4, 5, 6, 7, 8, 9, 10, 11, 12, 13, 14, 15, 16]) (isR := []) (perm := [0, 1, 2, 3, 4, 5, 6, 7, 8, 9, 10, 11, 12, 13, 14, 15, 16]) (rest := []) (As := []) G hlocks ht zs_X3_103 dX3_transpose_1 (fun sz9 => c_X3_requireNoDummyColumn l hst D cyI cyZ h0_0 h0_1 h0_2 h0_3 h0_4 h0_5 h0_6 h0_7 h0_8 h0_9 h0_10 h0_11 h0_12 h0_13 h0_14 h0_15 h0_16 σ0 (.inl E1) (hc1.trans (congrArg some e1)) sz9) 0 rfl rfl rfl ⟨rfl, rfl, rfl, rfl⟩ rfl (Nat.le_of_ble_eq_true rfl) ⟨Nat.le_of_ble_eq_true rfl, Nat.le_of_ble_eq_true rfl⟩ rfl rfl (congrArg Prod.fst (zsome h)).symm (congrArg (fun w9 => (w_C cyI cyZ h0_0 h0_1 h0_2 h0_3 h0_4 h0_5 h0_6 h0_7 h0_8 h0_9 h0_10 h0_11 h0_12 h0_13 h0_14 h0_15 h0_16 w9.2)) (zsome h))
  · have h := zselR2 h e1
    refine zq_callVv (q := 4) (ws2 := (w_C cyI cyZ h0_0 h0_1 h0_2 h0_3 h0_4 h0_5 h0_6 h0_7 h0_8 h0_9 h0_10 h0_11 h0_12 h0_13 h0_14 h0_15 h0_16 σ0)) (isC := [0, 1, 2, 3, 4, 5, 6, 7, 8, 9, 10, 11, 12, 13, 14, 15, 16]) (isR := []) (perm := [0, 1, 2, 3, 4, 5, 6, 7, 8, 9, 10, 11, 12, 13, 14, 15, 16]) (rest := []) (As := []) G zs_X3_103 dX3_transpose_1 (fun sz9 => zXv_ret (c_X3_requireNoDummyColumn l hst D cyI cyZ h0_0 h0_1 h0_2 h0_3 h0_4 h0_5 h0_6 h0_7 h0_8 h0_9 h0_10 h0_11 h0_12 h0_13 h0_14 h0_15 h0_16 σ0 (.inr r1) (hc1.trans (congrArg some e1)) sz9)) 0 rfl rfl rfl ⟨rfl, rfl, rfl, rfl⟩ rfl (Nat.le_of_ble_eq_true rfl) ⟨Nat.le_of_ble_eq_true rfl, Nat.le_of_ble_eq_true rfl, Nat.zero_le _, Nat.zero_le _⟩ rfl ?_
    refine zq_iconst (q := 5) (v := 0) G dX3_transpose_4 (by decide) rfl ?_
    refine zq_istore_n (q := 6) (lv2 := [(1, .int (0 : Int32)), (0, .ref h0_0)]) G dX3_transpose_5 rfl (by decide) rfl rfl ?_
    exact zq_sub _ [1, 0] rfl (b6  _ _ _ h)
set_option maxHeartbeats 4000000 in
set_option maxRecDepth 100000 in
theorem c_X3_totalCost (l : Launch) (D : va_G) (cyI cyZ : ClassId) (h0_0 h0_1 h0_2 h0_3 h0_4 h0_5 h0_6 h0_7 h0_8 h0_9 h0_10 h0_11 h0_12 h0_13 h0_14 h0_15 h0_16 : Nat) (σ0 : zC) (r : Int32) (h : s_X3_totalCost σ0 = some r) (sz : Nat) : zMi l yX3_totalCost cX3_totalCost 3 .int 4 88 D cyI cyZ sz [.ref h0_0] (w_C cyI cyZ h0_0 h0_1 h0_2 h0_3 h0_4 h0_5 h0_6 h0_7 h0_8 h0_9 h0_10 h0_11 h0_12 h0_13 h0_14 h0_15 h0_16 σ0) r (w_C cyI cyZ h0_0 h0_1 h0_2 h0_3 h0_4 h0_5 h0_6 h0_7 h0_8 h0_9 h0_10 h0_11 h0_12 h0_13 h0_14 h0_15 h0_16 σ0) := by
  unfold s_X3_totalCost at h
  refine zstartI (lv0 := [(0, .ref h0_0)]) (by decide) (Nat.le_of_ble_eq_true rfl) rfl (fun p e s m args below meth c G hr hlocks => ?_)
  have b4 : ∀ (n : Nat) (x1 : Int32) (x2 : Int32), s_X3_totalCost_4 n σ0 x1 x2 = some r → zW p l e ({ frames := 4, cells := 0, slots := 0, locals := 88 } : Room) s m args below meth c D (va_A (w_C cyI cyZ h0_0 h0_1 h0_2 h0_3 h0_4 h0_5 h0_6 h0_7 h0_8 h0_9 h0_10 h0_11 h0_12 h0_13 h0_14 h0_15 h0_16 σ0) sz) 3 0 0 (MQ below (zQi D cyI cyZ sz (w_C cyI cyZ h0_0 h0_1 h0_2 h0_3 h0_4 h0_5 h0_6 h0_7 h0_8 h0_9 h0_10 h0_11 h0_12 h0_13 h0_14 h0_15 h0_16 σ0) r (w_C cyI cyZ h0_0 h0_1 h0_2 h0_3 h0_4 h0_5 h0_6 h0_7 h0_8 h0_9 h0_10 h0_11 h0_12 h0_13 h0_14 h0_15 h0_16 σ0)) args s 0 0 (va_A (w_C cyI cyZ h0_0 h0_1 h0_2 h0_3 h0_4 h0_5 h0_6 h0_7 h0_8 h0_9 h0_10 h0_11 h0_12 h0_13 h0_14 h0_15 h0_16 σ0) sz)) 4 [(0, .ref h0_0), (1, .int x1), (2, .int x2)] [] (w_C cyI cyZ h0_0 h0_1 h0_2 h0_3 h0_4 h0_5 h0_6 h0_7 h0_8 h0_9 h0_10 h0_11 h0_12 h0_13 h0_14 h0_15 h0_16 σ0) := by
    intro n
    induction n with
    | zero => intro x1 x2 h; rw [s_X3_totalCost_4] at h; exact nomatch h
    | succ n ih =>
      intro x1 x2 h
      rw [s_X3_totalCost_4] at h
      refine zq_iload_n (q := 5) G dX3_totalCost_4 2 rfl rfl rfl ?_
      refine zq_aload_n (q := 6) G dX3_totalCost_5 0 rfl rfl rfl ?_
      refine zq_get (q := 9) G zu_X3 rfl zw_X3_f12 dX3_totalCost_6 0 0 rfl (by decide) ⟨⟨rfl, rfl⟩, rfl⟩ rfl rfl ?_
      refine zq_getN (q := 12) G zu_X1 rfl zw_X3_f83 dX3_totalCost_9 1 0 rfl (by decide) ⟨⟨rfl, rfl⟩, rfl⟩ rfl rfl ?_
      refine zq_icmp_ge (tgt := 32) (q := 15) G dX3_totalCost_12 (by decide) rfl (fun c1 => ?_) (fun c1 => ?_)
      · have h := zit h c1
        refine zq_iload_n (q := 33) G dX3_totalCost_32 1 rfl rfl rfl ?_
        exact zq_iret G hlocks hr rfl dX3_totalCost_33 (zsome h)
      · have h := zie h c1
        refine zq_iload_n (q := 16) G dX3_totalCost_15 1 rfl rfl rfl ?_
        refine zq_aload_n (q := 17) G dX3_totalCost_16 0 rfl rfl rfl ?_
        refine zq_get (q := 20) G zu_X3 rfl zw_X3_f12 dX3_totalCost_17 0 0 rfl (by decide) ⟨⟨rfl, rfl⟩, rfl⟩ rfl rfl ?_
        refine zq_iload_n (q := 21) G dX3_totalCost_20 2 rfl rfl rfl ?_
        obtain ⟨z2, hc2, h⟩ := zbd h
        refine zq_callVi (q := 24) (ws2 := (w_C cyI cyZ h0_0 h0_1 h0_2 h0_3 h0_4 h0_5 h0_6 h0_7 h0_8 h0_9 h0_10 h0_11 h0_12 h0_13 h0_14 h0_15 h0_16 σ0)) (isC := [1, 2, 3]) (isR := [0, 4, 5, 6, 7, 8, 9, 10, 11, 12, 13, 14, 15, 16]) (perm := [0, 14, 15, 16, 1, 2, 3, 4, 5, 6, 7, 8, 9, 10, 11, 12, 13]) (rest := [.int x1]) (As := [.int x2]) G zs_X3_109 dX3_totalCost_21 (fun sz9 => c_X1_sumOfRow l D cyI cyZ h0_1 h0_2 h0_3 σ0.1 x2 z2 hc2 sz9) 1 rfl rfl rfl ⟨rfl, rfl, rfl, rfl⟩ rfl (Nat.le_of_ble_eq_true rfl) ⟨Nat.le_of_ble_eq_true rfl, Nat.le_of_ble_eq_true rfl, Nat.zero_le _, Nat.zero_le _⟩ rfl ?_
        refine zq_iadd (q := 25) G dX3_totalCost_24 rfl ?_
        refine zq_istore_n (q := 26) (lv2 := [(1, .int (x1 + z2)), (0, .ref h0_0), (2, .int x2)]) G dX3_totalCost_25 rfl (by decide) rfl rfl ?_
        refine zq_iinc (q := 29) (v := (x2 + 1)) (lv2 := [(2, .int (x2 + 1)), (1, .int (x1 + z2)), (0, .ref h0_0)]) G dX3_totalCost_26 2 rfl rfl (by decide) rfl rfl ?_
        refine zq_goto (q := 4) G dX3_totalCost_29 (by decide) ?_
        exact zq_sub _ [2, 1, 0] rfl (ih _ _ h)
  refine zq_iconst (q := 1) (v := 0) G dX3_totalCost_0 (by decide) rfl ?_
  refine zq_istore_n (q := 2) (lv2 := [(1, .int (0 : Int32)), (0, .ref h0_0)]) G dX3_totalCost_1 rfl (by decide) rfl rfl ?_
  refine zq_iconst (q := 3) (v := 0) G dX3_totalCost_2 (by decide) rfl ?_
  refine zq_istore_n (q := 4) (lv2 := [(2, .int (0 : Int32)), (1, .int (0 : Int32)), (0, .ref h0_0)]) G dX3_totalCost_3 rfl (by decide) rfl rfl ?_
  exact zq_sub _ [2, 1, 0] rfl (b4  _ _ _ h)
set_option maxHeartbeats 4000000 in
set_option maxRecDepth 100000 in
theorem c_X3_save (l : Launch) (D : va_G) (cyI cyZ : ClassId) (h0_0 h0_1 h0_2 h0_3 h0_4 h0_5 h0_6 h0_7 h0_8 h0_9 h0_10 h0_11 h0_12 h0_13 h0_14 h0_15 h0_16 : Nat) (σ0 : zC) (r : Int32) (o0 : zC) (h : s_X3_save σ0 = some (r, o0)) (sz : Nat) : zMi l yX3_save cX3_save 1 .int 5 110 D cyI cyZ sz [.ref h0_0] (w_C cyI cyZ h0_0 h0_1 h0_2 h0_3 h0_4 h0_5 h0_6 h0_7 h0_8 h0_9 h0_10 h0_11 h0_12 h0_13 h0_14 h0_15 h0_16 σ0) r (w_C cyI cyZ h0_0 h0_1 h0_2 h0_3 h0_4 h0_5 h0_6 h0_7 h0_8 h0_9 h0_10 h0_11 h0_12 h0_13 h0_14 h0_15 h0_16 o0) := by
  unfold s_X3_save at h
  refine zstartI (lv0 := [(0, .ref h0_0)]) (by decide) (Nat.le_of_ble_eq_true rfl) rfl (fun p e s m args below meth c G hr hlocks => ?_)
  refine zq_aload_n (q := 1) G dX3_save_0 0 rfl rfl rfl ?_
  refine zq_get (q := 4) G zu_X3 rfl zw_X3_f16 dX3_save_1 0 1 rfl (by decide) ⟨⟨rfl, rfl⟩, rfl⟩ rfl rfl ?_
  refine zq_aload_n (q := 5) G dX3_save_4 0 rfl rfl rfl ?_
  refine zq_get (q := 8) G zu_X3 rfl zw_X3_f12 dX3_save_5 0 0 rfl (by decide) ⟨⟨rfl, rfl⟩, rfl⟩ rfl rfl ?_
  obtain ⟨z1, hc1, h⟩ := zbd h
  refine zq_callVv (q := 11) (ws2 := (w_C cyI cyZ h0_0 h0_1 h0_2 h0_3 h0_4 h0_5 h0_6 h0_7 h0_8 h0_9 h0_10 h0_11 h0_12 h0_13 h0_14 h0_15 h0_16 (σ0.1, z1, σ0.2.2.1, σ0.2.2.2.1, σ0.2.2.2.2.1, σ0.2.2.2.2.2.1, σ0.2.2.2.2.2.2))) (isC := [4, 5, 6, 1, 2, 3]) (isR := [0, 7, 8, 9, 10, 11, 12, 13, 14, 15, 16]) (perm := [0, 14, 15, 16, 11, 12, 13, 1, 2, 3, 4, 5, 6, 7, 8, 9, 10]) (rest := []) (As := [.ref h0_1]) G zs_X3_123 dX3_save_8 (fun sz9 => c_X1_copyFrom l D cyI cyZ h0_4 h0_5 h0_6 h0_1 h0_2 h0_3 σ0.2.1 σ0.1 z1 hc1 sz9) 4 rfl rfl rfl ⟨rfl, rfl, rfl, rfl⟩ rfl (Nat.le_of_ble_eq_true rfl) ⟨Nat.le_of_ble_eq_true rfl, Nat.le_of_ble_eq_true rfl, Nat.zero_le _, Nat.zero_le _⟩ rfl ?_
  refine zq_aload_n (q := 12) G dX3_save_11 0 rfl rfl rfl ?_
  obtain ⟨z2, hc2, h⟩ := zbd h
  refine zq_callVi (q := 15) (ws2 := (w_C cyI cyZ h0_0 h0_1 h0_2 h0_3 h0_4 h0_5 h0_6 h0_7 h0_8 h0_9 h0_10 h0_11 h0_12 h0_13 h0_14 h0_15 h0_16 (σ0.1, z1, σ0.2.2.1, σ0.2.2.2.1, σ0.2.2.2.2.1, σ0.2.2.2.2.2.1, σ0.2.2.2.2.2.2))) (isC := [0, 1, 2, 3, 4, 5, 6, 7, 8, 9, 10, 11, 12, 13, 14, 15, 16]) (isR := []) (perm := [0, 1, 2, 3, 4, 5, 6, 7, 8, 9, 10, 11, 12, 13, 14, 15, 16]) (rest := []) (As := []) G zs_X3_127 dX3_save_12 (fun sz9 => c_X3_totalCost l D cyI cyZ h0_0 h0_1 h0_2 h0_3 h0_4 h0_5 h0_6 h0_7 h0_8 h0_9 h0_10 h0_11 h0_12 h0_13 h0_14 h0_15 h0_16 (σ0.1, z1, σ0.2.2.1, σ0.2.2.2.1, σ0.2.2.2.2.1, σ0.2.2.2.2.2.1, σ0.2.2.2.2.2.2) z2 hc2 sz9) 0 rfl rfl rfl ⟨rfl, rfl, rfl, rfl⟩ rfl (Nat.le_of_ble_eq_true rfl) ⟨Nat.le_of_ble_eq_true rfl, Nat.le_of_ble_eq_true rfl, Nat.zero_le _, Nat.zero_le _⟩ rfl ?_
  refine zq_ws (congrArg (fun w9 => (w_C cyI cyZ h0_0 h0_1 h0_2 h0_3 h0_4 h0_5 h0_6 h0_7 h0_8 h0_9 h0_10 h0_11 h0_12 h0_13 h0_14 h0_15 h0_16 w9.2)) (zsome h)) ?_
  exact zq_iret G hlocks hr rfl dX3_save_15 (congrArg Prod.fst (zsome h))
set_option maxHeartbeats 4000000 in
set_option maxRecDepth 100000 in
theorem c_X3_restore (l : Launch) (D : va_G) (cyI cyZ : ClassId) (h0_0 h0_1 h0_2 h0_3 h0_4 h0_5 h0_6 h0_7 h0_8 h0_9 h0_10 h0_11 h0_12 h0_13 h0_14 h0_15 h0_16 : Nat) (σ0 : zC) (r : Int32) (o0 : zC) (h : s_X3_restore σ0 = some (r, o0)) (sz : Nat) : zMi l yX3_restore cX3_restore 1 .int 1 22 D cyI cyZ sz [.ref h0_0] (w_C cyI cyZ h0_0 h0_1 h0_2 h0_3 h0_4 h0_5 h0_6 h0_7 h0_8 h0_9 h0_10 h0_11 h0_12 h0_13 h0_14 h0_15 h0_16 σ0) r (w_C cyI cyZ h0_0 h0_1 h0_2 h0_3 h0_4 h0_5 h0_6 h0_7 h0_8 h0_9 h0_10 h0_11 h0_12 h0_13 h0_14 h0_15 h0_16 o0) := by
  unfold s_X3_restore at h
  refine zstartI (lv0 := [(0, .ref h0_0)]) (by decide) (Nat.le_of_ble_eq_true rfl) rfl (fun p e s m args below meth c G hr hlocks => ?_)
  refine zq_aload_n (q := 1) G dX3_restore_0 0 rfl rfl rfl ?_
  refine zq_get (q := 4) G zu_X3 rfl zw_X3_f12 dX3_restore_1 0 0 rfl (by decide) ⟨⟨rfl, rfl⟩, rfl⟩ rfl rfl ?_
  refine zq_aload_n (q := 5) G dX3_restore_4 0 rfl rfl rfl ?_
  refine zq_get (q := 8) G zu_X3 rfl zw_X3_f16 dX3_restore_5 0 1 rfl (by decide) ⟨⟨rfl, rfl⟩, rfl⟩ rfl rfl ?_
  obtain ⟨z1, hc1, h⟩ := zbd h
  refine zq_callVv (q := 11) (ws2 := (w_C cyI cyZ h0_0 h0_1 h0_2 h0_3 h0_4 h0_5 h0_6 h0_7 h0_8 h0_9 h0_10 h0_11 h0_12 h0_13 h0_14 h0_15 h0_16 (z1, σ0.2.1, σ0.2.2.1, σ0.2.2.2.1, σ0.2.2.2.2.1, σ0.2.2.2.2.2.1, σ0.2.2.2.2.2.2))) (isC := [1, 2, 3, 4, 5, 6]) (isR := [0, 7, 8, 9, 10, 11, 12, 13, 14, 15, 16]) (perm := [0, 11, 12, 13, 14, 15, 16, 1, 2, 3, 4, 5, 6, 7, 8, 9, 10]) (rest := []) (As := [.ref h0_4]) G zs_X3_123 dX3_restore_8 (fun sz9 => c_X1_copyFrom l D cyI cyZ h0_1 h0_2 h0_3 h0_4 h0_5 h0_6 σ0.1 σ0.2.1 z1 hc1 sz9) 1 rfl rfl rfl ⟨rfl, rfl, rfl, rfl⟩ rfl (Nat.le_of_ble_eq_true rfl) ⟨Nat.le_of_ble_eq_true rfl, Nat.le_of_ble_eq_true rfl, Nat.zero_le _, Nat.zero_le _⟩ rfl ?_
  refine zq_aload_n (q := 12) G dX3_restore_11 0 rfl rfl rfl ?_
  refine zq_get (q := 15) G zu_X3 rfl zw_X3_f39 dX3_restore_12 0 6 rfl (by decide) ⟨⟨rfl, rfl⟩, rfl⟩ rfl rfl ?_
  obtain ⟨z2, hc2, h⟩ := zbd h
  refine zq_callVv (q := 18) (ws2 := (w_C cyI cyZ h0_0 h0_1 h0_2 h0_3 h0_4 h0_5 h0_6 h0_7 h0_8 h0_9 h0_10 h0_11 h0_12 h0_13 h0_14 h0_15 h0_16 (z1, σ0.2.1, σ0.2.2.1, σ0.2.2.2.1, σ0.2.2.2.2.1, σ0.2.2.2.2.2.1, z2))) (isC := [15, 16]) (isR := [0, 1, 2, 3, 4, 5, 6, 7, 8, 9, 10, 11, 12, 13, 14]) (perm := [0, 1, 2, 3, 4, 5, 6, 7, 8, 9, 10, 11, 12, 13, 14, 15, 16]) (rest := []) (As := []) G zs_X3_50 dX3_restore_15 (fun sz9 => c_X2_cancel l D cyI cyZ h0_15 h0_16 σ0.2.2.2.2.2.2 z2 hc2 sz9) 15 rfl rfl rfl ⟨rfl, rfl, rfl, rfl⟩ rfl (Nat.le_of_ble_eq_true rfl) ⟨Nat.le_of_ble_eq_true rfl, Nat.le_of_ble_eq_true rfl, Nat.zero_le _, Nat.zero_le _⟩ rfl ?_
  refine zq_aload_n (q := 19) G dX3_restore_18 0 rfl rfl rfl ?_
  refine zq_get (q := 22) G zu_X3 rfl zw_X3_f12 dX3_restore_19 0 0 rfl (by decide) ⟨⟨rfl, rfl⟩, rfl⟩ rfl rfl ?_
  refine zq_getN (q := 25) G zu_X1 rfl zw_X3_f83 dX3_restore_22 1 0 rfl (by decide) ⟨⟨rfl, rfl⟩, rfl⟩ rfl rfl ?_
  refine zq_ws (congrArg (fun w9 => (w_C cyI cyZ h0_0 h0_1 h0_2 h0_3 h0_4 h0_5 h0_6 h0_7 h0_8 h0_9 h0_10 h0_11 h0_12 h0_13 h0_14 h0_15 h0_16 w9.2)) (zsome h)) ?_
  exact zq_iret G hlocks hr rfl dX3_restore_25 (congrArg Prod.fst (zsome h))
set_option maxHeartbeats 4000000 in
set_option maxRecDepth 100000 in
theorem c_X3_distance (l : Launch) (D : va_G) (cyI cyZ : ClassId) (h0_0 h0_1 h0_2 h0_3 h0_4 h0_5 h0_6 h0_7 h0_8 h0_9 h0_10 h0_11 h0_12 h0_13 h0_14 h0_15 h0_16 : Nat) (σ0 : zC) (r : Int32) (h : s_X3_distance σ0 = some r) (sz : Nat) : zMi l yX3_distance cX3_distance 4 .int 3 65 D cyI cyZ sz [.ref h0_0] (w_C cyI cyZ h0_0 h0_1 h0_2 h0_3 h0_4 h0_5 h0_6 h0_7 h0_8 h0_9 h0_10 h0_11 h0_12 h0_13 h0_14 h0_15 h0_16 σ0) r (w_C cyI cyZ h0_0 h0_1 h0_2 h0_3 h0_4 h0_5 h0_6 h0_7 h0_8 h0_9 h0_10 h0_11 h0_12 h0_13 h0_14 h0_15 h0_16 σ0) := by
  unfold s_X3_distance at h
  refine zstartI (lv0 := [(0, .ref h0_0)]) (by decide) (Nat.le_of_ble_eq_true rfl) rfl (fun p e s m args below meth c G hr hlocks => ?_)
  have b53 : ∀ (k40 : (zC → Int32 → Int32 → Option (Int32))) (hk40 : ∀ (x1 : Int32) (x2 : Int32), k40 σ0 x1 x2 = some r → zW p l e ({ frames := 3, cells := 0, slots := 0, locals := 65 } : Room) s m args below meth c D (va_A (w_C cyI cyZ h0_0 h0_1 h0_2 h0_3 h0_4 h0_5 h0_6 h0_7 h0_8 h0_9 h0_10 h0_11 h0_12 h0_13 h0_14 h0_15 h0_16 σ0) sz) 4 0 0 (MQ below (zQi D cyI cyZ sz (w_C cyI cyZ h0_0 h0_1 h0_2 h0_3 h0_4 h0_5 h0_6 h0_7 h0_8 h0_9 h0_10 h0_11 h0_12 h0_13 h0_14 h0_15 h0_16 σ0) r (w_C cyI cyZ h0_0 h0_1 h0_2 h0_3 h0_4 h0_5 h0_6 h0_7 h0_8 h0_9 h0_10 h0_11 h0_12 h0_13 h0_14 h0_15 h0_16 σ0)) args s 0 0 (va_A (w_C cyI cyZ h0_0 h0_1 h0_2 h0_3 h0_4 h0_5 h0_6 h0_7 h0_8 h0_9 h0_10 h0_11 h0_12 h0_13 h0_14 h0_15 h0_16 σ0) sz)) 40 [(0, .ref h0_0), (1, .int x1), (2, .int x2)] [] (w_C cyI cyZ h0_0 h0_1 h0_2 h0_3 h0_4 h0_5 h0_6 h0_7 h0_8 h0_9 h0_10 h0_11 h0_12 h0_13 h0_14 h0_15 h0_16 σ0)) (n : Nat) (x1 : Int32) (x2 : Int32) (x3 : Int32), s_X3_distance_53 k40 n σ0 x1 x2 x3 = some r → zW p l e ({ frames := 3, cells := 0, slots := 0, locals := 65 } : Room) s m args below meth c D (va_A (w_C cyI cyZ h0_0 h0_1 h0_2 h0_3 h0_4 h0_5 h0_6 h0_7 h0_8 h0_9 h0_10 h0_11 h0_12 h0_13 h0_14 h0_15 h0_16 σ0) sz) 4 0 0 (MQ below (zQi D cyI cyZ sz (w_C cyI cyZ h0_0 h0_1 h0_2 h0_3 h0_4 h0_5 h0_6 h0_7 h0_8 h0_9 h0_10 h0_11 h0_12 h0_13 h0_14 h0_15 h0_16 σ0) r (w_C cyI cyZ h0_0 h0_1 h0_2 h0_3 h0_4 h0_5 h0_6 h0_7 h0_8 h0_9 h0_10 h0_11 h0_12 h0_13 h0_14 h0_15 h0_16 σ0)) args s 0 0 (va_A (w_C cyI cyZ h0_0 h0_1 h0_2 h0_3 h0_4 h0_5 h0_6 h0_7 h0_8 h0_9 h0_10 h0_11 h0_12 h0_13 h0_14 h0_15 h0_16 σ0) sz)) 53 [(0, .ref h0_0), (1, .int x1), (2, .int x2), (3, .int x3)] [] (w_C cyI cyZ h0_0 h0_1 h0_2 h0_3 h0_4 h0_5 h0_6 h0_7 h0_8 h0_9 h0_10 h0_11 h0_12 h0_13 h0_14 h0_15 h0_16 σ0) := by
    intro k40 hk40
    intro n
    induction n with
    | zero => intro x1 x2 x3 h; rw [s_X3_distance_53] at h; exact nomatch h
    | succ n ih =>
      intro x1 x2 x3 h
      rw [s_X3_distance_53] at h
      refine zq_iload_n (q := 54) G dX3_distance_53 3 rfl rfl rfl ?_
      refine zq_aload_n (q := 55) G dX3_distance_54 0 rfl rfl rfl ?_
      refine zq_get (q := 58) G zu_X3 rfl zw_X3_f12 dX3_distance_55 0 0 rfl (by decide) ⟨⟨rfl, rfl⟩, rfl⟩ rfl rfl ?_
      refine zq_getN (q := 61) G zu_X1 rfl zw_X3_f83 dX3_distance_58 1 0 rfl (by decide) ⟨⟨rfl, rfl⟩, rfl⟩ rfl rfl ?_
      refine zq_icmp_ge (tgt := 95) (q := 64) G dX3_distance_61 (by decide) rfl (fun c1 => ?_) (fun c1 => ?_)
      · have h := zit h c1
        refine zq_iinc (q := 98) (v := (x2 + 1)) (lv2 := [(2, .int (x2 + 1)), (0, .ref h0_0), (1, .int x1), (3, .int x3)]) G dX3_distance_95 2 rfl rfl (by decide) rfl rfl ?_
        refine zq_goto (q := 40) G dX3_distance_98 (by decide) ?_
        exact zq_sub _ [1, 2, 0] rfl (hk40 _ _ h)
      · have h := zie h c1
        refine zq_iload_n (q := 65) G dX3_distance_64 1 rfl rfl rfl ?_
        refine zq_aload_n (q := 66) G dX3_distance_65 0 rfl rfl rfl ?_
        refine zq_get (q := 69) G zu_X3 rfl zw_X3_f12 dX3_distance_66 0 0 rfl (by decide) ⟨⟨rfl, rfl⟩, rfl⟩ rfl rfl ?_
        refine zq_iload_n (q := 70) G dX3_distance_69 2 rfl rfl rfl ?_
        refine zq_iload_n (q := 71) G dX3_distance_70 3 rfl rfl rfl ?_
        obtain ⟨z2, hc2, h⟩ := zbd h
        refine zq_callVi (q := 74) (ws2 := (w_C cyI cyZ h0_0 h0_1 h0_2 h0_3 h0_4 h0_5 h0_6 h0_7 h0_8 h0_9 h0_10 h0_11 h0_12 h0_13 h0_14 h0_15 h0_16 σ0)) (isC := [1, 2, 3]) (isR := [0, 4, 5, 6, 7, 8, 9, 10, 11, 12, 13, 14, 15, 16]) (perm := [0, 14, 15, 16, 1, 2, 3, 4, 5, 6, 7, 8, 9, 10, 11, 12, 13]) (rest := [.int x1]) (As := [.int x2, .int x3]) G zs_X3_97 dX3_distance_71 (fun sz9 => c_X1_costOf l D cyI cyZ h0_1 h0_2 h0_3 σ0.1 x2 x3 z2 hc2 sz9) 1 rfl rfl rfl ⟨rfl, rfl, rfl, rfl⟩ rfl (Nat.le_of_ble_eq_true rfl) ⟨Nat.le_of_ble_eq_true rfl, Nat.le_of_ble_eq_true rfl, Nat.zero_le _, Nat.zero_le _⟩ rfl ?_
        refine zq_aload_n (q := 75) G dX3_distance_74 0 rfl rfl rfl ?_
        refine zq_get (q := 78) G zu_X3 rfl zw_X3_f16 dX3_distance_75 0 1 rfl (by decide) ⟨⟨rfl, rfl⟩, rfl⟩ rfl rfl ?_
        refine zq_iload_n (q := 79) G dX3_distance_78 2 rfl rfl rfl ?_
        refine zq_iload_n (q := 80) G dX3_distance_79 3 rfl rfl rfl ?_
        obtain ⟨z3, hc3, h⟩ := zbd h
        refine zq_callVi (q := 83) (ws2 := (w_C cyI cyZ h0_0 h0_1 h0_2 h0_3 h0_4 h0_5 h0_6 h0_7 h0_8 h0_9 h0_10 h0_11 h0_12 h0_13 h0_14 h0_15 h0_16 σ0)) (isC := [4, 5, 6]) (isR := [0, 1, 2, 3, 7, 8, 9, 10, 11, 12, 13, 14, 15, 16]) (perm := [0, 1, 2, 3, 14, 15, 16, 4, 5, 6, 7, 8, 9, 10, 11, 12, 13]) (rest := [.int z2, .int x1]) (As := [.int x2, .int x3]) G zs_X3_97 dX3_distance_80 (fun sz9 => c_X1_costOf l D cyI cyZ h0_4 h0_5 h0_6 σ0.2.1 x2 x3 z3 hc3 sz9) 4 rfl rfl rfl ⟨rfl, rfl, rfl, rfl⟩ rfl (Nat.le_of_ble_eq_true rfl) ⟨Nat.le_of_ble_eq_true rfl, Nat.le_of_ble_eq_true rfl, Nat.zero_le _, Nat.zero_le _⟩ rfl ?_
        refine zq_isub (q := 84) G dX3_distance_83 rfl ?_
        refine zq_mabs (q := 87) G zl_X3_130 zstat_J9_abs_0f7a4 zini_J9 zcode_J9_abs_0f7a4 dX3_distance_84 ⟨Nat.le_of_ble_eq_true rfl, Nat.le_of_ble_eq_true rfl, Nat.zero_le _, Nat.zero_le _⟩ rfl ?_
        refine zq_iadd (q := 88) G dX3_distance_87 rfl ?_
        refine zq_istore_n (q := 89) (lv2 := [(1, .int (x1 + (if 0 ≤ (z2 - z3) then (z2 - z3) else 0 - (z2 - z3)))), (0, .ref h0_0), (2, .int x2), (3, .int x3)]) G dX3_distance_88 rfl (by decide) rfl rfl ?_
        refine zq_iinc (q := 92) (v := (x3 + 1)) (lv2 := [(3, .int (x3 + 1)), (1, .int (x1 + (if 0 ≤ (z2 - z3) then (z2 - z3) else 0 - (z2 - z3)))), (0, .ref h0_0), (2, .int x2)]) G dX3_distance_89 3 rfl rfl (by decide) rfl rfl ?_
        refine zq_goto (q := 53) G dX3_distance_92 (by decide) ?_
        exact zq_sub _ [2, 1, 3, 0] rfl (ih _ _ _ h)
  have b40 : ∀ (n : Nat) (x1 : Int32) (x2 : Int32), s_X3_distance_40 n σ0 x1 x2 = some r → zW p l e ({ frames := 3, cells := 0, slots := 0, locals := 65 } : Room) s m args below meth c D (va_A (w_C cyI cyZ h0_0 h0_1 h0_2 h0_3 h0_4 h0_5 h0_6 h0_7 h0_8 h0_9 h0_10 h0_11 h0_12 h0_13 h0_14 h0_15 h0_16 σ0) sz) 4 0 0 (MQ below (zQi D cyI cyZ sz (w_C cyI cyZ h0_0 h0_1 h0_2 h0_3 h0_4 h0_5 h0_6 h0_7 h0_8 h0_9 h0_10 h0_11 h0_12 h0_13 h0_14 h0_15 h0_16 σ0) r (w_C cyI cyZ h0_0 h0_1 h0_2 h0_3 h0_4 h0_5 h0_6 h0_7 h0_8 h0_9 h0_10 h0_11 h0_12 h0_13 h0_14 h0_15 h0_16 σ0)) args s 0 0 (va_A (w_C cyI cyZ h0_0 h0_1 h0_2 h0_3 h0_4 h0_5 h0_6 h0_7 h0_8 h0_9 h0_10 h0_11 h0_12 h0_13 h0_14 h0_15 h0_16 σ0) sz)) 40 [(0, .ref h0_0), (1, .int x1), (2, .int x2)] [] (w_C cyI cyZ h0_0 h0_1 h0_2 h0_3 h0_4 h0_5 h0_6 h0_7 h0_8 h0_9 h0_10 h0_11 h0_12 h0_13 h0_14 h0_15 h0_16 σ0) := by
    intro n
    induction n with
    | zero => intro x1 x2 h; rw [s_X3_distance_40] at h; exact nomatch h
    | succ n ih =>
      intro x1 x2 h
      rw [s_X3_distance_40] at h
      refine zq_iload_n (q := 41) G dX3_distance_40 2 rfl rfl rfl ?_
      refine zq_aload_n (q := 42) G dX3_distance_41 0 rfl rfl rfl ?_
      refine zq_get (q := 45) G zu_X3 rfl zw_X3_f12 dX3_distance_42 0 0 rfl (by decide) ⟨⟨rfl, rfl⟩, rfl⟩ rfl rfl ?_
      refine zq_getN (q := 48) G zu_X1 rfl zw_X3_f83 dX3_distance_45 1 0 rfl (by decide) ⟨⟨rfl, rfl⟩, rfl⟩ rfl rfl ?_
      refine zq_icmp_ge (tgt := 101) (q := 51) G dX3_distance_48 (by decide) rfl (fun c1 => ?_) (fun c1 => ?_)
      · have h := zit h c1
        refine zq_iload_n (q := 102) G dX3_distance_101 1 rfl rfl rfl ?_
        exact zq_iret G hlocks hr rfl dX3_distance_102 (zsome h)
      · have h := zie h c1
        refine zq_iconst (q := 52) (v := 0) G dX3_distance_51 (by decide) rfl ?_
        refine zq_istore_n (q := 53) (lv2 := [(3, .int (0 : Int32)), (0, .ref h0_0), (1, .int x1), (2, .int x2)]) G dX3_distance_52 rfl (by decide) rfl rfl ?_
        exact zq_sub _ [1, 2, 3, 0] rfl (b53 _ ih _ _ _ _ h)
  refine zq_aload_n (q := 1) G dX3_distance_0 0 rfl rfl rfl ?_
  refine zq_get (q := 4) G zu_X3 rfl zw_X3_f12 dX3_distance_1 0 0 rfl (by decide) ⟨⟨rfl, rfl⟩, rfl⟩ rfl rfl ?_
  refine zq_getN (q := 7) G zu_X1 rfl zw_X3_f83 dX3_distance_4 1 0 rfl (by decide) ⟨⟨rfl, rfl⟩, rfl⟩ rfl rfl ?_
  refine zq_aload_n (q := 8) G dX3_distance_7 0 rfl rfl rfl ?_
  refine zq_get (q := 11) G zu_X3 rfl zw_X3_f16 dX3_distance_8 0 1 rfl (by decide) ⟨⟨rfl, rfl⟩, rfl⟩ rfl rfl ?_
  refine zq_getN (q := 14) G zu_X1 rfl zw_X3_f83 dX3_distance_11 4 0 rfl (by decide) ⟨⟨rfl, rfl⟩, rfl⟩ rfl rfl ?_
  refine zq_icmp_ne (tgt := 34) (q := 17) G dX3_distance_14 (by decide) rfl (fun c1 => ?_) (fun c1 => ?_)
  · have h := zie h c1
    refine zq_iconst (q := 35) (v := -1) G dX3_distance_34 (by decide) rfl ?_
    exact zq_iret G hlocks hr rfl dX3_distance_35 (zsome h)
  · have h := zit h c1
    refine zq_aload_n (q := 18) G dX3_distance_17 0 rfl rfl rfl ?_
    refine zq_get (q := 21) G zu_X3 rfl zw_X3_f12 dX3_distance_18 0 0 rfl (by decide) ⟨⟨rfl, rfl⟩, rfl⟩ rfl rfl ?_
    refine zq_getN (q := 24) G zu_X1 rfl zw_X3_f72 dX3_distance_21 1 1 rfl (by decide) ⟨⟨rfl, rfl⟩, rfl⟩ rfl rfl ?_
    refine zq_aload_n (q := 25) G dX3_distance_24 0 rfl rfl rfl ?_
    refine zq_get (q := 28) G zu_X3 rfl zw_X3_f16 dX3_distance_25 0 1 rfl (by decide) ⟨⟨rfl, rfl⟩, rfl⟩ rfl rfl ?_
    refine zq_getN (q := 31) G zu_X1 rfl zw_X3_f72 dX3_distance_28 4 1 rfl (by decide) ⟨⟨rfl, rfl⟩, rfl⟩ rfl rfl ?_
    refine zq_icmp_eq (tgt := 36) (q := 34) G dX3_distance_31 (by decide) rfl (fun c2 => ?_) (fun c2 => ?_)
    · have h := zit h c2
      refine zq_iconst (q := 37) (v := 0) G dX3_distance_36 (by decide) rfl ?_
      refine zq_istore_n (q := 38) (lv2 := [(1, .int (0 : Int32)), (0, .ref h0_0)]) G dX3_distance_37 rfl (by decide) rfl rfl ?_
      refine zq_iconst (q := 39) (v := 0) G dX3_distance_38 (by decide) rfl ?_
      refine zq_istore_n (q := 40) (lv2 := [(2, .int (0 : Int32)), (1, .int (0 : Int32)), (0, .ref h0_0)]) G dX3_distance_39 rfl (by decide) rfl rfl ?_
      exact zq_sub _ [2, 1, 0] rfl (b40  _ _ _ h)
    · have h := zie h c2
      refine zq_iconst (q := 35) (v := -1) G dX3_distance_34 (by decide) rfl ?_
      exact zq_iret G hlocks hr rfl dX3_distance_35 (zsome h)
set_option maxHeartbeats 4000000 in
set_option maxRecDepth 100000 in
theorem c_X3_rows (l : Launch) (D : va_G) (cyI cyZ : ClassId) (h0_0 h0_1 h0_2 h0_3 h0_4 h0_5 h0_6 h0_7 h0_8 h0_9 h0_10 h0_11 h0_12 h0_13 h0_14 h0_15 h0_16 : Nat) (σ0 : zC) (r : Int32) (h : s_X3_rows σ0 = some r) (sz : Nat) : zMi l yX3_rows cX3_rows 1 .int 0 0 D cyI cyZ sz [.ref h0_0] (w_C cyI cyZ h0_0 h0_1 h0_2 h0_3 h0_4 h0_5 h0_6 h0_7 h0_8 h0_9 h0_10 h0_11 h0_12 h0_13 h0_14 h0_15 h0_16 σ0) r (w_C cyI cyZ h0_0 h0_1 h0_2 h0_3 h0_4 h0_5 h0_6 h0_7 h0_8 h0_9 h0_10 h0_11 h0_12 h0_13 h0_14 h0_15 h0_16 σ0) := by
  unfold s_X3_rows at h
  refine zstartI (lv0 := [(0, .ref h0_0)]) (by decide) (Nat.le_of_ble_eq_true rfl) rfl (fun p e s m args below meth c G hr hlocks => ?_)
  refine zq_aload_n (q := 1) G dX3_rows_0 0 rfl rfl rfl ?_
  refine zq_get (q := 4) G zu_X3 rfl zw_X3_f12 dX3_rows_1 0 0 rfl (by decide) ⟨⟨rfl, rfl⟩, rfl⟩ rfl rfl ?_
  refine zq_getN (q := 7) G zu_X1 rfl zw_X3_f83 dX3_rows_4 1 0 rfl (by decide) ⟨⟨rfl, rfl⟩, rfl⟩ rfl rfl ?_
  exact zq_iret G hlocks hr rfl dX3_rows_7 (zsome h)
set_option maxHeartbeats 4000000 in
set_option maxRecDepth 100000 in
theorem c_X3_columns (l : Launch) (D : va_G) (cyI cyZ : ClassId) (h0_0 h0_1 h0_2 h0_3 h0_4 h0_5 h0_6 h0_7 h0_8 h0_9 h0_10 h0_11 h0_12 h0_13 h0_14 h0_15 h0_16 : Nat) (σ0 : zC) (r : Int32) (h : s_X3_columns σ0 = some r) (sz : Nat) : zMi l yX3_columns cX3_columns 1 .int 0 0 D cyI cyZ sz [.ref h0_0] (w_C cyI cyZ h0_0 h0_1 h0_2 h0_3 h0_4 h0_5 h0_6 h0_7 h0_8 h0_9 h0_10 h0_11 h0_12 h0_13 h0_14 h0_15 h0_16 σ0) r (w_C cyI cyZ h0_0 h0_1 h0_2 h0_3 h0_4 h0_5 h0_6 h0_7 h0_8 h0_9 h0_10 h0_11 h0_12 h0_13 h0_14 h0_15 h0_16 σ0) := by
  unfold s_X3_columns at h
  refine zstartI (lv0 := [(0, .ref h0_0)]) (by decide) (Nat.le_of_ble_eq_true rfl) rfl (fun p e s m args below meth c G hr hlocks => ?_)
  refine zq_aload_n (q := 1) G dX3_columns_0 0 rfl rfl rfl ?_
  refine zq_get (q := 4) G zu_X3 rfl zw_X3_f12 dX3_columns_1 0 0 rfl (by decide) ⟨⟨rfl, rfl⟩, rfl⟩ rfl rfl ?_
  refine zq_getN (q := 7) G zu_X1 rfl zw_X3_f72 dX3_columns_4 1 1 rfl (by decide) ⟨⟨rfl, rfl⟩, rfl⟩ rfl rfl ?_
  exact zq_iret G hlocks hr rfl dX3_columns_7 (zsome h)
set_option maxHeartbeats 4000000 in
set_option maxRecDepth 100000 in
theorem c_X3_minimum (l : Launch) (D : va_G) (cyI cyZ : ClassId) (h0_0 h0_1 h0_2 h0_3 h0_4 h0_5 h0_6 h0_7 h0_8 h0_9 h0_10 h0_11 h0_12 h0_13 h0_14 h0_15 h0_16 : Nat) (σ0 : zC) (r : Int32) (o0 : zC) (h : s_X3_minimum σ0 = some (r, o0)) (sz : Nat) : zMi l yX3_minimum cX3_minimum 1 .int 4 88 D cyI cyZ sz [.ref h0_0] (w_C cyI cyZ h0_0 h0_1 h0_2 h0_3 h0_4 h0_5 h0_6 h0_7 h0_8 h0_9 h0_10 h0_11 h0_12 h0_13 h0_14 h0_15 h0_16 σ0) r (w_C cyI cyZ h0_0 h0_1 h0_2 h0_3 h0_4 h0_5 h0_6 h0_7 h0_8 h0_9 h0_10 h0_11 h0_12 h0_13 h0_14 h0_15 h0_16 o0) := by
  unfold s_X3_minimum at h
  refine zstartI (lv0 := [(0, .ref h0_0)]) (by decide) (Nat.le_of_ble_eq_true rfl) rfl (fun p e s m args below meth c G hr hlocks => ?_)
  refine zq_aload_n (q := 1) G dX3_minimum_0 0 rfl rfl rfl ?_
  refine zq_get (q := 4) G zu_X3 rfl zw_X3_f22 dX3_minimum_1 0 2 rfl (by decide) ⟨⟨rfl, rfl⟩, rfl⟩ rfl rfl ?_
  refine zq_aload_n (q := 5) G dX3_minimum_4 0 rfl rfl rfl ?_
  refine zq_get (q := 8) G zu_X3 rfl zw_X3_f12 dX3_minimum_5 0 0 rfl (by decide) ⟨⟨rfl, rfl⟩, rfl⟩ rfl rfl ?_
  obtain ⟨z1, hc1, h⟩ := zbd h
  refine zq_callVv (q := 11) (ws2 := (w_C cyI cyZ h0_0 h0_1 h0_2 h0_3 h0_4 h0_5 h0_6 h0_7 h0_8 h0_9 h0_10 h0_11 h0_12 h0_13 h0_14 h0_15 h0_16 (σ0.1, σ0.2.1, z1, σ0.2.2.2.1, σ0.2.2.2.2.1, σ0.2.2.2.2.2.1, σ0.2.2.2.2.2.2))) (isC := [7, 8, 9, 10, 11, 1, 2, 3]) (isR := [0, 4, 5, 6, 12, 13, 14, 15, 16]) (perm := [0, 14, 15, 16, 1, 2, 3, 9, 10, 11, 12, 13, 4, 5, 6, 7, 8]) (rest := []) (As := [.ref h0_1]) G zs_X3_137 dX3_minimum_8 (fun sz9 => c_X0_load l D cyI cyZ h0_7 h0_8 h0_9 h0_10 h0_11 h0_1 h0_2 h0_3 σ0.2.2.1 σ0.1 z1 hc1 sz9) 7 rfl rfl rfl ⟨rfl, rfl, rfl, rfl⟩ rfl (Nat.le_of_ble_eq_true rfl) ⟨Nat.le_of_ble_eq_true rfl, Nat.le_of_ble_eq_true rfl, Nat.zero_le _, Nat.zero_le _⟩ rfl ?_
  refine zq_aload_n (q := 12) G dX3_minimum_11 0 rfl rfl rfl ?_
  refine zq_get (q := 15) G zu_X3 rfl zw_X3_f22 dX3_minimum_12 0 2 rfl (by decide) ⟨⟨rfl, rfl⟩, rfl⟩ rfl rfl ?_
  obtain ⟨z2, hc2, h⟩ := zbd h
  refine zq_callVi (q := 18) (ws2 := (w_C cyI cyZ h0_0 h0_1 h0_2 h0_3 h0_4 h0_5 h0_6 h0_7 h0_8 h0_9 h0_10 h0_11 h0_12 h0_13 h0_14 h0_15 h0_16 (σ0.1, σ0.2.1, z2.2, σ0.2.2.2.1, σ0.2.2.2.2.1, σ0.2.2.2.2.2.1, σ0.2.2.2.2.2.2))) (isC := [7, 8, 9, 10, 11]) (isR := [0, 1, 2, 3, 4, 5, 6, 12, 13, 14, 15, 16]) (perm := [0, 1, 2, 3, 4, 5, 6, 12, 13, 14, 15, 16, 7, 8, 9, 10, 11]) (rest := []) (As := []) G zs_X3_140 dX3_minimum_15 (fun sz9 => c_X0_leastSum l D cyI cyZ h0_7 h0_8 h0_9 h0_10 h0_11 z1 z2.1 z2.2 hc2 sz9) 7 rfl rfl rfl ⟨rfl, rfl, rfl, rfl⟩ rfl (Nat.le_of_ble_eq_true rfl) ⟨Nat.le_of_ble_eq_true rfl, Nat.le_of_ble_eq_true rfl, Nat.zero_le _, Nat.zero_le _⟩ rfl ?_
  refine zq_ws (congrArg (fun w9 => (w_C cyI cyZ h0_0 h0_1 h0_2 h0_3 h0_4 h0_5 h0_6 h0_7 h0_8 h0_9 h0_10 h0_11 h0_12 h0_13 h0_14 h0_15 h0_16 w9.2)) (zsome h)) ?_
  exact zq_iret G hlocks hr rfl dX3_minimum_18 (congrArg Prod.fst (zsome h))
set_option maxHeartbeats 4000000 in
set_option maxRecDepth 100000 in
theorem c_X3_savedMinimum (l : Launch) (D : va_G) (cyI cyZ : ClassId) (h0_0 h0_1 h0_2 h0_3 h0_4 h0_5 h0_6 h0_7 h0_8 h0_9 h0_10 h0_11 h0_12 h0_13 h0_14 h0_15 h0_16 : Nat) (σ0 : zC) (r : Int32) (o0 : zC) (h : s_X3_savedMinimum σ0 = some (r, o0)) (sz : Nat) : zMi l yX3_savedMinimum cX3_savedMinimum 1 .int 4 88 D cyI cyZ sz [.ref h0_0] (w_C cyI cyZ h0_0 h0_1 h0_2 h0_3 h0_4 h0_5 h0_6 h0_7 h0_8 h0_9 h0_10 h0_11 h0_12 h0_13 h0_14 h0_15 h0_16 σ0) r (w_C cyI cyZ h0_0 h0_1 h0_2 h0_3 h0_4 h0_5 h0_6 h0_7 h0_8 h0_9 h0_10 h0_11 h0_12 h0_13 h0_14 h0_15 h0_16 o0) := by
  unfold s_X3_savedMinimum at h
  refine zstartI (lv0 := [(0, .ref h0_0)]) (by decide) (Nat.le_of_ble_eq_true rfl) rfl (fun p e s m args below meth c G hr hlocks => ?_)
  refine zq_aload_n (q := 1) G dX3_savedMinimum_0 0 rfl rfl rfl ?_
  refine zq_get (q := 4) G zu_X3 rfl zw_X3_f22 dX3_savedMinimum_1 0 2 rfl (by decide) ⟨⟨rfl, rfl⟩, rfl⟩ rfl rfl ?_
  refine zq_aload_n (q := 5) G dX3_savedMinimum_4 0 rfl rfl rfl ?_
  refine zq_get (q := 8) G zu_X3 rfl zw_X3_f16 dX3_savedMinimum_5 0 1 rfl (by decide) ⟨⟨rfl, rfl⟩, rfl⟩ rfl rfl ?_
  obtain ⟨z1, hc1, h⟩ := zbd h
  refine zq_callVv (q := 11) (ws2 := (w_C cyI cyZ h0_0 h0_1 h0_2 h0_3 h0_4 h0_5 h0_6 h0_7 h0_8 h0_9 h0_10 h0_11 h0_12 h0_13 h0_14 h0_15 h0_16 (σ0.1, σ0.2.1, z1, σ0.2.2.2.1, σ0.2.2.2.2.1, σ0.2.2.2.2.2.1, σ0.2.2.2.2.2.2))) (isC := [7, 8, 9, 10, 11, 4, 5, 6]) (isR := [0, 1, 2, 3, 12, 13, 14, 15, 16]) (perm := [0, 1, 2, 3, 14, 15, 16, 9, 10, 11, 12, 13, 4, 5, 6, 7, 8]) (rest := []) (As := [.ref h0_4]) G zs_X3_137 dX3_savedMinimum_8 (fun sz9 => c_X0_load l D cyI cyZ h0_7 h0_8 h0_9 h0_10 h0_11 h0_4 h0_5 h0_6 σ0.2.2.1 σ0.2.1 z1 hc1 sz9) 7 rfl rfl rfl ⟨rfl, rfl, rfl, rfl⟩ rfl (Nat.le_of_ble_eq_true rfl) ⟨Nat.le_of_ble_eq_true rfl, Nat.le_of_ble_eq_true rfl, Nat.zero_le _, Nat.zero_le _⟩ rfl ?_
  refine zq_aload_n (q := 12) G dX3_savedMinimum_11 0 rfl rfl rfl ?_
  refine zq_get (q := 15) G zu_X3 rfl zw_X3_f22 dX3_savedMinimum_12 0 2 rfl (by decide) ⟨⟨rfl, rfl⟩, rfl⟩ rfl rfl ?_
  obtain ⟨z2, hc2, h⟩ := zbd h
  refine zq_callVi (q := 18) (ws2 := (w_C cyI cyZ h0_0 h0_1 h0_2 h0_3 h0_4 h0_5 h0_6 h0_7 h0_8 h0_9 h0_10 h0_11 h0_12 h0_13 h0_14 h0_15 h0_16 (σ0.1, σ0.2.1, z2.2, σ0.2.2.2.1, σ0.2.2.2.2.1, σ0.2.2.2.2.2.1, σ0.2.2.2.2.2.2))) (isC := [7, 8, 9, 10, 11]) (isR := [0, 1, 2, 3, 4, 5, 6, 12, 13, 14, 15, 16]) (perm := [0, 1, 2, 3, 4, 5, 6, 12, 13, 14, 15, 16, 7, 8, 9, 10, 11]) (rest := []) (As := []) G zs_X3_140 dX3_savedMinimum_15 (fun sz9 => c_X0_leastSum l D cyI cyZ h0_7 h0_8 h0_9 h0_10 h0_11 z1 z2.1 z2.2 hc2 sz9) 7 rfl rfl rfl ⟨rfl, rfl, rfl, rfl⟩ rfl (Nat.le_of_ble_eq_true rfl) ⟨Nat.le_of_ble_eq_true rfl, Nat.le_of_ble_eq_true rfl, Nat.zero_le _, Nat.zero_le _⟩ rfl ?_
  refine zq_ws (congrArg (fun w9 => (w_C cyI cyZ h0_0 h0_1 h0_2 h0_3 h0_4 h0_5 h0_6 h0_7 h0_8 h0_9 h0_10 h0_11 h0_12 h0_13 h0_14 h0_15 h0_16 w9.2)) (zsome h)) ?_
  exact zq_iret G hlocks hr rfl dX3_savedMinimum_18 (congrArg Prod.fst (zsome h))
set_option maxHeartbeats 4000000 in
set_option maxRecDepth 100000 in
theorem c_X3_findFirstOptimal (l : Launch) (D : va_G) (cyI cyZ : ClassId) (h0_0 h0_1 h0_2 h0_3 h0_4 h0_5 h0_6 h0_7 h0_8 h0_9 h0_10 h0_11 h0_12 h0_13 h0_14 h0_15 h0_16 : Nat) (σ0 : zC) (o0 : zC) (h : s_X3_findFirstOptimal σ0 = some o0) (sz : Nat) : zMv l yX3_findFirstOptimal cX3_findFirstOptimal 1 4 88 D cyI cyZ sz [.ref h0_0] (w_C cyI cyZ h0_0 h0_1 h0_2 h0_3 h0_4 h0_5 h0_6 h0_7 h0_8 h0_9 h0_10 h0_11 h0_12 h0_13 h0_14 h0_15 h0_16 σ0) (w_C cyI cyZ h0_0 h0_1 h0_2 h0_3 h0_4 h0_5 h0_6 h0_7 h0_8 h0_9 h0_10 h0_11 h0_12 h0_13 h0_14 h0_15 h0_16 o0) := by
  unfold s_X3_findFirstOptimal at h
  refine zstartV (lv0 := [(0, .ref h0_0)]) (by decide) (Nat.le_of_ble_eq_true rfl) rfl (fun p e s m args below meth c G hr hlocks => ?_)
  refine zq_aload_n (q := 1) G dX3_findFirstOptimal_0 0 rfl rfl rfl ?_
  refine zq_get (q := 4) G zu_X3 rfl zw_X3_f22 dX3_findFirstOptimal_1 0 2 rfl (by decide) ⟨⟨rfl, rfl⟩, rfl⟩ rfl rfl ?_
  refine zq_aload_n (q := 5) G dX3_findFirstOptimal_4 0 rfl rfl rfl ?_
  refine zq_get (q := 8) G zu_X3 rfl zw_X3_f12 dX3_findFirstOptimal_5 0 0 rfl (by decide) ⟨⟨rfl, rfl⟩, rfl⟩ rfl rfl ?_
  obtain ⟨z1, hc1, h⟩ := zbd h
  refine zq_callVv (q := 11) (ws2 := (w_C cyI cyZ h0_0 h0_1 h0_2 h0_3 h0_4 h0_5 h0_6 h0_7 h0_8 h0_9 h0_10 h0_11 h0_12 h0_13 h0_14 h0_15 h0_16 (σ0.1, σ0.2.1, z1, σ0.2.2.2.1, σ0.2.2.2.2.1, σ0.2.2.2.2.2.1, σ0.2.2.2.2.2.2))) (isC := [7, 8, 9, 10, 11, 1, 2, 3]) (isR := [0, 4, 5, 6, 12, 13, 14, 15, 16]) (perm := [0, 14, 15, 16, 1, 2, 3, 9, 10, 11, 12, 13, 4, 5, 6, 7, 8]) (rest := []) (As := [.ref h0_1]) G zs_X3_137 dX3_findFirstOptimal_8 (fun sz9 => c_X0_load l D cyI cyZ h0_7 h0_8 h0_9 h0_10 h0_11 h0_1 h0_2 h0_3 σ0.2.2.1 σ0.1 z1 hc1 sz9) 7 rfl rfl rfl ⟨rfl, rfl, rfl, rfl⟩ rfl (Nat.le_of_ble_eq_true rfl) ⟨Nat.le_of_ble_eq_true rfl, Nat.le_of_ble_eq_true rfl, Nat.zero_le _, Nat.zero_le _⟩ rfl ?_
  refine zq_aload_n (q := 12) G dX3_findFirstOptimal_11 0 rfl rfl rfl ?_
  refine zq_get (q := 15) G zu_X3 rfl zw_X3_f22 dX3_findFirstOptimal_12 0 2 rfl (by decide) ⟨⟨rfl, rfl⟩, rfl⟩ rfl rfl ?_
  obtain ⟨z2, hc2, h⟩ := zbd h
  refine zq_callVi (q := 18) (ws2 := (w_C cyI cyZ h0_0 h0_1 h0_2 h0_3 h0_4 h0_5 h0_6 h0_7 h0_8 h0_9 h0_10 h0_11 h0_12 h0_13 h0_14 h0_15 h0_16 (σ0.1, σ0.2.1, z2.2, σ0.2.2.2.1, σ0.2.2.2.2.1, σ0.2.2.2.2.2.1, σ0.2.2.2.2.2.2))) (isC := [7, 8, 9, 10, 11]) (isR := [0, 1, 2, 3, 4, 5, 6, 12, 13, 14, 15, 16]) (perm := [0, 1, 2, 3, 4, 5, 6, 12, 13, 14, 15, 16, 7, 8, 9, 10, 11]) (rest := []) (As := []) G zs_X3_140 dX3_findFirstOptimal_15 (fun sz9 => c_X0_leastSum l D cyI cyZ h0_7 h0_8 h0_9 h0_10 h0_11 z1 z2.1 z2.2 hc2 sz9) 7 rfl rfl rfl ⟨rfl, rfl, rfl, rfl⟩ rfl (Nat.le_of_ble_eq_true rfl) ⟨Nat.le_of_ble_eq_true rfl, Nat.le_of_ble_eq_true rfl, Nat.zero_le _, Nat.zero_le _⟩ rfl ?_
  refine zq_pop (q := 19) G dX3_findFirstOptimal_18 rfl rfl ?_
  refine zq_aload_n (q := 20) G dX3_findFirstOptimal_19 0 rfl rfl rfl ?_
  refine zq_get (q := 23) G zu_X3 rfl zw_X3_f22 dX3_findFirstOptimal_20 0 2 rfl (by decide) ⟨⟨rfl, rfl⟩, rfl⟩ rfl rfl ?_
  refine zq_aload_n (q := 24) G dX3_findFirstOptimal_23 0 rfl rfl rfl ?_
  refine zq_get (q := 27) G zu_X3 rfl zw_X3_f33 dX3_findFirstOptimal_24 0 5 rfl (by decide) ⟨⟨rfl, rfl⟩, rfl⟩ rfl rfl ?_
  obtain ⟨z3, hc3, h⟩ := zbd h
  refine zq_callVv (q := 30) (ws2 := (w_C cyI cyZ h0_0 h0_1 h0_2 h0_3 h0_4 h0_5 h0_6 h0_7 h0_8 h0_9 h0_10 h0_11 h0_12 h0_13 h0_14 h0_15 h0_16 (σ0.1, σ0.2.1, z2.2, σ0.2.2.2.1, σ0.2.2.2.2.1, z3, σ0.2.2.2.2.2.2))) (isC := [7, 8, 9, 10, 11, 14]) (isR := [0, 1, 2, 3, 4, 5, 6, 12, 13, 15, 16]) (perm := [0, 1, 2, 3, 4, 5, 6, 11, 12, 13, 14, 15, 7, 8, 16, 9, 10]) (rest := []) (As := [.ref h0_14]) G zs_X3_250 dX3_findFirstOptimal_27 (fun sz9 => c_X0_traceLeast l D cyI cyZ h0_7 h0_8 h0_9 h0_10 h0_11 h0_14 z2.2 σ0.2.2.2.2.2.1 z3 hc3 sz9) 7 rfl rfl rfl ⟨rfl, rfl, rfl, rfl⟩ rfl (Nat.le_of_ble_eq_true rfl) ⟨Nat.le_of_ble_eq_true rfl, Nat.le_of_ble_eq_true rfl, Nat.zero_le _, Nat.zero_le _⟩ rfl ?_
  refine zq_ws (congrArg (fun w9 => (w_C cyI cyZ h0_0 h0_1 h0_2 h0_3 h0_4 h0_5 h0_6 h0_7 h0_8 h0_9 h0_10 h0_11 h0_12 h0_13 h0_14 h0_15 h0_16 w9)) (zsome h)) ?_
  exact zq_vret G hlocks hr dX3_findFirstOptimal_30
set_option maxHeartbeats 4000000 in
set_option maxRecDepth 100000 in
theorem c_X3_assigned (l : Launch) (hst : l.stackTraces = false) (D : va_G) (cyI cyZ : ClassId) (h0_0 h0_1 h0_2 h0_3 h0_4 h0_5 h0_6 h0_7 h0_8 h0_9 h0_10 h0_11 h0_12 h0_13 h0_14 h0_15 h0_16 : Nat) (σ0 : zC) (p0 : Int32) (z : Sum String Int32) (o0 : zC) (h : s_X3_assigned σ0 p0 = some (z, o0)) (sz : Nat) : zXi l yX3_assigned cX3_assigned 2 .int 8 131 D cyI cyZ sz [.ref h0_0, .int p0] (w_C cyI cyZ h0_0 h0_1 h0_2 h0_3 h0_4 h0_5 h0_6 h0_7 h0_8 h0_9 h0_10 h0_11 h0_12 h0_13 h0_14 h0_15 h0_16 σ0) z (w_C cyI cyZ h0_0 h0_1 h0_2 h0_3 h0_4 h0_5 h0_6 h0_7 h0_8 h0_9 h0_10 h0_11 h0_12 h0_13 h0_14 h0_15 h0_16 o0) := by
  unfold s_X3_assigned at h
  refine zstartXI (lv0 := [(0, .ref h0_0), (1, .int p0)]) (by decide) (Nat.le_of_ble_eq_true rfl) rfl (fun p e s m args below meth c G hr hlocks ht => ?_)
  refine zq_aload_n (q := 1) G dX3_assigned_0 0 rfl rfl rfl ?_
  refine zq_iload_n (q := 2) G dX3_assigned_1 1 rfl rfl rfl ?_
  obtain ⟨z1, hc1, h⟩ := zbd h
  rcases zsum z1 with ⟨E1, e1⟩ | ⟨r1, e1⟩
  · have h := zselL2 h e1
    exact zq_outVv (ws2 := (w_C cyI cyZ h0_0 h0_1 h0_2 h0_3 h0_4 h0_5 h0_6 h0_7 h0_8 h0_9 h0_10 h0_11 h0_12 h0_13 h0_14 h0_15 h0_16 σ0)) (isC := [0, 1, 2, 3, 4, 5, 6, 7, 8, 9, 10, 11, 12, 13, 14, 15, 16]) (isR := []) (perm := [0, 1, 2, 3, 4, 5, 6, 7, 8, 9, 10, 11, 12, 13, 14, 15, 16]) (rest := []) (As := [.int p0]) G hlocks ht zs_X3_64 dX3_assigned_2 (fun sz9 => c_X3_requireRow l hst D cyI cyZ h0_0 h0_1 h0_2 h0_3 h0_4 h0_5 h0_6 h0_7 h0_8 h0_9 h0_10 h0_11 h0_12 h0_13 h0_14 h0_15 h0_16 σ0 p0 (.inl E1) (hc1.trans (congrArg some e1)) sz9) 0 rfl rfl rfl ⟨rfl, rfl, rfl, rfl⟩ rfl (Nat.le_of_ble_eq_true rfl) ⟨Nat.le_of_ble_eq_true rfl, Nat.le_of_ble_eq_true rfl⟩ rfl rfl (congrArg Prod.fst (zsome h)).symm (congrArg (fun w9 => (w_C cyI cyZ h0_0 h0_1 h0_2 h0_3 h0_4 h0_5 h0_6 h0_7 h0_8 h0_9 h0_10 h0_11 h0_12 h0_13 h0_14 h0_15 h0_16 w9.2)) (zsome h))
  · have h := zselR2 h e1
    refine zq_callVv (q := 5) (ws2 := (w_C cyI cyZ h0_0 h0_1 h0_2 h0_3 h0_4 h0_5 h0_6 h0_7 h0_8 h0_9 h0_10 h0_11 h0_12 h0_13 h0_14 h0_15 h0_16 σ0)) (isC := [0, 1, 2, 3, 4, 5, 6, 7, 8, 9, 10, 11, 12, 13, 14, 15, 16]) (isR := []) (perm := [0, 1, 2, 3, 4, 5, 6, 7, 8, 9, 10, 11, 12, 13, 14, 15, 16]) (rest := []) (As := [.int p0]) G zs_X3_64 dX3_assigned_2 (fun sz9 => zXv_ret (c_X3_requireRow l hst D cyI cyZ h0_0 h0_1 h0_2 h0_3 h0_4 h0_5 h0_6 h0_7 h0_8 h0_9 h0_10 h0_11 h0_12 h0_13 h0_14 h0_15 h0_16 σ0 p0 (.inr r1) (hc1.trans (congrArg some e1)) sz9)) 0 rfl rfl rfl ⟨rfl, rfl, rfl, rfl⟩ rfl (Nat.le_of_ble_eq_true rfl) ⟨Nat.le_of_ble_eq_true rfl, Nat.le_of_ble_eq_true rfl, Nat.zero_le _, Nat.zero_le _⟩ rfl ?_
    refine zq_aload_n (q := 6) G dX3_assigned_5 0 rfl rfl rfl ?_
    obtain ⟨z2, hc2, h⟩ := zbd h
    refine zq_callVv (q := 9) (ws2 := (w_C cyI cyZ h0_0 h0_1 h0_2 h0_3 h0_4 h0_5 h0_6 h0_7 h0_8 h0_9 h0_10 h0_11 h0_12 h0_13 h0_14 h0_15 h0_16 z2)) (isC := [0, 1, 2, 3, 4, 5, 6, 7, 8, 9, 10, 11, 12, 13, 14, 15, 16]) (isR := []) (perm := [0, 1, 2, 3, 4, 5, 6, 7, 8, 9, 10, 11, 12, 13, 14, 15, 16]) (rest := []) (As := []) G zs_X3_143 dX3_assigned_6 (fun sz9 => c_X3_findFirstOptimal l D cyI cyZ h0_0 h0_1 h0_2 h0_3 h0_4 h0_5 h0_6 h0_7 h0_8 h0_9 h0_10 h0_11 h0_12 h0_13 h0_14 h0_15 h0_16 σ0 z2 hc2 sz9) 0 rfl rfl rfl ⟨rfl, rfl, rfl, rfl⟩ rfl (Nat.le_of_ble_eq_true rfl) ⟨Nat.le_of_ble_eq_true rfl, Nat.le_of_ble_eq_true rfl, Nat.zero_le _, Nat.zero_le _⟩ rfl ?_
    refine zq_aload_n (q := 10) G dX3_assigned_9 0 rfl rfl rfl ?_
    refine zq_get (q := 13) G zu_X3 rfl zw_X3_f33 dX3_assigned_10 0 5 rfl (by decide) ⟨⟨rfl, rfl⟩, rfl⟩ rfl rfl ?_
    refine zq_iload_n (q := 14) G dX3_assigned_13 1 rfl rfl rfl ?_
    obtain ⟨q3, h⟩ := zif h
    refine zq_iald (q := 15) G dX3_assigned_14 14 rfl q3 rfl ?_
    refine zq_ws (congrArg (fun w9 => (w_C cyI cyZ h0_0 h0_1 h0_2 h0_3 h0_4 h0_5 h0_6 h0_7 h0_8 h0_9 h0_10 h0_11 h0_12 h0_13 h0_14 h0_15 h0_16 w9.2)) (zsome h)) ?_
    exact zq_iretX G hlocks hr rfl dX3_assigned_15 (congrArg Prod.fst (zsome h)).symm
set_option maxHeartbeats 4000000 in
set_option maxRecDepth 100000 in
theorem c_X3_optimalCount (l : Launch) (D : va_G) (cyI cyZ : ClassId) (h0_0 h0_1 h0_2 h0_3 h0_4 h0_5 h0_6 h0_7 h0_8 h0_9 h0_10 h0_11 h0_12 h0_13 h0_14 h0_15 h0_16 : Nat) (σ0 : zC) (r : Int32) (o0 : zC) (h : s_X3_optimalCount σ0 = some (r, o0)) (sz : Nat) : zMi l yX3_optimalCount cX3_optimalCount 1 .int 4 88 D cyI cyZ sz [.ref h0_0] (w_C cyI cyZ h0_0 h0_1 h0_2 h0_3 h0_4 h0_5 h0_6 h0_7 h0_8 h0_9 h0_10 h0_11 h0_12 h0_13 h0_14 h0_15 h0_16 σ0) r (w_C cyI cyZ h0_0 h0_1 h0_2 h0_3 h0_4 h0_5 h0_6 h0_7 h0_8 h0_9 h0_10 h0_11 h0_12 h0_13 h0_14 h0_15 h0_16 o0) := by
  unfold s_X3_optimalCount at h
  refine zstartI (lv0 := [(0, .ref h0_0)]) (by decide) (Nat.le_of_ble_eq_true rfl) rfl (fun p e s m args below meth c G hr hlocks => ?_)
  refine zq_aload_n (q := 1) G dX3_optimalCount_0 0 rfl rfl rfl ?_
  refine zq_get (q := 4) G zu_X3 rfl zw_X3_f22 dX3_optimalCount_1 0 2 rfl (by decide) ⟨⟨rfl, rfl⟩, rfl⟩ rfl rfl ?_
  refine zq_aload_n (q := 5) G dX3_optimalCount_4 0 rfl rfl rfl ?_
  refine zq_get (q := 8) G zu_X3 rfl zw_X3_f12 dX3_optimalCount_5 0 0 rfl (by decide) ⟨⟨rfl, rfl⟩, rfl⟩ rfl rfl ?_
  obtain ⟨z1, hc1, h⟩ := zbd h
  refine zq_callVv (q := 11) (ws2 := (w_C cyI cyZ h0_0 h0_1 h0_2 h0_3 h0_4 h0_5 h0_6 h0_7 h0_8 h0_9 h0_10 h0_11 h0_12 h0_13 h0_14 h0_15 h0_16 (σ0.1, σ0.2.1, z1, σ0.2.2.2.1, σ0.2.2.2.2.1, σ0.2.2.2.2.2.1, σ0.2.2.2.2.2.2))) (isC := [7, 8, 9, 10, 11, 1, 2, 3]) (isR := [0, 4, 5, 6, 12, 13, 14, 15, 16]) (perm := [0, 14, 15, 16, 1, 2, 3, 9, 10, 11, 12, 13, 4, 5, 6, 7, 8]) (rest := []) (As := [.ref h0_1]) G zs_X3_137 dX3_optimalCount_8 (fun sz9 => c_X0_load l D cyI cyZ h0_7 h0_8 h0_9 h0_10 h0_11 h0_1 h0_2 h0_3 σ0.2.2.1 σ0.1 z1 hc1 sz9) 7 rfl rfl rfl ⟨rfl, rfl, rfl, rfl⟩ rfl (Nat.le_of_ble_eq_true rfl) ⟨Nat.le_of_ble_eq_true rfl, Nat.le_of_ble_eq_true rfl, Nat.zero_le _, Nat.zero_le _⟩ rfl ?_
  refine zq_aload_n (q := 12) G dX3_optimalCount_11 0 rfl rfl rfl ?_
  refine zq_get (q := 15) G zu_X3 rfl zw_X3_f22 dX3_optimalCount_12 0 2 rfl (by decide) ⟨⟨rfl, rfl⟩, rfl⟩ rfl rfl ?_
  obtain ⟨z2, hc2, h⟩ := zbd h
  refine zq_callVi (q := 18) (ws2 := (w_C cyI cyZ h0_0 h0_1 h0_2 h0_3 h0_4 h0_5 h0_6 h0_7 h0_8 h0_9 h0_10 h0_11 h0_12 h0_13 h0_14 h0_15 h0_16 (σ0.1, σ0.2.1, z2.2, σ0.2.2.2.1, σ0.2.2.2.2.1, σ0.2.2.2.2.2.1, σ0.2.2.2.2.2.2))) (isC := [7, 8, 9, 10, 11]) (isR := [0, 1, 2, 3, 4, 5, 6, 12, 13, 14, 15, 16]) (perm := [0, 1, 2, 3, 4, 5, 6, 12, 13, 14, 15, 16, 7, 8, 9, 10, 11]) (rest := []) (As := []) G zs_X3_140 dX3_optimalCount_15 (fun sz9 => c_X0_leastSum l D cyI cyZ h0_7 h0_8 h0_9 h0_10 h0_11 z1 z2.1 z2.2 hc2 sz9) 7 rfl rfl rfl ⟨rfl, rfl, rfl, rfl⟩ rfl (Nat.le_of_ble_eq_true rfl) ⟨Nat.le_of_ble_eq_true rfl, Nat.le_of_ble_eq_true rfl, Nat.zero_le _, Nat.zero_le _⟩ rfl ?_
  refine zq_pop (q := 19) G dX3_optimalCount_18 rfl rfl ?_
  refine zq_aload_n (q := 20) G dX3_optimalCount_19 0 rfl rfl rfl ?_
  refine zq_get (q := 23) G zu_X3 rfl zw_X3_f22 dX3_optimalCount_20 0 2 rfl (by decide) ⟨⟨rfl, rfl⟩, rfl⟩ rfl rfl ?_
  obtain ⟨z3, hc3, h⟩ := zbd h
  refine zq_callVi (q := 26) (ws2 := (w_C cyI cyZ h0_0 h0_1 h0_2 h0_3 h0_4 h0_5 h0_6 h0_7 h0_8 h0_9 h0_10 h0_11 h0_12 h0_13 h0_14 h0_15 h0_16 (σ0.1, σ0.2.1, z2.2, σ0.2.2.2.1, σ0.2.2.2.2.1, σ0.2.2.2.2.2.1, σ0.2.2.2.2.2.2))) (isC := [7, 8, 9, 10, 11]) (isR := [0, 1, 2, 3, 4, 5, 6, 12, 13, 14, 15, 16]) (perm := [0, 1, 2, 3, 4, 5, 6, 12, 13, 14, 15, 16, 7, 8, 9, 10, 11]) (rest := []) (As := []) G zs_X3_146 dX3_optimalCount_23 (fun sz9 => c_X0_leastWays l D cyI cyZ h0_7 h0_8 h0_9 h0_10 h0_11 z2.2 z3 hc3 sz9) 7 rfl rfl rfl ⟨rfl, rfl, rfl, rfl⟩ rfl (Nat.le_of_ble_eq_true rfl) ⟨Nat.le_of_ble_eq_true rfl, Nat.le_of_ble_eq_true rfl, Nat.zero_le _, Nat.zero_le _⟩ rfl ?_
  refine zq_ws (congrArg (fun w9 => (w_C cyI cyZ h0_0 h0_1 h0_2 h0_3 h0_4 h0_5 h0_6 h0_7 h0_8 h0_9 h0_10 h0_11 h0_12 h0_13 h0_14 h0_15 h0_16 w9.2)) (zsome h)) ?_
  exact zq_iret G hlocks hr rfl dX3_optimalCount_26 (congrArg Prod.fst (zsome h))
set_option maxHeartbeats 4000000 in
set_option maxRecDepth 100000 in
theorem c_X3_minimumWith (l : Launch) (hst : l.stackTraces = false) (D : va_G) (cyI cyZ : ClassId) (h0_0 h0_1 h0_2 h0_3 h0_4 h0_5 h0_6 h0_7 h0_8 h0_9 h0_10 h0_11 h0_12 h0_13 h0_14 h0_15 h0_16 : Nat) (σ0 : zC) (p0 : Int32) (p1 : Int32) (z : Sum String Int32) (o0 : zC) (h : s_X3_minimumWith σ0 p0 p1 = some (z, o0)) (sz : Nat) : zXi l yX3_minimumWith cX3_minimumWith 4 .int 9 153 D cyI cyZ sz [.ref h0_0, .int p0, .int p1] (w_C cyI cyZ h0_0 h0_1 h0_2 h0_3 h0_4 h0_5 h0_6 h0_7 h0_8 h0_9 h0_10 h0_11 h0_12 h0_13 h0_14 h0_15 h0_16 σ0) z (w_C cyI cyZ h0_0 h0_1 h0_2 h0_3 h0_4 h0_5 h0_6 h0_7 h0_8 h0_9 h0_10 h0_11 h0_12 h0_13 h0_14 h0_15 h0_16 o0) := by
  unfold s_X3_minimumWith at h
  refine zstartXI (lv0 := [(0, .ref h0_0), (1, .int p0), (2, .int p1)]) (by decide) (Nat.le_of_ble_eq_true rfl) rfl (fun p e s m args below meth c G hr hlocks ht => ?_)
  have b19 : ∀ (n : Nat) (τ0 : zC) (x1 : Int32) (x2 : Int32) (x3 : Int32), s_X3_minimumWith_19 n τ0 x1 x2 x3 = some (z, o0) → zW p l e ({ frames := 9, cells := zmc z, slots := zms z, locals := 153 } : Room) s m args below meth c D (va_A (w_C cyI cyZ h0_0 h0_1 h0_2 h0_3 h0_4 h0_5 h0_6 h0_7 h0_8 h0_9 h0_10 h0_11 h0_12 h0_13 h0_14 h0_15 h0_16 σ0) sz) 4 0 0 (vx_MQ below (zQXi D cyI cyZ sz (w_C cyI cyZ h0_0 h0_1 h0_2 h0_3 h0_4 h0_5 h0_6 h0_7 h0_8 h0_9 h0_10 h0_11 h0_12 h0_13 h0_14 h0_15 h0_16 σ0) z (w_C cyI cyZ h0_0 h0_1 h0_2 h0_3 h0_4 h0_5 h0_6 h0_7 h0_8 h0_9 h0_10 h0_11 h0_12 h0_13 h0_14 h0_15 h0_16 o0)) (zXC D cyI cyZ sz (w_C cyI cyZ h0_0 h0_1 h0_2 h0_3 h0_4 h0_5 h0_6 h0_7 h0_8 h0_9 h0_10 h0_11 h0_12 h0_13 h0_14 h0_15 h0_16 σ0) z (w_C cyI cyZ h0_0 h0_1 h0_2 h0_3 h0_4 h0_5 h0_6 h0_7 h0_8 h0_9 h0_10 h0_11 h0_12 h0_13 h0_14 h0_15 h0_16 o0)) args s (zmc z) (zms z) (va_A (w_C cyI cyZ h0_0 h0_1 h0_2 h0_3 h0_4 h0_5 h0_6 h0_7 h0_8 h0_9 h0_10 h0_11 h0_12 h0_13 h0_14 h0_15 h0_16 σ0) sz)) 19 [(0, .ref h0_0), (1, .int x1), (2, .int x2), (3, .int x3)] [] (w_C cyI cyZ h0_0 h0_1 h0_2 h0_3 h0_4 h0_5 h0_6 h0_7 h0_8 h0_9 h0_10 h0_11 h0_12 h0_13 h0_14 h0_15 h0_16 τ0) := by
    intro n
    induction n with
    | zero => intro τ0 x1 x2 x3 h; rw [s_X3_minimumWith_19] at h; exact nomatch h
    | succ n ih =>
      intro τ0 x1 x2 x3 h
      rw [s_X3_minimumWith_19] at h
      refine zq_iload_n (q := 20) G dX3_minimumWith_19 3 rfl rfl rfl ?_
      refine zq_aload_n (q := 21) G dX3_minimumWith_20 0 rfl rfl rfl ?_
      refine zq_get (q := 24) G zu_X3 rfl zw_X3_f12 dX3_minimumWith_21 0 0 rfl (by decide) ⟨⟨rfl, rfl⟩, rfl⟩ rfl rfl ?_
      refine zq_getN (q := 27) G zu_X1 rfl zw_X3_f83 dX3_minimumWith_24 1 0 rfl (by decide) ⟨⟨rfl, rfl⟩, rfl⟩ rfl rfl ?_
      refine zq_icmp_ge (tgt := 52) (q := 30) G dX3_minimumWith_27 (by decide) rfl (fun c1 => ?_) (fun c1 => ?_)
      · have h := zit h c1
        refine zq_aload_n (q := 53) G dX3_minimumWith_52 0 rfl rfl rfl ?_
        refine zq_get (q := 56) G zu_X3 rfl zw_X3_f22 dX3_minimumWith_53 0 2 rfl (by decide) ⟨⟨rfl, rfl⟩, rfl⟩ rfl rfl ?_
        obtain ⟨z2, hc2, h⟩ := zbd h
        refine zq_callVi (q := 59) (ws2 := (w_C cyI cyZ h0_0 h0_1 h0_2 h0_3 h0_4 h0_5 h0_6 h0_7 h0_8 h0_9 h0_10 h0_11 h0_12 h0_13 h0_14 h0_15 h0_16 (τ0.1, τ0.2.1, z2.2, τ0.2.2.2.1, τ0.2.2.2.2.1, τ0.2.2.2.2.2.1, τ0.2.2.2.2.2.2))) (isC := [7, 8, 9, 10, 11]) (isR := [0, 1, 2, 3, 4, 5, 6, 12, 13, 14, 15, 16]) (perm := [0, 1, 2, 3, 4, 5, 6, 12, 13, 14, 15, 16, 7, 8, 9, 10, 11]) (rest := []) (As := []) G zs_X3_140 dX3_minimumWith_56 (fun sz9 => c_X0_leastSum l D cyI cyZ h0_7 h0_8 h0_9 h0_10 h0_11 τ0.2.2.1 z2.1 z2.2 hc2 sz9) 7 rfl rfl rfl ⟨rfl, rfl, rfl, rfl⟩ rfl (Nat.le_of_ble_eq_true rfl) ⟨Nat.le_of_ble_eq_true rfl, Nat.le_of_ble_eq_true rfl, Nat.zero_le _, Nat.zero_le _⟩ rfl ?_
        refine zq_ws (congrArg (fun w9 => (w_C cyI cyZ h0_0 h0_1 h0_2 h0_3 h0_4 h0_5 h0_6 h0_7 h0_8 h0_9 h0_10 h0_11 h0_12 h0_13 h0_14 h0_15 h0_16 w9.2)) (zsome h)) ?_
        exact zq_iretX G hlocks hr rfl dX3_minimumWith_59 (congrArg Prod.fst (zsome h)).symm
      · have h := zie h c1
        refine zq_iload_n (q := 31) G dX3_minimumWith_30 3 rfl rfl rfl ?_
        refine zq_iload_n (q := 32) G dX3_minimumWith_31 2 rfl rfl rfl ?_
        refine zq_icmp_eq (tgt := 46) (q := 35) G dX3_minimumWith_32 (by decide) rfl (fun c3 => ?_) (fun c3 => ?_)
        · have h := zit h c3
          refine zq_iinc (q := 49) (v := (x3 + 1)) (lv2 := [(3, .int (x3 + 1)), (0, .ref h0_0), (1, .int x1), (2, .int x2)]) G dX3_minimumWith_46 3 rfl rfl (by decide) rfl rfl ?_
          refine zq_goto (q := 19) G dX3_minimumWith_49 (by decide) ?_
          exact zq_sub _ [1, 2, 3, 0] rfl (ih _ _ _ _ h)
        · have h := zie h c3
          refine zq_aload_n (q := 36) G dX3_minimumWith_35 0 rfl rfl rfl ?_
          refine zq_get (q := 39) G zu_X3 rfl zw_X3_f22 dX3_minimumWith_36 0 2 rfl (by decide) ⟨⟨rfl, rfl⟩, rfl⟩ rfl rfl ?_
          refine zq_iload_n (q := 40) G dX3_minimumWith_39 1 rfl rfl rfl ?_
          refine zq_iload_n (q := 41) G dX3_minimumWith_40 3 rfl rfl rfl ?_
          refine zq_ldc (q := 43) G zw_X3_c158 dX3_minimumWith_41 rfl ?_
          obtain ⟨z4, hc4, h⟩ := zbd h
          refine zq_callVv (q := 46) (ws2 := (w_C cyI cyZ h0_0 h0_1 h0_2 h0_3 h0_4 h0_5 h0_6 h0_7 h0_8 h0_9 h0_10 h0_11 h0_12 h0_13 h0_14 h0_15 h0_16 (τ0.1, τ0.2.1, z4, τ0.2.2.2.1, τ0.2.2.2.2.1, τ0.2.2.2.2.2.1, τ0.2.2.2.2.2.2))) (isC := [7, 8, 9, 10, 11]) (isR := [0, 1, 2, 3, 4, 5, 6, 12, 13, 14, 15, 16]) (perm := [0, 1, 2, 3, 4, 5, 6, 12, 13, 14, 15, 16, 7, 8, 9, 10, 11]) (rest := []) (As := [.int x1, .int x3, .int (100000 : Int32)]) G zs_X3_159 dX3_minimumWith_43 (fun sz9 => c_X0_putCost l D cyI cyZ h0_7 h0_8 h0_9 h0_10 h0_11 τ0.2.2.1 x1 x3 (100000 : Int32) z4 hc4 sz9) 7 rfl rfl rfl ⟨rfl, rfl, rfl, rfl⟩ rfl (Nat.le_of_ble_eq_true rfl) ⟨Nat.le_of_ble_eq_true rfl, Nat.le_of_ble_eq_true rfl, Nat.zero_le _, Nat.zero_le _⟩ rfl ?_
          refine zq_iinc (q := 49) (v := (x3 + 1)) (lv2 := [(3, .int (x3 + 1)), (0, .ref h0_0), (1, .int x1), (2, .int x2)]) G dX3_minimumWith_46 3 rfl rfl (by decide) rfl rfl ?_
          refine zq_goto (q := 19) G dX3_minimumWith_49 (by decide) ?_
          exact zq_sub _ [1, 2, 3, 0] rfl (ih _ _ _ _ h)
  refine zq_aload_n (q := 1) G dX3_minimumWith_0 0 rfl rfl rfl ?_
  refine zq_iload_n (q := 2) G dX3_minimumWith_1 1 rfl rfl rfl ?_
  refine zq_iload_n (q := 3) G dX3_minimumWith_2 2 rfl rfl rfl ?_
  obtain ⟨z1, hc1, h⟩ := zbd h
  rcases zsum z1 with ⟨E1, e1⟩ | ⟨r1, e1⟩
  · have h := zselL2 h e1
    exact zq_outVv (ws2 := (w_C cyI cyZ h0_0 h0_1 h0_2 h0_3 h0_4 h0_5 h0_6 h0_7 h0_8 h0_9 h0_10 h0_11 h0_12 h0_13 h0_14 h0_15 h0_16 σ0)) (isC := [0, 1, 2, 3, 4, 5, 6, 7, 8, 9, 10, 11, 12, 13, 14, 15, 16]) (isR := []) (perm := [0, 1, 2, 3, 4, 5, 6, 7, 8, 9, 10, 11, 12, 13, 14, 15, 16]) (rest := []) (As := [.int p0, .int p1]) G hlocks ht zs_X3_94 dX3_minimumWith_3 (fun sz9 => c_X3_requireCell l hst D cyI cyZ h0_0 h0_1 h0_2 h0_3 h0_4 h0_5 h0_6 h0_7 h0_8 h0_9 h0_10 h0_11 h0_12 h0_13 h0_14 h0_15 h0_16 σ0 p0 p1 (.inl E1) (hc1.trans (congrArg some e1)) sz9) 0 rfl rfl rfl ⟨rfl, rfl, rfl, rfl⟩ rfl (Nat.le_of_ble_eq_true rfl) ⟨Nat.le_of_ble_eq_true rfl, Nat.le_of_ble_eq_true rfl⟩ rfl rfl (congrArg Prod.fst (zsome h)).symm (congrArg (fun w9 => (w_C cyI cyZ h0_0 h0_1 h0_2 h0_3 h0_4 h0_5 h0_6 h0_7 h0_8 h0_9 h0_10 h0_11 h0_12 h0_13 h0_14 h0_15 h0_16 w9.2)) (zsome h))
  · have h := zselR2 h e1
    refine zq_callVv (q := 6) (ws2 := (w_C cyI cyZ h0_0 h0_1 h0_2 h0_3 h0_4 h0_5 h0_6 h0_7 h0_8 h0_9 h0_10 h0_11 h0_12 h0_13 h0_14 h0_15 h0_16 σ0)) (isC := [0, 1, 2, 3, 4, 5, 6, 7, 8, 9, 10, 11, 12, 13, 14, 15, 16]) (isR := []) (perm := [0, 1, 2, 3, 4, 5, 6, 7, 8, 9, 10, 11, 12, 13, 14, 15, 16]) (rest := []) (As := [.int p0, .int p1]) G zs_X3_94 dX3_minimumWith_3 (fun sz9 => zXv_ret (c_X3_requireCell l hst D cyI cyZ h0_0 h0_1 h0_2 h0_3 h0_4 h0_5 h0_6 h0_7 h0_8 h0_9 h0_10 h0_11 h0_12 h0_13 h0_14 h0_15 h0_16 σ0 p0 p1 (.inr r1) (hc1.trans (congrArg some e1)) sz9)) 0 rfl rfl rfl ⟨rfl, rfl, rfl, rfl⟩ rfl (Nat.le_of_ble_eq_true rfl) ⟨Nat.le_of_ble_eq_true rfl, Nat.le_of_ble_eq_true rfl, Nat.zero_le _, Nat.zero_le _⟩ rfl ?_
    refine zq_aload_n (q := 7) G dX3_minimumWith_6 0 rfl rfl rfl ?_
    refine zq_get (q := 10) G zu_X3 rfl zw_X3_f22 dX3_minimumWith_7 0 2 rfl (by decide) ⟨⟨rfl, rfl⟩, rfl⟩ rfl rfl ?_
    refine zq_aload_n (q := 11) G dX3_minimumWith_10 0 rfl rfl rfl ?_
    refine zq_get (q := 14) G zu_X3 rfl zw_X3_f12 dX3_minimumWith_11 0 0 rfl (by decide) ⟨⟨rfl, rfl⟩, rfl⟩ rfl rfl ?_
    obtain ⟨z2, hc2, h⟩ := zbd h
    refine zq_callVv (q := 17) (ws2 := (w_C cyI cyZ h0_0 h0_1 h0_2 h0_3 h0_4 h0_5 h0_6 h0_7 h0_8 h0_9 h0_10 h0_11 h0_12 h0_13 h0_14 h0_15 h0_16 (σ0.1, σ0.2.1, z2, σ0.2.2.2.1, σ0.2.2.2.2.1, σ0.2.2.2.2.2.1, σ0.2.2.2.2.2.2))) (isC := [7, 8, 9, 10, 11, 1, 2, 3]) (isR := [0, 4, 5, 6, 12, 13, 14, 15, 16]) (perm := [0, 14, 15, 16, 1, 2, 3, 9, 10, 11, 12, 13, 4, 5, 6, 7, 8]) (rest := []) (As := [.ref h0_1]) G zs_X3_137 dX3_minimumWith_14 (fun sz9 => c_X0_load l D cyI cyZ h0_7 h0_8 h0_9 h0_10 h0_11 h0_1 h0_2 h0_3 σ0.2.2.1 σ0.1 z2 hc2 sz9) 7 rfl rfl rfl ⟨rfl, rfl, rfl, rfl⟩ rfl (Nat.le_of_ble_eq_true rfl) ⟨Nat.le_of_ble_eq_true rfl, Nat.le_of_ble_eq_true rfl, Nat.zero_le _, Nat.zero_le _⟩ rfl ?_
    refine zq_iconst (q := 18) (v := 0) G dX3_minimumWith_17 (by decide) rfl ?_
    refine zq_istore_n (q := 19) (lv2 := [(3, .int (0 : Int32)), (0, .ref h0_0), (1, .int p0), (2, .int p1)]) G dX3_minimumWith_18 rfl (by decide) rfl rfl ?_
    exact zq_sub _ [1, 2, 3, 0] rfl (b19  _ _ _ _ _ h)
set_option maxHeartbeats 4000000 in
set_option maxRecDepth 100000 in
theorem c_X3_smallestRest (l : Launch) (D : va_G) (cyI cyZ : ClassId) (h0_0 h0_1 h0_2 h0_3 h0_4 h0_5 h0_6 h0_7 h0_8 h0_9 h0_10 h0_11 h0_12 h0_13 h0_14 h0_15 h0_16 : Nat) (σ0 : zC) (p0 : Int32) (r : Int32) (h : s_X3_smallestRest σ0 p0 = some r) (sz : Nat) : zMi l yX3_smallestRest cX3_smallestRest 4 .int 3 65 D cyI cyZ sz [.ref h0_0, .int p0] (w_C cyI cyZ h0_0 h0_1 h0_2 h0_3 h0_4 h0_5 h0_6 h0_7 h0_8 h0_9 h0_10 h0_11 h0_12 h0_13 h0_14 h0_15 h0_16 σ0) r (w_C cyI cyZ h0_0 h0_1 h0_2 h0_3 h0_4 h0_5 h0_6 h0_7 h0_8 h0_9 h0_10 h0_11 h0_12 h0_13 h0_14 h0_15 h0_16 σ0) := by
  unfold s_X3_smallestRest at h
  refine zstartI (lv0 := [(0, .ref h0_0), (1, .int p0)]) (by decide) (Nat.le_of_ble_eq_true rfl) rfl (fun p e s m args below meth c G hr hlocks => ?_)
  have b19 : ∀ (n : Nat) (x1 : Int32) (x2 : Int32) (x3 : Int32), s_X3_smallestRest_19 n σ0 x1 x2 x3 = some r → zW p l e ({ frames := 3, cells := 0, slots := 0, locals := 65 } : Room) s m args below meth c D (va_A (w_C cyI cyZ h0_0 h0_1 h0_2 h0_3 h0_4 h0_5 h0_6 h0_7 h0_8 h0_9 h0_10 h0_11 h0_12 h0_13 h0_14 h0_15 h0_16 σ0) sz) 4 0 0 (MQ below (zQi D cyI cyZ sz (w_C cyI cyZ h0_0 h0_1 h0_2 h0_3 h0_4 h0_5 h0_6 h0_7 h0_8 h0_9 h0_10 h0_11 h0_12 h0_13 h0_14 h0_15 h0_16 σ0) r (w_C cyI cyZ h0_0 h0_1 h0_2 h0_3 h0_4 h0_5 h0_6 h0_7 h0_8 h0_9 h0_10 h0_11 h0_12 h0_13 h0_14 h0_15 h0_16 σ0)) args s 0 0 (va_A (w_C cyI cyZ h0_0 h0_1 h0_2 h0_3 h0_4 h0_5 h0_6 h0_7 h0_8 h0_9 h0_10 h0_11 h0_12 h0_13 h0_14 h0_15 h0_16 σ0) sz)) 19 [(0, .ref h0_0), (1, .int x1), (2, .int x2), (3, .int x3)] [] (w_C cyI cyZ h0_0 h0_1 h0_2 h0_3 h0_4 h0_5 h0_6 h0_7 h0_8 h0_9 h0_10 h0_11 h0_12 h0_13 h0_14 h0_15 h0_16 σ0) := by
    intro n
    induction n with
    | zero => intro x1 x2 x3 h; rw [s_X3_smallestRest_19] at h; exact nomatch h
    | succ n ih =>
      intro x1 x2 x3 h
      rw [s_X3_smallestRest_19] at h
      refine zq_iload_n (q := 20) G dX3_smallestRest_19 3 rfl rfl rfl ?_
      refine zq_aload_n (q := 21) G dX3_smallestRest_20 0 rfl rfl rfl ?_
      refine zq_get (q := 24) G zu_X3 rfl zw_X3_f12 dX3_smallestRest_21 0 0 rfl (by decide) ⟨⟨rfl, rfl⟩, rfl⟩ rfl rfl ?_
      refine zq_getN (q := 27) G zu_X1 rfl zw_X3_f83 dX3_smallestRest_24 1 0 rfl (by decide) ⟨⟨rfl, rfl⟩, rfl⟩ rfl rfl ?_
      refine zq_icmp_ge (tgt := 57) (q := 30) G dX3_smallestRest_27 (by decide) rfl (fun c1 => ?_) (fun c1 => ?_)
      · have h := zit h c1
        refine zq_iload_n (q := 58) G dX3_smallestRest_57 2 rfl rfl rfl ?_
        exact zq_iret G hlocks hr rfl dX3_smallestRest_58 (zsome h)
      · have h := zie h c1
        refine zq_iload_n (q := 31) G dX3_smallestRest_30 2 rfl rfl rfl ?_
        refine zq_aload_n (q := 32) G dX3_smallestRest_31 0 rfl rfl rfl ?_
        refine zq_get (q := 35) G zu_X3 rfl zw_X3_f12 dX3_smallestRest_32 0 0 rfl (by decide) ⟨⟨rfl, rfl⟩, rfl⟩ rfl rfl ?_
        refine zq_iload_n (q := 36) G dX3_smallestRest_35 3 rfl rfl rfl ?_
        refine zq_iload_n (q := 37) G dX3_smallestRest_36 1 rfl rfl rfl ?_
        obtain ⟨z2, hc2, h⟩ := zbd h
        refine zq_callVi (q := 40) (ws2 := (w_C cyI cyZ h0_0 h0_1 h0_2 h0_3 h0_4 h0_5 h0_6 h0_7 h0_8 h0_9 h0_10 h0_11 h0_12 h0_13 h0_14 h0_15 h0_16 σ0)) (isC := [1, 2, 3]) (isR := [0, 4, 5, 6, 7, 8, 9, 10, 11, 12, 13, 14, 15, 16]) (perm := [0, 14, 15, 16, 1, 2, 3, 4, 5, 6, 7, 8, 9, 10, 11, 12, 13]) (rest := [.int x2]) (As := [.int x3, .int x1]) G zs_X3_97 dX3_smallestRest_37 (fun sz9 => c_X1_costOf l D cyI cyZ h0_1 h0_2 h0_3 σ0.1 x3 x1 z2 hc2 sz9) 1 rfl rfl rfl ⟨rfl, rfl, rfl, rfl⟩ rfl (Nat.le_of_ble_eq_true rfl) ⟨Nat.le_of_ble_eq_true rfl, Nat.le_of_ble_eq_true rfl, Nat.zero_le _, Nat.zero_le _⟩ rfl ?_
        refine zq_aload_n (q := 41) G dX3_smallestRest_40 0 rfl rfl rfl ?_
        refine zq_get (q := 44) G zu_X3 rfl zw_X3_f26 dX3_smallestRest_41 0 3 rfl (by decide) ⟨⟨rfl, rfl⟩, rfl⟩ rfl rfl ?_
        refine zq_iload_n (q := 45) G dX3_smallestRest_44 3 rfl rfl rfl ?_
        obtain ⟨q3, h⟩ := zif h
        refine zq_iald (q := 46) G dX3_smallestRest_45 12 rfl q3 rfl ?_
        refine zq_isub (q := 47) G dX3_smallestRest_46 rfl ?_
        refine zq_mmin (q := 50) G zl_X3_78 zstat_J9_min_7cf53 zini_J9 zcode_J9_min_7cf53 dX3_smallestRest_47 ⟨Nat.le_of_ble_eq_true rfl, Nat.le_of_ble_eq_true rfl, Nat.zero_le _, Nat.zero_le _⟩ rfl ?_
        refine zq_istore_n (q := 51) (lv2 := [(2, .int (if (z2 - (σ0.2.2.2.1 x3.toNatClampNeg)) < x2 then (z2 - (σ0.2.2.2.1 x3.toNatClampNeg)) else x2)), (0, .ref h0_0), (1, .int x1), (3, .int x3)]) G dX3_smallestRest_50 rfl (by decide) rfl rfl ?_
        refine zq_iinc (q := 54) (v := (x3 + 1)) (lv2 := [(3, .int (x3 + 1)), (2, .int (if (z2 - (σ0.2.2.2.1 x3.toNatClampNeg)) < x2 then (z2 - (σ0.2.2.2.1 x3.toNatClampNeg)) else x2)), (0, .ref h0_0), (1, .int x1)]) G dX3_smallestRest_51 3 rfl rfl (by decide) rfl rfl ?_
        refine zq_goto (q := 19) G dX3_smallestRest_54 (by decide) ?_
        exact zq_sub _ [2, 3, 1, 0] rfl (ih _ _ _ h)
  refine zq_aload_n (q := 1) G dX3_smallestRest_0 0 rfl rfl rfl ?_
  refine zq_get (q := 4) G zu_X3 rfl zw_X3_f12 dX3_smallestRest_1 0 0 rfl (by decide) ⟨⟨rfl, rfl⟩, rfl⟩ rfl rfl ?_
  refine zq_iconst (q := 5) (v := 0) G dX3_smallestRest_4 (by decide) rfl ?_
  refine zq_iload_n (q := 6) G dX3_smallestRest_5 1 rfl rfl rfl ?_
  obtain ⟨z1, hc1, h⟩ := zbd h
  refine zq_callVi (q := 9) (ws2 := (w_C cyI cyZ h0_0 h0_1 h0_2 h0_3 h0_4 h0_5 h0_6 h0_7 h0_8 h0_9 h0_10 h0_11 h0_12 h0_13 h0_14 h0_15 h0_16 σ0)) (isC := [1, 2, 3]) (isR := [0, 4, 5, 6, 7, 8, 9, 10, 11, 12, 13, 14, 15, 16]) (perm := [0, 14, 15, 16, 1, 2, 3, 4, 5, 6, 7, 8, 9, 10, 11, 12, 13]) (rest := []) (As := [.int (0 : Int32), .int p0]) G zs_X3_97 dX3_smallestRest_6 (fun sz9 => c_X1_costOf l D cyI cyZ h0_1 h0_2 h0_3 σ0.1 (0 : Int32) p0 z1 hc1 sz9) 1 rfl rfl rfl ⟨rfl, rfl, rfl, rfl⟩ rfl (Nat.le_of_ble_eq_true rfl) ⟨Nat.le_of_ble_eq_true rfl, Nat.le_of_ble_eq_true rfl, Nat.zero_le _, Nat.zero_le _⟩ rfl ?_
  refine zq_aload_n (q := 10) G dX3_smallestRest_9 0 rfl rfl rfl ?_
  refine zq_get (q := 13) G zu_X3 rfl zw_X3_f26 dX3_smallestRest_10 0 3 rfl (by decide) ⟨⟨rfl, rfl⟩, rfl⟩ rfl rfl ?_
  refine zq_iconst (q := 14) (v := 0) G dX3_smallestRest_13 (by decide) rfl ?_
  obtain ⟨q2, h⟩ := zif h
  refine zq_iald (q := 15) G dX3_smallestRest_14 12 rfl q2 rfl ?_
  refine zq_isub (q := 16) G dX3_smallestRest_15 rfl ?_
  refine zq_istore_n (q := 17) (lv2 := [(2, .int (z1 - (σ0.2.2.2.1 (0 : Int32).toNatClampNeg))), (0, .ref h0_0), (1, .int p0)]) G dX3_smallestRest_16 rfl (by decide) rfl rfl ?_
  refine zq_iconst (q := 18) (v := 1) G dX3_smallestRest_17 (by decide) rfl ?_
  refine zq_istore_n (q := 19) (lv2 := [(3, .int (1 : Int32)), (2, .int (z1 - (σ0.2.2.2.1 (0 : Int32).toNatClampNeg))), (0, .ref h0_0), (1, .int p0)]) G dX3_smallestRest_18 rfl (by decide) rfl rfl ?_
  exact zq_sub _ [2, 3, 1, 0] rfl (b19  _ _ _ _ h)
set_option maxHeartbeats 4000000 in
set_option maxRecDepth 100000 in
theorem c_X3_findPotentials (l : Launch) (hst : l.stackTraces = false) (D : va_G) (cyI cyZ : ClassId) (h0_0 h0_1 h0_2 h0_3 h0_4 h0_5 h0_6 h0_7 h0_8 h0_9 h0_10 h0_11 h0_12 h0_13 h0_14 h0_15 h0_16 : Nat) (σ0 : zC) (z : Sum String Unit) (o0 : zC) (h : s_X3_findPotentials σ0 = some (z, o0)) (sz : Nat) : zXv l yX3_findPotentials cX3_findPotentials 4 10 176 D cyI cyZ sz [.ref h0_0] (w_C cyI cyZ h0_0 h0_1 h0_2 h0_3 h0_4 h0_5 h0_6 h0_7 h0_8 h0_9 h0_10 h0_11 h0_12 h0_13 h0_14 h0_15 h0_16 σ0) z (w_C cyI cyZ h0_0 h0_1 h0_2 h0_3 h0_4 h0_5 h0_6 h0_7 h0_8 h0_9 h0_10 h0_11 h0_12 h0_13 h0_14 h0_15 h0_16 o0) := by
  unfold s_X3_findPotentials at h
  refine zstartXV (lv0 := [(0, .ref h0_0)]) (by decide) (Nat.le_of_ble_eq_true rfl) rfl (fun p e s m args below meth c G hr hlocks ht => ?_)
  have b52 : ∀ (n : Nat) (τ0 : zC) (x2 : Int32), s_X3_findPotentials_52 n τ0 x2 = some (z, o0) → zW p l e ({ frames := 10, cells := zmc z, slots := zms z, locals := 176 } : Room) s m args below meth c D (va_A (w_C cyI cyZ h0_0 h0_1 h0_2 h0_3 h0_4 h0_5 h0_6 h0_7 h0_8 h0_9 h0_10 h0_11 h0_12 h0_13 h0_14 h0_15 h0_16 σ0) sz) 4 0 0 (vx_MQ below (zQXv D cyI cyZ sz (w_C cyI cyZ h0_0 h0_1 h0_2 h0_3 h0_4 h0_5 h0_6 h0_7 h0_8 h0_9 h0_10 h0_11 h0_12 h0_13 h0_14 h0_15 h0_16 σ0) z (w_C cyI cyZ h0_0 h0_1 h0_2 h0_3 h0_4 h0_5 h0_6 h0_7 h0_8 h0_9 h0_10 h0_11 h0_12 h0_13 h0_14 h0_15 h0_16 o0)) (zXC D cyI cyZ sz (w_C cyI cyZ h0_0 h0_1 h0_2 h0_3 h0_4 h0_5 h0_6 h0_7 h0_8 h0_9 h0_10 h0_11 h0_12 h0_13 h0_14 h0_15 h0_16 σ0) z (w_C cyI cyZ h0_0 h0_1 h0_2 h0_3 h0_4 h0_5 h0_6 h0_7 h0_8 h0_9 h0_10 h0_11 h0_12 h0_13 h0_14 h0_15 h0_16 o0)) args s (zmc z) (zms z) (va_A (w_C cyI cyZ h0_0 h0_1 h0_2 h0_3 h0_4 h0_5 h0_6 h0_7 h0_8 h0_9 h0_10 h0_11 h0_12 h0_13 h0_14 h0_15 h0_16 σ0) sz)) 52 [(0, .ref h0_0), (2, .int x2)] [] (w_C cyI cyZ h0_0 h0_1 h0_2 h0_3 h0_4 h0_5 h0_6 h0_7 h0_8 h0_9 h0_10 h0_11 h0_12 h0_13 h0_14 h0_15 h0_16 τ0) := by
    intro n
    induction n with
    | zero => intro τ0 x2 h; rw [s_X3_findPotentials_52] at h; exact nomatch h
    | succ n ih =>
      intro τ0 x2 h
      rw [s_X3_findPotentials_52] at h
      refine zq_iload_n (q := 53) G dX3_findPotentials_52 1 rfl rfl rfl ?_
      refine zq_aload_n (q := 54) G dX3_findPotentials_53 0 rfl rfl rfl ?_
      refine zq_get (q := 57) G zu_X3 rfl zw_X3_f12 dX3_findPotentials_54 0 0 rfl (by decide) ⟨⟨rfl, rfl⟩, rfl⟩ rfl rfl ?_
      refine zq_getN (q := 60) G zu_X1 rfl zw_X3_f83 dX3_findPotentials_57 1 0 rfl (by decide) ⟨⟨rfl, rfl⟩, rfl⟩ rfl rfl ?_
      refine zq_icmp_ge (tgt := 80) (q := 63) G dX3_findPotentials_60 (by decide) rfl (fun c1 => ?_) (fun c1 => ?_)
      · have h := zit h c1
        refine zq_ws (congrArg (fun w9 => (w_C cyI cyZ h0_0 h0_1 h0_2 h0_3 h0_4 h0_5 h0_6 h0_7 h0_8 h0_9 h0_10 h0_11 h0_12 h0_13 h0_14 h0_15 h0_16 w9.2)) (zsome h)) ?_
        exact zq_vretX G hlocks hr dX3_findPotentials_80 (congrArg Prod.fst (zsome h)).symm
      · have h := zie h c1
        refine zq_aload_n (q := 64) G dX3_findPotentials_63 0 rfl rfl rfl ?_
        refine zq_get (q := 67) G zu_X3 rfl zw_X3_f30 dX3_findPotentials_64 0 4 rfl (by decide) ⟨⟨rfl, rfl⟩, rfl⟩ rfl rfl ?_
        refine zq_iload_n (q := 68) G dX3_findPotentials_67 1 rfl rfl rfl ?_
        refine zq_aload_n (q := 69) G dX3_findPotentials_68 0 rfl rfl rfl ?_
        refine zq_iload_n (q := 70) G dX3_findPotentials_69 1 rfl rfl rfl ?_
        obtain ⟨z2, hc2, h⟩ := zbd h
        refine zq_callVi (q := 73) (ws2 := (w_C cyI cyZ h0_0 h0_1 h0_2 h0_3 h0_4 h0_5 h0_6 h0_7 h0_8 h0_9 h0_10 h0_11 h0_12 h0_13 h0_14 h0_15 h0_16 τ0)) (isC := [0, 1, 2, 3, 4, 5, 6, 7, 8, 9, 10, 11, 12, 13, 14, 15, 16]) (isR := []) (perm := [0, 1, 2, 3, 4, 5, 6, 7, 8, 9, 10, 11, 12, 13, 14, 15, 16]) (rest := [.int x2, .ref h0_13]) (As := [.int x2]) G zs_X3_257 dX3_findPotentials_70 (fun sz9 => c_X3_smallestRest l D cyI cyZ h0_0 h0_1 h0_2 h0_3 h0_4 h0_5 h0_6 h0_7 h0_8 h0_9 h0_10 h0_11 h0_12 h0_13 h0_14 h0_15 h0_16 τ0 x2 z2 hc2 sz9) 0 rfl rfl rfl ⟨rfl, rfl, rfl, rfl⟩ rfl (Nat.le_of_ble_eq_true rfl) ⟨Nat.le_of_ble_eq_true rfl, Nat.le_of_ble_eq_true rfl, Nat.zero_le _, Nat.zero_le _⟩ rfl ?_
        obtain ⟨q3, h⟩ := zif h
        refine zq_iast (q := 74) (ws2 := (w_C cyI cyZ h0_0 h0_1 h0_2 h0_3 h0_4 h0_5 h0_6 h0_7 h0_8 h0_9 h0_10 h0_11 h0_12 h0_13 h0_14 h0_15 h0_16 (τ0.1, τ0.2.1, τ0.2.2.1, τ0.2.2.2.1, (upd τ0.2.2.2.2.1 x2.toNatClampNeg z2), τ0.2.2.2.2.2.1, τ0.2.2.2.2.2.2))) G dX3_findPotentials_73 13 rfl q3 rfl rfl ?_
        refine zq_iinc (q := 77) (v := (x2 + 1)) (lv2 := [(2, .int (x2 + 1)), (0, .ref h0_0)]) G dX3_findPotentials_74 1 rfl rfl (by decide) rfl rfl ?_
        refine zq_goto (q := 52) G dX3_findPotentials_77 (by decide) ?_
        exact zq_sub _ [1, 0] rfl (ih _ _ h)
  have b7 : ∀ (n : Nat) (τ0 : zC) (x1 : Int32) (x2 : Int32), s_X3_findPotentials_7 n τ0 x1 x2 = some (z, o0) → zW p l e ({ frames := 10, cells := zmc z, slots := zms z, locals := 176 } : Room) s m args below meth c D (va_A (w_C cyI cyZ h0_0 h0_1 h0_2 h0_3 h0_4 h0_5 h0_6 h0_7 h0_8 h0_9 h0_10 h0_11 h0_12 h0_13 h0_14 h0_15 h0_16 σ0) sz) 4 0 0 (vx_MQ below (zQXv D cyI cyZ sz (w_C cyI cyZ h0_0 h0_1 h0_2 h0_3 h0_4 h0_5 h0_6 h0_7 h0_8 h0_9 h0_10 h0_11 h0_12 h0_13 h0_14 h0_15 h0_16 σ0) z (w_C cyI cyZ h0_0 h0_1 h0_2 h0_3 h0_4 h0_5 h0_6 h0_7 h0_8 h0_9 h0_10 h0_11 h0_12 h0_13 h0_14 h0_15 h0_16 o0)) (zXC D cyI cyZ sz (w_C cyI cyZ h0_0 h0_1 h0_2 h0_3 h0_4 h0_5 h0_6 h0_7 h0_8 h0_9 h0_10 h0_11 h0_12 h0_13 h0_14 h0_15 h0_16 σ0) z (w_C cyI cyZ h0_0 h0_1 h0_2 h0_3 h0_4 h0_5 h0_6 h0_7 h0_8 h0_9 h0_10 h0_11 h0_12 h0_13 h0_14 h0_15 h0_16 o0)) args s (zmc z) (zms z) (va_A (w_C cyI cyZ h0_0 h0_1 h0_2 h0_3 h0_4 h0_5 h0_6 h0_7 h0_8 h0_9 h0_10 h0_11 h0_12 h0_13 h0_14 h0_15 h0_16 σ0) sz)) 7 [(0, .ref h0_0), (1, .int x1), (2, .int x2)] [] (w_C cyI cyZ h0_0 h0_1 h0_2 h0_3 h0_4 h0_5 h0_6 h0_7 h0_8 h0_9 h0_10 h0_11 h0_12 h0_13 h0_14 h0_15 h0_16 τ0) := by
    intro n
    induction n with
    | zero => intro τ0 x1 x2 h; rw [s_X3_findPotentials_7] at h; exact nomatch h
    | succ n ih =>
      intro τ0 x1 x2 h
      rw [s_X3_findPotentials_7] at h
      refine zq_iload_n (q := 8) G dX3_findPotentials_7 2 rfl rfl rfl ?_
      refine zq_aload_n (q := 9) G dX3_findPotentials_8 0 rfl rfl rfl ?_
      refine zq_get (q := 12) G zu_X3 rfl zw_X3_f12 dX3_findPotentials_9 0 0 rfl (by decide) ⟨⟨rfl, rfl⟩, rfl⟩ rfl rfl ?_
      refine zq_getN (q := 15) G zu_X1 rfl zw_X3_f83 dX3_findPotentials_12 1 0 rfl (by decide) ⟨⟨rfl, rfl⟩, rfl⟩ rfl rfl ?_
      refine zq_icmp_ge (tgt := 50) (q := 18) G dX3_findPotentials_15 (by decide) rfl (fun c1 => ?_) (fun c1 => ?_)
      · have h := zit h c1
        refine zq_iconst (q := 51) (v := 0) G dX3_findPotentials_50 (by decide) rfl ?_
        refine zq_istore_n (q := 52) (lv2 := [(2, .int (0 : Int32)), (0, .ref h0_0), (1, .int x1)]) G dX3_findPotentials_51 rfl (by decide) rfl rfl ?_
        exact zq_sub _ [1, 0] rfl (b52  _ _ _ h)
      · have h := zie h c1
        refine zq_aload_n (q := 19) G dX3_findPotentials_18 0 rfl rfl rfl ?_
        refine zq_iload_n (q := 20) G dX3_findPotentials_19 2 rfl rfl rfl ?_
        refine zq_iconst (q := 21) (v := 0) G dX3_findPotentials_20 (by decide) rfl ?_
        obtain ⟨z2, hc2, h⟩ := zbd h
        rcases zsum z2.1 with ⟨E2, e2⟩ | ⟨r2, e2⟩
        · have h := zselL2 h e2
          exact zq_outVi (ws2 := (w_C cyI cyZ h0_0 h0_1 h0_2 h0_3 h0_4 h0_5 h0_6 h0_7 h0_8 h0_9 h0_10 h0_11 h0_12 h0_13 h0_14 h0_15 h0_16 z2.2)) (isC := [0, 1, 2, 3, 4, 5, 6, 7, 8, 9, 10, 11, 12, 13, 14, 15, 16]) (isR := []) (perm := [0, 1, 2, 3, 4, 5, 6, 7, 8, 9, 10, 11, 12, 13, 14, 15, 16]) (rest := []) (As := [.int x2, .int (0 : Int32)]) G hlocks ht zs_X3_254 dX3_findPotentials_21 (fun sz9 => c_X3_minimumWith l hst D cyI cyZ h0_0 h0_1 h0_2 h0_3 h0_4 h0_5 h0_6 h0_7 h0_8 h0_9 h0_10 h0_11 h0_12 h0_13 h0_14 h0_15 h0_16 τ0 x2 (0 : Int32) (.inl E2) z2.2 (zpair hc2 e2) sz9) 0 rfl rfl rfl ⟨rfl, rfl, rfl, rfl⟩ rfl (Nat.le_of_ble_eq_true rfl) ⟨Nat.le_of_ble_eq_true rfl, Nat.le_of_ble_eq_true rfl⟩ rfl rfl (congrArg Prod.fst (zsome h)).symm (congrArg (fun w9 => (w_C cyI cyZ h0_0 h0_1 h0_2 h0_3 h0_4 h0_5 h0_6 h0_7 h0_8 h0_9 h0_10 h0_11 h0_12 h0_13 h0_14 h0_15 h0_16 w9.2)) (zsome h))
        · have h := zselR2 h e2
          refine zq_callVi (q := 24) (ws2 := (w_C cyI cyZ h0_0 h0_1 h0_2 h0_3 h0_4 h0_5 h0_6 h0_7 h0_8 h0_9 h0_10 h0_11 h0_12 h0_13 h0_14 h0_15 h0_16 z2.2)) (isC := [0, 1, 2, 3, 4, 5, 6, 7, 8, 9, 10, 11, 12, 13, 14, 15, 16]) (isR := []) (perm := [0, 1, 2, 3, 4, 5, 6, 7, 8, 9, 10, 11, 12, 13, 14, 15, 16]) (rest := []) (As := [.int x2, .int (0 : Int32)]) G zs_X3_254 dX3_findPotentials_21 (fun sz9 => zXi_ret (c_X3_minimumWith l hst D cyI cyZ h0_0 h0_1 h0_2 h0_3 h0_4 h0_5 h0_6 h0_7 h0_8 h0_9 h0_10 h0_11 h0_12 h0_13 h0_14 h0_15 h0_16 τ0 x2 (0 : Int32) (.inr r2) z2.2 (zpair hc2 e2) sz9)) 0 rfl rfl rfl ⟨rfl, rfl, rfl, rfl⟩ rfl (Nat.le_of_ble_eq_true rfl) ⟨Nat.le_of_ble_eq_true rfl, Nat.le_of_ble_eq_true rfl, Nat.zero_le _, Nat.zero_le _⟩ rfl ?_
          refine zq_aload_n (q := 25) G dX3_findPotentials_24 0 rfl rfl rfl ?_
          refine zq_get (q := 28) G zu_X3 rfl zw_X3_f12 dX3_findPotentials_25 0 0 rfl (by decide) ⟨⟨rfl, rfl⟩, rfl⟩ rfl rfl ?_
          refine zq_iload_n (q := 29) G dX3_findPotentials_28 2 rfl rfl rfl ?_
          refine zq_iconst (q := 30) (v := 0) G dX3_findPotentials_29 (by decide) rfl ?_
          obtain ⟨z3, hc3, h⟩ := zbd h
          refine zq_callVi (q := 33) (ws2 := (w_C cyI cyZ h0_0 h0_1 h0_2 h0_3 h0_4 h0_5 h0_6 h0_7 h0_8 h0_9 h0_10 h0_11 h0_12 h0_13 h0_14 h0_15 h0_16 z2.2)) (isC := [1, 2, 3]) (isR := [0, 4, 5, 6, 7, 8, 9, 10, 11, 12, 13, 14, 15, 16]) (perm := [0, 14, 15, 16, 1, 2, 3, 4, 5, 6, 7, 8, 9, 10, 11, 12, 13]) (rest := [.int r2]) (As := [.int x2, .int (0 : Int32)]) G zs_X3_97 dX3_findPotentials_30 (fun sz9 => c_X1_costOf l D cyI cyZ h0_1 h0_2 h0_3 z2.2.1 x2 (0 : Int32) z3 hc3 sz9) 1 rfl rfl rfl ⟨rfl, rfl, rfl, rfl⟩ rfl (Nat.le_of_ble_eq_true rfl) ⟨Nat.le_of_ble_eq_true rfl, Nat.le_of_ble_eq_true rfl, Nat.zero_le _, Nat.zero_le _⟩ rfl ?_
          refine zq_isub (q := 34) G dX3_findPotentials_33 rfl ?_
          refine zq_istore_n (q := 35) (lv2 := [(3, .int (r2 - z3)), (0, .ref h0_0), (1, .int x1), (2, .int x2)]) G dX3_findPotentials_34 rfl (by decide) rfl rfl ?_
          refine zq_aload_n (q := 36) G dX3_findPotentials_35 1 rfl rfl rfl ?_
          refine zq_get (q := 39) G zu_X3 rfl zw_X3_f26 dX3_findPotentials_36 0 3 rfl (by decide) ⟨⟨rfl, rfl⟩, rfl⟩ rfl rfl ?_
          refine zq_iload_n (q := 40) G dX3_findPotentials_39 3 rfl rfl rfl ?_
          refine zq_iload_n (q := 41) G dX3_findPotentials_40 2 rfl rfl rfl ?_
          refine zq_iload_n (q := 42) G dX3_findPotentials_41 0 rfl rfl rfl ?_
          refine zq_isub (q := 43) G dX3_findPotentials_42 rfl ?_
          obtain ⟨q4, h⟩ := zif h
          refine zq_iast (q := 44) (ws2 := (w_C cyI cyZ h0_0 h0_1 h0_2 h0_3 h0_4 h0_5 h0_6 h0_7 h0_8 h0_9 h0_10 h0_11 h0_12 h0_13 h0_14 h0_15 h0_16 (z2.2.1, z2.2.2.1, z2.2.2.2.1, (upd z2.2.2.2.2.1 x2.toNatClampNeg (x1 - (r2 - z3))), z2.2.2.2.2.2.1, z2.2.2.2.2.2.2.1, z2.2.2.2.2.2.2.2))) G dX3_findPotentials_43 12 rfl q4 rfl rfl ?_
          refine zq_iinc (q := 47) (v := (x2 + 1)) (lv2 := [(2, .int (x2 + 1)), (3, .int (r2 - z3)), (0, .ref h0_0), (1, .int x1)]) G dX3_findPotentials_44 3 rfl rfl (by decide) rfl rfl ?_
          refine zq_goto (q := 7) G dX3_findPotentials_47 (by decide) ?_
          exact zq_sub _ [2, 3, 0] rfl (ih _ _ _ h)
  refine zq_aload_n (q := 1) G dX3_findPotentials_0 0 rfl rfl rfl ?_
  obtain ⟨z1, hc1, h⟩ := zbd h
  refine zq_callVi (q := 4) (ws2 := (w_C cyI cyZ h0_0 h0_1 h0_2 h0_3 h0_4 h0_5 h0_6 h0_7 h0_8 h0_9 h0_10 h0_11 h0_12 h0_13 h0_14 h0_15 h0_16 z1.2)) (isC := [0, 1, 2, 3, 4, 5, 6, 7, 8, 9, 10, 11, 12, 13, 14, 15, 16]) (isR := []) (perm := [0, 1, 2, 3, 4, 5, 6, 7, 8, 9, 10, 11, 12, 13, 14, 15, 16]) (rest := []) (As := []) G zs_X3_209 dX3_findPotentials_1 (fun sz9 => c_X3_minimum l D cyI cyZ h0_0 h0_1 h0_2 h0_3 h0_4 h0_5 h0_6 h0_7 h0_8 h0_9 h0_10 h0_11 h0_12 h0_13 h0_14 h0_15 h0_16 σ0 z1.1 z1.2 hc1 sz9) 0 rfl rfl rfl ⟨rfl, rfl, rfl, rfl⟩ rfl (Nat.le_of_ble_eq_true rfl) ⟨Nat.le_of_ble_eq_true rfl, Nat.le_of_ble_eq_true rfl, Nat.zero_le _, Nat.zero_le _⟩ rfl ?_
  refine zq_istore_n (q := 5) (lv2 := [(1, .int z1.1), (0, .ref h0_0)]) G dX3_findPotentials_4 rfl (by decide) rfl rfl ?_
  refine zq_iconst (q := 6) (v := 0) G dX3_findPotentials_5 (by decide) rfl ?_
  refine zq_istore_n (q := 7) (lv2 := [(2, .int (0 : Int32)), (1, .int z1.1), (0, .ref h0_0)]) G dX3_findPotentials_6 rfl (by decide) rfl rfl ?_
  exact zq_sub _ [2, 1, 0] rfl (b7  _ _ _ _ h)
set_option maxHeartbeats 4000000 in
set_option maxRecDepth 100000 in
theorem c_X3_rowPotential (l : Launch) (hst : l.stackTraces = false) (D : va_G) (cyI cyZ : ClassId) (h0_0 h0_1 h0_2 h0_3 h0_4 h0_5 h0_6 h0_7 h0_8 h0_9 h0_10 h0_11 h0_12 h0_13 h0_14 h0_15 h0_16 : Nat) (σ0 : zC) (p0 : Int32) (z : Sum String Int32) (o0 : zC) (h : s_X3_rowPotential σ0 p0 = some (z, o0)) (sz : Nat) : zXi l yX3_rowPotential cX3_rowPotential 2 .int 11 199 D cyI cyZ sz [.ref h0_0, .int p0] (w_C cyI cyZ h0_0 h0_1 h0_2 h0_3 h0_4 h0_5 h0_6 h0_7 h0_8 h0_9 h0_10 h0_11 h0_12 h0_13 h0_14 h0_15 h0_16 σ0) z (w_C cyI cyZ h0_0 h0_1 h0_2 h0_3 h0_4 h0_5 h0_6 h0_7 h0_8 h0_9 h0_10 h0_11 h0_12 h0_13 h0_14 h0_15 h0_16 o0) := by
  unfold s_X3_rowPotential at h
  refine zstartXI (lv0 := [(0, .ref h0_0), (1, .int p0)]) (by decide) (Nat.le_of_ble_eq_true rfl) rfl (fun p e s m args below meth c G hr hlocks ht => ?_)
  refine zq_aload_n (q := 1) G dX3_rowPotential_0 0 rfl rfl rfl ?_
  refine zq_iload_n (q := 2) G dX3_rowPotential_1 1 rfl rfl rfl ?_
  obtain ⟨z1, hc1, h⟩ := zbd h
  rcases zsum z1 with ⟨E1, e1⟩ | ⟨r1, e1⟩
  · have h := zselL2 h e1
    exact zq_outVv (ws2 := (w_C cyI cyZ h0_0 h0_1 h0_2 h0_3 h0_4 h0_5 h0_6 h0_7 h0_8 h0_9 h0_10 h0_11 h0_12 h0_13 h0_14 h0_15 h0_16 σ0)) (isC := [0, 1, 2, 3, 4, 5, 6, 7, 8, 9, 10, 11, 12, 13, 14, 15, 16]) (isR := []) (perm := [0, 1, 2, 3, 4, 5, 6, 7, 8, 9, 10, 11, 12, 13, 14, 15, 16]) (rest := []) (As := [.int p0]) G hlocks ht zs_X3_64 dX3_rowPotential_2 (fun sz9 => c_X3_requireRow l hst D cyI cyZ h0_0 h0_1 h0_2 h0_3 h0_4 h0_5 h0_6 h0_7 h0_8 h0_9 h0_10 h0_11 h0_12 h0_13 h0_14 h0_15 h0_16 σ0 p0 (.inl E1) (hc1.trans (congrArg some e1)) sz9) 0 rfl rfl rfl ⟨rfl, rfl, rfl, rfl⟩ rfl (Nat.le_of_ble_eq_true rfl) ⟨Nat.le_of_ble_eq_true rfl, Nat.le_of_ble_eq_true rfl⟩ rfl rfl (congrArg Prod.fst (zsome h)).symm (congrArg (fun w9 => (w_C cyI cyZ h0_0 h0_1 h0_2 h0_3 h0_4 h0_5 h0_6 h0_7 h0_8 h0_9 h0_10 h0_11 h0_12 h0_13 h0_14 h0_15 h0_16 w9.2)) (zsome h))
  · have h := zselR2 h e1
    refine zq_callVv (q := 5) (ws2 := (w_C cyI cyZ h0_0 h0_1 h0_2 h0_3 h0_4 h0_5 h0_6 h0_7 h0_8 h0_9 h0_10 h0_11 h0_12 h0_13 h0_14 h0_15 h0_16 σ0)) (isC := [0, 1, 2, 3, 4, 5, 6, 7, 8, 9, 10, 11, 12, 13, 14, 15, 16]) (isR := []) (perm := [0, 1, 2, 3, 4, 5, 6, 7, 8, 9, 10, 11, 12, 13, 14, 15, 16]) (rest := []) (As := [.int p0]) G zs_X3_64 dX3_rowPotential_2 (fun sz9 => zXv_ret (c_X3_requireRow l hst D cyI cyZ h0_0 h0_1 h0_2 h0_3 h0_4 h0_5 h0_6 h0_7 h0_8 h0_9 h0_10 h0_11 h0_12 h0_13 h0_14 h0_15 h0_16 σ0 p0 (.inr r1) (hc1.trans (congrArg some e1)) sz9)) 0 rfl rfl rfl ⟨rfl, rfl, rfl, rfl⟩ rfl (Nat.le_of_ble_eq_true rfl) ⟨Nat.le_of_ble_eq_true rfl, Nat.le_of_ble_eq_true rfl, Nat.zero_le _, Nat.zero_le _⟩ rfl ?_
    refine zq_aload_n (q := 6) G dX3_rowPotential_5 0 rfl rfl rfl ?_
    obtain ⟨z2, hc2, h⟩ := zbd h
    rcases zsum z2.1 with ⟨E2, e2⟩ | ⟨r2, e2⟩
    · have h := zselL2 h e2
      exact zq_outVv (ws2 := (w_C cyI cyZ h0_0 h0_1 h0_2 h0_3 h0_4 h0_5 h0_6 h0_7 h0_8 h0_9 h0_10 h0_11 h0_12 h0_13 h0_14 h0_15 h0_16 z2.2)) (isC := [0, 1, 2, 3, 4, 5, 6, 7, 8, 9, 10, 11, 12, 13, 14, 15, 16]) (isR := []) (perm := [0, 1, 2, 3, 4, 5, 6, 7, 8, 9, 10, 11, 12, 13, 14, 15, 16]) (rest := []) (As := []) G hlocks ht zs_X3_149 dX3_rowPotential_6 (fun sz9 => c_X3_findPotentials l hst D cyI cyZ h0_0 h0_1 h0_2 h0_3 h0_4 h0_5 h0_6 h0_7 h0_8 h0_9 h0_10 h0_11 h0_12 h0_13 h0_14 h0_15 h0_16 σ0 (.inl E2) z2.2 (zpair hc2 e2) sz9) 0 rfl rfl rfl ⟨rfl, rfl, rfl, rfl⟩ rfl (Nat.le_of_ble_eq_true rfl) ⟨Nat.le_of_ble_eq_true rfl, Nat.le_of_ble_eq_true rfl⟩ rfl rfl (congrArg Prod.fst (zsome h)).symm (congrArg (fun w9 => (w_C cyI cyZ h0_0 h0_1 h0_2 h0_3 h0_4 h0_5 h0_6 h0_7 h0_8 h0_9 h0_10 h0_11 h0_12 h0_13 h0_14 h0_15 h0_16 w9.2)) (zsome h))
    · have h := zselR2 h e2
      refine zq_callVv (q := 9) (ws2 := (w_C cyI cyZ h0_0 h0_1 h0_2 h0_3 h0_4 h0_5 h0_6 h0_7 h0_8 h0_9 h0_10 h0_11 h0_12 h0_13 h0_14 h0_15 h0_16 z2.2)) (isC := [0, 1, 2, 3, 4, 5, 6, 7, 8, 9, 10, 11, 12, 13, 14, 15, 16]) (isR := []) (perm := [0, 1, 2, 3, 4, 5, 6, 7, 8, 9, 10, 11, 12, 13, 14, 15, 16]) (rest := []) (As := []) G zs_X3_149 dX3_rowPotential_6 (fun sz9 => zXv_ret (c_X3_findPotentials l hst D cyI cyZ h0_0 h0_1 h0_2 h0_3 h0_4 h0_5 h0_6 h0_7 h0_8 h0_9 h0_10 h0_11 h0_12 h0_13 h0_14 h0_15 h0_16 σ0 (.inr r2) z2.2 (zpair hc2 e2) sz9)) 0 rfl rfl rfl ⟨rfl, rfl, rfl, rfl⟩ rfl (Nat.le_of_ble_eq_true rfl) ⟨Nat.le_of_ble_eq_true rfl, Nat.le_of_ble_eq_true rfl, Nat.zero_le _, Nat.zero_le _⟩ rfl ?_
      refine zq_aload_n (q := 10) G dX3_rowPotential_9 0 rfl rfl rfl ?_
      refine zq_get (q := 13) G zu_X3 rfl zw_X3_f26 dX3_rowPotential_10 0 3 rfl (by decide) ⟨⟨rfl, rfl⟩, rfl⟩ rfl rfl ?_
      refine zq_iload_n (q := 14) G dX3_rowPotential_13 1 rfl rfl rfl ?_
      obtain ⟨q3, h⟩ := zif h
      refine zq_iald (q := 15) G dX3_rowPotential_14 12 rfl q3 rfl ?_
      refine zq_ws (congrArg (fun w9 => (w_C cyI cyZ h0_0 h0_1 h0_2 h0_3 h0_4 h0_5 h0_6 h0_7 h0_8 h0_9 h0_10 h0_11 h0_12 h0_13 h0_14 h0_15 h0_16 w9.2)) (zsome h)) ?_
      exact zq_iretX G hlocks hr rfl dX3_rowPotential_15 (congrArg Prod.fst (zsome h)).symm
set_option maxHeartbeats 4000000 in
set_option maxRecDepth 100000 in
theorem c_X3_columnPotential (l : Launch) (hst : l.stackTraces = false) (D : va_G) (cyI cyZ : ClassId) (h0_0 h0_1 h0_2 h0_3 h0_4 h0_5 h0_6 h0_7 h0_8 h0_9 h0_10 h0_11 h0_12 h0_13 h0_14 h0_15 h0_16 : Nat) (σ0 : zC) (p0 : Int32) (z : Sum String Int32) (o0 : zC) (h : s_X3_columnPotential σ0 p0 = some (z, o0)) (sz : Nat) : zXi l yX3_columnPotential cX3_columnPotential 2 .int 11 199 D cyI cyZ sz [.ref h0_0, .int p0] (w_C cyI cyZ h0_0 h0_1 h0_2 h0_3 h0_4 h0_5 h0_6 h0_7 h0_8 h0_9 h0_10 h0_11 h0_12 h0_13 h0_14 h0_15 h0_16 σ0) z (w_C cyI cyZ h0_0 h0_1 h0_2 h0_3 h0_4 h0_5 h0_6 h0_7 h0_8 h0_9 h0_10 h0_11 h0_12 h0_13 h0_14 h0_15 h0_16 o0) := by
  unfold s_X3_columnPotential at h
  refine zstartXI (lv0 := [(0, .ref h0_0), (1, .int p0)]) (by decide) (Nat.le_of_ble_eq_true rfl) rfl (fun p e s m args below meth c G hr hlocks ht => ?_)
  refine zq_aload_n (q := 1) G dX3_columnPotential_0 0 rfl rfl rfl ?_
  refine zq_iload_n (q := 2) G dX3_columnPotential_1 1 rfl rfl rfl ?_
  obtain ⟨z1, hc1, h⟩ := zbd h
  rcases zsum z1 with ⟨E1, e1⟩ | ⟨r1, e1⟩
  · have h := zselL2 h e1
    exact zq_outVv (ws2 := (w_C cyI cyZ h0_0 h0_1 h0_2 h0_3 h0_4 h0_5 h0_6 h0_7 h0_8 h0_9 h0_10 h0_11 h0_12 h0_13 h0_14 h0_15 h0_16 σ0)) (isC := [0, 1, 2, 3, 4, 5, 6, 7, 8, 9, 10, 11, 12, 13, 14, 15, 16]) (isR := []) (perm := [0, 1, 2, 3, 4, 5, 6, 7, 8, 9, 10, 11, 12, 13, 14, 15, 16]) (rest := []) (As := [.int p0]) G hlocks ht zs_X3_152 dX3_columnPotential_2 (fun sz9 => c_X3_requireColumn l hst D cyI cyZ h0_0 h0_1 h0_2 h0_3 h0_4 h0_5 h0_6 h0_7 h0_8 h0_9 h0_10 h0_11 h0_12 h0_13 h0_14 h0_15 h0_16 σ0 p0 (.inl E1) (hc1.trans (congrArg some e1)) sz9) 0 rfl rfl rfl ⟨rfl, rfl, rfl, rfl⟩ rfl (Nat.le_of_ble_eq_true rfl) ⟨Nat.le_of_ble_eq_true rfl, Nat.le_of_ble_eq_true rfl⟩ rfl rfl (congrArg Prod.fst (zsome h)).symm (congrArg (fun w9 => (w_C cyI cyZ h0_0 h0_1 h0_2 h0_3 h0_4 h0_5 h0_6 h0_7 h0_8 h0_9 h0_10 h0_11 h0_12 h0_13 h0_14 h0_15 h0_16 w9.2)) (zsome h))
  · have h := zselR2 h e1
    refine zq_callVv (q := 5) (ws2 := (w_C cyI cyZ h0_0 h0_1 h0_2 h0_3 h0_4 h0_5 h0_6 h0_7 h0_8 h0_9 h0_10 h0_11 h0_12 h0_13 h0_14 h0_15 h0_16 σ0)) (isC := [0, 1, 2, 3, 4, 5, 6, 7, 8, 9, 10, 11, 12, 13, 14, 15, 16]) (isR := []) (perm := [0, 1, 2, 3, 4, 5, 6, 7, 8, 9, 10, 11, 12, 13, 14, 15, 16]) (rest := []) (As := [.int p0]) G zs_X3_152 dX3_columnPotential_2 (fun sz9 => zXv_ret (c_X3_requireColumn l hst D cyI cyZ h0_0 h0_1 h0_2 h0_3 h0_4 h0_5 h0_6 h0_7 h0_8 h0_9 h0_10 h0_11 h0_12 h0_13 h0_14 h0_15 h0_16 σ0 p0 (.inr r1) (hc1.trans (congrArg some e1)) sz9)) 0 rfl rfl rfl ⟨rfl, rfl, rfl, rfl⟩ rfl (Nat.le_of_ble_eq_true rfl) ⟨Nat.le_of_ble_eq_true rfl, Nat.le_of_ble_eq_true rfl, Nat.zero_le _, Nat.zero_le _⟩ rfl ?_
    refine zq_aload_n (q := 6) G dX3_columnPotential_5 0 rfl rfl rfl ?_
    obtain ⟨z2, hc2, h⟩ := zbd h
    rcases zsum z2.1 with ⟨E2, e2⟩ | ⟨r2, e2⟩
    · have h := zselL2 h e2
      exact zq_outVv (ws2 := (w_C cyI cyZ h0_0 h0_1 h0_2 h0_3 h0_4 h0_5 h0_6 h0_7 h0_8 h0_9 h0_10 h0_11 h0_12 h0_13 h0_14 h0_15 h0_16 z2.2)) (isC := [0, 1, 2, 3, 4, 5, 6, 7, 8, 9, 10, 11, 12, 13, 14, 15, 16]) (isR := []) (perm := [0, 1, 2, 3, 4, 5, 6, 7, 8, 9, 10, 11, 12, 13, 14, 15, 16]) (rest := []) (As := []) G hlocks ht zs_X3_149 dX3_columnPotential_6 (fun sz9 => c_X3_findPotentials l hst D cyI cyZ h0_0 h0_1 h0_2 h0_3 h0_4 h0_5 h0_6 h0_7 h0_8 h0_9 h0_10 h0_11 h0_12 h0_13 h0_14 h0_15 h0_16 σ0 (.inl E2) z2.2 (zpair hc2 e2) sz9) 0 rfl rfl rfl ⟨rfl, rfl, rfl, rfl⟩ rfl (Nat.le_of_ble_eq_true rfl) ⟨Nat.le_of_ble_eq_true rfl, Nat.le_of_ble_eq_true rfl⟩ rfl rfl (congrArg Prod.fst (zsome h)).symm (congrArg (fun w9 => (w_C cyI cyZ h0_0 h0_1 h0_2 h0_3 h0_4 h0_5 h0_6 h0_7 h0_8 h0_9 h0_10 h0_11 h0_12 h0_13 h0_14 h0_15 h0_16 w9.2)) (zsome h))
    · have h := zselR2 h e2
      refine zq_callVv (q := 9) (ws2 := (w_C cyI cyZ h0_0 h0_1 h0_2 h0_3 h0_4 h0_5 h0_6 h0_7 h0_8 h0_9 h0_10 h0_11 h0_12 h0_13 h0_14 h0_15 h0_16 z2.2)) (isC := [0, 1, 2, 3, 4, 5, 6, 7, 8, 9, 10, 11, 12, 13, 14, 15, 16]) (isR := []) (perm := [0, 1, 2, 3, 4, 5, 6, 7, 8, 9, 10, 11, 12, 13, 14, 15, 16]) (rest := []) (As := []) G zs_X3_149 dX3_columnPotential_6 (fun sz9 => zXv_ret (c_X3_findPotentials l hst D cyI cyZ h0_0 h0_1 h0_2 h0_3 h0_4 h0_5 h0_6 h0_7 h0_8 h0_9 h0_10 h0_11 h0_12 h0_13 h0_14 h0_15 h0_16 σ0 (.inr r2) z2.2 (zpair hc2 e2) sz9)) 0 rfl rfl rfl ⟨rfl, rfl, rfl, rfl⟩ rfl (Nat.le_of_ble_eq_true rfl) ⟨Nat.le_of_ble_eq_true rfl, Nat.le_of_ble_eq_true rfl, Nat.zero_le _, Nat.zero_le _⟩ rfl ?_
      refine zq_aload_n (q := 10) G dX3_columnPotential_9 0 rfl rfl rfl ?_
      refine zq_get (q := 13) G zu_X3 rfl zw_X3_f30 dX3_columnPotential_10 0 4 rfl (by decide) ⟨⟨rfl, rfl⟩, rfl⟩ rfl rfl ?_
      refine zq_iload_n (q := 14) G dX3_columnPotential_13 1 rfl rfl rfl ?_
      obtain ⟨q3, h⟩ := zif h
      refine zq_iald (q := 15) G dX3_columnPotential_14 13 rfl q3 rfl ?_
      refine zq_ws (congrArg (fun w9 => (w_C cyI cyZ h0_0 h0_1 h0_2 h0_3 h0_4 h0_5 h0_6 h0_7 h0_8 h0_9 h0_10 h0_11 h0_12 h0_13 h0_14 h0_15 h0_16 w9.2)) (zsome h)) ?_
      exact zq_iretX G hlocks hr rfl dX3_columnPotential_15 (congrArg Prod.fst (zsome h)).symm
set_option maxHeartbeats 4000000 in
set_option maxRecDepth 100000 in
theorem c_X3_reducedBy (l : Launch) (D : va_G) (cyI cyZ : ClassId) (h0_0 h0_1 h0_2 h0_3 h0_4 h0_5 h0_6 h0_7 h0_8 h0_9 h0_10 h0_11 h0_12 h0_13 h0_14 h0_15 h0_16 : Nat) (σ0 : zC) (p0 : Int32) (p1 : Int32) (r : Int32) (h : s_X3_reducedBy σ0 p0 p1 = some r) (sz : Nat) : zMi l yX3_reducedBy cX3_reducedBy 3 .int 3 65 D cyI cyZ sz [.ref h0_0, .int p0, .int p1] (w_C cyI cyZ h0_0 h0_1 h0_2 h0_3 h0_4 h0_5 h0_6 h0_7 h0_8 h0_9 h0_10 h0_11 h0_12 h0_13 h0_14 h0_15 h0_16 σ0) r (w_C cyI cyZ h0_0 h0_1 h0_2 h0_3 h0_4 h0_5 h0_6 h0_7 h0_8 h0_9 h0_10 h0_11 h0_12 h0_13 h0_14 h0_15 h0_16 σ0) := by
  unfold s_X3_reducedBy at h
  refine zstartI (lv0 := [(0, .ref h0_0), (1, .int p0), (2, .int p1)]) (by decide) (Nat.le_of_ble_eq_true rfl) rfl (fun p e s m args below meth c G hr hlocks => ?_)
  refine zq_aload_n (q := 1) G dX3_reducedBy_0 0 rfl rfl rfl ?_
  refine zq_get (q := 4) G zu_X3 rfl zw_X3_f12 dX3_reducedBy_1 0 0 rfl (by decide) ⟨⟨rfl, rfl⟩, rfl⟩ rfl rfl ?_
  refine zq_iload_n (q := 5) G dX3_reducedBy_4 1 rfl rfl rfl ?_
  refine zq_iload_n (q := 6) G dX3_reducedBy_5 2 rfl rfl rfl ?_
  obtain ⟨z1, hc1, h⟩ := zbd h
  refine zq_callVi (q := 9) (ws2 := (w_C cyI cyZ h0_0 h0_1 h0_2 h0_3 h0_4 h0_5 h0_6 h0_7 h0_8 h0_9 h0_10 h0_11 h0_12 h0_13 h0_14 h0_15 h0_16 σ0)) (isC := [1, 2, 3]) (isR := [0, 4, 5, 6, 7, 8, 9, 10, 11, 12, 13, 14, 15, 16]) (perm := [0, 14, 15, 16, 1, 2, 3, 4, 5, 6, 7, 8, 9, 10, 11, 12, 13]) (rest := []) (As := [.int p0, .int p1]) G zs_X3_97 dX3_reducedBy_6 (fun sz9 => c_X1_costOf l D cyI cyZ h0_1 h0_2 h0_3 σ0.1 p0 p1 z1 hc1 sz9) 1 rfl rfl rfl ⟨rfl, rfl, rfl, rfl⟩ rfl (Nat.le_of_ble_eq_true rfl) ⟨Nat.le_of_ble_eq_true rfl, Nat.le_of_ble_eq_true rfl, Nat.zero_le _, Nat.zero_le _⟩ rfl ?_
  refine zq_aload_n (q := 10) G dX3_reducedBy_9 0 rfl rfl rfl ?_
  refine zq_get (q := 13) G zu_X3 rfl zw_X3_f26 dX3_reducedBy_10 0 3 rfl (by decide) ⟨⟨rfl, rfl⟩, rfl⟩ rfl rfl ?_
  refine zq_iload_n (q := 14) G dX3_reducedBy_13 1 rfl rfl rfl ?_
  obtain ⟨q2, h⟩ := zif h
  refine zq_iald (q := 15) G dX3_reducedBy_14 12 rfl q2 rfl ?_
  refine zq_isub (q := 16) G dX3_reducedBy_15 rfl ?_
  refine zq_aload_n (q := 17) G dX3_reducedBy_16 0 rfl rfl rfl ?_
  refine zq_get (q := 20) G zu_X3 rfl zw_X3_f30 dX3_reducedBy_17 0 4 rfl (by decide) ⟨⟨rfl, rfl⟩, rfl⟩ rfl rfl ?_
  refine zq_iload_n (q := 21) G dX3_reducedBy_20 2 rfl rfl rfl ?_
  obtain ⟨q3, h⟩ := zif h
  refine zq_iald (q := 22) G dX3_reducedBy_21 13 rfl q3 rfl ?_
  refine zq_isub (q := 23) G dX3_reducedBy_22 rfl ?_
  exact zq_iret G hlocks hr rfl dX3_reducedBy_23 (zsome h)
set_option maxHeartbeats 4000000 in
set_option maxRecDepth 100000 in
theorem c_X3_reducedCost (l : Launch) (hst : l.stackTraces = false) (D : va_G) (cyI cyZ : ClassId) (h0_0 h0_1 h0_2 h0_3 h0_4 h0_5 h0_6 h0_7 h0_8 h0_9 h0_10 h0_11 h0_12 h0_13 h0_14 h0_15 h0_16 : Nat) (σ0 : zC) (p0 : Int32) (p1 : Int32) (z : Sum String Int32) (o0 : zC) (h : s_X3_reducedCost σ0 p0 p1 = some (z, o0)) (sz : Nat) : zXi l yX3_reducedCost cX3_reducedCost 3 .int 11 199 D cyI cyZ sz [.ref h0_0, .int p0, .int p1] (w_C cyI cyZ h0_0 h0_1 h0_2 h0_3 h0_4 h0_5 h0_6 h0_7 h0_8 h0_9 h0_10 h0_11 h0_12 h0_13 h0_14 h0_15 h0_16 σ0) z (w_C cyI cyZ h0_0 h0_1 h0_2 h0_3 h0_4 h0_5 h0_6 h0_7 h0_8 h0_9 h0_10 h0_11 h0_12 h0_13 h0_14 h0_15 h0_16 o0) := by
  unfold s_X3_reducedCost at h
  refine zstartXI (lv0 := [(0, .ref h0_0), (1, .int p0), (2, .int p1)]) (by decide) (Nat.le_of_ble_eq_true rfl) rfl (fun p e s m args below meth c G hr hlocks ht => ?_)
  refine zq_aload_n (q := 1) G dX3_reducedCost_0 0 rfl rfl rfl ?_
  refine zq_iload_n (q := 2) G dX3_reducedCost_1 1 rfl rfl rfl ?_
  refine zq_iload_n (q := 3) G dX3_reducedCost_2 2 rfl rfl rfl ?_
  obtain ⟨z1, hc1, h⟩ := zbd h
  rcases zsum z1 with ⟨E1, e1⟩ | ⟨r1, e1⟩
  · have h := zselL2 h e1
    exact zq_outVv (ws2 := (w_C cyI cyZ h0_0 h0_1 h0_2 h0_3 h0_4 h0_5 h0_6 h0_7 h0_8 h0_9 h0_10 h0_11 h0_12 h0_13 h0_14 h0_15 h0_16 σ0)) (isC := [0, 1, 2, 3, 4, 5, 6, 7, 8, 9, 10, 11, 12, 13, 14, 15, 16]) (isR := []) (perm := [0, 1, 2, 3, 4, 5, 6, 7, 8, 9, 10, 11, 12, 13, 14, 15, 16]) (rest := []) (As := [.int p0, .int p1]) G hlocks ht zs_X3_94 dX3_reducedCost_3 (fun sz9 => c_X3_requireCell l hst D cyI cyZ h0_0 h0_1 h0_2 h0_3 h0_4 h0_5 h0_6 h0_7 h0_8 h0_9 h0_10 h0_11 h0_12 h0_13 h0_14 h0_15 h0_16 σ0 p0 p1 (.inl E1) (hc1.trans (congrArg some e1)) sz9) 0 rfl rfl rfl ⟨rfl, rfl, rfl, rfl⟩ rfl (Nat.le_of_ble_eq_true rfl) ⟨Nat.le_of_ble_eq_true rfl, Nat.le_of_ble_eq_true rfl⟩ rfl rfl (congrArg Prod.fst (zsome h)).symm (congrArg (fun w9 => (w_C cyI cyZ h0_0 h0_1 h0_2 h0_3 h0_4 h0_5 h0_6 h0_7 h0_8 h0_9 h0_10 h0_11 h0_12 h0_13 h0_14 h0_15 h0_16 w9.2)) (zsome h))
  · have h := zselR2 h e1
    refine zq_callVv (q := 6) (ws2 := (w_C cyI cyZ h0_0 h0_1 h0_2 h0_3 h0_4 h0_5 h0_6 h0_7 h0_8 h0_9 h0_10 h0_11 h0_12 h0_13 h0_14 h0_15 h0_16 σ0)) (isC := [0, 1, 2, 3, 4, 5, 6, 7, 8, 9, 10, 11, 12, 13, 14, 15, 16]) (isR := []) (perm := [0, 1, 2, 3, 4, 5, 6, 7, 8, 9, 10, 11, 12, 13, 14, 15, 16]) (rest := []) (As := [.int p0, .int p1]) G zs_X3_94 dX3_reducedCost_3 (fun sz9 => zXv_ret (c_X3_requireCell l hst D cyI cyZ h0_0 h0_1 h0_2 h0_3 h0_4 h0_5 h0_6 h0_7 h0_8 h0_9 h0_10 h0_11 h0_12 h0_13 h0_14 h0_15 h0_16 σ0 p0 p1 (.inr r1) (hc1.trans (congrArg some e1)) sz9)) 0 rfl rfl rfl ⟨rfl, rfl, rfl, rfl⟩ rfl (Nat.le_of_ble_eq_true rfl) ⟨Nat.le_of_ble_eq_true rfl, Nat.le_of_ble_eq_true rfl, Nat.zero_le _, Nat.zero_le _⟩ rfl ?_
    refine zq_aload_n (q := 7) G dX3_reducedCost_6 0 rfl rfl rfl ?_
    obtain ⟨z2, hc2, h⟩ := zbd h
    rcases zsum z2.1 with ⟨E2, e2⟩ | ⟨r2, e2⟩
    · have h := zselL2 h e2
      exact zq_outVv (ws2 := (w_C cyI cyZ h0_0 h0_1 h0_2 h0_3 h0_4 h0_5 h0_6 h0_7 h0_8 h0_9 h0_10 h0_11 h0_12 h0_13 h0_14 h0_15 h0_16 z2.2)) (isC := [0, 1, 2, 3, 4, 5, 6, 7, 8, 9, 10, 11, 12, 13, 14, 15, 16]) (isR := []) (perm := [0, 1, 2, 3, 4, 5, 6, 7, 8, 9, 10, 11, 12, 13, 14, 15, 16]) (rest := []) (As := []) G hlocks ht zs_X3_149 dX3_reducedCost_7 (fun sz9 => c_X3_findPotentials l hst D cyI cyZ h0_0 h0_1 h0_2 h0_3 h0_4 h0_5 h0_6 h0_7 h0_8 h0_9 h0_10 h0_11 h0_12 h0_13 h0_14 h0_15 h0_16 σ0 (.inl E2) z2.2 (zpair hc2 e2) sz9) 0 rfl rfl rfl ⟨rfl, rfl, rfl, rfl⟩ rfl (Nat.le_of_ble_eq_true rfl) ⟨Nat.le_of_ble_eq_true rfl, Nat.le_of_ble_eq_true rfl⟩ rfl rfl (congrArg Prod.fst (zsome h)).symm (congrArg (fun w9 => (w_C cyI cyZ h0_0 h0_1 h0_2 h0_3 h0_4 h0_5 h0_6 h0_7 h0_8 h0_9 h0_10 h0_11 h0_12 h0_13 h0_14 h0_15 h0_16 w9.2)) (zsome h))
    · have h := zselR2 h e2
      refine zq_callVv (q := 10) (ws2 := (w_C cyI cyZ h0_0 h0_1 h0_2 h0_3 h0_4 h0_5 h0_6 h0_7 h0_8 h0_9 h0_10 h0_11 h0_12 h0_13 h0_14 h0_15 h0_16 z2.2)) (isC := [0, 1, 2, 3, 4, 5, 6, 7, 8, 9, 10, 11, 12, 13, 14, 15, 16]) (isR := []) (perm := [0, 1, 2, 3, 4, 5, 6, 7, 8, 9, 10, 11, 12, 13, 14, 15, 16]) (rest := []) (As := []) G zs_X3_149 dX3_reducedCost_7 (fun sz9 => zXv_ret (c_X3_findPotentials l hst D cyI cyZ h0_0 h0_1 h0_2 h0_3 h0_4 h0_5 h0_6 h0_7 h0_8 h0_9 h0_10 h0_11 h0_12 h0_13 h0_14 h0_15 h0_16 σ0 (.inr r2) z2.2 (zpair hc2 e2) sz9)) 0 rfl rfl rfl ⟨rfl, rfl, rfl, rfl⟩ rfl (Nat.le_of_ble_eq_true rfl) ⟨Nat.le_of_ble_eq_true rfl, Nat.le_of_ble_eq_true rfl, Nat.zero_le _, Nat.zero_le _⟩ rfl ?_
      refine zq_aload_n (q := 11) G dX3_reducedCost_10 0 rfl rfl rfl ?_
      refine zq_iload_n (q := 12) G dX3_reducedCost_11 1 rfl rfl rfl ?_
      refine zq_iload_n (q := 13) G dX3_reducedCost_12 2 rfl rfl rfl ?_
      obtain ⟨z3, hc3, h⟩ := zbd h
      refine zq_callVi (q := 16) (ws2 := (w_C cyI cyZ h0_0 h0_1 h0_2 h0_3 h0_4 h0_5 h0_6 h0_7 h0_8 h0_9 h0_10 h0_11 h0_12 h0_13 h0_14 h0_15 h0_16 z2.2)) (isC := [0, 1, 2, 3, 4, 5, 6, 7, 8, 9, 10, 11, 12, 13, 14, 15, 16]) (isR := []) (perm := [0, 1, 2, 3, 4, 5, 6, 7, 8, 9, 10, 11, 12, 13, 14, 15, 16]) (rest := []) (As := [.int p0, .int p1]) G zs_X3_155 dX3_reducedCost_13 (fun sz9 => c_X3_reducedBy l D cyI cyZ h0_0 h0_1 h0_2 h0_3 h0_4 h0_5 h0_6 h0_7 h0_8 h0_9 h0_10 h0_11 h0_12 h0_13 h0_14 h0_15 h0_16 z2.2 p0 p1 z3 hc3 sz9) 0 rfl rfl rfl ⟨rfl, rfl, rfl, rfl⟩ rfl (Nat.le_of_ble_eq_true rfl) ⟨Nat.le_of_ble_eq_true rfl, Nat.le_of_ble_eq_true rfl, Nat.zero_le _, Nat.zero_le _⟩ rfl ?_
      refine zq_ws (congrArg (fun w9 => (w_C cyI cyZ h0_0 h0_1 h0_2 h0_3 h0_4 h0_5 h0_6 h0_7 h0_8 h0_9 h0_10 h0_11 h0_12 h0_13 h0_14 h0_15 h0_16 w9.2)) (zsome h)) ?_
      exact zq_iretX G hlocks hr rfl dX3_reducedCost_16 (congrArg Prod.fst (zsome h)).symm
set_option maxHeartbeats 4000000 in
set_option maxRecDepth 100000 in
theorem c_X3_leastWithCost (l : Launch) (D : va_G) (cyI cyZ : ClassId) (h0_0 h0_1 h0_2 h0_3 h0_4 h0_5 h0_6 h0_7 h0_8 h0_9 h0_10 h0_11 h0_12 h0_13 h0_14 h0_15 h0_16 : Nat) (σ0 : zC) (p0 : Int32) (p1 : Int32) (p2 : Int32) (r : Int32) (o0 : zC) (h : s_X3_leastWithCost σ0 p0 p1 p2 = some (r, o0)) (sz : Nat) : zMi l yX3_leastWithCost cX3_leastWithCost 4 .int 4 88 D cyI cyZ sz [.ref h0_0, .int p0, .int p1, .int p2] (w_C cyI cyZ h0_0 h0_1 h0_2 h0_3 h0_4 h0_5 h0_6 h0_7 h0_8 h0_9 h0_10 h0_11 h0_12 h0_13 h0_14 h0_15 h0_16 σ0) r (w_C cyI cyZ h0_0 h0_1 h0_2 h0_3 h0_4 h0_5 h0_6 h0_7 h0_8 h0_9 h0_10 h0_11 h0_12 h0_13 h0_14 h0_15 h0_16 o0) := by
  unfold s_X3_leastWithCost at h
  refine zstartI (lv0 := [(0, .ref h0_0), (1, .int p0), (2, .int p1), (3, .int p2)]) (by decide) (Nat.le_of_ble_eq_true rfl) rfl (fun p e s m args below meth c G hr hlocks => ?_)
  refine zq_aload_n (q := 1) G dX3_leastWithCost_0 0 rfl rfl rfl ?_
  refine zq_get (q := 4) G zu_X3 rfl zw_X3_f22 dX3_leastWithCost_1 0 2 rfl (by decide) ⟨⟨rfl, rfl⟩, rfl⟩ rfl rfl ?_
  refine zq_aload_n (q := 5) G dX3_leastWithCost_4 0 rfl rfl rfl ?_
  refine zq_get (q := 8) G zu_X3 rfl zw_X3_f12 dX3_leastWithCost_5 0 0 rfl (by decide) ⟨⟨rfl, rfl⟩, rfl⟩ rfl rfl ?_
  obtain ⟨z1, hc1, h⟩ := zbd h
  refine zq_callVv (q := 11) (ws2 := (w_C cyI cyZ h0_0 h0_1 h0_2 h0_3 h0_4 h0_5 h0_6 h0_7 h0_8 h0_9 h0_10 h0_11 h0_12 h0_13 h0_14 h0_15 h0_16 (σ0.1, σ0.2.1, z1, σ0.2.2.2.1, σ0.2.2.2.2.1, σ0.2.2.2.2.2.1, σ0.2.2.2.2.2.2))) (isC := [7, 8, 9, 10, 11, 1, 2, 3]) (isR := [0, 4, 5, 6, 12, 13, 14, 15, 16]) (perm := [0, 14, 15, 16, 1, 2, 3, 9, 10, 11, 12, 13, 4, 5, 6, 7, 8]) (rest := []) (As := [.ref h0_1]) G zs_X3_137 dX3_leastWithCost_8 (fun sz9 => c_X0_load l D cyI cyZ h0_7 h0_8 h0_9 h0_10 h0_11 h0_1 h0_2 h0_3 σ0.2.2.1 σ0.1 z1 hc1 sz9) 7 rfl rfl rfl ⟨rfl, rfl, rfl, rfl⟩ rfl (Nat.le_of_ble_eq_true rfl) ⟨Nat.le_of_ble_eq_true rfl, Nat.le_of_ble_eq_true rfl, Nat.zero_le _, Nat.zero_le _⟩ rfl ?_
  refine zq_aload_n (q := 12) G dX3_leastWithCost_11 0 rfl rfl rfl ?_
  refine zq_get (q := 15) G zu_X3 rfl zw_X3_f22 dX3_leastWithCost_12 0 2 rfl (by decide) ⟨⟨rfl, rfl⟩, rfl⟩ rfl rfl ?_
  refine zq_iload_n (q := 16) G dX3_leastWithCost_15 1 rfl rfl rfl ?_
  refine zq_iload_n (q := 17) G dX3_leastWithCost_16 2 rfl rfl rfl ?_
  refine zq_iload_n (q := 18) G dX3_leastWithCost_17 3 rfl rfl rfl ?_
  obtain ⟨z2, hc2, h⟩ := zbd h
  refine zq_callVv (q := 21) (ws2 := (w_C cyI cyZ h0_0 h0_1 h0_2 h0_3 h0_4 h0_5 h0_6 h0_7 h0_8 h0_9 h0_10 h0_11 h0_12 h0_13 h0_14 h0_15 h0_16 (σ0.1, σ0.2.1, z2, σ0.2.2.2.1, σ0.2.2.2.2.1, σ0.2.2.2.2.2.1, σ0.2.2.2.2.2.2))) (isC := [7, 8, 9, 10, 11]) (isR := [0, 1, 2, 3, 4, 5, 6, 12, 13, 14, 15, 16]) (perm := [0, 1, 2, 3, 4, 5, 6, 12, 13, 14, 15, 16, 7, 8, 9, 10, 11]) (rest := []) (As := [.int p0, .int p1, .int p2]) G zs_X3_159 dX3_leastWithCost_18 (fun sz9 => c_X0_putCost l D cyI cyZ h0_7 h0_8 h0_9 h0_10 h0_11 z1 p0 p1 p2 z2 hc2 sz9) 7 rfl rfl rfl ⟨rfl, rfl, rfl, rfl⟩ rfl (Nat.le_of_ble_eq_true rfl) ⟨Nat.le_of_ble_eq_true rfl, Nat.le_of_ble_eq_true rfl, Nat.zero_le _, Nat.zero_le _⟩ rfl ?_
  refine zq_aload_n (q := 22) G dX3_leastWithCost_21 0 rfl rfl rfl ?_
  refine zq_get (q := 25) G zu_X3 rfl zw_X3_f22 dX3_leastWithCost_22 0 2 rfl (by decide) ⟨⟨rfl, rfl⟩, rfl⟩ rfl rfl ?_
  obtain ⟨z3, hc3, h⟩ := zbd h
  refine zq_callVi (q := 28) (ws2 := (w_C cyI cyZ h0_0 h0_1 h0_2 h0_3 h0_4 h0_5 h0_6 h0_7 h0_8 h0_9 h0_10 h0_11 h0_12 h0_13 h0_14 h0_15 h0_16 (σ0.1, σ0.2.1, z3.2, σ0.2.2.2.1, σ0.2.2.2.2.1, σ0.2.2.2.2.2.1, σ0.2.2.2.2.2.2))) (isC := [7, 8, 9, 10, 11]) (isR := [0, 1, 2, 3, 4, 5, 6, 12, 13, 14, 15, 16]) (perm := [0, 1, 2, 3, 4, 5, 6, 12, 13, 14, 15, 16, 7, 8, 9, 10, 11]) (rest := []) (As := []) G zs_X3_140 dX3_leastWithCost_25 (fun sz9 => c_X0_leastSum l D cyI cyZ h0_7 h0_8 h0_9 h0_10 h0_11 z2 z3.1 z3.2 hc3 sz9) 7 rfl rfl rfl ⟨rfl, rfl, rfl, rfl⟩ rfl (Nat.le_of_ble_eq_true rfl) ⟨Nat.le_of_ble_eq_true rfl, Nat.le_of_ble_eq_true rfl, Nat.zero_le _, Nat.zero_le _⟩ rfl ?_
  refine zq_ws (congrArg (fun w9 => (w_C cyI cyZ h0_0 h0_1 h0_2 h0_3 h0_4 h0_5 h0_6 h0_7 h0_8 h0_9 h0_10 h0_11 h0_12 h0_13 h0_14 h0_15 h0_16 w9.2)) (zsome h)) ?_
  exact zq_iret G hlocks hr rfl dX3_leastWithCost_28 (congrArg Prod.fst (zsome h))
set_option maxHeartbeats 4000000 in
set_option maxRecDepth 100000 in
theorem c_X3_minimumWithout (l : Launch) (hst : l.stackTraces = false) (D : va_G) (cyI cyZ : ClassId) (h0_0 h0_1 h0_2 h0_3 h0_4 h0_5 h0_6 h0_7 h0_8 h0_9 h0_10 h0_11 h0_12 h0_13 h0_14 h0_15 h0_16 : Nat) (σ0 : zC) (p0 : Int32) (p1 : Int32) (z : Sum String Int32) (o0 : zC) (h : s_X3_minimumWithout σ0 p0 p1 = some (z, o0)) (sz : Nat) : zXi l yX3_minimumWithout cX3_minimumWithout 3 .int 9 153 D cyI cyZ sz [.ref h0_0, .int p0, .int p1] (w_C cyI cyZ h0_0 h0_1 h0_2 h0_3 h0_4 h0_5 h0_6 h0_7 h0_8 h0_9 h0_10 h0_11 h0_12 h0_13 h0_14 h0_15 h0_16 σ0) z (w_C cyI cyZ h0_0 h0_1 h0_2 h0_3 h0_4 h0_5 h0_6 h0_7 h0_8 h0_9 h0_10 h0_11 h0_12 h0_13 h0_14 h0_15 h0_16 o0) := by
  unfold s_X3_minimumWithout at h
  refine zstartXI (lv0 := [(0, .ref h0_0), (1, .int p0), (2, .int p1)]) (by decide) (Nat.le_of_ble_eq_true rfl) rfl (fun p e s m args below meth c G hr hlocks ht => ?_)
  refine zq_aload_n (q := 1) G dX3_minimumWithout_0 0 rfl rfl rfl ?_
  refine zq_iload_n (q := 2) G dX3_minimumWithout_1 1 rfl rfl rfl ?_
  refine zq_iload_n (q := 3) G dX3_minimumWithout_2 2 rfl rfl rfl ?_
  obtain ⟨z1, hc1, h⟩ := zbd h
  rcases zsum z1 with ⟨E1, e1⟩ | ⟨r1, e1⟩
  · have h := zselL2 h e1
    exact zq_outVv (ws2 := (w_C cyI cyZ h0_0 h0_1 h0_2 h0_3 h0_4 h0_5 h0_6 h0_7 h0_8 h0_9 h0_10 h0_11 h0_12 h0_13 h0_14 h0_15 h0_16 σ0)) (isC := [0, 1, 2, 3, 4, 5, 6, 7, 8, 9, 10, 11, 12, 13, 14, 15, 16]) (isR := []) (perm := [0, 1, 2, 3, 4, 5, 6, 7, 8, 9, 10, 11, 12, 13, 14, 15, 16]) (rest := []) (As := [.int p0, .int p1]) G hlocks ht zs_X3_94 dX3_minimumWithout_3 (fun sz9 => c_X3_requireCell l hst D cyI cyZ h0_0 h0_1 h0_2 h0_3 h0_4 h0_5 h0_6 h0_7 h0_8 h0_9 h0_10 h0_11 h0_12 h0_13 h0_14 h0_15 h0_16 σ0 p0 p1 (.inl E1) (hc1.trans (congrArg some e1)) sz9) 0 rfl rfl rfl ⟨rfl, rfl, rfl, rfl⟩ rfl (Nat.le_of_ble_eq_true rfl) ⟨Nat.le_of_ble_eq_true rfl, Nat.le_of_ble_eq_true rfl⟩ rfl rfl (congrArg Prod.fst (zsome h)).symm (congrArg (fun w9 => (w_C cyI cyZ h0_0 h0_1 h0_2 h0_3 h0_4 h0_5 h0_6 h0_7 h0_8 h0_9 h0_10 h0_11 h0_12 h0_13 h0_14 h0_15 h0_16 w9.2)) (zsome h))
  · have h := zselR2 h e1
    refine zq_callVv (q := 6) (ws2 := (w_C cyI cyZ h0_0 h0_1 h0_2 h0_3 h0_4 h0_5 h0_6 h0_7 h0_8 h0_9 h0_10 h0_11 h0_12 h0_13 h0_14 h0_15 h0_16 σ0)) (isC := [0, 1, 2, 3, 4, 5, 6, 7, 8, 9, 10, 11, 12, 13, 14, 15, 16]) (isR := []) (perm := [0, 1, 2, 3, 4, 5, 6, 7, 8, 9, 10, 11, 12, 13, 14, 15, 16]) (rest := []) (As := [.int p0, .int p1]) G zs_X3_94 dX3_minimumWithout_3 (fun sz9 => zXv_ret (c_X3_requireCell l hst D cyI cyZ h0_0 h0_1 h0_2 h0_3 h0_4 h0_5 h0_6 h0_7 h0_8 h0_9 h0_10 h0_11 h0_12 h0_13 h0_14 h0_15 h0_16 σ0 p0 p1 (.inr r1) (hc1.trans (congrArg some e1)) sz9)) 0 rfl rfl rfl ⟨rfl, rfl, rfl, rfl⟩ rfl (Nat.le_of_ble_eq_true rfl) ⟨Nat.le_of_ble_eq_true rfl, Nat.le_of_ble_eq_true rfl, Nat.zero_le _, Nat.zero_le _⟩ rfl ?_
    refine zq_aload_n (q := 7) G dX3_minimumWithout_6 0 rfl rfl rfl ?_
    refine zq_get (q := 10) G zu_X3 rfl zw_X3_f12 dX3_minimumWithout_7 0 0 rfl (by decide) ⟨⟨rfl, rfl⟩, rfl⟩ rfl rfl ?_
    refine zq_getN (q := 13) G zu_X1 rfl zw_X3_f83 dX3_minimumWithout_10 1 0 rfl (by decide) ⟨⟨rfl, rfl⟩, rfl⟩ rfl rfl ?_
    refine zq_iconst (q := 14) (v := 1) G dX3_minimumWithout_13 (by decide) rfl ?_
    refine zq_icmp_ne (tgt := 21) (q := 17) G dX3_minimumWithout_14 (by decide) rfl (fun c2 => ?_) (fun c2 => ?_)
    · have h := zie h c2
      refine zq_aload_n (q := 22) G dX3_minimumWithout_21 0 rfl rfl rfl ?_
      refine zq_iload_n (q := 23) G dX3_minimumWithout_22 1 rfl rfl rfl ?_
      refine zq_iload_n (q := 24) G dX3_minimumWithout_23 2 rfl rfl rfl ?_
      refine zq_ldc (q := 26) G zw_X3_c158 dX3_minimumWithout_24 rfl ?_
      obtain ⟨z3, hc3, h⟩ := zbd h
      refine zq_callVi (q := 29) (ws2 := (w_C cyI cyZ h0_0 h0_1 h0_2 h0_3 h0_4 h0_5 h0_6 h0_7 h0_8 h0_9 h0_10 h0_11 h0_12 h0_13 h0_14 h0_15 h0_16 z3.2)) (isC := [0, 1, 2, 3, 4, 5, 6, 7, 8, 9, 10, 11, 12, 13, 14, 15, 16]) (isR := []) (perm := [0, 1, 2, 3, 4, 5, 6, 7, 8, 9, 10, 11, 12, 13, 14, 15, 16]) (rest := []) (As := [.int p0, .int p1, .int (100000 : Int32)]) G zs_X3_162 dX3_minimumWithout_26 (fun sz9 => c_X3_leastWithCost l D cyI cyZ h0_0 h0_1 h0_2 h0_3 h0_4 h0_5 h0_6 h0_7 h0_8 h0_9 h0_10 h0_11 h0_12 h0_13 h0_14 h0_15 h0_16 σ0 p0 p1 (100000 : Int32) z3.1 z3.2 hc3 sz9) 0 rfl rfl rfl ⟨rfl, rfl, rfl, rfl⟩ rfl (Nat.le_of_ble_eq_true rfl) ⟨Nat.le_of_ble_eq_true rfl, Nat.le_of_ble_eq_true rfl, Nat.zero_le _, Nat.zero_le _⟩ rfl ?_
      refine zq_ws (congrArg (fun w9 => (w_C cyI cyZ h0_0 h0_1 h0_2 h0_3 h0_4 h0_5 h0_6 h0_7 h0_8 h0_9 h0_10 h0_11 h0_12 h0_13 h0_14 h0_15 h0_16 w9.2)) (zsome h)) ?_
      exact zq_iretX G hlocks hr rfl dX3_minimumWithout_29 (congrArg Prod.fst (zsome h)).symm
    · have h := zit h c2
      refine zq_iconst (q := 18) (v := -1) G dX3_minimumWithout_17 (by decide) rfl ?_
      refine zq_goto (q := 29) G dX3_minimumWithout_18 (by decide) ?_
      refine zq_ws (congrArg (fun w9 => (w_C cyI cyZ h0_0 h0_1 h0_2 h0_3 h0_4 h0_5 h0_6 h0_7 h0_8 h0_9 h0_10 h0_11 h0_12 h0_13 h0_14 h0_15 h0_16 w9.2)) (zsome h)) ?_
      exact zq_iretX G hlocks hr rfl dX3_minimumWithout_29 (congrArg Prod.fst (zsome h)).symm
set_option maxHeartbeats 4000000 in
set_option maxRecDepth 100000 in
theorem c_X3_minimumIfCost (l : Launch) (hst : l.stackTraces = false) (D : va_G) (cyI cyZ : ClassId) (h0_0 h0_1 h0_2 h0_3 h0_4 h0_5 h0_6 h0_7 h0_8 h0_9 h0_10 h0_11 h0_12 h0_13 h0_14 h0_15 h0_16 : Nat) (σ0 : zC) (p0 : Int32) (p1 : Int32) (p2 : Int32) (z : Sum String Int32) (o0 : zC) (h : s_X3_minimumIfCost σ0 p0 p1 p2 = some (z, o0)) (sz : Nat) : zXi l yX3_minimumIfCost cX3_minimumIfCost 4 .int 9 153 D cyI cyZ sz [.ref h0_0, .int p0, .int p1, .int p2] (w_C cyI cyZ h0_0 h0_1 h0_2 h0_3 h0_4 h0_5 h0_6 h0_7 h0_8 h0_9 h0_10 h0_11 h0_12 h0_13 h0_14 h0_15 h0_16 σ0) z (w_C cyI cyZ h0_0 h0_1 h0_2 h0_3 h0_4 h0_5 h0_6 h0_7 h0_8 h0_9 h0_10 h0_11 h0_12 h0_13 h0_14 h0_15 h0_16 o0) := by
  unfold s_X3_minimumIfCost at h
  refine zstartXI (lv0 := [(0, .ref h0_0), (1, .int p0), (2, .int p1), (3, .int p2)]) (by decide) (Nat.le_of_ble_eq_true rfl) rfl (fun p e s m args below meth c G hr hlocks ht => ?_)
  refine zq_aload_n (q := 1) G dX3_minimumIfCost_0 0 rfl rfl rfl ?_
  refine zq_iload_n (q := 2) G dX3_minimumIfCost_1 1 rfl rfl rfl ?_
  refine zq_iload_n (q := 3) G dX3_minimumIfCost_2 2 rfl rfl rfl ?_
  obtain ⟨z1, hc1, h⟩ := zbd h
  rcases zsum z1 with ⟨E1, e1⟩ | ⟨r1, e1⟩
  · have h := zselL2 h e1
    exact zq_outVv (ws2 := (w_C cyI cyZ h0_0 h0_1 h0_2 h0_3 h0_4 h0_5 h0_6 h0_7 h0_8 h0_9 h0_10 h0_11 h0_12 h0_13 h0_14 h0_15 h0_16 σ0)) (isC := [0, 1, 2, 3, 4, 5, 6, 7, 8, 9, 10, 11, 12, 13, 14, 15, 16]) (isR := []) (perm := [0, 1, 2, 3, 4, 5, 6, 7, 8, 9, 10, 11, 12, 13, 14, 15, 16]) (rest := []) (As := [.int p0, .int p1]) G hlocks ht zs_X3_53 dX3_minimumIfCost_3 (fun sz9 => c_X3_requireRealCell l hst D cyI cyZ h0_0 h0_1 h0_2 h0_3 h0_4 h0_5 h0_6 h0_7 h0_8 h0_9 h0_10 h0_11 h0_12 h0_13 h0_14 h0_15 h0_16 σ0 p0 p1 (.inl E1) (hc1.trans (congrArg some e1)) sz9) 0 rfl rfl rfl ⟨rfl, rfl, rfl, rfl⟩ rfl (Nat.le_of_ble_eq_true rfl) ⟨Nat.le_of_ble_eq_true rfl, Nat.le_of_ble_eq_true rfl⟩ rfl rfl (congrArg Prod.fst (zsome h)).symm (congrArg (fun w9 => (w_C cyI cyZ h0_0 h0_1 h0_2 h0_3 h0_4 h0_5 h0_6 h0_7 h0_8 h0_9 h0_10 h0_11 h0_12 h0_13 h0_14 h0_15 h0_16 w9.2)) (zsome h))
  · have h := zselR2 h e1
    refine zq_callVv (q := 6) (ws2 := (w_C cyI cyZ h0_0 h0_1 h0_2 h0_3 h0_4 h0_5 h0_6 h0_7 h0_8 h0_9 h0_10 h0_11 h0_12 h0_13 h0_14 h0_15 h0_16 σ0)) (isC := [0, 1, 2, 3, 4, 5, 6, 7, 8, 9, 10, 11, 12, 13, 14, 15, 16]) (isR := []) (perm := [0, 1, 2, 3, 4, 5, 6, 7, 8, 9, 10, 11, 12, 13, 14, 15, 16]) (rest := []) (As := [.int p0, .int p1]) G zs_X3_53 dX3_minimumIfCost_3 (fun sz9 => zXv_ret (c_X3_requireRealCell l hst D cyI cyZ h0_0 h0_1 h0_2 h0_3 h0_4 h0_5 h0_6 h0_7 h0_8 h0_9 h0_10 h0_11 h0_12 h0_13 h0_14 h0_15 h0_16 σ0 p0 p1 (.inr r1) (hc1.trans (congrArg some e1)) sz9)) 0 rfl rfl rfl ⟨rfl, rfl, rfl, rfl⟩ rfl (Nat.le_of_ble_eq_true rfl) ⟨Nat.le_of_ble_eq_true rfl, Nat.le_of_ble_eq_true rfl, Nat.zero_le _, Nat.zero_le _⟩ rfl ?_
    refine zq_iload_n (q := 7) G dX3_minimumIfCost_6 3 rfl rfl rfl ?_
    refine zq_if_lt (tgt := 16) (q := 10) G dX3_minimumIfCost_7 (by decide) rfl (fun c2 => ?_) (fun c2 => ?_)
    · have h := zit h c2
      refine zq_iload_n (q := 17) G dX3_minimumIfCost_16 3 rfl rfl rfl ?_
      refine zq_sipush (q := 20) (v := 1000) G dX3_minimumIfCost_17 (by decide) rfl ?_
      refine zq_icmp_eq (tgt := 31) (q := 23) G dX3_minimumIfCost_20 (by decide) rfl (fun c3 => ?_) (fun c3 => ?_)
      · have h := zit h c3
        refine zq_aload_n (q := 32) G dX3_minimumIfCost_31 0 rfl rfl rfl ?_
        refine zq_iload_n (q := 33) G dX3_minimumIfCost_32 1 rfl rfl rfl ?_
        refine zq_iload_n (q := 34) G dX3_minimumIfCost_33 2 rfl rfl rfl ?_
        refine zq_iload_n (q := 35) G dX3_minimumIfCost_34 3 rfl rfl rfl ?_
        obtain ⟨z4, hc4, h⟩ := zbd h
        refine zq_callVi (q := 38) (ws2 := (w_C cyI cyZ h0_0 h0_1 h0_2 h0_3 h0_4 h0_5 h0_6 h0_7 h0_8 h0_9 h0_10 h0_11 h0_12 h0_13 h0_14 h0_15 h0_16 z4.2)) (isC := [0, 1, 2, 3, 4, 5, 6, 7, 8, 9, 10, 11, 12, 13, 14, 15, 16]) (isR := []) (perm := [0, 1, 2, 3, 4, 5, 6, 7, 8, 9, 10, 11, 12, 13, 14, 15, 16]) (rest := []) (As := [.int p0, .int p1, .int p2]) G zs_X3_162 dX3_minimumIfCost_35 (fun sz9 => c_X3_leastWithCost l D cyI cyZ h0_0 h0_1 h0_2 h0_3 h0_4 h0_5 h0_6 h0_7 h0_8 h0_9 h0_10 h0_11 h0_12 h0_13 h0_14 h0_15 h0_16 σ0 p0 p1 p2 z4.1 z4.2 hc4 sz9) 0 rfl rfl rfl ⟨rfl, rfl, rfl, rfl⟩ rfl (Nat.le_of_ble_eq_true rfl) ⟨Nat.le_of_ble_eq_true rfl, Nat.le_of_ble_eq_true rfl, Nat.zero_le _, Nat.zero_le _⟩ rfl ?_
        refine zq_ws (congrArg (fun w9 => (w_C cyI cyZ h0_0 h0_1 h0_2 h0_3 h0_4 h0_5 h0_6 h0_7 h0_8 h0_9 h0_10 h0_11 h0_12 h0_13 h0_14 h0_15 h0_16 w9.2)) (zsome h)) ?_
        exact zq_iretX G hlocks hr rfl dX3_minimumIfCost_38 (congrArg Prod.fst (zsome h)).symm
      · have h := zie h c3
        refine zq_ws (congrArg (fun w9 => (w_C cyI cyZ h0_0 h0_1 h0_2 h0_3 h0_4 h0_5 h0_6 h0_7 h0_8 h0_9 h0_10 h0_11 h0_12 h0_13 h0_14 h0_15 h0_16 w9.2)) (zsome h)) ?_
        exact zq_throw G hlocks hst ht zt_X3_43 dX3_minimumIfCost_23 dX3_minimumIfCost_26 dX3_minimumIfCost_27 dX3_minimumIfCost_30 ⟨Nat.le_of_ble_eq_true rfl, Nat.le_of_ble_eq_true rfl⟩ rfl rfl (congrArg Prod.fst (zsome h)).symm
    · have h := zie h c2
      refine zq_iload_n (q := 11) G dX3_minimumIfCost_10 3 rfl rfl rfl ?_
      refine zq_bipush (q := 13) (v := 99) G dX3_minimumIfCost_11 (by decide) rfl ?_
      refine zq_icmp_le (tgt := 31) (q := 16) G dX3_minimumIfCost_13 (by decide) rfl (fun c5 => ?_) (fun c5 => ?_)
      · have h := zit h c5
        refine zq_aload_n (q := 32) G dX3_minimumIfCost_31 0 rfl rfl rfl ?_
        refine zq_iload_n (q := 33) G dX3_minimumIfCost_32 1 rfl rfl rfl ?_
        refine zq_iload_n (q := 34) G dX3_minimumIfCost_33 2 rfl rfl rfl ?_
        refine zq_iload_n (q := 35) G dX3_minimumIfCost_34 3 rfl rfl rfl ?_
        obtain ⟨z6, hc6, h⟩ := zbd h
        refine zq_callVi (q := 38) (ws2 := (w_C cyI cyZ h0_0 h0_1 h0_2 h0_3 h0_4 h0_5 h0_6 h0_7 h0_8 h0_9 h0_10 h0_11 h0_12 h0_13 h0_14 h0_15 h0_16 z6.2)) (isC := [0, 1, 2, 3, 4, 5, 6, 7, 8, 9, 10, 11, 12, 13, 14, 15, 16]) (isR := []) (perm := [0, 1, 2, 3, 4, 5, 6, 7, 8, 9, 10, 11, 12, 13, 14, 15, 16]) (rest := []) (As := [.int p0, .int p1, .int p2]) G zs_X3_162 dX3_minimumIfCost_35 (fun sz9 => c_X3_leastWithCost l D cyI cyZ h0_0 h0_1 h0_2 h0_3 h0_4 h0_5 h0_6 h0_7 h0_8 h0_9 h0_10 h0_11 h0_12 h0_13 h0_14 h0_15 h0_16 σ0 p0 p1 p2 z6.1 z6.2 hc6 sz9) 0 rfl rfl rfl ⟨rfl, rfl, rfl, rfl⟩ rfl (Nat.le_of_ble_eq_true rfl) ⟨Nat.le_of_ble_eq_true rfl, Nat.le_of_ble_eq_true rfl, Nat.zero_le _, Nat.zero_le _⟩ rfl ?_
        refine zq_ws (congrArg (fun w9 => (w_C cyI cyZ h0_0 h0_1 h0_2 h0_3 h0_4 h0_5 h0_6 h0_7 h0_8 h0_9 h0_10 h0_11 h0_12 h0_13 h0_14 h0_15 h0_16 w9.2)) (zsome h)) ?_
        exact zq_iretX G hlocks hr rfl dX3_minimumIfCost_38 (congrArg Prod.fst (zsome h)).symm
      · have h := zie h c5
        refine zq_iload_n (q := 17) G dX3_minimumIfCost_16 3 rfl rfl rfl ?_
        refine zq_sipush (q := 20) (v := 1000) G dX3_minimumIfCost_17 (by decide) rfl ?_
        refine zq_icmp_eq (tgt := 31) (q := 23) G dX3_minimumIfCost_20 (by decide) rfl (fun c7 => ?_) (fun c7 => ?_)
        · have h := zit h c7
          refine zq_aload_n (q := 32) G dX3_minimumIfCost_31 0 rfl rfl rfl ?_
          refine zq_iload_n (q := 33) G dX3_minimumIfCost_32 1 rfl rfl rfl ?_
          refine zq_iload_n (q := 34) G dX3_minimumIfCost_33 2 rfl rfl rfl ?_
          refine zq_iload_n (q := 35) G dX3_minimumIfCost_34 3 rfl rfl rfl ?_
          obtain ⟨z8, hc8, h⟩ := zbd h
          refine zq_callVi (q := 38) (ws2 := (w_C cyI cyZ h0_0 h0_1 h0_2 h0_3 h0_4 h0_5 h0_6 h0_7 h0_8 h0_9 h0_10 h0_11 h0_12 h0_13 h0_14 h0_15 h0_16 z8.2)) (isC := [0, 1, 2, 3, 4, 5, 6, 7, 8, 9, 10, 11, 12, 13, 14, 15, 16]) (isR := []) (perm := [0, 1, 2, 3, 4, 5, 6, 7, 8, 9, 10, 11, 12, 13, 14, 15, 16]) (rest := []) (As := [.int p0, .int p1, .int p2]) G zs_X3_162 dX3_minimumIfCost_35 (fun sz9 => c_X3_leastWithCost l D cyI cyZ h0_0 h0_1 h0_2 h0_3 h0_4 h0_5 h0_6 h0_7 h0_8 h0_9 h0_10 h0_11 h0_12 h0_13 h0_14 h0_15 h0_16 σ0 p0 p1 p2 z8.1 z8.2 hc8 sz9) 0 rfl rfl rfl ⟨rfl, rfl, rfl, rfl⟩ rfl (Nat.le_of_ble_eq_true rfl) ⟨Nat.le_of_ble_eq_true rfl, Nat.le_of_ble_eq_true rfl, Nat.zero_le _, Nat.zero_le _⟩ rfl ?_
          refine zq_ws (congrArg (fun w9 => (w_C cyI cyZ h0_0 h0_1 h0_2 h0_3 h0_4 h0_5 h0_6 h0_7 h0_8 h0_9 h0_10 h0_11 h0_12 h0_13 h0_14 h0_15 h0_16 w9.2)) (zsome h)) ?_
          exact zq_iretX G hlocks hr rfl dX3_minimumIfCost_38 (congrArg Prod.fst (zsome h)).symm
        · have h := zie h c7
          refine zq_ws (congrArg (fun w9 => (w_C cyI cyZ h0_0 h0_1 h0_2 h0_3 h0_4 h0_5 h0_6 h0_7 h0_8 h0_9 h0_10 h0_11 h0_12 h0_13 h0_14 h0_15 h0_16 w9.2)) (zsome h)) ?_
          exact zq_throw G hlocks hst ht zt_X3_43 dX3_minimumIfCost_23 dX3_minimumIfCost_26 dX3_minimumIfCost_27 dX3_minimumIfCost_30 ⟨Nat.le_of_ble_eq_true rfl, Nat.le_of_ble_eq_true rfl⟩ rfl rfl (congrArg Prod.fst (zsome h)).symm
set_option maxHeartbeats 4000000 in
set_option maxRecDepth 100000 in
theorem c_X3_secondBest (l : Launch) (D : va_G) (cyI cyZ : ClassId) (h0_0 h0_1 h0_2 h0_3 h0_4 h0_5 h0_6 h0_7 h0_8 h0_9 h0_10 h0_11 h0_12 h0_13 h0_14 h0_15 h0_16 : Nat) (σ0 : zC) (r : Int32) (o0 : zC) (h : s_X3_secondBest σ0 = some (r, o0)) (sz : Nat) : zMi l yX3_secondBest cX3_secondBest 3 .int 5 111 D cyI cyZ sz [.ref h0_0] (w_C cyI cyZ h0_0 h0_1 h0_2 h0_3 h0_4 h0_5 h0_6 h0_7 h0_8 h0_9 h0_10 h0_11 h0_12 h0_13 h0_14 h0_15 h0_16 σ0) r (w_C cyI cyZ h0_0 h0_1 h0_2 h0_3 h0_4 h0_5 h0_6 h0_7 h0_8 h0_9 h0_10 h0_11 h0_12 h0_13 h0_14 h0_15 h0_16 o0) := by
  unfold s_X3_secondBest at h
  refine zstartI (lv0 := [(0, .ref h0_0)]) (by decide) (Nat.le_of_ble_eq_true rfl) rfl (fun p e s m args below meth c G hr hlocks => ?_)
  have b22 : ∀ (n : Nat) (τ0 : zC) (x1 : Int32) (x2 : Int32), s_X3_secondBest_22 n τ0 x1 x2 = some (r, o0) → zW p l e ({ frames := 5, cells := 0, slots := 0, locals := 111 } : Room) s m args below meth c D (va_A (w_C cyI cyZ h0_0 h0_1 h0_2 h0_3 h0_4 h0_5 h0_6 h0_7 h0_8 h0_9 h0_10 h0_11 h0_12 h0_13 h0_14 h0_15 h0_16 σ0) sz) 3 0 0 (MQ below (zQi D cyI cyZ sz (w_C cyI cyZ h0_0 h0_1 h0_2 h0_3 h0_4 h0_5 h0_6 h0_7 h0_8 h0_9 h0_10 h0_11 h0_12 h0_13 h0_14 h0_15 h0_16 σ0) r (w_C cyI cyZ h0_0 h0_1 h0_2 h0_3 h0_4 h0_5 h0_6 h0_7 h0_8 h0_9 h0_10 h0_11 h0_12 h0_13 h0_14 h0_15 h0_16 o0)) args s 0 0 (va_A (w_C cyI cyZ h0_0 h0_1 h0_2 h0_3 h0_4 h0_5 h0_6 h0_7 h0_8 h0_9 h0_10 h0_11 h0_12 h0_13 h0_14 h0_15 h0_16 σ0) sz)) 22 [(0, .ref h0_0), (1, .int x1), (2, .int x2)] [] (w_C cyI cyZ h0_0 h0_1 h0_2 h0_3 h0_4 h0_5 h0_6 h0_7 h0_8 h0_9 h0_10 h0_11 h0_12 h0_13 h0_14 h0_15 h0_16 τ0) := by
    intro n
    induction n with
    | zero => intro τ0 x1 x2 h; rw [s_X3_secondBest_22] at h; exact nomatch h
    | succ n ih =>
      intro τ0 x1 x2 h
      rw [s_X3_secondBest_22] at h
      refine zq_iload_n (q := 23) G dX3_secondBest_22 2 rfl rfl rfl ?_
      refine zq_aload_n (q := 24) G dX3_secondBest_23 0 rfl rfl rfl ?_
      refine zq_get (q := 27) G zu_X3 rfl zw_X3_f12 dX3_secondBest_24 0 0 rfl (by decide) ⟨⟨rfl, rfl⟩, rfl⟩ rfl rfl ?_
      refine zq_getN (q := 30) G zu_X1 rfl zw_X3_f83 dX3_secondBest_27 1 0 rfl (by decide) ⟨⟨rfl, rfl⟩, rfl⟩ rfl rfl ?_
      refine zq_icmp_ge (tgt := 57) (q := 33) G dX3_secondBest_30 (by decide) rfl (fun c1 => ?_) (fun c1 => ?_)
      · have h := zit h c1
        refine zq_iload_n (q := 58) G dX3_secondBest_57 1 rfl rfl rfl ?_
        refine zq_ws (congrArg (fun w9 => (w_C cyI cyZ h0_0 h0_1 h0_2 h0_3 h0_4 h0_5 h0_6 h0_7 h0_8 h0_9 h0_10 h0_11 h0_12 h0_13 h0_14 h0_15 h0_16 w9.2)) (zsome h)) ?_
        exact zq_iret G hlocks hr rfl dX3_secondBest_58 (congrArg Prod.fst (zsome h))
      · have h := zie h c1
        refine zq_iload_n (q := 34) G dX3_secondBest_33 1 rfl rfl rfl ?_
        refine zq_aload_n (q := 35) G dX3_secondBest_34 0 rfl rfl rfl ?_
        refine zq_iload_n (q := 36) G dX3_secondBest_35 2 rfl rfl rfl ?_
        refine zq_aload_n (q := 37) G dX3_secondBest_36 0 rfl rfl rfl ?_
        refine zq_get (q := 40) G zu_X3 rfl zw_X3_f33 dX3_secondBest_37 0 5 rfl (by decide) ⟨⟨rfl, rfl⟩, rfl⟩ rfl rfl ?_
        refine zq_iload_n (q := 41) G dX3_secondBest_40 2 rfl rfl rfl ?_
        obtain ⟨q2, h⟩ := zif h
        refine zq_iald (q := 42) G dX3_secondBest_41 14 rfl q2 rfl ?_
        refine zq_ldc (q := 44) G zw_X3_c158 dX3_secondBest_42 rfl ?_
        obtain ⟨z3, hc3, h⟩ := zbd h
        refine zq_callVi (q := 47) (ws2 := (w_C cyI cyZ h0_0 h0_1 h0_2 h0_3 h0_4 h0_5 h0_6 h0_7 h0_8 h0_9 h0_10 h0_11 h0_12 h0_13 h0_14 h0_15 h0_16 z3.2)) (isC := [0, 1, 2, 3, 4, 5, 6, 7, 8, 9, 10, 11, 12, 13, 14, 15, 16]) (isR := []) (perm := [0, 1, 2, 3, 4, 5, 6, 7, 8, 9, 10, 11, 12, 13, 14, 15, 16]) (rest := [.int x1]) (As := [.int x2, .int (τ0.2.2.2.2.2.1 x2.toNatClampNeg), .int (100000 : Int32)]) G zs_X3_162 dX3_secondBest_44 (fun sz9 => c_X3_leastWithCost l D cyI cyZ h0_0 h0_1 h0_2 h0_3 h0_4 h0_5 h0_6 h0_7 h0_8 h0_9 h0_10 h0_11 h0_12 h0_13 h0_14 h0_15 h0_16 τ0 x2 (τ0.2.2.2.2.2.1 x2.toNatClampNeg) (100000 : Int32) z3.1 z3.2 hc3 sz9) 0 rfl rfl rfl ⟨rfl, rfl, rfl, rfl⟩ rfl (Nat.le_of_ble_eq_true rfl) ⟨Nat.le_of_ble_eq_true rfl, Nat.le_of_ble_eq_true rfl, Nat.zero_le _, Nat.zero_le _⟩ rfl ?_
        refine zq_mmin (q := 50) G zl_X3_78 zstat_J9_min_7cf53 zini_J9 zcode_J9_min_7cf53 dX3_secondBest_47 ⟨Nat.le_of_ble_eq_true rfl, Nat.le_of_ble_eq_true rfl, Nat.zero_le _, Nat.zero_le _⟩ rfl ?_
        refine zq_istore_n (q := 51) (lv2 := [(1, .int (if z3.1 < x1 then z3.1 else x1)), (0, .ref h0_0), (2, .int x2)]) G dX3_secondBest_50 rfl (by decide) rfl rfl ?_
        refine zq_iinc (q := 54) (v := (x2 + 1)) (lv2 := [(2, .int (x2 + 1)), (1, .int (if z3.1 < x1 then z3.1 else x1)), (0, .ref h0_0)]) G dX3_secondBest_51 2 rfl rfl (by decide) rfl rfl ?_
        refine zq_goto (q := 22) G dX3_secondBest_54 (by decide) ?_
        exact zq_sub _ [2, 1, 0] rfl (ih _ _ _ h)
  refine zq_aload_n (q := 1) G dX3_secondBest_0 0 rfl rfl rfl ?_
  refine zq_get (q := 4) G zu_X3 rfl zw_X3_f12 dX3_secondBest_1 0 0 rfl (by decide) ⟨⟨rfl, rfl⟩, rfl⟩ rfl rfl ?_
  refine zq_getN (q := 7) G zu_X1 rfl zw_X3_f83 dX3_secondBest_4 1 0 rfl (by decide) ⟨⟨rfl, rfl⟩, rfl⟩ rfl rfl ?_
  refine zq_iconst (q := 8) (v := 1) G dX3_secondBest_7 (by decide) rfl ?_
  refine zq_icmp_ne (tgt := 13) (q := 11) G dX3_secondBest_8 (by decide) rfl (fun c1 => ?_) (fun c1 => ?_)
  · have h := zie h c1
    refine zq_aload_n (q := 14) G dX3_secondBest_13 0 rfl rfl rfl ?_
    obtain ⟨z2, hc2, h⟩ := zbd h
    refine zq_callVv (q := 17) (ws2 := (w_C cyI cyZ h0_0 h0_1 h0_2 h0_3 h0_4 h0_5 h0_6 h0_7 h0_8 h0_9 h0_10 h0_11 h0_12 h0_13 h0_14 h0_15 h0_16 z2)) (isC := [0, 1, 2, 3, 4, 5, 6, 7, 8, 9, 10, 11, 12, 13, 14, 15, 16]) (isR := []) (perm := [0, 1, 2, 3, 4, 5, 6, 7, 8, 9, 10, 11, 12, 13, 14, 15, 16]) (rest := []) (As := []) G zs_X3_143 dX3_secondBest_14 (fun sz9 => c_X3_findFirstOptimal l D cyI cyZ h0_0 h0_1 h0_2 h0_3 h0_4 h0_5 h0_6 h0_7 h0_8 h0_9 h0_10 h0_11 h0_12 h0_13 h0_14 h0_15 h0_16 σ0 z2 hc2 sz9) 0 rfl rfl rfl ⟨rfl, rfl, rfl, rfl⟩ rfl (Nat.le_of_ble_eq_true rfl) ⟨Nat.le_of_ble_eq_true rfl, Nat.le_of_ble_eq_true rfl, Nat.zero_le _, Nat.zero_le _⟩ rfl ?_
    refine zq_ldc (q := 19) G zw_X3_c158 dX3_secondBest_17 rfl ?_
    refine zq_istore_n (q := 20) (lv2 := [(1, .int (100000 : Int32)), (0, .ref h0_0)]) G dX3_secondBest_19 rfl (by decide) rfl rfl ?_
    refine zq_iconst (q := 21) (v := 0) G dX3_secondBest_20 (by decide) rfl ?_
    refine zq_istore_n (q := 22) (lv2 := [(2, .int (0 : Int32)), (1, .int (100000 : Int32)), (0, .ref h0_0)]) G dX3_secondBest_21 rfl (by decide) rfl rfl ?_
    exact zq_sub _ [2, 1, 0] rfl (b22  _ _ _ _ h)
  · have h := zit h c1
    refine zq_iconst (q := 12) (v := -1) G dX3_secondBest_11 (by decide) rfl ?_
    refine zq_ws (congrArg (fun w9 => (w_C cyI cyZ h0_0 h0_1 h0_2 h0_3 h0_4 h0_5 h0_6 h0_7 h0_8 h0_9 h0_10 h0_11 h0_12 h0_13 h0_14 h0_15 h0_16 w9.2)) (zsome h)) ?_
    exact zq_iret G hlocks hr rfl dX3_secondBest_12 (congrArg Prod.fst (zsome h))
set_option maxHeartbeats 4000000 in
set_option maxRecDepth 100000 in
theorem c_X3_maximum (l : Launch) (D : va_G) (cyI cyZ : ClassId) (h0_0 h0_1 h0_2 h0_3 h0_4 h0_5 h0_6 h0_7 h0_8 h0_9 h0_10 h0_11 h0_12 h0_13 h0_14 h0_15 h0_16 : Nat) (σ0 : zC) (r : Int32) (o0 : zC) (h : s_X3_maximum σ0 = some (r, o0)) (sz : Nat) : zMi l yX3_maximum cX3_maximum 3 .int 4 88 D cyI cyZ sz [.ref h0_0] (w_C cyI cyZ h0_0 h0_1 h0_2 h0_3 h0_4 h0_5 h0_6 h0_7 h0_8 h0_9 h0_10 h0_11 h0_12 h0_13 h0_14 h0_15 h0_16 σ0) r (w_C cyI cyZ h0_0 h0_1 h0_2 h0_3 h0_4 h0_5 h0_6 h0_7 h0_8 h0_9 h0_10 h0_11 h0_12 h0_13 h0_14 h0_15 h0_16 o0) := by
  unfold s_X3_maximum at h
  refine zstartI (lv0 := [(0, .ref h0_0)]) (by decide) (Nat.le_of_ble_eq_true rfl) rfl (fun p e s m args below meth c G hr hlocks => ?_)
  have b26 : ∀ (k13 : (zC → Int32 → Option (Int32 × zC))) (hk13 : ∀ (τ0 : zC) (x1 : Int32), k13 τ0 x1 = some (r, o0) → zW p l e ({ frames := 4, cells := 0, slots := 0, locals := 88 } : Room) s m args below meth c D (va_A (w_C cyI cyZ h0_0 h0_1 h0_2 h0_3 h0_4 h0_5 h0_6 h0_7 h0_8 h0_9 h0_10 h0_11 h0_12 h0_13 h0_14 h0_15 h0_16 σ0) sz) 3 0 0 (MQ below (zQi D cyI cyZ sz (w_C cyI cyZ h0_0 h0_1 h0_2 h0_3 h0_4 h0_5 h0_6 h0_7 h0_8 h0_9 h0_10 h0_11 h0_12 h0_13 h0_14 h0_15 h0_16 σ0) r (w_C cyI cyZ h0_0 h0_1 h0_2 h0_3 h0_4 h0_5 h0_6 h0_7 h0_8 h0_9 h0_10 h0_11 h0_12 h0_13 h0_14 h0_15 h0_16 o0)) args s 0 0 (va_A (w_C cyI cyZ h0_0 h0_1 h0_2 h0_3 h0_4 h0_5 h0_6 h0_7 h0_8 h0_9 h0_10 h0_11 h0_12 h0_13 h0_14 h0_15 h0_16 σ0) sz)) 13 [(0, .ref h0_0), (1, .int x1)] [] (w_C cyI cyZ h0_0 h0_1 h0_2 h0_3 h0_4 h0_5 h0_6 h0_7 h0_8 h0_9 h0_10 h0_11 h0_12 h0_13 h0_14 h0_15 h0_16 τ0)) (n : Nat) (τ0 : zC) (x1 : Int32) (x2 : Int32), s_X3_maximum_26 k13 n τ0 x1 x2 = some (r, o0) → zW p l e ({ frames := 4, cells := 0, slots := 0, locals := 88 } : Room) s m args below meth c D (va_A (w_C cyI cyZ h0_0 h0_1 h0_2 h0_3 h0_4 h0_5 h0_6 h0_7 h0_8 h0_9 h0_10 h0_11 h0_12 h0_13 h0_14 h0_15 h0_16 σ0) sz) 3 0 0 (MQ below (zQi D cyI cyZ sz (w_C cyI cyZ h0_0 h0_1 h0_2 h0_3 h0_4 h0_5 h0_6 h0_7 h0_8 h0_9 h0_10 h0_11 h0_12 h0_13 h0_14 h0_15 h0_16 σ0) r (w_C cyI cyZ h0_0 h0_1 h0_2 h0_3 h0_4 h0_5 h0_6 h0_7 h0_8 h0_9 h0_10 h0_11 h0_12 h0_13 h0_14 h0_15 h0_16 o0)) args s 0 0 (va_A (w_C cyI cyZ h0_0 h0_1 h0_2 h0_3 h0_4 h0_5 h0_6 h0_7 h0_8 h0_9 h0_10 h0_11 h0_12 h0_13 h0_14 h0_15 h0_16 σ0) sz)) 26 [(0, .ref h0_0), (1, .int x1), (2, .int x2)] [] (w_C cyI cyZ h0_0 h0_1 h0_2 h0_3 h0_4 h0_5 h0_6 h0_7 h0_8 h0_9 h0_10 h0_11 h0_12 h0_13 h0_14 h0_15 h0_16 τ0) := by
    intro k13 hk13
    intro n
    induction n with
    | zero => intro τ0 x1 x2 h; rw [s_X3_maximum_26] at h; exact nomatch h
    | succ n ih =>
      intro τ0 x1 x2 h
      rw [s_X3_maximum_26] at h
      refine zq_iload_n (q := 27) G dX3_maximum_26 2 rfl rfl rfl ?_
      refine zq_aload_n (q := 28) G dX3_maximum_27 0 rfl rfl rfl ?_
      refine zq_get (q := 31) G zu_X3 rfl zw_X3_f12 dX3_maximum_28 0 0 rfl (by decide) ⟨⟨rfl, rfl⟩, rfl⟩ rfl rfl ?_
      refine zq_getN (q := 34) G zu_X1 rfl zw_X3_f72 dX3_maximum_31 1 1 rfl (by decide) ⟨⟨rfl, rfl⟩, rfl⟩ rfl rfl ?_
      refine zq_icmp_ge (tgt := 66) (q := 37) G dX3_maximum_34 (by decide) rfl (fun c1 => ?_) (fun c1 => ?_)
      · have h := zit h c1
        refine zq_iinc (q := 69) (v := (x1 + 1)) (lv2 := [(1, .int (x1 + 1)), (0, .ref h0_0), (2, .int x2)]) G dX3_maximum_66 1 rfl rfl (by decide) rfl rfl ?_
        refine zq_goto (q := 13) G dX3_maximum_69 (by decide) ?_
        exact zq_sub _ [1, 0] rfl (hk13 _ _ h)
      · have h := zie h c1
        refine zq_aload_n (q := 38) G dX3_maximum_37 0 rfl rfl rfl ?_
        refine zq_get (q := 41) G zu_X3 rfl zw_X3_f12 dX3_maximum_38 0 0 rfl (by decide) ⟨⟨rfl, rfl⟩, rfl⟩ rfl rfl ?_
        refine zq_iload_n (q := 42) G dX3_maximum_41 1 rfl rfl rfl ?_
        refine zq_iload_n (q := 43) G dX3_maximum_42 2 rfl rfl rfl ?_
        obtain ⟨z2, hc2, h⟩ := zbd h
        refine zq_callVi (q := 46) (ws2 := (w_C cyI cyZ h0_0 h0_1 h0_2 h0_3 h0_4 h0_5 h0_6 h0_7 h0_8 h0_9 h0_10 h0_11 h0_12 h0_13 h0_14 h0_15 h0_16 τ0)) (isC := [1, 2, 3]) (isR := [0, 4, 5, 6, 7, 8, 9, 10, 11, 12, 13, 14, 15, 16]) (perm := [0, 14, 15, 16, 1, 2, 3, 4, 5, 6, 7, 8, 9, 10, 11, 12, 13]) (rest := []) (As := [.int x1, .int x2]) G zs_X3_133 dX3_maximum_43 (fun sz9 => c_X1_isForbidden l D cyI cyZ h0_1 h0_2 h0_3 τ0.1 x1 x2 z2 hc2 sz9) 1 rfl rfl rfl ⟨rfl, rfl, rfl, rfl⟩ rfl (Nat.le_of_ble_eq_true rfl) ⟨Nat.le_of_ble_eq_true rfl, Nat.le_of_ble_eq_true rfl, Nat.zero_le _, Nat.zero_le _⟩ rfl ?_
        refine zq_if_eq (tgt := 60) (q := 49) G dX3_maximum_46 (by decide) rfl (fun c3 => ?_) (fun c3 => ?_)
        · have h := zit h c3
          refine zq_iinc (q := 63) (v := (x2 + 1)) (lv2 := [(2, .int (x2 + 1)), (0, .ref h0_0), (1, .int x1)]) G dX3_maximum_60 2 rfl rfl (by decide) rfl rfl ?_
          refine zq_goto (q := 26) G dX3_maximum_63 (by decide) ?_
          exact zq_sub _ [1, 2, 0] rfl (ih _ _ _ h)
        · have h := zie h c3
          refine zq_aload_n (q := 50) G dX3_maximum_49 0 rfl rfl rfl ?_
          refine zq_get (q := 53) G zu_X3 rfl zw_X3_f22 dX3_maximum_50 0 2 rfl (by decide) ⟨⟨rfl, rfl⟩, rfl⟩ rfl rfl ?_
          refine zq_iload_n (q := 54) G dX3_maximum_53 1 rfl rfl rfl ?_
          refine zq_iload_n (q := 55) G dX3_maximum_54 2 rfl rfl rfl ?_
          refine zq_ldc (q := 57) G zw_X3_c166 dX3_maximum_55 rfl ?_
          obtain ⟨z4, hc4, h⟩ := zbd h
          refine zq_callVv (q := 60) (ws2 := (w_C cyI cyZ h0_0 h0_1 h0_2 h0_3 h0_4 h0_5 h0_6 h0_7 h0_8 h0_9 h0_10 h0_11 h0_12 h0_13 h0_14 h0_15 h0_16 (τ0.1, τ0.2.1, z4, τ0.2.2.2.1, τ0.2.2.2.2.1, τ0.2.2.2.2.2.1, τ0.2.2.2.2.2.2))) (isC := [7, 8, 9, 10, 11]) (isR := [0, 1, 2, 3, 4, 5, 6, 12, 13, 14, 15, 16]) (perm := [0, 1, 2, 3, 4, 5, 6, 12, 13, 14, 15, 16, 7, 8, 9, 10, 11]) (rest := []) (As := [.int x1, .int x2, .int (-100000 : Int32)]) G zs_X3_159 dX3_maximum_57 (fun sz9 => c_X0_putCost l D cyI cyZ h0_7 h0_8 h0_9 h0_10 h0_11 τ0.2.2.1 x1 x2 (-100000 : Int32) z4 hc4 sz9) 7 rfl rfl rfl ⟨rfl, rfl, rfl, rfl⟩ rfl (Nat.le_of_ble_eq_true rfl) ⟨Nat.le_of_ble_eq_true rfl, Nat.le_of_ble_eq_true rfl, Nat.zero_le _, Nat.zero_le _⟩ rfl ?_
          refine zq_iinc (q := 63) (v := (x2 + 1)) (lv2 := [(2, .int (x2 + 1)), (0, .ref h0_0), (1, .int x1)]) G dX3_maximum_60 2 rfl rfl (by decide) rfl rfl ?_
          refine zq_goto (q := 26) G dX3_maximum_63 (by decide) ?_
          exact zq_sub _ [1, 2, 0] rfl (ih _ _ _ h)
  have b13 : ∀ (n : Nat) (τ0 : zC) (x1 : Int32), s_X3_maximum_13 n τ0 x1 = some (r, o0) → zW p l e ({ frames := 4, cells := 0, slots := 0, locals := 88 } : Room) s m args below meth c D (va_A (w_C cyI cyZ h0_0 h0_1 h0_2 h0_3 h0_4 h0_5 h0_6 h0_7 h0_8 h0_9 h0_10 h0_11 h0_12 h0_13 h0_14 h0_15 h0_16 σ0) sz) 3 0 0 (MQ below (zQi D cyI cyZ sz (w_C cyI cyZ h0_0 h0_1 h0_2 h0_3 h0_4 h0_5 h0_6 h0_7 h0_8 h0_9 h0_10 h0_11 h0_12 h0_13 h0_14 h0_15 h0_16 σ0) r (w_C cyI cyZ h0_0 h0_1 h0_2 h0_3 h0_4 h0_5 h0_6 h0_7 h0_8 h0_9 h0_10 h0_11 h0_12 h0_13 h0_14 h0_15 h0_16 o0)) args s 0 0 (va_A (w_C cyI cyZ h0_0 h0_1 h0_2 h0_3 h0_4 h0_5 h0_6 h0_7 h0_8 h0_9 h0_10 h0_11 h0_12 h0_13 h0_14 h0_15 h0_16 σ0) sz)) 13 [(0, .ref h0_0), (1, .int x1)] [] (w_C cyI cyZ h0_0 h0_1 h0_2 h0_3 h0_4 h0_5 h0_6 h0_7 h0_8 h0_9 h0_10 h0_11 h0_12 h0_13 h0_14 h0_15 h0_16 τ0) := by
    intro n
    induction n with
    | zero => intro τ0 x1 h; rw [s_X3_maximum_13] at h; exact nomatch h
    | succ n ih =>
      intro τ0 x1 h
      rw [s_X3_maximum_13] at h
      refine zq_iload_n (q := 14) G dX3_maximum_13 1 rfl rfl rfl ?_
      refine zq_aload_n (q := 15) G dX3_maximum_14 0 rfl rfl rfl ?_
      refine zq_get (q := 18) G zu_X3 rfl zw_X3_f12 dX3_maximum_15 0 0 rfl (by decide) ⟨⟨rfl, rfl⟩, rfl⟩ rfl rfl ?_
      refine zq_getN (q := 21) G zu_X1 rfl zw_X3_f83 dX3_maximum_18 1 0 rfl (by decide) ⟨⟨rfl, rfl⟩, rfl⟩ rfl rfl ?_
      refine zq_icmp_ge (tgt := 72) (q := 24) G dX3_maximum_21 (by decide) rfl (fun c1 => ?_) (fun c1 => ?_)
      · have h := zit h c1
        refine zq_aload_n (q := 73) G dX3_maximum_72 0 rfl rfl rfl ?_
        refine zq_get (q := 76) G zu_X3 rfl zw_X3_f22 dX3_maximum_73 0 2 rfl (by decide) ⟨⟨rfl, rfl⟩, rfl⟩ rfl rfl ?_
        obtain ⟨z2, hc2, h⟩ := zbd h
        refine zq_callVi (q := 79) (ws2 := (w_C cyI cyZ h0_0 h0_1 h0_2 h0_3 h0_4 h0_5 h0_6 h0_7 h0_8 h0_9 h0_10 h0_11 h0_12 h0_13 h0_14 h0_15 h0_16 (τ0.1, τ0.2.1, z2.2, τ0.2.2.2.1, τ0.2.2.2.2.1, τ0.2.2.2.2.2.1, τ0.2.2.2.2.2.2))) (isC := [7, 8, 9, 10, 11]) (isR := [0, 1, 2, 3, 4, 5, 6, 12, 13, 14, 15, 16]) (perm := [0, 1, 2, 3, 4, 5, 6, 12, 13, 14, 15, 16, 7, 8, 9, 10, 11]) (rest := []) (As := []) G zs_X3_167 dX3_maximum_76 (fun sz9 => c_X0_greatestSum l D cyI cyZ h0_7 h0_8 h0_9 h0_10 h0_11 τ0.2.2.1 z2.1 z2.2 hc2 sz9) 7 rfl rfl rfl ⟨rfl, rfl, rfl, rfl⟩ rfl (Nat.le_of_ble_eq_true rfl) ⟨Nat.le_of_ble_eq_true rfl, Nat.le_of_ble_eq_true rfl, Nat.zero_le _, Nat.zero_le _⟩ rfl ?_
        refine zq_istore_n (q := 80) (lv2 := [(1, .int z2.1), (0, .ref h0_0)]) G dX3_maximum_79 rfl (by decide) rfl rfl ?_
        refine zq_iload_n (q := 81) G dX3_maximum_80 0 rfl rfl rfl ?_
        refine zq_if_ge (tgt := 88) (q := 84) G dX3_maximum_81 (by decide) rfl (fun c3 => ?_) (fun c3 => ?_)
        · have h := zit h c3
          refine zq_iload_n (q := 89) G dX3_maximum_88 0 rfl rfl rfl ?_
          refine zq_ws (congrArg (fun w9 => (w_C cyI cyZ h0_0 h0_1 h0_2 h0_3 h0_4 h0_5 h0_6 h0_7 h0_8 h0_9 h0_10 h0_11 h0_12 h0_13 h0_14 h0_15 h0_16 w9.2)) (zsome h)) ?_
          exact zq_iret G hlocks hr rfl dX3_maximum_89 (congrArg Prod.fst (zsome h))
        · have h := zie h c3
          refine zq_iconst (q := 85) (v := -1) G dX3_maximum_84 (by decide) rfl ?_
          refine zq_goto (q := 89) G dX3_maximum_85 (by decide) ?_
          refine zq_ws (congrArg (fun w9 => (w_C cyI cyZ h0_0 h0_1 h0_2 h0_3 h0_4 h0_5 h0_6 h0_7 h0_8 h0_9 h0_10 h0_11 h0_12 h0_13 h0_14 h0_15 h0_16 w9.2)) (zsome h)) ?_
          exact zq_iret G hlocks hr rfl dX3_maximum_89 (congrArg Prod.fst (zsome h))
      · have h := zie h c1
        refine zq_iconst (q := 25) (v := 0) G dX3_maximum_24 (by decide) rfl ?_
        refine zq_istore_n (q := 26) (lv2 := [(2, .int (0 : Int32)), (0, .ref h0_0), (1, .int x1)]) G dX3_maximum_25 rfl (by decide) rfl rfl ?_
        exact zq_sub _ [1, 2, 0] rfl (b26 _ ih _ _ _ _ h)
  refine zq_aload_n (q := 1) G dX3_maximum_0 0 rfl rfl rfl ?_
  refine zq_get (q := 4) G zu_X3 rfl zw_X3_f22 dX3_maximum_1 0 2 rfl (by decide) ⟨⟨rfl, rfl⟩, rfl⟩ rfl rfl ?_
  refine zq_aload_n (q := 5) G dX3_maximum_4 0 rfl rfl rfl ?_
  refine zq_get (q := 8) G zu_X3 rfl zw_X3_f12 dX3_maximum_5 0 0 rfl (by decide) ⟨⟨rfl, rfl⟩, rfl⟩ rfl rfl ?_
  obtain ⟨z1, hc1, h⟩ := zbd h
  refine zq_callVv (q := 11) (ws2 := (w_C cyI cyZ h0_0 h0_1 h0_2 h0_3 h0_4 h0_5 h0_6 h0_7 h0_8 h0_9 h0_10 h0_11 h0_12 h0_13 h0_14 h0_15 h0_16 (σ0.1, σ0.2.1, z1, σ0.2.2.2.1, σ0.2.2.2.2.1, σ0.2.2.2.2.2.1, σ0.2.2.2.2.2.2))) (isC := [7, 8, 9, 10, 11, 1, 2, 3]) (isR := [0, 4, 5, 6, 12, 13, 14, 15, 16]) (perm := [0, 14, 15, 16, 1, 2, 3, 9, 10, 11, 12, 13, 4, 5, 6, 7, 8]) (rest := []) (As := [.ref h0_1]) G zs_X3_137 dX3_maximum_8 (fun sz9 => c_X0_load l D cyI cyZ h0_7 h0_8 h0_9 h0_10 h0_11 h0_1 h0_2 h0_3 σ0.2.2.1 σ0.1 z1 hc1 sz9) 7 rfl rfl rfl ⟨rfl, rfl, rfl, rfl⟩ rfl (Nat.le_of_ble_eq_true rfl) ⟨Nat.le_of_ble_eq_true rfl, Nat.le_of_ble_eq_true rfl, Nat.zero_le _, Nat.zero_le _⟩ rfl ?_
  refine zq_iconst (q := 12) (v := 0) G dX3_maximum_11 (by decide) rfl ?_
  refine zq_istore_n (q := 13) (lv2 := [(1, .int (0 : Int32)), (0, .ref h0_0)]) G dX3_maximum_12 rfl (by decide) rfl rfl ?_
  exact zq_sub _ [1, 0] rfl (b13  _ _ _ h)
set_option maxHeartbeats 4000000 in
set_option maxRecDepth 100000 in
theorem c_X3_bottleneck (l : Launch) (D : va_G) (cyI cyZ : ClassId) (h0_0 h0_1 h0_2 h0_3 h0_4 h0_5 h0_6 h0_7 h0_8 h0_9 h0_10 h0_11 h0_12 h0_13 h0_14 h0_15 h0_16 : Nat) (σ0 : zC) (r : Int32) (o0 : zC) (h : s_X3_bottleneck σ0 = some (r, o0)) (sz : Nat) : zMi l yX3_bottleneck cX3_bottleneck 1 .int 4 88 D cyI cyZ sz [.ref h0_0] (w_C cyI cyZ h0_0 h0_1 h0_2 h0_3 h0_4 h0_5 h0_6 h0_7 h0_8 h0_9 h0_10 h0_11 h0_12 h0_13 h0_14 h0_15 h0_16 σ0) r (w_C cyI cyZ h0_0 h0_1 h0_2 h0_3 h0_4 h0_5 h0_6 h0_7 h0_8 h0_9 h0_10 h0_11 h0_12 h0_13 h0_14 h0_15 h0_16 o0) := by
  unfold s_X3_bottleneck at h
  refine zstartI (lv0 := [(0, .ref h0_0)]) (by decide) (Nat.le_of_ble_eq_true rfl) rfl (fun p e s m args below meth c G hr hlocks => ?_)
  refine zq_aload_n (q := 1) G dX3_bottleneck_0 0 rfl rfl rfl ?_
  refine zq_get (q := 4) G zu_X3 rfl zw_X3_f22 dX3_bottleneck_1 0 2 rfl (by decide) ⟨⟨rfl, rfl⟩, rfl⟩ rfl rfl ?_
  refine zq_aload_n (q := 5) G dX3_bottleneck_4 0 rfl rfl rfl ?_
  refine zq_get (q := 8) G zu_X3 rfl zw_X3_f12 dX3_bottleneck_5 0 0 rfl (by decide) ⟨⟨rfl, rfl⟩, rfl⟩ rfl rfl ?_
  obtain ⟨z1, hc1, h⟩ := zbd h
  refine zq_callVv (q := 11) (ws2 := (w_C cyI cyZ h0_0 h0_1 h0_2 h0_3 h0_4 h0_5 h0_6 h0_7 h0_8 h0_9 h0_10 h0_11 h0_12 h0_13 h0_14 h0_15 h0_16 (σ0.1, σ0.2.1, z1, σ0.2.2.2.1, σ0.2.2.2.2.1, σ0.2.2.2.2.2.1, σ0.2.2.2.2.2.2))) (isC := [7, 8, 9, 10, 11, 1, 2, 3]) (isR := [0, 4, 5, 6, 12, 13, 14, 15, 16]) (perm := [0, 14, 15, 16, 1, 2, 3, 9, 10, 11, 12, 13, 4, 5, 6, 7, 8]) (rest := []) (As := [.ref h0_1]) G zs_X3_137 dX3_bottleneck_8 (fun sz9 => c_X0_load l D cyI cyZ h0_7 h0_8 h0_9 h0_10 h0_11 h0_1 h0_2 h0_3 σ0.2.2.1 σ0.1 z1 hc1 sz9) 7 rfl rfl rfl ⟨rfl, rfl, rfl, rfl⟩ rfl (Nat.le_of_ble_eq_true rfl) ⟨Nat.le_of_ble_eq_true rfl, Nat.le_of_ble_eq_true rfl, Nat.zero_le _, Nat.zero_le _⟩ rfl ?_
  refine zq_aload_n (q := 12) G dX3_bottleneck_11 0 rfl rfl rfl ?_
  refine zq_get (q := 15) G zu_X3 rfl zw_X3_f22 dX3_bottleneck_12 0 2 rfl (by decide) ⟨⟨rfl, rfl⟩, rfl⟩ rfl rfl ?_
  obtain ⟨z2, hc2, h⟩ := zbd h
  refine zq_callVi (q := 18) (ws2 := (w_C cyI cyZ h0_0 h0_1 h0_2 h0_3 h0_4 h0_5 h0_6 h0_7 h0_8 h0_9 h0_10 h0_11 h0_12 h0_13 h0_14 h0_15 h0_16 (σ0.1, σ0.2.1, z2.2, σ0.2.2.2.1, σ0.2.2.2.2.1, σ0.2.2.2.2.2.1, σ0.2.2.2.2.2.2))) (isC := [7, 8, 9, 10, 11]) (isR := [0, 1, 2, 3, 4, 5, 6, 12, 13, 14, 15, 16]) (perm := [0, 1, 2, 3, 4, 5, 6, 12, 13, 14, 15, 16, 7, 8, 9, 10, 11]) (rest := []) (As := []) G zs_X3_170 dX3_bottleneck_15 (fun sz9 => c_X0_leastPeak l D cyI cyZ h0_7 h0_8 h0_9 h0_10 h0_11 z1 z2.1 z2.2 hc2 sz9) 7 rfl rfl rfl ⟨rfl, rfl, rfl, rfl⟩ rfl (Nat.le_of_ble_eq_true rfl) ⟨Nat.le_of_ble_eq_true rfl, Nat.le_of_ble_eq_true rfl, Nat.zero_le _, Nat.zero_le _⟩ rfl ?_
  refine zq_ws (congrArg (fun w9 => (w_C cyI cyZ h0_0 h0_1 h0_2 h0_3 h0_4 h0_5 h0_6 h0_7 h0_8 h0_9 h0_10 h0_11 h0_12 h0_13 h0_14 h0_15 h0_16 w9.2)) (zsome h)) ?_
  exact zq_iret G hlocks hr rfl dX3_bottleneck_18 (congrArg Prod.fst (zsome h))
set_option maxHeartbeats 4000000 in
set_option maxRecDepth 100000 in
theorem c_X3_fits (l : Launch) (hst : l.stackTraces = false) (D : va_G) (cyI cyZ : ClassId) (h0_0 h0_1 h0_2 h0_3 h0_4 h0_5 h0_6 h0_7 h0_8 h0_9 h0_10 h0_11 h0_12 h0_13 h0_14 h0_15 h0_16 : Nat) (σ0 : zC) (p0 : Int32) (z : Sum String Int32) (o0 : zC) (h : s_X3_fits σ0 p0 = some (z, o0)) (sz : Nat) : zXi l yX3_fits cX3_fits 4 .boolean 7 110 D cyI cyZ sz [.ref h0_0, .int p0] (w_C cyI cyZ h0_0 h0_1 h0_2 h0_3 h0_4 h0_5 h0_6 h0_7 h0_8 h0_9 h0_10 h0_11 h0_12 h0_13 h0_14 h0_15 h0_16 σ0) z (w_C cyI cyZ h0_0 h0_1 h0_2 h0_3 h0_4 h0_5 h0_6 h0_7 h0_8 h0_9 h0_10 h0_11 h0_12 h0_13 h0_14 h0_15 h0_16 o0) := by
  unfold s_X3_fits at h
  refine zstartXI (lv0 := [(0, .ref h0_0), (1, .int p0)]) (by decide) (Nat.le_of_ble_eq_true rfl) rfl (fun p e s m args below meth c G hr hlocks ht => ?_)
  have b45 : ∀ (k32 : (zC → Int32 → Int32 → Option ((Sum String Int32) × zC))) (hk32 : ∀ (τ0 : zC) (x1 : Int32) (x2 : Int32), k32 τ0 x1 x2 = some (z, o0) → zW p l e ({ frames := 7, cells := zmc z, slots := zms z, locals := 110 } : Room) s m args below meth c D (va_A (w_C cyI cyZ h0_0 h0_1 h0_2 h0_3 h0_4 h0_5 h0_6 h0_7 h0_8 h0_9 h0_10 h0_11 h0_12 h0_13 h0_14 h0_15 h0_16 σ0) sz) 4 0 0 (vx_MQ below (zQXi D cyI cyZ sz (w_C cyI cyZ h0_0 h0_1 h0_2 h0_3 h0_4 h0_5 h0_6 h0_7 h0_8 h0_9 h0_10 h0_11 h0_12 h0_13 h0_14 h0_15 h0_16 σ0) z (w_C cyI cyZ h0_0 h0_1 h0_2 h0_3 h0_4 h0_5 h0_6 h0_7 h0_8 h0_9 h0_10 h0_11 h0_12 h0_13 h0_14 h0_15 h0_16 o0)) (zXC D cyI cyZ sz (w_C cyI cyZ h0_0 h0_1 h0_2 h0_3 h0_4 h0_5 h0_6 h0_7 h0_8 h0_9 h0_10 h0_11 h0_12 h0_13 h0_14 h0_15 h0_16 σ0) z (w_C cyI cyZ h0_0 h0_1 h0_2 h0_3 h0_4 h0_5 h0_6 h0_7 h0_8 h0_9 h0_10 h0_11 h0_12 h0_13 h0_14 h0_15 h0_16 o0)) args s (zmc z) (zms z) (va_A (w_C cyI cyZ h0_0 h0_1 h0_2 h0_3 h0_4 h0_5 h0_6 h0_7 h0_8 h0_9 h0_10 h0_11 h0_12 h0_13 h0_14 h0_15 h0_16 σ0) sz)) 32 [(0, .ref h0_0), (1, .int x1), (2, .int x2)] [] (w_C cyI cyZ h0_0 h0_1 h0_2 h0_3 h0_4 h0_5 h0_6 h0_7 h0_8 h0_9 h0_10 h0_11 h0_12 h0_13 h0_14 h0_15 h0_16 τ0)) (n : Nat) (τ0 : zC) (x1 : Int32) (x2 : Int32) (x3 : Int32), s_X3_fits_45 k32 n τ0 x1 x2 x3 = some (z, o0) → zW p l e ({ frames := 7, cells := zmc z, slots := zms z, locals := 110 } : Room) s m args below meth c D (va_A (w_C cyI cyZ h0_0 h0_1 h0_2 h0_3 h0_4 h0_5 h0_6 h0_7 h0_8 h0_9 h0_10 h0_11 h0_12 h0_13 h0_14 h0_15 h0_16 σ0) sz) 4 0 0 (vx_MQ below (zQXi D cyI cyZ sz (w_C cyI cyZ h0_0 h0_1 h0_2 h0_3 h0_4 h0_5 h0_6 h0_7 h0_8 h0_9 h0_10 h0_11 h0_12 h0_13 h0_14 h0_15 h0_16 σ0) z (w_C cyI cyZ h0_0 h0_1 h0_2 h0_3 h0_4 h0_5 h0_6 h0_7 h0_8 h0_9 h0_10 h0_11 h0_12 h0_13 h0_14 h0_15 h0_16 o0)) (zXC D cyI cyZ sz (w_C cyI cyZ h0_0 h0_1 h0_2 h0_3 h0_4 h0_5 h0_6 h0_7 h0_8 h0_9 h0_10 h0_11 h0_12 h0_13 h0_14 h0_15 h0_16 σ0) z (w_C cyI cyZ h0_0 h0_1 h0_2 h0_3 h0_4 h0_5 h0_6 h0_7 h0_8 h0_9 h0_10 h0_11 h0_12 h0_13 h0_14 h0_15 h0_16 o0)) args s (zmc z) (zms z) (va_A (w_C cyI cyZ h0_0 h0_1 h0_2 h0_3 h0_4 h0_5 h0_6 h0_7 h0_8 h0_9 h0_10 h0_11 h0_12 h0_13 h0_14 h0_15 h0_16 σ0) sz)) 45 [(0, .ref h0_0), (1, .int x1), (2, .int x2), (3, .int x3)] [] (w_C cyI cyZ h0_0 h0_1 h0_2 h0_3 h0_4 h0_5 h0_6 h0_7 h0_8 h0_9 h0_10 h0_11 h0_12 h0_13 h0_14 h0_15 h0_16 τ0) := by
    intro k32 hk32
    intro n
    induction n with
    | zero => intro τ0 x1 x2 x3 h; rw [s_X3_fits_45] at h; exact nomatch h
    | succ n ih =>
      intro τ0 x1 x2 x3 h
      rw [s_X3_fits_45] at h
      refine zq_iload_n (q := 46) G dX3_fits_45 3 rfl rfl rfl ?_
      refine zq_aload_n (q := 47) G dX3_fits_46 0 rfl rfl rfl ?_
      refine zq_get (q := 50) G zu_X3 rfl zw_X3_f12 dX3_fits_47 0 0 rfl (by decide) ⟨⟨rfl, rfl⟩, rfl⟩ rfl rfl ?_
      refine zq_getN (q := 53) G zu_X1 rfl zw_X3_f83 dX3_fits_50 1 0 rfl (by decide) ⟨⟨rfl, rfl⟩, rfl⟩ rfl rfl ?_
      refine zq_icmp_ge (tgt := 89) (q := 56) G dX3_fits_53 (by decide) rfl (fun c1 => ?_) (fun c1 => ?_)
      · have h := zit h c1
        refine zq_iinc (q := 92) (v := (x2 + 1)) (lv2 := [(2, .int (x2 + 1)), (0, .ref h0_0), (1, .int x1), (3, .int x3)]) G dX3_fits_89 2 rfl rfl (by decide) rfl rfl ?_
        refine zq_goto (q := 32) G dX3_fits_92 (by decide) ?_
        exact zq_sub _ [1, 2, 0] rfl (hk32 _ _ _ h)
      · have h := zie h c1
        refine zq_aload_n (q := 57) G dX3_fits_56 0 rfl rfl rfl ?_
        refine zq_get (q := 60) G zu_X3 rfl zw_X3_f22 dX3_fits_57 0 2 rfl (by decide) ⟨⟨rfl, rfl⟩, rfl⟩ rfl rfl ?_
        refine zq_iload_n (q := 61) G dX3_fits_60 2 rfl rfl rfl ?_
        refine zq_iload_n (q := 62) G dX3_fits_61 3 rfl rfl rfl ?_
        refine zq_aload_n (q := 63) G dX3_fits_62 0 rfl rfl rfl ?_
        refine zq_get (q := 66) G zu_X3 rfl zw_X3_f12 dX3_fits_63 0 0 rfl (by decide) ⟨⟨rfl, rfl⟩, rfl⟩ rfl rfl ?_
        refine zq_iload_n (q := 67) G dX3_fits_66 2 rfl rfl rfl ?_
        refine zq_iload_n (q := 68) G dX3_fits_67 3 rfl rfl rfl ?_
        obtain ⟨z2, hc2, h⟩ := zbd h
        refine zq_callVi (q := 71) (ws2 := (w_C cyI cyZ h0_0 h0_1 h0_2 h0_3 h0_4 h0_5 h0_6 h0_7 h0_8 h0_9 h0_10 h0_11 h0_12 h0_13 h0_14 h0_15 h0_16 τ0)) (isC := [1, 2, 3]) (isR := [0, 4, 5, 6, 7, 8, 9, 10, 11, 12, 13, 14, 15, 16]) (perm := [0, 14, 15, 16, 1, 2, 3, 4, 5, 6, 7, 8, 9, 10, 11, 12, 13]) (rest := [.int x3, .int x2, .ref h0_7]) (As := [.int x2, .int x3]) G zs_X3_97 dX3_fits_68 (fun sz9 => c_X1_costOf l D cyI cyZ h0_1 h0_2 h0_3 τ0.1 x2 x3 z2 hc2 sz9) 1 rfl rfl rfl ⟨rfl, rfl, rfl, rfl⟩ rfl (Nat.le_of_ble_eq_true rfl) ⟨Nat.le_of_ble_eq_true rfl, Nat.le_of_ble_eq_true rfl, Nat.zero_le _, Nat.zero_le _⟩ rfl ?_
        refine zq_iload_n (q := 72) G dX3_fits_71 1 rfl rfl rfl ?_
        refine zq_icmp_le (tgt := 79) (q := 75) G dX3_fits_72 (by decide) rfl (fun c3 => ?_) (fun c3 => ?_)
        · have h := zit h c3
          refine zq_iconst (q := 80) (v := 0) G dX3_fits_79 (by decide) rfl ?_
          obtain ⟨z4, hc4, h⟩ := zbd h
          refine zq_callVv (q := 83) (ws2 := (w_C cyI cyZ h0_0 h0_1 h0_2 h0_3 h0_4 h0_5 h0_6 h0_7 h0_8 h0_9 h0_10 h0_11 h0_12 h0_13 h0_14 h0_15 h0_16 (τ0.1, τ0.2.1, z4, τ0.2.2.2.1, τ0.2.2.2.2.1, τ0.2.2.2.2.2.1, τ0.2.2.2.2.2.2))) (isC := [7, 8, 9, 10, 11]) (isR := [0, 1, 2, 3, 4, 5, 6, 12, 13, 14, 15, 16]) (perm := [0, 1, 2, 3, 4, 5, 6, 12, 13, 14, 15, 16, 7, 8, 9, 10, 11]) (rest := []) (As := [.int x2, .int x3, .int (0 : Int32)]) G zs_X3_159 dX3_fits_80 (fun sz9 => c_X0_putCost l D cyI cyZ h0_7 h0_8 h0_9 h0_10 h0_11 τ0.2.2.1 x2 x3 (0 : Int32) z4 hc4 sz9) 7 rfl rfl rfl ⟨rfl, rfl, rfl, rfl⟩ rfl (Nat.le_of_ble_eq_true rfl) ⟨Nat.le_of_ble_eq_true rfl, Nat.le_of_ble_eq_true rfl, Nat.zero_le _, Nat.zero_le _⟩ rfl ?_
          refine zq_iinc (q := 86) (v := (x3 + 1)) (lv2 := [(3, .int (x3 + 1)), (0, .ref h0_0), (1, .int x1), (2, .int x2)]) G dX3_fits_83 3 rfl rfl (by decide) rfl rfl ?_
          refine zq_goto (q := 45) G dX3_fits_86 (by decide) ?_
          exact zq_sub _ [1, 2, 3, 0] rfl (ih _ _ _ _ h)
        · have h := zie h c3
          refine zq_iconst (q := 76) (v := 1) G dX3_fits_75 (by decide) rfl ?_
          refine zq_goto (q := 80) G dX3_fits_76 (by decide) ?_
          obtain ⟨z5, hc5, h⟩ := zbd h
          refine zq_callVv (q := 83) (ws2 := (w_C cyI cyZ h0_0 h0_1 h0_2 h0_3 h0_4 h0_5 h0_6 h0_7 h0_8 h0_9 h0_10 h0_11 h0_12 h0_13 h0_14 h0_15 h0_16 (τ0.1, τ0.2.1, z5, τ0.2.2.2.1, τ0.2.2.2.2.1, τ0.2.2.2.2.2.1, τ0.2.2.2.2.2.2))) (isC := [7, 8, 9, 10, 11]) (isR := [0, 1, 2, 3, 4, 5, 6, 12, 13, 14, 15, 16]) (perm := [0, 1, 2, 3, 4, 5, 6, 12, 13, 14, 15, 16, 7, 8, 9, 10, 11]) (rest := []) (As := [.int x2, .int x3, .int (1 : Int32)]) G zs_X3_159 dX3_fits_80 (fun sz9 => c_X0_putCost l D cyI cyZ h0_7 h0_8 h0_9 h0_10 h0_11 τ0.2.2.1 x2 x3 (1 : Int32) z5 hc5 sz9) 7 rfl rfl rfl ⟨rfl, rfl, rfl, rfl⟩ rfl (Nat.le_of_ble_eq_true rfl) ⟨Nat.le_of_ble_eq_true rfl, Nat.le_of_ble_eq_true rfl, Nat.zero_le _, Nat.zero_le _⟩ rfl ?_
          refine zq_iinc (q := 86) (v := (x3 + 1)) (lv2 := [(3, .int (x3 + 1)), (0, .ref h0_0), (1, .int x1), (2, .int x2)]) G dX3_fits_83 3 rfl rfl (by decide) rfl rfl ?_
          refine zq_goto (q := 45) G dX3_fits_86 (by decide) ?_
          exact zq_sub _ [1, 2, 3, 0] rfl (ih _ _ _ _ h)
  have b32 : ∀ (n : Nat) (τ0 : zC) (x1 : Int32) (x2 : Int32), s_X3_fits_32 n τ0 x1 x2 = some (z, o0) → zW p l e ({ frames := 7, cells := zmc z, slots := zms z, locals := 110 } : Room) s m args below meth c D (va_A (w_C cyI cyZ h0_0 h0_1 h0_2 h0_3 h0_4 h0_5 h0_6 h0_7 h0_8 h0_9 h0_10 h0_11 h0_12 h0_13 h0_14 h0_15 h0_16 σ0) sz) 4 0 0 (vx_MQ below (zQXi D cyI cyZ sz (w_C cyI cyZ h0_0 h0_1 h0_2 h0_3 h0_4 h0_5 h0_6 h0_7 h0_8 h0_9 h0_10 h0_11 h0_12 h0_13 h0_14 h0_15 h0_16 σ0) z (w_C cyI cyZ h0_0 h0_1 h0_2 h0_3 h0_4 h0_5 h0_6 h0_7 h0_8 h0_9 h0_10 h0_11 h0_12 h0_13 h0_14 h0_15 h0_16 o0)) (zXC D cyI cyZ sz (w_C cyI cyZ h0_0 h0_1 h0_2 h0_3 h0_4 h0_5 h0_6 h0_7 h0_8 h0_9 h0_10 h0_11 h0_12 h0_13 h0_14 h0_15 h0_16 σ0) z (w_C cyI cyZ h0_0 h0_1 h0_2 h0_3 h0_4 h0_5 h0_6 h0_7 h0_8 h0_9 h0_10 h0_11 h0_12 h0_13 h0_14 h0_15 h0_16 o0)) args s (zmc z) (zms z) (va_A (w_C cyI cyZ h0_0 h0_1 h0_2 h0_3 h0_4 h0_5 h0_6 h0_7 h0_8 h0_9 h0_10 h0_11 h0_12 h0_13 h0_14 h0_15 h0_16 σ0) sz)) 32 [(0, .ref h0_0), (1, .int x1), (2, .int x2)] [] (w_C cyI cyZ h0_0 h0_1 h0_2 h0_3 h0_4 h0_5 h0_6 h0_7 h0_8 h0_9 h0_10 h0_11 h0_12 h0_13 h0_14 h0_15 h0_16 τ0) := by
    intro n
    induction n with
    | zero => intro τ0 x1 x2 h; rw [s_X3_fits_32] at h; exact nomatch h
    | succ n ih =>
      intro τ0 x1 x2 h
      rw [s_X3_fits_32] at h
      refine zq_iload_n (q := 33) G dX3_fits_32 2 rfl rfl rfl ?_
      refine zq_aload_n (q := 34) G dX3_fits_33 0 rfl rfl rfl ?_
      refine zq_get (q := 37) G zu_X3 rfl zw_X3_f12 dX3_fits_34 0 0 rfl (by decide) ⟨⟨rfl, rfl⟩, rfl⟩ rfl rfl ?_
      refine zq_getN (q := 40) G zu_X1 rfl zw_X3_f83 dX3_fits_37 1 0 rfl (by decide) ⟨⟨rfl, rfl⟩, rfl⟩ rfl rfl ?_
      refine zq_icmp_ge (tgt := 95) (q := 43) G dX3_fits_40 (by decide) rfl (fun c1 => ?_) (fun c1 => ?_)
      · have h := zit h c1
        refine zq_aload_n (q := 96) G dX3_fits_95 0 rfl rfl rfl ?_
        refine zq_get (q := 99) G zu_X3 rfl zw_X3_f22 dX3_fits_96 0 2 rfl (by decide) ⟨⟨rfl, rfl⟩, rfl⟩ rfl rfl ?_
        obtain ⟨z2, hc2, h⟩ := zbd h
        refine zq_callVi (q := 102) (ws2 := (w_C cyI cyZ h0_0 h0_1 h0_2 h0_3 h0_4 h0_5 h0_6 h0_7 h0_8 h0_9 h0_10 h0_11 h0_12 h0_13 h0_14 h0_15 h0_16 (τ0.1, τ0.2.1, z2.2, τ0.2.2.2.1, τ0.2.2.2.2.1, τ0.2.2.2.2.2.1, τ0.2.2.2.2.2.2))) (isC := [7, 8, 9, 10, 11]) (isR := [0, 1, 2, 3, 4, 5, 6, 12, 13, 14, 15, 16]) (perm := [0, 1, 2, 3, 4, 5, 6, 12, 13, 14, 15, 16, 7, 8, 9, 10, 11]) (rest := []) (As := []) G zs_X3_140 dX3_fits_99 (fun sz9 => c_X0_leastSum l D cyI cyZ h0_7 h0_8 h0_9 h0_10 h0_11 τ0.2.2.1 z2.1 z2.2 hc2 sz9) 7 rfl rfl rfl ⟨rfl, rfl, rfl, rfl⟩ rfl (Nat.le_of_ble_eq_true rfl) ⟨Nat.le_of_ble_eq_true rfl, Nat.le_of_ble_eq_true rfl, Nat.zero_le _, Nat.zero_le _⟩ rfl ?_
        refine zq_if_ne (tgt := 109) (q := 105) G dX3_fits_102 (by decide) rfl (fun c3 => ?_) (fun c3 => ?_)
        · have h := zie h c3
          refine zq_iconst (q := 110) (v := 0) G dX3_fits_109 (by decide) rfl ?_
          refine zq_ws (congrArg (fun w9 => (w_C cyI cyZ h0_0 h0_1 h0_2 h0_3 h0_4 h0_5 h0_6 h0_7 h0_8 h0_9 h0_10 h0_11 h0_12 h0_13 h0_14 h0_15 h0_16 w9.2)) (zsome h)) ?_
          exact zq_iretX G hlocks hr rfl dX3_fits_110 (congrArg Prod.fst (zsome h)).symm
        · have h := zit h c3
          refine zq_iconst (q := 106) (v := 1) G dX3_fits_105 (by decide) rfl ?_
          refine zq_goto (q := 110) G dX3_fits_106 (by decide) ?_
          refine zq_ws (congrArg (fun w9 => (w_C cyI cyZ h0_0 h0_1 h0_2 h0_3 h0_4 h0_5 h0_6 h0_7 h0_8 h0_9 h0_10 h0_11 h0_12 h0_13 h0_14 h0_15 h0_16 w9.2)) (zsome h)) ?_
          exact zq_iretX G hlocks hr rfl dX3_fits_110 (congrArg Prod.fst (zsome h)).symm
      · have h := zie h c1
        refine zq_iconst (q := 44) (v := 0) G dX3_fits_43 (by decide) rfl ?_
        refine zq_istore_n (q := 45) (lv2 := [(3, .int (0 : Int32)), (0, .ref h0_0), (1, .int x1), (2, .int x2)]) G dX3_fits_44 rfl (by decide) rfl rfl ?_
        exact zq_sub _ [1, 2, 3, 0] rfl (b45 _ ih _ _ _ _ _ h)
  refine zq_iload_n (q := 1) G dX3_fits_0 1 rfl rfl rfl ?_
  refine zq_if_lt (tgt := 11) (q := 4) G dX3_fits_1 (by decide) rfl (fun c1 => ?_) (fun c1 => ?_)
  · have h := zit h c1
    refine zq_ws (congrArg (fun w9 => (w_C cyI cyZ h0_0 h0_1 h0_2 h0_3 h0_4 h0_5 h0_6 h0_7 h0_8 h0_9 h0_10 h0_11 h0_12 h0_13 h0_14 h0_15 h0_16 w9.2)) (zsome h)) ?_
    exact zq_throw G hlocks hst ht zt_X3_43 dX3_fits_11 dX3_fits_14 dX3_fits_15 dX3_fits_18 ⟨Nat.le_of_ble_eq_true rfl, Nat.le_of_ble_eq_true rfl⟩ rfl rfl (congrArg Prod.fst (zsome h)).symm
  · have h := zie h c1
    refine zq_iload_n (q := 5) G dX3_fits_4 1 rfl rfl rfl ?_
    refine zq_sipush (q := 8) (v := 1000) G dX3_fits_5 (by decide) rfl ?_
    refine zq_icmp_le (tgt := 19) (q := 11) G dX3_fits_8 (by decide) rfl (fun c2 => ?_) (fun c2 => ?_)
    · have h := zit h c2
      refine zq_aload_n (q := 20) G dX3_fits_19 0 rfl rfl rfl ?_
      refine zq_get (q := 23) G zu_X3 rfl zw_X3_f22 dX3_fits_20 0 2 rfl (by decide) ⟨⟨rfl, rfl⟩, rfl⟩ rfl rfl ?_
      refine zq_aload_n (q := 24) G dX3_fits_23 0 rfl rfl rfl ?_
      refine zq_get (q := 27) G zu_X3 rfl zw_X3_f12 dX3_fits_24 0 0 rfl (by decide) ⟨⟨rfl, rfl⟩, rfl⟩ rfl rfl ?_
      obtain ⟨z3, hc3, h⟩ := zbd h
      refine zq_callVv (q := 30) (ws2 := (w_C cyI cyZ h0_0 h0_1 h0_2 h0_3 h0_4 h0_5 h0_6 h0_7 h0_8 h0_9 h0_10 h0_11 h0_12 h0_13 h0_14 h0_15 h0_16 (σ0.1, σ0.2.1, z3, σ0.2.2.2.1, σ0.2.2.2.2.1, σ0.2.2.2.2.2.1, σ0.2.2.2.2.2.2))) (isC := [7, 8, 9, 10, 11, 1, 2, 3]) (isR := [0, 4, 5, 6, 12, 13, 14, 15, 16]) (perm := [0, 14, 15, 16, 1, 2, 3, 9, 10, 11, 12, 13, 4, 5, 6, 7, 8]) (rest := []) (As := [.ref h0_1]) G zs_X3_137 dX3_fits_27 (fun sz9 => c_X0_load l D cyI cyZ h0_7 h0_8 h0_9 h0_10 h0_11 h0_1 h0_2 h0_3 σ0.2.2.1 σ0.1 z3 hc3 sz9) 7 rfl rfl rfl ⟨rfl, rfl, rfl, rfl⟩ rfl (Nat.le_of_ble_eq_true rfl) ⟨Nat.le_of_ble_eq_true rfl, Nat.le_of_ble_eq_true rfl, Nat.zero_le _, Nat.zero_le _⟩ rfl ?_
      refine zq_iconst (q := 31) (v := 0) G dX3_fits_30 (by decide) rfl ?_
      refine zq_istore_n (q := 32) (lv2 := [(2, .int (0 : Int32)), (0, .ref h0_0), (1, .int p0)]) G dX3_fits_31 rfl (by decide) rfl rfl ?_
      exact zq_sub _ [1, 2, 0] rfl (b32  _ _ _ _ h)
    · have h := zie h c2
      refine zq_ws (congrArg (fun w9 => (w_C cyI cyZ h0_0 h0_1 h0_2 h0_3 h0_4 h0_5 h0_6 h0_7 h0_8 h0_9 h0_10 h0_11 h0_12 h0_13 h0_14 h0_15 h0_16 w9.2)) (zsome h)) ?_
      exact zq_throw G hlocks hst ht zt_X3_43 dX3_fits_11 dX3_fits_14 dX3_fits_15 dX3_fits_18 ⟨Nat.le_of_ble_eq_true rfl, Nat.le_of_ble_eq_true rfl⟩ rfl rfl (congrArg Prod.fst (zsome h)).symm
set_option maxHeartbeats 4000000 in
set_option maxRecDepth 100000 in
theorem c_X3_countWithin (l : Launch) (hst : l.stackTraces = false) (D : va_G) (cyI cyZ : ClassId) (h0_0 h0_1 h0_2 h0_3 h0_4 h0_5 h0_6 h0_7 h0_8 h0_9 h0_10 h0_11 h0_12 h0_13 h0_14 h0_15 h0_16 : Nat) (σ0 : zC) (p0 : Int32) (z : Sum String Int32) (o0 : zC) (h : s_X3_countWithin σ0 p0 = some (z, o0)) (sz : Nat) : zXi l yX3_countWithin cX3_countWithin 2 .int 14 360 D cyI cyZ sz [.ref h0_0, .int p0] (w_C cyI cyZ h0_0 h0_1 h0_2 h0_3 h0_4 h0_5 h0_6 h0_7 h0_8 h0_9 h0_10 h0_11 h0_12 h0_13 h0_14 h0_15 h0_16 σ0) z (w_C cyI cyZ h0_0 h0_1 h0_2 h0_3 h0_4 h0_5 h0_6 h0_7 h0_8 h0_9 h0_10 h0_11 h0_12 h0_13 h0_14 h0_15 h0_16 o0) := by
  unfold s_X3_countWithin at h
  refine zstartXI (lv0 := [(0, .ref h0_0), (1, .int p0)]) (by decide) (Nat.le_of_ble_eq_true rfl) rfl (fun p e s m args below meth c G hr hlocks ht => ?_)
  refine zq_iload_n (q := 1) G dX3_countWithin_0 1 rfl rfl rfl ?_
  refine zq_if_lt (tgt := 11) (q := 4) G dX3_countWithin_1 (by decide) rfl (fun c1 => ?_) (fun c1 => ?_)
  · have h := zit h c1
    refine zq_ws (congrArg (fun w9 => (w_C cyI cyZ h0_0 h0_1 h0_2 h0_3 h0_4 h0_5 h0_6 h0_7 h0_8 h0_9 h0_10 h0_11 h0_12 h0_13 h0_14 h0_15 h0_16 w9.2)) (zsome h)) ?_
    exact zq_throw G hlocks hst ht zt_X3_43 dX3_countWithin_11 dX3_countWithin_14 dX3_countWithin_15 dX3_countWithin_18 ⟨Nat.le_of_ble_eq_true rfl, Nat.le_of_ble_eq_true rfl⟩ rfl rfl (congrArg Prod.fst (zsome h)).symm
  · have h := zie h c1
    refine zq_iload_n (q := 5) G dX3_countWithin_4 1 rfl rfl rfl ?_
    refine zq_sipush (q := 8) (v := 7000) G dX3_countWithin_5 (by decide) rfl ?_
    refine zq_icmp_le (tgt := 19) (q := 11) G dX3_countWithin_8 (by decide) rfl (fun c2 => ?_) (fun c2 => ?_)
    · have h := zit h c2
      refine zq_aload_n (q := 20) G dX3_countWithin_19 0 rfl rfl rfl ?_
      refine zq_get (q := 23) G zu_X3 rfl zw_X3_f22 dX3_countWithin_20 0 2 rfl (by decide) ⟨⟨rfl, rfl⟩, rfl⟩ rfl rfl ?_
      refine zq_aload_n (q := 24) G dX3_countWithin_23 0 rfl rfl rfl ?_
      refine zq_get (q := 27) G zu_X3 rfl zw_X3_f12 dX3_countWithin_24 0 0 rfl (by decide) ⟨⟨rfl, rfl⟩, rfl⟩ rfl rfl ?_
      obtain ⟨z3, hc3, h⟩ := zbd h
      refine zq_callVv (q := 30) (ws2 := (w_C cyI cyZ h0_0 h0_1 h0_2 h0_3 h0_4 h0_5 h0_6 h0_7 h0_8 h0_9 h0_10 h0_11 h0_12 h0_13 h0_14 h0_15 h0_16 (σ0.1, σ0.2.1, z3, σ0.2.2.2.1, σ0.2.2.2.2.1, σ0.2.2.2.2.2.1, σ0.2.2.2.2.2.2))) (isC := [7, 8, 9, 10, 11, 1, 2, 3]) (isR := [0, 4, 5, 6, 12, 13, 14, 15, 16]) (perm := [0, 14, 15, 16, 1, 2, 3, 9, 10, 11, 12, 13, 4, 5, 6, 7, 8]) (rest := []) (As := [.ref h0_1]) G zs_X3_137 dX3_countWithin_27 (fun sz9 => c_X0_load l D cyI cyZ h0_7 h0_8 h0_9 h0_10 h0_11 h0_1 h0_2 h0_3 σ0.2.2.1 σ0.1 z3 hc3 sz9) 7 rfl rfl rfl ⟨rfl, rfl, rfl, rfl⟩ rfl (Nat.le_of_ble_eq_true rfl) ⟨Nat.le_of_ble_eq_true rfl, Nat.le_of_ble_eq_true rfl, Nat.zero_le _, Nat.zero_le _⟩ rfl ?_
      refine zq_aload_n (q := 31) G dX3_countWithin_30 0 rfl rfl rfl ?_
      refine zq_get (q := 34) G zu_X3 rfl zw_X3_f22 dX3_countWithin_31 0 2 rfl (by decide) ⟨⟨rfl, rfl⟩, rfl⟩ rfl rfl ?_
      obtain ⟨z4, hc4, h⟩ := zbd h
      refine zq_callVi (q := 37) (ws2 := (w_C cyI cyZ h0_0 h0_1 h0_2 h0_3 h0_4 h0_5 h0_6 h0_7 h0_8 h0_9 h0_10 h0_11 h0_12 h0_13 h0_14 h0_15 h0_16 (σ0.1, σ0.2.1, z4.2, σ0.2.2.2.1, σ0.2.2.2.2.1, σ0.2.2.2.2.2.1, σ0.2.2.2.2.2.2))) (isC := [7, 8, 9, 10, 11]) (isR := [0, 1, 2, 3, 4, 5, 6, 12, 13, 14, 15, 16]) (perm := [0, 1, 2, 3, 4, 5, 6, 12, 13, 14, 15, 16, 7, 8, 9, 10, 11]) (rest := []) (As := []) G zs_X3_140 dX3_countWithin_34 (fun sz9 => c_X0_leastSum l D cyI cyZ h0_7 h0_8 h0_9 h0_10 h0_11 z3 z4.1 z4.2 hc4 sz9) 7 rfl rfl rfl ⟨rfl, rfl, rfl, rfl⟩ rfl (Nat.le_of_ble_eq_true rfl) ⟨Nat.le_of_ble_eq_true rfl, Nat.le_of_ble_eq_true rfl, Nat.zero_le _, Nat.zero_le _⟩ rfl ?_
      refine zq_pop (q := 38) G dX3_countWithin_37 rfl rfl ?_
      refine zq_aload_n (q := 39) G dX3_countWithin_38 0 rfl rfl rfl ?_
      refine zq_get (q := 42) G zu_X3 rfl zw_X3_f22 dX3_countWithin_39 0 2 rfl (by decide) ⟨⟨rfl, rfl⟩, rfl⟩ rfl rfl ?_
      obtain ⟨z5, hc5, h⟩ := zbd h
      refine zq_callVi (q := 45) (ws2 := (w_C cyI cyZ h0_0 h0_1 h0_2 h0_3 h0_4 h0_5 h0_6 h0_7 h0_8 h0_9 h0_10 h0_11 h0_12 h0_13 h0_14 h0_15 h0_16 (σ0.1, σ0.2.1, z5.2, σ0.2.2.2.1, σ0.2.2.2.2.1, σ0.2.2.2.2.2.1, σ0.2.2.2.2.2.2))) (isC := [7, 8, 9, 10, 11]) (isR := [0, 1, 2, 3, 4, 5, 6, 12, 13, 14, 15, 16]) (perm := [0, 1, 2, 3, 4, 5, 6, 12, 13, 14, 15, 16, 7, 8, 9, 10, 11]) (rest := []) (As := []) G zs_X3_167 dX3_countWithin_42 (fun sz9 => c_X0_greatestSum l D cyI cyZ h0_7 h0_8 h0_9 h0_10 h0_11 z4.2 z5.1 z5.2 hc5 sz9) 7 rfl rfl rfl ⟨rfl, rfl, rfl, rfl⟩ rfl (Nat.le_of_ble_eq_true rfl) ⟨Nat.le_of_ble_eq_true rfl, Nat.le_of_ble_eq_true rfl, Nat.zero_le _, Nat.zero_le _⟩ rfl ?_
      refine zq_pop (q := 46) G dX3_countWithin_45 rfl rfl ?_
      refine zq_aload_n (q := 47) G dX3_countWithin_46 0 rfl rfl rfl ?_
      refine zq_get (q := 50) G zu_X3 rfl zw_X3_f22 dX3_countWithin_47 0 2 rfl (by decide) ⟨⟨rfl, rfl⟩, rfl⟩ rfl rfl ?_
      refine zq_iconst (q := 51) (v := 0) G dX3_countWithin_50 (by decide) rfl ?_
      refine zq_iconst (q := 52) (v := 0) G dX3_countWithin_51 (by decide) rfl ?_
      refine zq_iload_n (q := 53) G dX3_countWithin_52 1 rfl rfl rfl ?_
      obtain ⟨z6, hc6, h⟩ := zbd h
      refine zq_callNi (q := 56) (ws2 := (w_C cyI cyZ h0_0 h0_1 h0_2 h0_3 h0_4 h0_5 h0_6 h0_7 h0_8 h0_9 h0_10 h0_11 h0_12 h0_13 h0_14 h0_15 h0_16 (σ0.1, σ0.2.1, z5.2, σ0.2.2.2.1, σ0.2.2.2.2.1, σ0.2.2.2.2.2.1, σ0.2.2.2.2.2.2))) (isC := [7, 8, 9, 10, 11]) (isR := [0, 1, 2, 3, 4, 5, 6, 12, 13, 14, 15, 16]) (perm := [0, 1, 2, 3, 4, 5, 6, 12, 13, 14, 15, 16, 7, 8, 9, 10, 11]) (rest := []) (As := [.ref h0_7, .int (0 : Int32), .int (0 : Int32), .int p0]) G zs_X3_173 dX3_countWithin_53 (fun sz9 => c_X0_countFrom l 12 D cyI cyZ h0_7 h0_8 h0_9 h0_10 h0_11 z5.2 (0 : Int32) (0 : Int32) p0 z6 hc6 sz9) rfl ⟨rfl, rfl, rfl, rfl⟩ rfl (Nat.le_of_ble_eq_true rfl) ⟨Nat.le_of_ble_eq_true rfl, Nat.le_of_ble_eq_true rfl, Nat.zero_le _, Nat.zero_le _⟩ rfl ?_
      refine zq_ws (congrArg (fun w9 => (w_C cyI cyZ h0_0 h0_1 h0_2 h0_3 h0_4 h0_5 h0_6 h0_7 h0_8 h0_9 h0_10 h0_11 h0_12 h0_13 h0_14 h0_15 h0_16 w9.2)) (zsome h)) ?_
      exact zq_iretX G hlocks hr rfl dX3_countWithin_56 (congrArg Prod.fst (zsome h)).symm
    · have h := zie h c2
      refine zq_ws (congrArg (fun w9 => (w_C cyI cyZ h0_0 h0_1 h0_2 h0_3 h0_4 h0_5 h0_6 h0_7 h0_8 h0_9 h0_10 h0_11 h0_12 h0_13 h0_14 h0_15 h0_16 w9.2)) (zsome h)) ?_
      exact zq_throw G hlocks hst ht zt_X3_43 dX3_countWithin_11 dX3_countWithin_14 dX3_countWithin_15 dX3_countWithin_18 ⟨Nat.le_of_ble_eq_true rfl, Nat.le_of_ble_eq_true rfl⟩ rfl rfl (congrArg Prod.fst (zsome h)).symm
set_option maxHeartbeats 4000000 in
set_option maxRecDepth 100000 in
theorem c_X3_sumOf (l : Launch) (hst : l.stackTraces = false) (D : va_G) (cyI cyZ : ClassId) (h0_0 h0_1 h0_2 h0_3 h0_4 h0_5 h0_6 h0_7 h0_8 h0_9 h0_10 h0_11 h0_12 h0_13 h0_14 h0_15 h0_16 : Nat) (σ0 : zC) (p0 : Int32) (z : Sum String Int32) (h : s_X3_sumOf σ0 p0 = some z) (sz : Nat) : zXi l yX3_sumOf cX3_sumOf 7 .int 7 110 D cyI cyZ sz [.ref h0_0, .int p0] (w_C cyI cyZ h0_0 h0_1 h0_2 h0_3 h0_4 h0_5 h0_6 h0_7 h0_8 h0_9 h0_10 h0_11 h0_12 h0_13 h0_14 h0_15 h0_16 σ0) z (w_C cyI cyZ h0_0 h0_1 h0_2 h0_3 h0_4 h0_5 h0_6 h0_7 h0_8 h0_9 h0_10 h0_11 h0_12 h0_13 h0_14 h0_15 h0_16 σ0) := by
  unfold s_X3_sumOf at h
  refine zstartXI (lv0 := [(0, .ref h0_0), (1, .int p0)]) (by decide) (Nat.le_of_ble_eq_true rfl) rfl (fun p e s m args below meth c G hr hlocks ht => ?_)
  have b18 : ∀ (n : Nat) (x2 : Int32) (x3 : Int32) (x4 : Int32) (x5 : Int32), s_X3_sumOf_18 n σ0 x2 x3 x4 x5 = some z → zW p l e ({ frames := 7, cells := zmc z, slots := zms z, locals := 110 } : Room) s m args below meth c D (va_A (w_C cyI cyZ h0_0 h0_1 h0_2 h0_3 h0_4 h0_5 h0_6 h0_7 h0_8 h0_9 h0_10 h0_11 h0_12 h0_13 h0_14 h0_15 h0_16 σ0) sz) 7 0 0 (vx_MQ below (zQXi D cyI cyZ sz (w_C cyI cyZ h0_0 h0_1 h0_2 h0_3 h0_4 h0_5 h0_6 h0_7 h0_8 h0_9 h0_10 h0_11 h0_12 h0_13 h0_14 h0_15 h0_16 σ0) z (w_C cyI cyZ h0_0 h0_1 h0_2 h0_3 h0_4 h0_5 h0_6 h0_7 h0_8 h0_9 h0_10 h0_11 h0_12 h0_13 h0_14 h0_15 h0_16 σ0)) (zXC D cyI cyZ sz (w_C cyI cyZ h0_0 h0_1 h0_2 h0_3 h0_4 h0_5 h0_6 h0_7 h0_8 h0_9 h0_10 h0_11 h0_12 h0_13 h0_14 h0_15 h0_16 σ0) z (w_C cyI cyZ h0_0 h0_1 h0_2 h0_3 h0_4 h0_5 h0_6 h0_7 h0_8 h0_9 h0_10 h0_11 h0_12 h0_13 h0_14 h0_15 h0_16 σ0)) args s (zmc z) (zms z) (va_A (w_C cyI cyZ h0_0 h0_1 h0_2 h0_3 h0_4 h0_5 h0_6 h0_7 h0_8 h0_9 h0_10 h0_11 h0_12 h0_13 h0_14 h0_15 h0_16 σ0) sz)) 18 [(0, .ref h0_0), (2, .int x2), (3, .int x3), (4, .int x4), (5, .int x5)] [] (w_C cyI cyZ h0_0 h0_1 h0_2 h0_3 h0_4 h0_5 h0_6 h0_7 h0_8 h0_9 h0_10 h0_11 h0_12 h0_13 h0_14 h0_15 h0_16 σ0) := by
    intro n
    induction n with
    | zero => intro x2 x3 x4 x5 h; rw [s_X3_sumOf_18] at h; exact nomatch h
    | succ n ih =>
      intro x2 x3 x4 x5 h
      rw [s_X3_sumOf_18] at h
      refine zq_iload (q := 20) G dX3_sumOf_18 4 rfl rfl ?_
      refine zq_if_lt (tgt := 91) (q := 23) G dX3_sumOf_20 (by decide) rfl (fun c1 => ?_) (fun c1 => ?_)
      · have h := zit h c1
        refine zq_iload_n (q := 92) G dX3_sumOf_91 1 rfl rfl rfl ?_
        refine zq_if_eq (tgt := 103) (q := 95) G dX3_sumOf_92 (by decide) rfl (fun c2 => ?_) (fun c2 => ?_)
        · have h := zit h c2
          refine zq_iload (q := 105) G dX3_sumOf_103 3 rfl rfl ?_
          exact zq_iretX G hlocks hr rfl dX3_sumOf_105 (zsome h).symm
        · have h := zie h c2
          exact zq_throw G hlocks hst ht zt_X3_43 dX3_sumOf_95 dX3_sumOf_98 dX3_sumOf_99 dX3_sumOf_102 ⟨Nat.le_of_ble_eq_true rfl, Nat.le_of_ble_eq_true rfl⟩ rfl rfl (zsome h).symm
      · have h := zie h c1
        refine zq_iload_n (q := 24) G dX3_sumOf_23 1 rfl rfl rfl ?_
        refine zq_bipush (q := 26) (v := 10) G dX3_sumOf_24 (by decide) rfl ?_
        refine zq_irem (q := 27) G dX3_sumOf_26 (by decide) rfl ?_
        refine zq_iconst (q := 28) (v := 1) G dX3_sumOf_27 (by decide) rfl ?_
        refine zq_isub (q := 29) G dX3_sumOf_28 rfl ?_
        refine zq_istore (q := 31) (lv2 := [(6, .int ((x2 - x2 / (10 : Int32) * (10 : Int32)) - (1 : Int32))), (0, .ref h0_0), (2, .int x2), (3, .int x3), (4, .int x4), (5, .int x5)]) G dX3_sumOf_29 (by decide) rfl rfl ?_
        refine zq_iload_n (q := 32) G dX3_sumOf_31 2 rfl rfl rfl ?_
        refine zq_bipush (q := 34) (v := 10) G dX3_sumOf_32 (by decide) rfl ?_
        refine zq_idiv (q := 35) G dX3_sumOf_34 (by decide) rfl ?_
        refine zq_istore_n (q := 36) (lv2 := [(2, .int (x2 / (10 : Int32))), (6, .int ((x2 - x2 / (10 : Int32) * (10 : Int32)) - (1 : Int32))), (0, .ref h0_0), (3, .int x3), (4, .int x4), (5, .int x5)]) G dX3_sumOf_35 rfl (by decide) rfl rfl ?_
        refine zq_aload_n (q := 37) G dX3_sumOf_36 2 rfl rfl rfl ?_
        refine zq_iload (q := 39) G dX3_sumOf_37 1 rfl rfl ?_
        obtain ⟨z3, hc3, h⟩ := zbd h
        refine zq_callVi (q := 42) (ws2 := (w_C cyI cyZ h0_0 h0_1 h0_2 h0_3 h0_4 h0_5 h0_6 h0_7 h0_8 h0_9 h0_10 h0_11 h0_12 h0_13 h0_14 h0_15 h0_16 σ0)) (isC := [0, 1, 2, 3, 4, 5, 6, 7, 8, 9, 10, 11, 12, 13, 14, 15, 16]) (isR := []) (perm := [0, 1, 2, 3, 4, 5, 6, 7, 8, 9, 10, 11, 12, 13, 14, 15, 16]) (rest := []) (As := [.int ((x2 - x2 / (10 : Int32) * (10 : Int32)) - (1 : Int32))]) G zs_X3_177 dX3_sumOf_39 (fun sz9 => c_X3_isColumn l D cyI cyZ h0_0 h0_1 h0_2 h0_3 h0_4 h0_5 h0_6 h0_7 h0_8 h0_9 h0_10 h0_11 h0_12 h0_13 h0_14 h0_15 h0_16 σ0 ((x2 - x2 / (10 : Int32) * (10 : Int32)) - (1 : Int32)) z3 hc3 sz9) 0 rfl rfl rfl ⟨rfl, rfl, rfl, rfl⟩ rfl (Nat.le_of_ble_eq_true rfl) ⟨Nat.le_of_ble_eq_true rfl, Nat.le_of_ble_eq_true rfl, Nat.zero_le _, Nat.zero_le _⟩ rfl ?_
        refine zq_if_eq (tgt := 54) (q := 45) G dX3_sumOf_42 (by decide) rfl (fun c4 => ?_) (fun c4 => ?_)
        · have h := zit h c4
          exact zq_throw G hlocks hst ht zt_X3_43 dX3_sumOf_54 dX3_sumOf_57 dX3_sumOf_58 dX3_sumOf_61 ⟨Nat.le_of_ble_eq_true rfl, Nat.le_of_ble_eq_true rfl⟩ rfl rfl (zsome h).symm
        · have h := zie h c4
          refine zq_iload_n (q := 46) G dX3_sumOf_45 3 rfl rfl rfl ?_
          refine zq_iload (q := 48) G dX3_sumOf_46 1 rfl rfl ?_
          refine zq_ishr (q := 49) G dX3_sumOf_48 rfl ?_
          refine zq_iconst (q := 50) (v := 1) G dX3_sumOf_49 (by decide) rfl ?_
          refine zq_iand (q := 51) G dX3_sumOf_50 rfl ?_
          refine zq_if_eq (tgt := 62) (q := 54) G dX3_sumOf_51 (by decide) rfl (fun c5 => ?_) (fun c5 => ?_)
          · have h := zit h c5
            refine zq_iload_n (q := 63) G dX3_sumOf_62 3 rfl rfl rfl ?_
            refine zq_iconst (q := 64) (v := 1) G dX3_sumOf_63 (by decide) rfl ?_
            refine zq_iload (q := 66) G dX3_sumOf_64 1 rfl rfl ?_
            refine zq_ishl (q := 67) G dX3_sumOf_66 rfl ?_
            refine zq_ior (q := 68) G dX3_sumOf_67 rfl ?_
            refine zq_istore_n (q := 69) (lv2 := [(3, .int (x3 ||| ((1 : Int32) <<< (((x2 - x2 / (10 : Int32) * (10 : Int32)) - (1 : Int32)) &&& 31)))), (2, .int (x2 / (10 : Int32))), (6, .int ((x2 - x2 / (10 : Int32) * (10 : Int32)) - (1 : Int32))), (0, .ref h0_0), (4, .int x4), (5, .int x5)]) G dX3_sumOf_68 rfl (by decide) rfl rfl ?_
            refine zq_iload (q := 71) G dX3_sumOf_69 4 rfl rfl ?_
            refine zq_aload_n (q := 72) G dX3_sumOf_71 3 rfl rfl rfl ?_
            refine zq_get (q := 75) G zu_X3 rfl zw_X3_f12 dX3_sumOf_72 0 0 rfl (by decide) ⟨⟨rfl, rfl⟩, rfl⟩ rfl rfl ?_
            refine zq_iload (q := 77) G dX3_sumOf_75 5 rfl rfl ?_
            refine zq_iload (q := 79) G dX3_sumOf_77 2 rfl rfl ?_
            obtain ⟨z6, hc6, h⟩ := zbd h
            refine zq_callVi (q := 82) (ws2 := (w_C cyI cyZ h0_0 h0_1 h0_2 h0_3 h0_4 h0_5 h0_6 h0_7 h0_8 h0_9 h0_10 h0_11 h0_12 h0_13 h0_14 h0_15 h0_16 σ0)) (isC := [1, 2, 3]) (isR := [0, 4, 5, 6, 7, 8, 9, 10, 11, 12, 13, 14, 15, 16]) (perm := [0, 14, 15, 16, 1, 2, 3, 4, 5, 6, 7, 8, 9, 10, 11, 12, 13]) (rest := [.int x4]) (As := [.int x5, .int ((x2 - x2 / (10 : Int32) * (10 : Int32)) - (1 : Int32))]) G zs_X3_97 dX3_sumOf_79 (fun sz9 => c_X1_costOf l D cyI cyZ h0_1 h0_2 h0_3 σ0.1 x5 ((x2 - x2 / (10 : Int32) * (10 : Int32)) - (1 : Int32)) z6 hc6 sz9) 1 rfl rfl rfl ⟨rfl, rfl, rfl, rfl⟩ rfl (Nat.le_of_ble_eq_true rfl) ⟨Nat.le_of_ble_eq_true rfl, Nat.le_of_ble_eq_true rfl, Nat.zero_le _, Nat.zero_le _⟩ rfl ?_
            refine zq_iadd (q := 83) G dX3_sumOf_82 rfl ?_
            refine zq_istore (q := 85) (lv2 := [(4, .int (x4 + z6)), (3, .int (x3 ||| ((1 : Int32) <<< (((x2 - x2 / (10 : Int32) * (10 : Int32)) - (1 : Int32)) &&& 31)))), (2, .int (x2 / (10 : Int32))), (6, .int ((x2 - x2 / (10 : Int32) * (10 : Int32)) - (1 : Int32))), (0, .ref h0_0), (5, .int x5)]) G dX3_sumOf_83 (by decide) rfl rfl ?_
            refine zq_iinc (q := 88) (v := (x5 + (-1))) (lv2 := [(5, .int (x5 + (-1))), (4, .int (x4 + z6)), (3, .int (x3 ||| ((1 : Int32) <<< (((x2 - x2 / (10 : Int32) * (10 : Int32)) - (1 : Int32)) &&& 31)))), (2, .int (x2 / (10 : Int32))), (6, .int ((x2 - x2 / (10 : Int32) * (10 : Int32)) - (1 : Int32))), (0, .ref h0_0)]) G dX3_sumOf_85 5 rfl rfl (by decide) rfl rfl ?_
            refine zq_goto (q := 18) G dX3_sumOf_88 (by decide) ?_
            exact zq_sub _ [5, 3, 2, 1, 0] rfl (ih _ _ _ _ h)
          · have h := zie h c5
            exact zq_throw G hlocks hst ht zt_X3_43 dX3_sumOf_54 dX3_sumOf_57 dX3_sumOf_58 dX3_sumOf_61 ⟨Nat.le_of_ble_eq_true rfl, Nat.le_of_ble_eq_true rfl⟩ rfl rfl (zsome h).symm
  refine zq_iload_n (q := 1) G dX3_sumOf_0 1 rfl rfl rfl ?_
  refine zq_istore_n (q := 2) (lv2 := [(2, .int p0), (0, .ref h0_0), (1, .int p0)]) G dX3_sumOf_1 rfl (by decide) rfl rfl ?_
  refine zq_iconst (q := 3) (v := 0) G dX3_sumOf_2 (by decide) rfl ?_
  refine zq_istore_n (q := 4) (lv2 := [(3, .int (0 : Int32)), (2, .int p0), (0, .ref h0_0), (1, .int p0)]) G dX3_sumOf_3 rfl (by decide) rfl rfl ?_
  refine zq_iconst (q := 5) (v := 0) G dX3_sumOf_4 (by decide) rfl ?_
  refine zq_istore (q := 7) (lv2 := [(4, .int (0 : Int32)), (3, .int (0 : Int32)), (2, .int p0), (0, .ref h0_0), (1, .int p0)]) G dX3_sumOf_5 (by decide) rfl rfl ?_
  refine zq_aload_n (q := 8) G dX3_sumOf_7 3 rfl rfl rfl ?_
  refine zq_get (q := 11) G zu_X3 rfl zw_X3_f12 dX3_sumOf_8 0 0 rfl (by decide) ⟨⟨rfl, rfl⟩, rfl⟩ rfl rfl ?_
  refine zq_getN (q := 14) G zu_X1 rfl zw_X3_f83 dX3_sumOf_11 1 0 rfl (by decide) ⟨⟨rfl, rfl⟩, rfl⟩ rfl rfl ?_
  refine zq_iconst (q := 15) (v := 1) G dX3_sumOf_14 (by decide) rfl ?_
  refine zq_isub (q := 16) G dX3_sumOf_15 rfl ?_
  refine zq_istore (q := 18) (lv2 := [(5, .int (σ0.1.1 - (1 : Int32))), (4, .int (0 : Int32)), (3, .int (0 : Int32)), (2, .int p0), (0, .ref h0_0), (1, .int p0)]) G dX3_sumOf_16 (by decide) rfl rfl ?_
  exact zq_sub _ [4, 3, 2, 1, 0] rfl (b18  _ _ _ _ _ h)
set_option maxHeartbeats 4000000 in
set_option maxRecDepth 100000 in
theorem c_X3_startEnumeration (l : Launch) (hst : l.stackTraces = false) (D : va_G) (cyI cyZ : ClassId) (h0_0 h0_1 h0_2 h0_3 h0_4 h0_5 h0_6 h0_7 h0_8 h0_9 h0_10 h0_11 h0_12 h0_13 h0_14 h0_15 h0_16 : Nat) (σ0 : zC) (z : Sum String Int32) (o0 : zC) (h : s_X3_startEnumeration σ0 = some (z, o0)) (sz : Nat) : zXi l yX3_startEnumeration cX3_startEnumeration 1 .int 17 424 D cyI cyZ sz [.ref h0_0] (w_C cyI cyZ h0_0 h0_1 h0_2 h0_3 h0_4 h0_5 h0_6 h0_7 h0_8 h0_9 h0_10 h0_11 h0_12 h0_13 h0_14 h0_15 h0_16 σ0) z (w_C cyI cyZ h0_0 h0_1 h0_2 h0_3 h0_4 h0_5 h0_6 h0_7 h0_8 h0_9 h0_10 h0_11 h0_12 h0_13 h0_14 h0_15 h0_16 o0) := by
  unfold s_X3_startEnumeration at h
  refine zstartXI (lv0 := [(0, .ref h0_0)]) (by decide) (Nat.le_of_ble_eq_true rfl) rfl (fun p e s m args below meth c G hr hlocks ht => ?_)
  refine zq_aload_n (q := 1) G dX3_startEnumeration_0 0 rfl rfl rfl ?_
  refine zq_get (q := 4) G zu_X3 rfl zw_X3_f12 dX3_startEnumeration_1 0 0 rfl (by decide) ⟨⟨rfl, rfl⟩, rfl⟩ rfl rfl ?_
  refine zq_getN (q := 7) G zu_X1 rfl zw_X3_f83 dX3_startEnumeration_4 1 0 rfl (by decide) ⟨⟨rfl, rfl⟩, rfl⟩ rfl rfl ?_
  refine zq_bipush (q := 9) (v := 6) G dX3_startEnumeration_7 (by decide) rfl ?_
  refine zq_icmp_le (tgt := 20) (q := 12) G dX3_startEnumeration_9 (by decide) rfl (fun c1 => ?_) (fun c1 => ?_)
  · have h := zit h c1
    refine zq_aload_n (q := 21) G dX3_startEnumeration_20 0 rfl rfl rfl ?_
    refine zq_get (q := 24) G zu_X3 rfl zw_X3_f39 dX3_startEnumeration_21 0 6 rfl (by decide) ⟨⟨rfl, rfl⟩, rfl⟩ rfl rfl ?_
    refine zq_aload_n (q := 25) G dX3_startEnumeration_24 0 rfl rfl rfl ?_
    refine zq_get (q := 28) G zu_X3 rfl zw_X3_f12 dX3_startEnumeration_25 0 0 rfl (by decide) ⟨⟨rfl, rfl⟩, rfl⟩ rfl rfl ?_
    obtain ⟨z2, hc2, h⟩ := zbd h
    refine zq_callVv (q := 31) (ws2 := (w_C cyI cyZ h0_0 h0_1 h0_2 h0_3 h0_4 h0_5 h0_6 h0_7 h0_8 h0_9 h0_10 h0_11 h0_12 h0_13 h0_14 h0_15 h0_16 (σ0.1, σ0.2.1, σ0.2.2.1, σ0.2.2.2.1, σ0.2.2.2.2.1, σ0.2.2.2.2.2.1, z2))) (isC := [15, 16, 1, 2, 3]) (isR := [0, 4, 5, 6, 7, 8, 9, 10, 11, 12, 13, 14]) (perm := [0, 14, 15, 16, 1, 2, 3, 4, 5, 6, 7, 8, 9, 10, 11, 12, 13]) (rest := []) (As := [.ref h0_1]) G zs_X3_184 dX3_startEnumeration_28 (fun sz9 => c_X2_begin l D cyI cyZ h0_15 h0_16 h0_1 h0_2 h0_3 σ0.2.2.2.2.2.2 σ0.1 z2 hc2 sz9) 15 rfl rfl rfl ⟨rfl, rfl, rfl, rfl⟩ rfl (Nat.le_of_ble_eq_true rfl) ⟨Nat.le_of_ble_eq_true rfl, Nat.le_of_ble_eq_true rfl, Nat.zero_le _, Nat.zero_le _⟩ rfl ?_
    refine zq_aload_n (q := 32) G dX3_startEnumeration_31 0 rfl rfl rfl ?_
    refine zq_get (q := 35) G zu_X3 rfl zw_X3_f39 dX3_startEnumeration_32 0 6 rfl (by decide) ⟨⟨rfl, rfl⟩, rfl⟩ rfl rfl ?_
    refine zq_getN (q := 38) G zu_X2 rfl zw_X3_f187 dX3_startEnumeration_35 15 3 rfl (by decide) ⟨⟨rfl, rfl⟩, rfl⟩ rfl rfl ?_
    refine zq_ws (congrArg (fun w9 => (w_C cyI cyZ h0_0 h0_1 h0_2 h0_3 h0_4 h0_5 h0_6 h0_7 h0_8 h0_9 h0_10 h0_11 h0_12 h0_13 h0_14 h0_15 h0_16 w9.2)) (zsome h)) ?_
    exact zq_iretX G hlocks hr rfl dX3_startEnumeration_38 (congrArg Prod.fst (zsome h)).symm
  · have h := zie h c1
    refine zq_ws (congrArg (fun w9 => (w_C cyI cyZ h0_0 h0_1 h0_2 h0_3 h0_4 h0_5 h0_6 h0_7 h0_8 h0_9 h0_10 h0_11 h0_12 h0_13 h0_14 h0_15 h0_16 w9.2)) (zsome h)) ?_
    exact zq_throw G hlocks hst ht zt_X3_181 dX3_startEnumeration_12 dX3_startEnumeration_15 dX3_startEnumeration_16 dX3_startEnumeration_19 ⟨Nat.le_of_ble_eq_true rfl, Nat.le_of_ble_eq_true rfl⟩ rfl rfl (congrArg Prod.fst (zsome h)).symm
set_option maxHeartbeats 4000000 in
set_option maxRecDepth 100000 in
theorem c_X3_nextSum (l : Launch) (hst : l.stackTraces = false) (D : va_G) (cyI cyZ : ClassId) (h0_0 h0_1 h0_2 h0_3 h0_4 h0_5 h0_6 h0_7 h0_8 h0_9 h0_10 h0_11 h0_12 h0_13 h0_14 h0_15 h0_16 : Nat) (σ0 : zC) (z : Sum String Int32) (o0 : zC) (h : s_X3_nextSum σ0 = some (z, o0)) (sz : Nat) : zXi l yX3_nextSum cX3_nextSum 1 .int 7 110 D cyI cyZ sz [.ref h0_0] (w_C cyI cyZ h0_0 h0_1 h0_2 h0_3 h0_4 h0_5 h0_6 h0_7 h0_8 h0_9 h0_10 h0_11 h0_12 h0_13 h0_14 h0_15 h0_16 σ0) z (w_C cyI cyZ h0_0 h0_1 h0_2 h0_3 h0_4 h0_5 h0_6 h0_7 h0_8 h0_9 h0_10 h0_11 h0_12 h0_13 h0_14 h0_15 h0_16 o0) := by
  unfold s_X3_nextSum at h
  refine zstartXI (lv0 := [(0, .ref h0_0)]) (by decide) (Nat.le_of_ble_eq_true rfl) rfl (fun p e s m args below meth c G hr hlocks ht => ?_)
  refine zq_aload_n (q := 1) G dX3_nextSum_0 0 rfl rfl rfl ?_
  refine zq_get (q := 4) G zu_X3 rfl zw_X3_f39 dX3_nextSum_1 0 6 rfl (by decide) ⟨⟨rfl, rfl⟩, rfl⟩ rfl rfl ?_
  refine zq_getN (q := 7) G zu_X2 rfl zw_X3_f190 dX3_nextSum_4 15 0 rfl (by decide) ⟨⟨rfl, rfl⟩, rfl⟩ rfl rfl ?_
  refine zq_if_ne (tgt := 18) (q := 10) G dX3_nextSum_7 (by decide) rfl (fun c1 => ?_) (fun c1 => ?_)
  · have h := zie h c1
    refine zq_aload_n (q := 19) G dX3_nextSum_18 0 rfl rfl rfl ?_
    refine zq_get (q := 22) G zu_X3 rfl zw_X3_f39 dX3_nextSum_19 0 6 rfl (by decide) ⟨⟨rfl, rfl⟩, rfl⟩ rfl rfl ?_
    refine zq_getN (q := 25) G zu_X2 rfl zw_X3_f194 dX3_nextSum_22 15 1 rfl (by decide) ⟨⟨rfl, rfl⟩, rfl⟩ rfl rfl ?_
    refine zq_aload_n (q := 26) G dX3_nextSum_25 0 rfl rfl rfl ?_
    refine zq_get (q := 29) G zu_X3 rfl zw_X3_f39 dX3_nextSum_26 0 6 rfl (by decide) ⟨⟨rfl, rfl⟩, rfl⟩ rfl rfl ?_
    refine zq_getN (q := 32) G zu_X2 rfl zw_X3_f187 dX3_nextSum_29 15 3 rfl (by decide) ⟨⟨rfl, rfl⟩, rfl⟩ rfl rfl ?_
    refine zq_icmp_lt (tgt := 43) (q := 35) G dX3_nextSum_32 (by decide) rfl (fun c2 => ?_) (fun c2 => ?_)
    · have h := zit h c2
      refine zq_aload_n (q := 44) G dX3_nextSum_43 0 rfl rfl rfl ?_
      refine zq_get (q := 47) G zu_X3 rfl zw_X3_f39 dX3_nextSum_44 0 6 rfl (by decide) ⟨⟨rfl, rfl⟩, rfl⟩ rfl rfl ?_
      obtain ⟨z3, hc3, h⟩ := zbd h
      refine zq_callVv (q := 50) (ws2 := (w_C cyI cyZ h0_0 h0_1 h0_2 h0_3 h0_4 h0_5 h0_6 h0_7 h0_8 h0_9 h0_10 h0_11 h0_12 h0_13 h0_14 h0_15 h0_16 (σ0.1, σ0.2.1, σ0.2.2.1, σ0.2.2.2.1, σ0.2.2.2.2.1, σ0.2.2.2.2.2.1, z3))) (isC := [15, 16]) (isR := [0, 1, 2, 3, 4, 5, 6, 7, 8, 9, 10, 11, 12, 13, 14]) (perm := [0, 1, 2, 3, 4, 5, 6, 7, 8, 9, 10, 11, 12, 13, 14, 15, 16]) (rest := []) (As := []) G zs_X3_200 dX3_nextSum_47 (fun sz9 => c_X2_advance l D cyI cyZ h0_15 h0_16 σ0.2.2.2.2.2.2 z3 hc3 sz9) 15 rfl rfl rfl ⟨rfl, rfl, rfl, rfl⟩ rfl (Nat.le_of_ble_eq_true rfl) ⟨Nat.le_of_ble_eq_true rfl, Nat.le_of_ble_eq_true rfl, Nat.zero_le _, Nat.zero_le _⟩ rfl ?_
      refine zq_aload_n (q := 51) G dX3_nextSum_50 0 rfl rfl rfl ?_
      refine zq_get (q := 54) G zu_X3 rfl zw_X3_f39 dX3_nextSum_51 0 6 rfl (by decide) ⟨⟨rfl, rfl⟩, rfl⟩ rfl rfl ?_
      obtain ⟨z4, hc4, h⟩ := zbd h
      refine zq_callVi (q := 57) (ws2 := (w_C cyI cyZ h0_0 h0_1 h0_2 h0_3 h0_4 h0_5 h0_6 h0_7 h0_8 h0_9 h0_10 h0_11 h0_12 h0_13 h0_14 h0_15 h0_16 (σ0.1, σ0.2.1, σ0.2.2.1, σ0.2.2.2.1, σ0.2.2.2.2.1, σ0.2.2.2.2.2.1, z3))) (isC := [15, 16]) (isR := [0, 1, 2, 3, 4, 5, 6, 7, 8, 9, 10, 11, 12, 13, 14]) (perm := [0, 1, 2, 3, 4, 5, 6, 7, 8, 9, 10, 11, 12, 13, 14, 15, 16]) (rest := []) (As := []) G zs_X3_203 dX3_nextSum_54 (fun sz9 => c_X2_visitedSum l D cyI cyZ h0_15 h0_16 z3 z4 hc4 sz9) 15 rfl rfl rfl ⟨rfl, rfl, rfl, rfl⟩ rfl (Nat.le_of_ble_eq_true rfl) ⟨Nat.le_of_ble_eq_true rfl, Nat.le_of_ble_eq_true rfl, Nat.zero_le _, Nat.zero_le _⟩ rfl ?_
      refine zq_ws (congrArg (fun w9 => (w_C cyI cyZ h0_0 h0_1 h0_2 h0_3 h0_4 h0_5 h0_6 h0_7 h0_8 h0_9 h0_10 h0_11 h0_12 h0_13 h0_14 h0_15 h0_16 w9.2)) (zsome h)) ?_
      exact zq_iretX G hlocks hr rfl dX3_nextSum_57 (congrArg Prod.fst (zsome h)).symm
    · have h := zie h c2
      refine zq_ws (congrArg (fun w9 => (w_C cyI cyZ h0_0 h0_1 h0_2 h0_3 h0_4 h0_5 h0_6 h0_7 h0_8 h0_9 h0_10 h0_11 h0_12 h0_13 h0_14 h0_15 h0_16 w9.2)) (zsome h)) ?_
      exact zq_throw G hlocks hst ht zt_X3_197 dX3_nextSum_35 dX3_nextSum_38 dX3_nextSum_39 dX3_nextSum_42 ⟨Nat.le_of_ble_eq_true rfl, Nat.le_of_ble_eq_true rfl⟩ rfl rfl (congrArg Prod.fst (zsome h)).symm
  · have h := zit h c1
    refine zq_ws (congrArg (fun w9 => (w_C cyI cyZ h0_0 h0_1 h0_2 h0_3 h0_4 h0_5 h0_6 h0_7 h0_8 h0_9 h0_10 h0_11 h0_12 h0_13 h0_14 h0_15 h0_16 w9.2)) (zsome h)) ?_
    exact zq_throw G hlocks hst ht zt_X3_181 dX3_nextSum_10 dX3_nextSum_13 dX3_nextSum_14 dX3_nextSum_17 ⟨Nat.le_of_ble_eq_true rfl, Nat.le_of_ble_eq_true rfl⟩ rfl rfl (congrArg Prod.fst (zsome h)).symm
set_option maxHeartbeats 4000000 in
set_option maxRecDepth 100000 in
theorem c_X3_currentColumn (l : Launch) (hst : l.stackTraces = false) (D : va_G) (cyI cyZ : ClassId) (h0_0 h0_1 h0_2 h0_3 h0_4 h0_5 h0_6 h0_7 h0_8 h0_9 h0_10 h0_11 h0_12 h0_13 h0_14 h0_15 h0_16 : Nat) (σ0 : zC) (p0 : Int32) (z : Sum String Int32) (h : s_X3_currentColumn σ0 p0 = some z) (sz : Nat) : zXi l yX3_currentColumn cX3_currentColumn 2 .int 8 131 D cyI cyZ sz [.ref h0_0, .int p0] (w_C cyI cyZ h0_0 h0_1 h0_2 h0_3 h0_4 h0_5 h0_6 h0_7 h0_8 h0_9 h0_10 h0_11 h0_12 h0_13 h0_14 h0_15 h0_16 σ0) z (w_C cyI cyZ h0_0 h0_1 h0_2 h0_3 h0_4 h0_5 h0_6 h0_7 h0_8 h0_9 h0_10 h0_11 h0_12 h0_13 h0_14 h0_15 h0_16 σ0) := by
  unfold s_X3_currentColumn at h
  refine zstartXI (lv0 := [(0, .ref h0_0), (1, .int p0)]) (by decide) (Nat.le_of_ble_eq_true rfl) rfl (fun p e s m args below meth c G hr hlocks ht => ?_)
  refine zq_aload_n (q := 1) G dX3_currentColumn_0 0 rfl rfl rfl ?_
  refine zq_iload_n (q := 2) G dX3_currentColumn_1 1 rfl rfl rfl ?_
  obtain ⟨z1, hc1, h⟩ := zbd h
  rcases zsum z1 with ⟨E1, e1⟩ | ⟨r1, e1⟩
  · have h := zselL2 h e1
    exact zq_outVv (ws2 := (w_C cyI cyZ h0_0 h0_1 h0_2 h0_3 h0_4 h0_5 h0_6 h0_7 h0_8 h0_9 h0_10 h0_11 h0_12 h0_13 h0_14 h0_15 h0_16 σ0)) (isC := [0, 1, 2, 3, 4, 5, 6, 7, 8, 9, 10, 11, 12, 13, 14, 15, 16]) (isR := []) (perm := [0, 1, 2, 3, 4, 5, 6, 7, 8, 9, 10, 11, 12, 13, 14, 15, 16]) (rest := []) (As := [.int p0]) G hlocks ht zs_X3_64 dX3_currentColumn_2 (fun sz9 => c_X3_requireRow l hst D cyI cyZ h0_0 h0_1 h0_2 h0_3 h0_4 h0_5 h0_6 h0_7 h0_8 h0_9 h0_10 h0_11 h0_12 h0_13 h0_14 h0_15 h0_16 σ0 p0 (.inl E1) (hc1.trans (congrArg some e1)) sz9) 0 rfl rfl rfl ⟨rfl, rfl, rfl, rfl⟩ rfl (Nat.le_of_ble_eq_true rfl) ⟨Nat.le_of_ble_eq_true rfl, Nat.le_of_ble_eq_true rfl⟩ rfl rfl (zsome h).symm rfl
  · have h := zselR2 h e1
    refine zq_callVv (q := 5) (ws2 := (w_C cyI cyZ h0_0 h0_1 h0_2 h0_3 h0_4 h0_5 h0_6 h0_7 h0_8 h0_9 h0_10 h0_11 h0_12 h0_13 h0_14 h0_15 h0_16 σ0)) (isC := [0, 1, 2, 3, 4, 5, 6, 7, 8, 9, 10, 11, 12, 13, 14, 15, 16]) (isR := []) (perm := [0, 1, 2, 3, 4, 5, 6, 7, 8, 9, 10, 11, 12, 13, 14, 15, 16]) (rest := []) (As := [.int p0]) G zs_X3_64 dX3_currentColumn_2 (fun sz9 => zXv_ret (c_X3_requireRow l hst D cyI cyZ h0_0 h0_1 h0_2 h0_3 h0_4 h0_5 h0_6 h0_7 h0_8 h0_9 h0_10 h0_11 h0_12 h0_13 h0_14 h0_15 h0_16 σ0 p0 (.inr r1) (hc1.trans (congrArg some e1)) sz9)) 0 rfl rfl rfl ⟨rfl, rfl, rfl, rfl⟩ rfl (Nat.le_of_ble_eq_true rfl) ⟨Nat.le_of_ble_eq_true rfl, Nat.le_of_ble_eq_true rfl, Nat.zero_le _, Nat.zero_le _⟩ rfl ?_
    refine zq_aload_n (q := 6) G dX3_currentColumn_5 0 rfl rfl rfl ?_
    refine zq_get (q := 9) G zu_X3 rfl zw_X3_f39 dX3_currentColumn_6 0 6 rfl (by decide) ⟨⟨rfl, rfl⟩, rfl⟩ rfl rfl ?_
    refine zq_getN (q := 12) G zu_X2 rfl zw_X3_f190 dX3_currentColumn_9 15 0 rfl (by decide) ⟨⟨rfl, rfl⟩, rfl⟩ rfl rfl ?_
    refine zq_if_eq (tgt := 25) (q := 15) G dX3_currentColumn_12 (by decide) rfl (fun c2 => ?_) (fun c2 => ?_)
    · have h := zit h c2
      exact zq_throw G hlocks hst ht zt_X3_181 dX3_currentColumn_25 dX3_currentColumn_28 dX3_currentColumn_29 dX3_currentColumn_32 ⟨Nat.le_of_ble_eq_true rfl, Nat.le_of_ble_eq_true rfl⟩ rfl rfl (zsome h).symm
    · have h := zie h c2
      refine zq_aload_n (q := 16) G dX3_currentColumn_15 0 rfl rfl rfl ?_
      refine zq_get (q := 19) G zu_X3 rfl zw_X3_f39 dX3_currentColumn_16 0 6 rfl (by decide) ⟨⟨rfl, rfl⟩, rfl⟩ rfl rfl ?_
      refine zq_getN (q := 22) G zu_X2 rfl zw_X3_f194 dX3_currentColumn_19 15 1 rfl (by decide) ⟨⟨rfl, rfl⟩, rfl⟩ rfl rfl ?_
      refine zq_if_ne (tgt := 33) (q := 25) G dX3_currentColumn_22 (by decide) rfl (fun c3 => ?_) (fun c3 => ?_)
      · have h := zie h c3
        refine zq_aload_n (q := 34) G dX3_currentColumn_33 0 rfl rfl rfl ?_
        refine zq_get (q := 37) G zu_X3 rfl zw_X3_f39 dX3_currentColumn_34 0 6 rfl (by decide) ⟨⟨rfl, rfl⟩, rfl⟩ rfl rfl ?_
        refine zq_iload_n (q := 38) G dX3_currentColumn_37 1 rfl rfl rfl ?_
        obtain ⟨z4, hc4, h⟩ := zbd h
        refine zq_callVi (q := 41) (ws2 := (w_C cyI cyZ h0_0 h0_1 h0_2 h0_3 h0_4 h0_5 h0_6 h0_7 h0_8 h0_9 h0_10 h0_11 h0_12 h0_13 h0_14 h0_15 h0_16 σ0)) (isC := [15, 16]) (isR := [0, 1, 2, 3, 4, 5, 6, 7, 8, 9, 10, 11, 12, 13, 14]) (perm := [0, 1, 2, 3, 4, 5, 6, 7, 8, 9, 10, 11, 12, 13, 14, 15, 16]) (rest := []) (As := [.int p0]) G zs_X3_206 dX3_currentColumn_38 (fun sz9 => c_X2_visitedColumn l D cyI cyZ h0_15 h0_16 σ0.2.2.2.2.2.2 p0 z4 hc4 sz9) 15 rfl rfl rfl ⟨rfl, rfl, rfl, rfl⟩ rfl (Nat.le_of_ble_eq_true rfl) ⟨Nat.le_of_ble_eq_true rfl, Nat.le_of_ble_eq_true rfl, Nat.zero_le _, Nat.zero_le _⟩ rfl ?_
        exact zq_iretX G hlocks hr rfl dX3_currentColumn_41 (zsome h).symm
      · have h := zit h c3
        exact zq_throw G hlocks hst ht zt_X3_181 dX3_currentColumn_25 dX3_currentColumn_28 dX3_currentColumn_29 dX3_currentColumn_32 ⟨Nat.le_of_ble_eq_true rfl, Nat.le_of_ble_eq_true rfl⟩ rfl rfl (zsome h).symm
set_option maxHeartbeats 4000000 in
set_option maxRecDepth 100000 in
theorem c_X3_stepsMade (l : Launch) (D : va_G) (cyI cyZ : ClassId) (h0_0 h0_1 h0_2 h0_3 h0_4 h0_5 h0_6 h0_7 h0_8 h0_9 h0_10 h0_11 h0_12 h0_13 h0_14 h0_15 h0_16 : Nat) (σ0 : zC) (r : Int32) (h : s_X3_stepsMade σ0 = some r) (sz : Nat) : zMi l yX3_stepsMade cX3_stepsMade 1 .int 0 0 D cyI cyZ sz [.ref h0_0] (w_C cyI cyZ h0_0 h0_1 h0_2 h0_3 h0_4 h0_5 h0_6 h0_7 h0_8 h0_9 h0_10 h0_11 h0_12 h0_13 h0_14 h0_15 h0_16 σ0) r (w_C cyI cyZ h0_0 h0_1 h0_2 h0_3 h0_4 h0_5 h0_6 h0_7 h0_8 h0_9 h0_10 h0_11 h0_12 h0_13 h0_14 h0_15 h0_16 σ0) := by
  unfold s_X3_stepsMade at h
  refine zstartI (lv0 := [(0, .ref h0_0)]) (by decide) (Nat.le_of_ble_eq_true rfl) rfl (fun p e s m args below meth c G hr hlocks => ?_)
  refine zq_aload_n (q := 1) G dX3_stepsMade_0 0 rfl rfl rfl ?_
  refine zq_get (q := 4) G zu_X3 rfl zw_X3_f39 dX3_stepsMade_1 0 6 rfl (by decide) ⟨⟨rfl, rfl⟩, rfl⟩ rfl rfl ?_
  refine zq_getN (q := 7) G zu_X2 rfl zw_X3_f190 dX3_stepsMade_4 15 0 rfl (by decide) ⟨⟨rfl, rfl⟩, rfl⟩ rfl rfl ?_
  refine zq_if_eq (tgt := 20) (q := 10) G dX3_stepsMade_7 (by decide) rfl (fun c1 => ?_) (fun c1 => ?_)
  · have h := zit h c1
    refine zq_iconst (q := 21) (v := -1) G dX3_stepsMade_20 (by decide) rfl ?_
    exact zq_iret G hlocks hr rfl dX3_stepsMade_21 (zsome h)
  · have h := zie h c1
    refine zq_aload_n (q := 11) G dX3_stepsMade_10 0 rfl rfl rfl ?_
    refine zq_get (q := 14) G zu_X3 rfl zw_X3_f39 dX3_stepsMade_11 0 6 rfl (by decide) ⟨⟨rfl, rfl⟩, rfl⟩ rfl rfl ?_
    refine zq_getN (q := 17) G zu_X2 rfl zw_X3_f194 dX3_stepsMade_14 15 1 rfl (by decide) ⟨⟨rfl, rfl⟩, rfl⟩ rfl rfl ?_
    refine zq_goto (q := 21) G dX3_stepsMade_17 (by decide) ?_
    exact zq_iret G hlocks hr rfl dX3_stepsMade_21 (zsome h)
set_option maxHeartbeats 4000000 in
set_option maxRecDepth 100000 in
theorem c_X3_mixed (l : Launch) (D : va_G) (cyI cyZ : ClassId) (p0 : Int64) (p1 : Int32) (r : Int64) (h : s_X3_mixed p0 p1 = some r) (sz : Nat) : zMl l yX3_mixed cX3_mixed 3 .long 0 0 D cyI cyZ sz [.long p0, .int p1] ([] : va_W) r ([] : va_W) := by
  unfold s_X3_mixed at h
  refine zstartL (lv0 := [(0, .long p0), (2, .int p1)]) (by decide) (Nat.le_of_ble_eq_true rfl) rfl (fun p e s m args below meth c G hr hlocks => ?_)
  refine zq_ldc2 (q := 3) G zw_X3_c269 dX3_mixed_0 rfl ?_
  refine zq_lload_n (q := 4) G dX3_mixed_3 0 rfl rfl rfl ?_
  refine zq_lmul (q := 5) G dX3_mixed_4 rfl ?_
  refine zq_iload_n (q := 6) G dX3_mixed_5 1 rfl rfl rfl ?_
  refine zq_i2l (q := 7) G dX3_mixed_6 rfl ?_
  refine zq_ladd (q := 8) G dX3_mixed_7 rfl ?_
  exact zq_lret G hlocks hr dX3_mixed_8 (zsome h)
set_option maxHeartbeats 4000000 in
set_option maxRecDepth 100000 in
theorem c_X3_mixedCosts (l : Launch) (D : va_G) (cyI cyZ : ClassId) (h0_0 h0_1 h0_2 : Nat) (σ0 : zT) (p0 : Int64) (r : Int64) (h : s_X3_mixedCosts σ0 p0 = some r) (sz : Nat) : zMl l yX3_mixedCosts cX3_mixedCosts 7 .long 3 65 D cyI cyZ sz [.long p0, .ref h0_0] (w_T cyI cyZ h0_0 h0_1 h0_2 σ0) r (w_T cyI cyZ h0_0 h0_1 h0_2 σ0) := by
  unfold s_X3_mixedCosts at h
  refine zstartL (lv0 := [(0, .long p0), (2, .ref h0_0)]) (by decide) (Nat.le_of_ble_eq_true rfl) rfl (fun p e s m args below meth c G hr hlocks => ?_)
  have b17 : ∀ (k5 : (zT → Int64 → Int32 → Option (Int64))) (hk5 : ∀ (x3 : Int64) (x5 : Int32), k5 σ0 x3 x5 = some r → zW p l e ({ frames := 3, cells := 0, slots := 0, locals := 65 } : Room) s m args below meth c D (va_A (w_T cyI cyZ h0_0 h0_1 h0_2 σ0) sz) 7 0 0 (MQ below (zQl D cyI cyZ sz (w_T cyI cyZ h0_0 h0_1 h0_2 σ0) r (w_T cyI cyZ h0_0 h0_1 h0_2 σ0)) args s 0 0 (va_A (w_T cyI cyZ h0_0 h0_1 h0_2 σ0) sz)) 5 [(2, .ref h0_0), (3, .long x3), (5, .int x5)] [] (w_T cyI cyZ h0_0 h0_1 h0_2 σ0)) (n : Nat) (x3 : Int64) (x5 : Int32) (x6 : Int32), s_X3_mixedCosts_17 k5 n σ0 x3 x5 x6 = some r → zW p l e ({ frames := 3, cells := 0, slots := 0, locals := 65 } : Room) s m args below meth c D (va_A (w_T cyI cyZ h0_0 h0_1 h0_2 σ0) sz) 7 0 0 (MQ below (zQl D cyI cyZ sz (w_T cyI cyZ h0_0 h0_1 h0_2 σ0) r (w_T cyI cyZ h0_0 h0_1 h0_2 σ0)) args s 0 0 (va_A (w_T cyI cyZ h0_0 h0_1 h0_2 σ0) sz)) 17 [(2, .ref h0_0), (3, .long x3), (5, .int x5), (6, .int x6)] [] (w_T cyI cyZ h0_0 h0_1 h0_2 σ0) := by
    intro k5 hk5
    intro n
    induction n with
    | zero => intro x3 x5 x6 h; rw [s_X3_mixedCosts_17] at h; exact nomatch h
    | succ n ih =>
      intro x3 x5 x6 h
      rw [s_X3_mixedCosts_17] at h
      refine zq_iload (q := 19) G dX3_mixedCosts_17 3 rfl rfl ?_
      refine zq_aload_n (q := 20) G dX3_mixedCosts_19 0 rfl rfl rfl ?_
      refine zq_getN (q := 23) G zu_X1 rfl zw_X3_f83 dX3_mixedCosts_20 0 0 rfl (by decide) ⟨⟨rfl, rfl⟩, rfl⟩ rfl rfl ?_
      refine zq_icmp_ge (tgt := 45) (q := 26) G dX3_mixedCosts_23 (by decide) rfl (fun c1 => ?_) (fun c1 => ?_)
      · have h := zit h c1
        refine zq_iinc (q := 48) (v := (x5 + 1)) (lv2 := [(5, .int (x5 + 1)), (2, .ref h0_0), (3, .long x3), (6, .int x6)]) G dX3_mixedCosts_45 2 rfl rfl (by decide) rfl rfl ?_
        refine zq_goto (q := 5) G dX3_mixedCosts_48 (by decide) ?_
        exact zq_sub _ [1, 2, 0] rfl (hk5 _ _ h)
      · have h := zie h c1
        refine zq_lload_n (q := 27) G dX3_mixedCosts_26 1 rfl rfl rfl ?_
        refine zq_aload_n (q := 28) G dX3_mixedCosts_27 0 rfl rfl rfl ?_
        refine zq_iload (q := 30) G dX3_mixedCosts_28 2 rfl rfl ?_
        refine zq_iload (q := 32) G dX3_mixedCosts_30 3 rfl rfl ?_
        obtain ⟨z2, hc2, h⟩ := zbd h
        refine zq_callVi (q := 35) (ws2 := (w_T cyI cyZ h0_0 h0_1 h0_2 σ0)) (isC := [0, 1, 2]) (isR := []) (perm := [0, 1, 2]) (rest := [.long x3]) (As := [.int x5, .int x6]) G zs_X3_97 dX3_mixedCosts_32 (fun sz9 => c_X1_costOf l D cyI cyZ h0_0 h0_1 h0_2 σ0 x5 x6 z2 hc2 sz9) 0 rfl rfl rfl ⟨rfl, rfl, rfl, rfl⟩ rfl (Nat.le_of_ble_eq_true rfl) ⟨Nat.le_of_ble_eq_true rfl, Nat.le_of_ble_eq_true rfl, Nat.zero_le _, Nat.zero_le _⟩ rfl ?_
        obtain ⟨z3, hc3, h⟩ := zbd h
        refine zq_callSl (q := 38) (ws2 := (w_T cyI cyZ h0_0 h0_1 h0_2 σ0)) (isC := []) (isR := [0, 1, 2]) (perm := [0, 1, 2]) (rest := []) (As := [.long x3, .int z2]) G zs_X3_220 dX3_mixedCosts_35 (fun sz9 => c_X3_mixed l D cyI cyZ x3 z2 z3 hc3 sz9) rfl ⟨rfl, rfl, rfl, rfl⟩ rfl (Nat.le_of_ble_eq_true rfl) ⟨Nat.le_of_ble_eq_true rfl, Nat.le_of_ble_eq_true rfl, Nat.zero_le _, Nat.zero_le _⟩ rfl ?_
        refine zq_lstore_n (q := 39) (lv2 := [(3, .long z3), (2, .ref h0_0), (5, .int x5), (6, .int x6)]) G dX3_mixedCosts_38 rfl (by decide) rfl rfl ?_
        refine zq_iinc (q := 42) (v := (x6 + 1)) (lv2 := [(6, .int (x6 + 1)), (3, .long z3), (2, .ref h0_0), (5, .int x5)]) G dX3_mixedCosts_39 3 rfl rfl (by decide) rfl rfl ?_
        refine zq_goto (q := 17) G dX3_mixedCosts_42 (by decide) ?_
        exact zq_sub _ [2, 1, 3, 0] rfl (ih _ _ _ h)
  have b5 : ∀ (n : Nat) (x3 : Int64) (x5 : Int32), s_X3_mixedCosts_5 n σ0 x3 x5 = some r → zW p l e ({ frames := 3, cells := 0, slots := 0, locals := 65 } : Room) s m args below meth c D (va_A (w_T cyI cyZ h0_0 h0_1 h0_2 σ0) sz) 7 0 0 (MQ below (zQl D cyI cyZ sz (w_T cyI cyZ h0_0 h0_1 h0_2 σ0) r (w_T cyI cyZ h0_0 h0_1 h0_2 σ0)) args s 0 0 (va_A (w_T cyI cyZ h0_0 h0_1 h0_2 σ0) sz)) 5 [(2, .ref h0_0), (3, .long x3), (5, .int x5)] [] (w_T cyI cyZ h0_0 h0_1 h0_2 σ0) := by
    intro n
    induction n with
    | zero => intro x3 x5 h; rw [s_X3_mixedCosts_5] at h; exact nomatch h
    | succ n ih =>
      intro x3 x5 h
      rw [s_X3_mixedCosts_5] at h
      refine zq_iload (q := 7) G dX3_mixedCosts_5 2 rfl rfl ?_
      refine zq_aload_n (q := 8) G dX3_mixedCosts_7 0 rfl rfl rfl ?_
      refine zq_getN (q := 11) G zu_X1 rfl zw_X3_f83 dX3_mixedCosts_8 0 0 rfl (by decide) ⟨⟨rfl, rfl⟩, rfl⟩ rfl rfl ?_
      refine zq_icmp_ge (tgt := 51) (q := 14) G dX3_mixedCosts_11 (by decide) rfl (fun c1 => ?_) (fun c1 => ?_)
      · have h := zit h c1
        refine zq_lload_n (q := 52) G dX3_mixedCosts_51 1 rfl rfl rfl ?_
        exact zq_lret G hlocks hr dX3_mixedCosts_52 (zsome h)
      · have h := zie h c1
        refine zq_iconst (q := 15) (v := 0) G dX3_mixedCosts_14 (by decide) rfl ?_
        refine zq_istore (q := 17) (lv2 := [(6, .int (0 : Int32)), (2, .ref h0_0), (3, .long x3), (5, .int x5)]) G dX3_mixedCosts_15 (by decide) rfl rfl ?_
        exact zq_sub _ [1, 2, 3, 0] rfl (b17 _ ih _ _ _ _ h)
  refine zq_lload_n (q := 1) G dX3_mixedCosts_0 0 rfl rfl rfl ?_
  refine zq_lstore_n (q := 2) (lv2 := [(3, .long p0), (0, .long p0), (2, .ref h0_0)]) G dX3_mixedCosts_1 rfl (by decide) rfl rfl ?_
  refine zq_iconst (q := 3) (v := 0) G dX3_mixedCosts_2 (by decide) rfl ?_
  refine zq_istore (q := 5) (lv2 := [(5, .int (0 : Int32)), (3, .long p0), (0, .long p0), (2, .ref h0_0)]) G dX3_mixedCosts_3 (by decide) rfl rfl ?_
  exact zq_sub _ [3, 1, 0] rfl (b5  _ _ _ h)
set_option maxHeartbeats 4000000 in
set_option maxRecDepth 100000 in
theorem c_X3_checksum (l : Launch) (D : va_G) (cyI cyZ : ClassId) (h0_0 h0_1 h0_2 h0_3 h0_4 h0_5 h0_6 h0_7 h0_8 h0_9 h0_10 h0_11 h0_12 h0_13 h0_14 h0_15 h0_16 : Nat) (σ0 : zC) (r : Int64) (o0 : zC) (h : s_X3_checksum σ0 = some (r, o0)) (sz : Nat) : zMl l yX3_checksum cX3_checksum 4 .long 5 110 D cyI cyZ sz [.ref h0_0] (w_C cyI cyZ h0_0 h0_1 h0_2 h0_3 h0_4 h0_5 h0_6 h0_7 h0_8 h0_9 h0_10 h0_11 h0_12 h0_13 h0_14 h0_15 h0_16 σ0) r (w_C cyI cyZ h0_0 h0_1 h0_2 h0_3 h0_4 h0_5 h0_6 h0_7 h0_8 h0_9 h0_10 h0_11 h0_12 h0_13 h0_14 h0_15 h0_16 o0) := by
  unfold s_X3_checksum at h
  refine zstartL (lv0 := [(0, .ref h0_0)]) (by decide) (Nat.le_of_ble_eq_true rfl) rfl (fun p e s m args below meth c G hr hlocks => ?_)
  have b73 : ∀ (n : Nat) (τ0 : zC) (x1 : Int64) (x3 : Int32), s_X3_checksum_73 n τ0 x1 x3 = some (r, o0) → zW p l e ({ frames := 5, cells := 0, slots := 0, locals := 110 } : Room) s m args below meth c D (va_A (w_C cyI cyZ h0_0 h0_1 h0_2 h0_3 h0_4 h0_5 h0_6 h0_7 h0_8 h0_9 h0_10 h0_11 h0_12 h0_13 h0_14 h0_15 h0_16 σ0) sz) 4 0 0 (MQ below (zQl D cyI cyZ sz (w_C cyI cyZ h0_0 h0_1 h0_2 h0_3 h0_4 h0_5 h0_6 h0_7 h0_8 h0_9 h0_10 h0_11 h0_12 h0_13 h0_14 h0_15 h0_16 σ0) r (w_C cyI cyZ h0_0 h0_1 h0_2 h0_3 h0_4 h0_5 h0_6 h0_7 h0_8 h0_9 h0_10 h0_11 h0_12 h0_13 h0_14 h0_15 h0_16 o0)) args s 0 0 (va_A (w_C cyI cyZ h0_0 h0_1 h0_2 h0_3 h0_4 h0_5 h0_6 h0_7 h0_8 h0_9 h0_10 h0_11 h0_12 h0_13 h0_14 h0_15 h0_16 σ0) sz)) 73 [(0, .ref h0_0), (1, .long x1), (3, .int x3)] [] (w_C cyI cyZ h0_0 h0_1 h0_2 h0_3 h0_4 h0_5 h0_6 h0_7 h0_8 h0_9 h0_10 h0_11 h0_12 h0_13 h0_14 h0_15 h0_16 τ0) := by
    intro n
    induction n with
    | zero => intro τ0 x1 x3 h; rw [s_X3_checksum_73] at h; exact nomatch h
    | succ n ih =>
      intro τ0 x1 x3 h
      rw [s_X3_checksum_73] at h
      refine zq_iload_n (q := 74) G dX3_checksum_73 2 rfl rfl rfl ?_
      refine zq_aload_n (q := 75) G dX3_checksum_74 0 rfl rfl rfl ?_
      refine zq_get (q := 78) G zu_X3 rfl zw_X3_f12 dX3_checksum_75 0 0 rfl (by decide) ⟨⟨rfl, rfl⟩, rfl⟩ rfl rfl ?_
      refine zq_getN (q := 81) G zu_X1 rfl zw_X3_f83 dX3_checksum_78 1 0 rfl (by decide) ⟨⟨rfl, rfl⟩, rfl⟩ rfl rfl ?_
      refine zq_icmp_ge (tgt := 101) (q := 84) G dX3_checksum_81 (by decide) rfl (fun c1 => ?_) (fun c1 => ?_)
      · have h := zit h c1
        refine zq_lload_n (q := 102) G dX3_checksum_101 1 rfl rfl rfl ?_
        refine zq_aload_n (q := 103) G dX3_checksum_102 0 rfl rfl rfl ?_
        refine zq_get (q := 106) G zu_X3 rfl zw_X3_f16 dX3_checksum_103 0 1 rfl (by decide) ⟨⟨rfl, rfl⟩, rfl⟩ rfl rfl ?_
        refine zq_getN (q := 109) G zu_X1 rfl zw_X3_f83 dX3_checksum_106 4 0 rfl (by decide) ⟨⟨rfl, rfl⟩, rfl⟩ rfl rfl ?_
        obtain ⟨z2, hc2, h⟩ := zbd h
        refine zq_callSl (q := 112) (ws2 := (w_C cyI cyZ h0_0 h0_1 h0_2 h0_3 h0_4 h0_5 h0_6 h0_7 h0_8 h0_9 h0_10 h0_11 h0_12 h0_13 h0_14 h0_15 h0_16 τ0)) (isC := []) (isR := [0, 1, 2, 3, 4, 5, 6, 7, 8, 9, 10, 11, 12, 13, 14, 15, 16]) (perm := [0, 1, 2, 3, 4, 5, 6, 7, 8, 9, 10, 11, 12, 13, 14, 15, 16]) (rest := []) (As := [.long x1, .int τ0.2.1.1]) G zs_X3_220 dX3_checksum_109 (fun sz9 => c_X3_mixed l D cyI cyZ x1 τ0.2.1.1 z2 hc2 sz9) rfl ⟨rfl, rfl, rfl, rfl⟩ rfl (Nat.le_of_ble_eq_true rfl) ⟨Nat.le_of_ble_eq_true rfl, Nat.le_of_ble_eq_true rfl, Nat.zero_le _, Nat.zero_le _⟩ rfl ?_
        refine zq_lstore_n (q := 113) (lv2 := [(1, .long z2), (0, .ref h0_0), (3, .int x3)]) G dX3_checksum_112 rfl (by decide) rfl rfl ?_
        refine zq_lload_n (q := 114) G dX3_checksum_113 0 rfl rfl rfl ?_
        refine zq_aload_n (q := 115) G dX3_checksum_114 1 rfl rfl rfl ?_
        refine zq_get (q := 118) G zu_X3 rfl zw_X3_f16 dX3_checksum_115 0 1 rfl (by decide) ⟨⟨rfl, rfl⟩, rfl⟩ rfl rfl ?_
        refine zq_getN (q := 121) G zu_X1 rfl zw_X3_f72 dX3_checksum_118 4 1 rfl (by decide) ⟨⟨rfl, rfl⟩, rfl⟩ rfl rfl ?_
        obtain ⟨z3, hc3, h⟩ := zbd h
        refine zq_callSl (q := 124) (ws2 := (w_C cyI cyZ h0_0 h0_1 h0_2 h0_3 h0_4 h0_5 h0_6 h0_7 h0_8 h0_9 h0_10 h0_11 h0_12 h0_13 h0_14 h0_15 h0_16 τ0)) (isC := []) (isR := [0, 1, 2, 3, 4, 5, 6, 7, 8, 9, 10, 11, 12, 13, 14, 15, 16]) (perm := [0, 1, 2, 3, 4, 5, 6, 7, 8, 9, 10, 11, 12, 13, 14, 15, 16]) (rest := []) (As := [.long z2, .int τ0.2.1.2.1]) G zs_X3_220 dX3_checksum_121 (fun sz9 => c_X3_mixed l D cyI cyZ z2 τ0.2.1.2.1 z3 hc3 sz9) rfl ⟨rfl, rfl, rfl, rfl⟩ rfl (Nat.le_of_ble_eq_true rfl) ⟨Nat.le_of_ble_eq_true rfl, Nat.le_of_ble_eq_true rfl, Nat.zero_le _, Nat.zero_le _⟩ rfl ?_
        refine zq_lstore_n (q := 125) (lv2 := [(1, .long z3), (0, .ref h0_0), (3, .int x3)]) G dX3_checksum_124 rfl (by decide) rfl rfl ?_
        refine zq_lload_n (q := 126) G dX3_checksum_125 0 rfl rfl rfl ?_
        refine zq_aload_n (q := 127) G dX3_checksum_126 1 rfl rfl rfl ?_
        refine zq_get (q := 130) G zu_X3 rfl zw_X3_f16 dX3_checksum_127 0 1 rfl (by decide) ⟨⟨rfl, rfl⟩, rfl⟩ rfl rfl ?_
        obtain ⟨z4, hc4, h⟩ := zbd h
        refine zq_callSl (q := 133) (ws2 := (w_C cyI cyZ h0_0 h0_1 h0_2 h0_3 h0_4 h0_5 h0_6 h0_7 h0_8 h0_9 h0_10 h0_11 h0_12 h0_13 h0_14 h0_15 h0_16 τ0)) (isC := [4, 5, 6]) (isR := [0, 1, 2, 3, 7, 8, 9, 10, 11, 12, 13, 14, 15, 16]) (perm := [0, 1, 2, 3, 14, 15, 16, 4, 5, 6, 7, 8, 9, 10, 11, 12, 13]) (rest := []) (As := [.long z3, .ref h0_4]) G zs_X3_230 dX3_checksum_130 (fun sz9 => c_X3_mixedCosts l D cyI cyZ h0_4 h0_5 h0_6 τ0.2.1 z3 z4 hc4 sz9) rfl ⟨rfl, rfl, rfl, rfl⟩ rfl (Nat.le_of_ble_eq_true rfl) ⟨Nat.le_of_ble_eq_true rfl, Nat.le_of_ble_eq_true rfl, Nat.zero_le _, Nat.zero_le _⟩ rfl ?_
        refine zq_ws (congrArg (fun w9 => (w_C cyI cyZ h0_0 h0_1 h0_2 h0_3 h0_4 h0_5 h0_6 h0_7 h0_8 h0_9 h0_10 h0_11 h0_12 h0_13 h0_14 h0_15 h0_16 w9.2)) (zsome h)) ?_
        exact zq_lret G hlocks hr dX3_checksum_133 (congrArg Prod.fst (zsome h))
      · have h := zie h c1
        refine zq_lload_n (q := 85) G dX3_checksum_84 1 rfl rfl rfl ?_
        refine zq_aload_n (q := 86) G dX3_checksum_85 0 rfl rfl rfl ?_
        refine zq_get (q := 89) G zu_X3 rfl zw_X3_f33 dX3_checksum_86 0 5 rfl (by decide) ⟨⟨rfl, rfl⟩, rfl⟩ rfl rfl ?_
        refine zq_iload_n (q := 90) G dX3_checksum_89 2 rfl rfl rfl ?_
        obtain ⟨q5, h⟩ := zif h
        refine zq_iald (q := 91) G dX3_checksum_90 14 rfl q5 rfl ?_
        obtain ⟨z6, hc6, h⟩ := zbd h
        refine zq_callSl (q := 94) (ws2 := (w_C cyI cyZ h0_0 h0_1 h0_2 h0_3 h0_4 h0_5 h0_6 h0_7 h0_8 h0_9 h0_10 h0_11 h0_12 h0_13 h0_14 h0_15 h0_16 τ0)) (isC := []) (isR := [0, 1, 2, 3, 4, 5, 6, 7, 8, 9, 10, 11, 12, 13, 14, 15, 16]) (perm := [0, 1, 2, 3, 4, 5, 6, 7, 8, 9, 10, 11, 12, 13, 14, 15, 16]) (rest := []) (As := [.long x1, .int (τ0.2.2.2.2.2.1 x3.toNatClampNeg)]) G zs_X3_220 dX3_checksum_91 (fun sz9 => c_X3_mixed l D cyI cyZ x1 (τ0.2.2.2.2.2.1 x3.toNatClampNeg) z6 hc6 sz9) rfl ⟨rfl, rfl, rfl, rfl⟩ rfl (Nat.le_of_ble_eq_true rfl) ⟨Nat.le_of_ble_eq_true rfl, Nat.le_of_ble_eq_true rfl, Nat.zero_le _, Nat.zero_le _⟩ rfl ?_
        refine zq_lstore_n (q := 95) (lv2 := [(1, .long z6), (0, .ref h0_0), (3, .int x3)]) G dX3_checksum_94 rfl (by decide) rfl rfl ?_
        refine zq_iinc (q := 98) (v := (x3 + 1)) (lv2 := [(3, .int (x3 + 1)), (1, .long z6), (0, .ref h0_0)]) G dX3_checksum_95 2 rfl rfl (by decide) rfl rfl ?_
        refine zq_goto (q := 73) G dX3_checksum_98 (by decide) ?_
        exact zq_sub _ [2, 1, 0] rfl (ih _ _ _ h)
  refine zq_ldc2 (q := 3) G zw_X3_c215 dX3_checksum_0 rfl ?_
  refine zq_lstore_n (q := 4) (lv2 := [(1, .long (17 : Int64)), (0, .ref h0_0)]) G dX3_checksum_3 rfl (by decide) rfl rfl ?_
  refine zq_lload_n (q := 5) G dX3_checksum_4 0 rfl rfl rfl ?_
  refine zq_aload_n (q := 6) G dX3_checksum_5 1 rfl rfl rfl ?_
  obtain ⟨z1, hc1, h⟩ := zbd h
  refine zq_callVi (q := 9) (ws2 := (w_C cyI cyZ h0_0 h0_1 h0_2 h0_3 h0_4 h0_5 h0_6 h0_7 h0_8 h0_9 h0_10 h0_11 h0_12 h0_13 h0_14 h0_15 h0_16 σ0)) (isC := [0, 1, 2, 3, 4, 5, 6, 7, 8, 9, 10, 11, 12, 13, 14, 15, 16]) (isR := []) (perm := [0, 1, 2, 3, 4, 5, 6, 7, 8, 9, 10, 11, 12, 13, 14, 15, 16]) (rest := [.long (17 : Int64)]) (As := []) G zs_X3_217 dX3_checksum_6 (fun sz9 => c_X3_rows l D cyI cyZ h0_0 h0_1 h0_2 h0_3 h0_4 h0_5 h0_6 h0_7 h0_8 h0_9 h0_10 h0_11 h0_12 h0_13 h0_14 h0_15 h0_16 σ0 z1 hc1 sz9) 0 rfl rfl rfl ⟨rfl, rfl, rfl, rfl⟩ rfl (Nat.le_of_ble_eq_true rfl) ⟨Nat.le_of_ble_eq_true rfl, Nat.le_of_ble_eq_true rfl, Nat.zero_le _, Nat.zero_le _⟩ rfl ?_
  obtain ⟨z2, hc2, h⟩ := zbd h
  refine zq_callSl (q := 12) (ws2 := (w_C cyI cyZ h0_0 h0_1 h0_2 h0_3 h0_4 h0_5 h0_6 h0_7 h0_8 h0_9 h0_10 h0_11 h0_12 h0_13 h0_14 h0_15 h0_16 σ0)) (isC := []) (isR := [0, 1, 2, 3, 4, 5, 6, 7, 8, 9, 10, 11, 12, 13, 14, 15, 16]) (perm := [0, 1, 2, 3, 4, 5, 6, 7, 8, 9, 10, 11, 12, 13, 14, 15, 16]) (rest := []) (As := [.long (17 : Int64), .int z1]) G zs_X3_220 dX3_checksum_9 (fun sz9 => c_X3_mixed l D cyI cyZ (17 : Int64) z1 z2 hc2 sz9) rfl ⟨rfl, rfl, rfl, rfl⟩ rfl (Nat.le_of_ble_eq_true rfl) ⟨Nat.le_of_ble_eq_true rfl, Nat.le_of_ble_eq_true rfl, Nat.zero_le _, Nat.zero_le _⟩ rfl ?_
  refine zq_lstore_n (q := 13) (lv2 := [(1, .long z2), (0, .ref h0_0)]) G dX3_checksum_12 rfl (by decide) rfl rfl ?_
  refine zq_lload_n (q := 14) G dX3_checksum_13 0 rfl rfl rfl ?_
  refine zq_aload_n (q := 15) G dX3_checksum_14 1 rfl rfl rfl ?_
  obtain ⟨z3, hc3, h⟩ := zbd h
  refine zq_callVi (q := 18) (ws2 := (w_C cyI cyZ h0_0 h0_1 h0_2 h0_3 h0_4 h0_5 h0_6 h0_7 h0_8 h0_9 h0_10 h0_11 h0_12 h0_13 h0_14 h0_15 h0_16 σ0)) (isC := [0, 1, 2, 3, 4, 5, 6, 7, 8, 9, 10, 11, 12, 13, 14, 15, 16]) (isR := []) (perm := [0, 1, 2, 3, 4, 5, 6, 7, 8, 9, 10, 11, 12, 13, 14, 15, 16]) (rest := [.long z2]) (As := []) G zs_X3_224 dX3_checksum_15 (fun sz9 => c_X3_columns l D cyI cyZ h0_0 h0_1 h0_2 h0_3 h0_4 h0_5 h0_6 h0_7 h0_8 h0_9 h0_10 h0_11 h0_12 h0_13 h0_14 h0_15 h0_16 σ0 z3 hc3 sz9) 0 rfl rfl rfl ⟨rfl, rfl, rfl, rfl⟩ rfl (Nat.le_of_ble_eq_true rfl) ⟨Nat.le_of_ble_eq_true rfl, Nat.le_of_ble_eq_true rfl, Nat.zero_le _, Nat.zero_le _⟩ rfl ?_
  obtain ⟨z4, hc4, h⟩ := zbd h
  refine zq_callSl (q := 21) (ws2 := (w_C cyI cyZ h0_0 h0_1 h0_2 h0_3 h0_4 h0_5 h0_6 h0_7 h0_8 h0_9 h0_10 h0_11 h0_12 h0_13 h0_14 h0_15 h0_16 σ0)) (isC := []) (isR := [0, 1, 2, 3, 4, 5, 6, 7, 8, 9, 10, 11, 12, 13, 14, 15, 16]) (perm := [0, 1, 2, 3, 4, 5, 6, 7, 8, 9, 10, 11, 12, 13, 14, 15, 16]) (rest := []) (As := [.long z2, .int z3]) G zs_X3_220 dX3_checksum_18 (fun sz9 => c_X3_mixed l D cyI cyZ z2 z3 z4 hc4 sz9) rfl ⟨rfl, rfl, rfl, rfl⟩ rfl (Nat.le_of_ble_eq_true rfl) ⟨Nat.le_of_ble_eq_true rfl, Nat.le_of_ble_eq_true rfl, Nat.zero_le _, Nat.zero_le _⟩ rfl ?_
  refine zq_lstore_n (q := 22) (lv2 := [(1, .long z4), (0, .ref h0_0)]) G dX3_checksum_21 rfl (by decide) rfl rfl ?_
  refine zq_lload_n (q := 23) G dX3_checksum_22 0 rfl rfl rfl ?_
  refine zq_aload_n (q := 24) G dX3_checksum_23 1 rfl rfl rfl ?_
  obtain ⟨z5, hc5, h⟩ := zbd h
  refine zq_callVi (q := 27) (ws2 := (w_C cyI cyZ h0_0 h0_1 h0_2 h0_3 h0_4 h0_5 h0_6 h0_7 h0_8 h0_9 h0_10 h0_11 h0_12 h0_13 h0_14 h0_15 h0_16 σ0)) (isC := [0, 1, 2, 3, 4, 5, 6, 7, 8, 9, 10, 11, 12, 13, 14, 15, 16]) (isR := []) (perm := [0, 1, 2, 3, 4, 5, 6, 7, 8, 9, 10, 11, 12, 13, 14, 15, 16]) (rest := [.long z4]) (As := []) G zs_X3_90 dX3_checksum_24 (fun sz9 => c_X3_forbiddenCount l D cyI cyZ h0_0 h0_1 h0_2 h0_3 h0_4 h0_5 h0_6 h0_7 h0_8 h0_9 h0_10 h0_11 h0_12 h0_13 h0_14 h0_15 h0_16 σ0 z5 hc5 sz9) 0 rfl rfl rfl ⟨rfl, rfl, rfl, rfl⟩ rfl (Nat.le_of_ble_eq_true rfl) ⟨Nat.le_of_ble_eq_true rfl, Nat.le_of_ble_eq_true rfl, Nat.zero_le _, Nat.zero_le _⟩ rfl ?_
  obtain ⟨z6, hc6, h⟩ := zbd h
  refine zq_callSl (q := 30) (ws2 := (w_C cyI cyZ h0_0 h0_1 h0_2 h0_3 h0_4 h0_5 h0_6 h0_7 h0_8 h0_9 h0_10 h0_11 h0_12 h0_13 h0_14 h0_15 h0_16 σ0)) (isC := []) (isR := [0, 1, 2, 3, 4, 5, 6, 7, 8, 9, 10, 11, 12, 13, 14, 15, 16]) (perm := [0, 1, 2, 3, 4, 5, 6, 7, 8, 9, 10, 11, 12, 13, 14, 15, 16]) (rest := []) (As := [.long z4, .int z5]) G zs_X3_220 dX3_checksum_27 (fun sz9 => c_X3_mixed l D cyI cyZ z4 z5 z6 hc6 sz9) rfl ⟨rfl, rfl, rfl, rfl⟩ rfl (Nat.le_of_ble_eq_true rfl) ⟨Nat.le_of_ble_eq_true rfl, Nat.le_of_ble_eq_true rfl, Nat.zero_le _, Nat.zero_le _⟩ rfl ?_
  refine zq_lstore_n (q := 31) (lv2 := [(1, .long z6), (0, .ref h0_0)]) G dX3_checksum_30 rfl (by decide) rfl rfl ?_
  refine zq_lload_n (q := 32) G dX3_checksum_31 0 rfl rfl rfl ?_
  refine zq_aload_n (q := 33) G dX3_checksum_32 1 rfl rfl rfl ?_
  obtain ⟨z7, hc7, h⟩ := zbd h
  refine zq_callVi (q := 36) (ws2 := (w_C cyI cyZ h0_0 h0_1 h0_2 h0_3 h0_4 h0_5 h0_6 h0_7 h0_8 h0_9 h0_10 h0_11 h0_12 h0_13 h0_14 h0_15 h0_16 σ0)) (isC := [0, 1, 2, 3, 4, 5, 6, 7, 8, 9, 10, 11, 12, 13, 14, 15, 16]) (isR := []) (perm := [0, 1, 2, 3, 4, 5, 6, 7, 8, 9, 10, 11, 12, 13, 14, 15, 16]) (rest := [.long z6]) (As := []) G zs_X3_127 dX3_checksum_33 (fun sz9 => c_X3_totalCost l D cyI cyZ h0_0 h0_1 h0_2 h0_3 h0_4 h0_5 h0_6 h0_7 h0_8 h0_9 h0_10 h0_11 h0_12 h0_13 h0_14 h0_15 h0_16 σ0 z7 hc7 sz9) 0 rfl rfl rfl ⟨rfl, rfl, rfl, rfl⟩ rfl (Nat.le_of_ble_eq_true rfl) ⟨Nat.le_of_ble_eq_true rfl, Nat.le_of_ble_eq_true rfl, Nat.zero_le _, Nat.zero_le _⟩ rfl ?_
  obtain ⟨z8, hc8, h⟩ := zbd h
  refine zq_callSl (q := 39) (ws2 := (w_C cyI cyZ h0_0 h0_1 h0_2 h0_3 h0_4 h0_5 h0_6 h0_7 h0_8 h0_9 h0_10 h0_11 h0_12 h0_13 h0_14 h0_15 h0_16 σ0)) (isC := []) (isR := [0, 1, 2, 3, 4, 5, 6, 7, 8, 9, 10, 11, 12, 13, 14, 15, 16]) (perm := [0, 1, 2, 3, 4, 5, 6, 7, 8, 9, 10, 11, 12, 13, 14, 15, 16]) (rest := []) (As := [.long z6, .int z7]) G zs_X3_220 dX3_checksum_36 (fun sz9 => c_X3_mixed l D cyI cyZ z6 z7 z8 hc8 sz9) rfl ⟨rfl, rfl, rfl, rfl⟩ rfl (Nat.le_of_ble_eq_true rfl) ⟨Nat.le_of_ble_eq_true rfl, Nat.le_of_ble_eq_true rfl, Nat.zero_le _, Nat.zero_le _⟩ rfl ?_
  refine zq_lstore_n (q := 40) (lv2 := [(1, .long z8), (0, .ref h0_0)]) G dX3_checksum_39 rfl (by decide) rfl rfl ?_
  refine zq_lload_n (q := 41) G dX3_checksum_40 0 rfl rfl rfl ?_
  refine zq_aload_n (q := 42) G dX3_checksum_41 1 rfl rfl rfl ?_
  obtain ⟨z9, hc9, h⟩ := zbd h
  refine zq_callVi (q := 45) (ws2 := (w_C cyI cyZ h0_0 h0_1 h0_2 h0_3 h0_4 h0_5 h0_6 h0_7 h0_8 h0_9 h0_10 h0_11 h0_12 h0_13 h0_14 h0_15 h0_16 σ0)) (isC := [0, 1, 2, 3, 4, 5, 6, 7, 8, 9, 10, 11, 12, 13, 14, 15, 16]) (isR := []) (perm := [0, 1, 2, 3, 4, 5, 6, 7, 8, 9, 10, 11, 12, 13, 14, 15, 16]) (rest := [.long z8]) (As := []) G zs_X3_227 dX3_checksum_42 (fun sz9 => c_X3_stepsMade l D cyI cyZ h0_0 h0_1 h0_2 h0_3 h0_4 h0_5 h0_6 h0_7 h0_8 h0_9 h0_10 h0_11 h0_12 h0_13 h0_14 h0_15 h0_16 σ0 z9 hc9 sz9) 0 rfl rfl rfl ⟨rfl, rfl, rfl, rfl⟩ rfl (Nat.le_of_ble_eq_true rfl) ⟨Nat.le_of_ble_eq_true rfl, Nat.le_of_ble_eq_true rfl, Nat.zero_le _, Nat.zero_le _⟩ rfl ?_
  obtain ⟨z10, hc10, h⟩ := zbd h
  refine zq_callSl (q := 48) (ws2 := (w_C cyI cyZ h0_0 h0_1 h0_2 h0_3 h0_4 h0_5 h0_6 h0_7 h0_8 h0_9 h0_10 h0_11 h0_12 h0_13 h0_14 h0_15 h0_16 σ0)) (isC := []) (isR := [0, 1, 2, 3, 4, 5, 6, 7, 8, 9, 10, 11, 12, 13, 14, 15, 16]) (perm := [0, 1, 2, 3, 4, 5, 6, 7, 8, 9, 10, 11, 12, 13, 14, 15, 16]) (rest := []) (As := [.long z8, .int z9]) G zs_X3_220 dX3_checksum_45 (fun sz9 => c_X3_mixed l D cyI cyZ z8 z9 z10 hc10 sz9) rfl ⟨rfl, rfl, rfl, rfl⟩ rfl (Nat.le_of_ble_eq_true rfl) ⟨Nat.le_of_ble_eq_true rfl, Nat.le_of_ble_eq_true rfl, Nat.zero_le _, Nat.zero_le _⟩ rfl ?_
  refine zq_lstore_n (q := 49) (lv2 := [(1, .long z10), (0, .ref h0_0)]) G dX3_checksum_48 rfl (by decide) rfl rfl ?_
  refine zq_lload_n (q := 50) G dX3_checksum_49 0 rfl rfl rfl ?_
  refine zq_aload_n (q := 51) G dX3_checksum_50 1 rfl rfl rfl ?_
  refine zq_get (q := 54) G zu_X3 rfl zw_X3_f12 dX3_checksum_51 0 0 rfl (by decide) ⟨⟨rfl, rfl⟩, rfl⟩ rfl rfl ?_
  obtain ⟨z11, hc11, h⟩ := zbd h
  refine zq_callSl (q := 57) (ws2 := (w_C cyI cyZ h0_0 h0_1 h0_2 h0_3 h0_4 h0_5 h0_6 h0_7 h0_8 h0_9 h0_10 h0_11 h0_12 h0_13 h0_14 h0_15 h0_16 σ0)) (isC := [1, 2, 3]) (isR := [0, 4, 5, 6, 7, 8, 9, 10, 11, 12, 13, 14, 15, 16]) (perm := [0, 14, 15, 16, 1, 2, 3, 4, 5, 6, 7, 8, 9, 10, 11, 12, 13]) (rest := []) (As := [.long z10, .ref h0_1]) G zs_X3_230 dX3_checksum_54 (fun sz9 => c_X3_mixedCosts l D cyI cyZ h0_1 h0_2 h0_3 σ0.1 z10 z11 hc11 sz9) rfl ⟨rfl, rfl, rfl, rfl⟩ rfl (Nat.le_of_ble_eq_true rfl) ⟨Nat.le_of_ble_eq_true rfl, Nat.le_of_ble_eq_true rfl, Nat.zero_le _, Nat.zero_le _⟩ rfl ?_
  refine zq_lstore_n (q := 58) (lv2 := [(1, .long z11), (0, .ref h0_0)]) G dX3_checksum_57 rfl (by decide) rfl rfl ?_
  refine zq_lload_n (q := 59) G dX3_checksum_58 0 rfl rfl rfl ?_
  refine zq_aload_n (q := 60) G dX3_checksum_59 1 rfl rfl rfl ?_
  obtain ⟨z12, hc12, h⟩ := zbd h
  refine zq_callVi (q := 63) (ws2 := (w_C cyI cyZ h0_0 h0_1 h0_2 h0_3 h0_4 h0_5 h0_6 h0_7 h0_8 h0_9 h0_10 h0_11 h0_12 h0_13 h0_14 h0_15 h0_16 z12.2)) (isC := [0, 1, 2, 3, 4, 5, 6, 7, 8, 9, 10, 11, 12, 13, 14, 15, 16]) (isR := []) (perm := [0, 1, 2, 3, 4, 5, 6, 7, 8, 9, 10, 11, 12, 13, 14, 15, 16]) (rest := [.long z11]) (As := []) G zs_X3_209 dX3_checksum_60 (fun sz9 => c_X3_minimum l D cyI cyZ h0_0 h0_1 h0_2 h0_3 h0_4 h0_5 h0_6 h0_7 h0_8 h0_9 h0_10 h0_11 h0_12 h0_13 h0_14 h0_15 h0_16 σ0 z12.1 z12.2 hc12 sz9) 0 rfl rfl rfl ⟨rfl, rfl, rfl, rfl⟩ rfl (Nat.le_of_ble_eq_true rfl) ⟨Nat.le_of_ble_eq_true rfl, Nat.le_of_ble_eq_true rfl, Nat.zero_le _, Nat.zero_le _⟩ rfl ?_
  obtain ⟨z13, hc13, h⟩ := zbd h
  refine zq_callSl (q := 66) (ws2 := (w_C cyI cyZ h0_0 h0_1 h0_2 h0_3 h0_4 h0_5 h0_6 h0_7 h0_8 h0_9 h0_10 h0_11 h0_12 h0_13 h0_14 h0_15 h0_16 z12.2)) (isC := []) (isR := [0, 1, 2, 3, 4, 5, 6, 7, 8, 9, 10, 11, 12, 13, 14, 15, 16]) (perm := [0, 1, 2, 3, 4, 5, 6, 7, 8, 9, 10, 11, 12, 13, 14, 15, 16]) (rest := []) (As := [.long z11, .int z12.1]) G zs_X3_220 dX3_checksum_63 (fun sz9 => c_X3_mixed l D cyI cyZ z11 z12.1 z13 hc13 sz9) rfl ⟨rfl, rfl, rfl, rfl⟩ rfl (Nat.le_of_ble_eq_true rfl) ⟨Nat.le_of_ble_eq_true rfl, Nat.le_of_ble_eq_true rfl, Nat.zero_le _, Nat.zero_le _⟩ rfl ?_
  refine zq_lstore_n (q := 67) (lv2 := [(1, .long z13), (0, .ref h0_0)]) G dX3_checksum_66 rfl (by decide) rfl rfl ?_
  refine zq_aload_n (q := 68) G dX3_checksum_67 1 rfl rfl rfl ?_
  obtain ⟨z14, hc14, h⟩ := zbd h
  refine zq_callVv (q := 71) (ws2 := (w_C cyI cyZ h0_0 h0_1 h0_2 h0_3 h0_4 h0_5 h0_6 h0_7 h0_8 h0_9 h0_10 h0_11 h0_12 h0_13 h0_14 h0_15 h0_16 z14)) (isC := [0, 1, 2, 3, 4, 5, 6, 7, 8, 9, 10, 11, 12, 13, 14, 15, 16]) (isR := []) (perm := [0, 1, 2, 3, 4, 5, 6, 7, 8, 9, 10, 11, 12, 13, 14, 15, 16]) (rest := []) (As := []) G zs_X3_143 dX3_checksum_68 (fun sz9 => c_X3_findFirstOptimal l D cyI cyZ h0_0 h0_1 h0_2 h0_3 h0_4 h0_5 h0_6 h0_7 h0_8 h0_9 h0_10 h0_11 h0_12 h0_13 h0_14 h0_15 h0_16 z12.2 z14 hc14 sz9) 0 rfl rfl rfl ⟨rfl, rfl, rfl, rfl⟩ rfl (Nat.le_of_ble_eq_true rfl) ⟨Nat.le_of_ble_eq_true rfl, Nat.le_of_ble_eq_true rfl, Nat.zero_le _, Nat.zero_le _⟩ rfl ?_
  refine zq_iconst (q := 72) (v := 0) G dX3_checksum_71 (by decide) rfl ?_
  refine zq_istore_n (q := 73) (lv2 := [(3, .int (0 : Int32)), (1, .long z13), (0, .ref h0_0)]) G dX3_checksum_72 rfl (by decide) rfl rfl ?_
  exact zq_sub _ [2, 1, 0] rfl (b73  _ _ _ _ h)
set_option maxHeartbeats 4000000 in
set_option maxRecDepth 100000 in
theorem c_X3_potentialsAddUp (l : Launch) (D : va_G) (cyI cyZ : ClassId) (h0_0 h0_1 h0_2 h0_3 h0_4 h0_5 h0_6 h0_7 h0_8 h0_9 h0_10 h0_11 h0_12 h0_13 h0_14 h0_15 h0_16 : Nat) (σ0 : zC) (r : Int32) (o0 : zC) (h : s_X3_potentialsAddUp σ0 = some (r, o0)) (sz : Nat) : zMi l yX3_potentialsAddUp cX3_potentialsAddUp 3 .boolean 5 108 D cyI cyZ sz [.ref h0_0] (w_C cyI cyZ h0_0 h0_1 h0_2 h0_3 h0_4 h0_5 h0_6 h0_7 h0_8 h0_9 h0_10 h0_11 h0_12 h0_13 h0_14 h0_15 h0_16 σ0) r (w_C cyI cyZ h0_0 h0_1 h0_2 h0_3 h0_4 h0_5 h0_6 h0_7 h0_8 h0_9 h0_10 h0_11 h0_12 h0_13 h0_14 h0_15 h0_16 o0) := by
  unfold s_X3_potentialsAddUp at h
  refine zstartI (lv0 := [(0, .ref h0_0)]) (by decide) (Nat.le_of_ble_eq_true rfl) rfl (fun p e s m args below meth c G hr hlocks => ?_)
  have b4 : ∀ (n : Nat) (τ0 : zC) (x1 : Int32) (x2 : Int32), s_X3_potentialsAddUp_4 n τ0 x1 x2 = some (r, o0) → zW p l e ({ frames := 5, cells := 0, slots := 0, locals := 108 } : Room) s m args below meth c D (va_A (w_C cyI cyZ h0_0 h0_1 h0_2 h0_3 h0_4 h0_5 h0_6 h0_7 h0_8 h0_9 h0_10 h0_11 h0_12 h0_13 h0_14 h0_15 h0_16 σ0) sz) 3 0 0 (MQ below (zQi D cyI cyZ sz (w_C cyI cyZ h0_0 h0_1 h0_2 h0_3 h0_4 h0_5 h0_6 h0_7 h0_8 h0_9 h0_10 h0_11 h0_12 h0_13 h0_14 h0_15 h0_16 σ0) r (w_C cyI cyZ h0_0 h0_1 h0_2 h0_3 h0_4 h0_5 h0_6 h0_7 h0_8 h0_9 h0_10 h0_11 h0_12 h0_13 h0_14 h0_15 h0_16 o0)) args s 0 0 (va_A (w_C cyI cyZ h0_0 h0_1 h0_2 h0_3 h0_4 h0_5 h0_6 h0_7 h0_8 h0_9 h0_10 h0_11 h0_12 h0_13 h0_14 h0_15 h0_16 σ0) sz)) 4 [(0, .ref h0_0), (1, .int x1), (2, .int x2)] [] (w_C cyI cyZ h0_0 h0_1 h0_2 h0_3 h0_4 h0_5 h0_6 h0_7 h0_8 h0_9 h0_10 h0_11 h0_12 h0_13 h0_14 h0_15 h0_16 τ0) := by
    intro n
    induction n with
    | zero => intro τ0 x1 x2 h; rw [s_X3_potentialsAddUp_4] at h; exact nomatch h
    | succ n ih =>
      intro τ0 x1 x2 h
      rw [s_X3_potentialsAddUp_4] at h
      refine zq_iload_n (q := 5) G dX3_potentialsAddUp_4 2 rfl rfl rfl ?_
      refine zq_aload_n (q := 6) G dX3_potentialsAddUp_5 0 rfl rfl rfl ?_
      refine zq_get (q := 9) G zu_X3 rfl zw_X3_f12 dX3_potentialsAddUp_6 0 0 rfl (by decide) ⟨⟨rfl, rfl⟩, rfl⟩ rfl rfl ?_
      refine zq_getN (q := 12) G zu_X1 rfl zw_X3_f83 dX3_potentialsAddUp_9 1 0 rfl (by decide) ⟨⟨rfl, rfl⟩, rfl⟩ rfl rfl ?_
      refine zq_icmp_ge (tgt := 37) (q := 15) G dX3_potentialsAddUp_12 (by decide) rfl (fun c1 => ?_) (fun c1 => ?_)
      · have h := zit h c1
        refine zq_iload_n (q := 38) G dX3_potentialsAddUp_37 1 rfl rfl rfl ?_
        refine zq_aload_n (q := 39) G dX3_potentialsAddUp_38 0 rfl rfl rfl ?_
        obtain ⟨z2, hc2, h⟩ := zbd h
        refine zq_callVi (q := 42) (ws2 := (w_C cyI cyZ h0_0 h0_1 h0_2 h0_3 h0_4 h0_5 h0_6 h0_7 h0_8 h0_9 h0_10 h0_11 h0_12 h0_13 h0_14 h0_15 h0_16 z2.2)) (isC := [0, 1, 2, 3, 4, 5, 6, 7, 8, 9, 10, 11, 12, 13, 14, 15, 16]) (isR := []) (perm := [0, 1, 2, 3, 4, 5, 6, 7, 8, 9, 10, 11, 12, 13, 14, 15, 16]) (rest := [.int x1]) (As := []) G zs_X3_209 dX3_potentialsAddUp_39 (fun sz9 => c_X3_minimum l D cyI cyZ h0_0 h0_1 h0_2 h0_3 h0_4 h0_5 h0_6 h0_7 h0_8 h0_9 h0_10 h0_11 h0_12 h0_13 h0_14 h0_15 h0_16 τ0 z2.1 z2.2 hc2 sz9) 0 rfl rfl rfl ⟨rfl, rfl, rfl, rfl⟩ rfl (Nat.le_of_ble_eq_true rfl) ⟨Nat.le_of_ble_eq_true rfl, Nat.le_of_ble_eq_true rfl, Nat.zero_le _, Nat.zero_le _⟩ rfl ?_
        refine zq_icmp_ne (tgt := 49) (q := 45) G dX3_potentialsAddUp_42 (by decide) rfl (fun c3 => ?_) (fun c3 => ?_)
        · have h := zie h c3
          refine zq_iconst (q := 50) (v := 0) G dX3_potentialsAddUp_49 (by decide) rfl ?_
          refine zq_ws (congrArg (fun w9 => (w_C cyI cyZ h0_0 h0_1 h0_2 h0_3 h0_4 h0_5 h0_6 h0_7 h0_8 h0_9 h0_10 h0_11 h0_12 h0_13 h0_14 h0_15 h0_16 w9.2)) (zsome h)) ?_
          exact zq_iret G hlocks hr rfl dX3_potentialsAddUp_50 (congrArg Prod.fst (zsome h))
        · have h := zit h c3
          refine zq_iconst (q := 46) (v := 1) G dX3_potentialsAddUp_45 (by decide) rfl ?_
          refine zq_goto (q := 50) G dX3_potentialsAddUp_46 (by decide) ?_
          refine zq_ws (congrArg (fun w9 => (w_C cyI cyZ h0_0 h0_1 h0_2 h0_3 h0_4 h0_5 h0_6 h0_7 h0_8 h0_9 h0_10 h0_11 h0_12 h0_13 h0_14 h0_15 h0_16 w9.2)) (zsome h)) ?_
          exact zq_iret G hlocks hr rfl dX3_potentialsAddUp_50 (congrArg Prod.fst (zsome h))
      · have h := zie h c1
        refine zq_iload_n (q := 16) G dX3_potentialsAddUp_15 1 rfl rfl rfl ?_
        refine zq_aload_n (q := 17) G dX3_potentialsAddUp_16 0 rfl rfl rfl ?_
        refine zq_get (q := 20) G zu_X3 rfl zw_X3_f26 dX3_potentialsAddUp_17 0 3 rfl (by decide) ⟨⟨rfl, rfl⟩, rfl⟩ rfl rfl ?_
        refine zq_iload_n (q := 21) G dX3_potentialsAddUp_20 2 rfl rfl rfl ?_
        obtain ⟨q4, h⟩ := zif h
        refine zq_iald (q := 22) G dX3_potentialsAddUp_21 12 rfl q4 rfl ?_
        refine zq_aload_n (q := 23) G dX3_potentialsAddUp_22 0 rfl rfl rfl ?_
        refine zq_get (q := 26) G zu_X3 rfl zw_X3_f30 dX3_potentialsAddUp_23 0 4 rfl (by decide) ⟨⟨rfl, rfl⟩, rfl⟩ rfl rfl ?_
        refine zq_iload_n (q := 27) G dX3_potentialsAddUp_26 2 rfl rfl rfl ?_
        obtain ⟨q5, h⟩ := zif h
        refine zq_iald (q := 28) G dX3_potentialsAddUp_27 13 rfl q5 rfl ?_
        refine zq_iadd (q := 29) G dX3_potentialsAddUp_28 rfl ?_
        refine zq_iadd (q := 30) G dX3_potentialsAddUp_29 rfl ?_
        refine zq_istore_n (q := 31) (lv2 := [(1, .int (x1 + ((τ0.2.2.2.1 x2.toNatClampNeg) + (τ0.2.2.2.2.1 x2.toNatClampNeg)))), (0, .ref h0_0), (2, .int x2)]) G dX3_potentialsAddUp_30 rfl (by decide) rfl rfl ?_
        refine zq_iinc (q := 34) (v := (x2 + 1)) (lv2 := [(2, .int (x2 + 1)), (1, .int (x1 + ((τ0.2.2.2.1 x2.toNatClampNeg) + (τ0.2.2.2.2.1 x2.toNatClampNeg)))), (0, .ref h0_0)]) G dX3_potentialsAddUp_31 2 rfl rfl (by decide) rfl rfl ?_
        refine zq_goto (q := 4) G dX3_potentialsAddUp_34 (by decide) ?_
        exact zq_sub _ [2, 1, 0] rfl (ih _ _ _ h)
  refine zq_iconst (q := 1) (v := 0) G dX3_potentialsAddUp_0 (by decide) rfl ?_
  refine zq_istore_n (q := 2) (lv2 := [(1, .int (0 : Int32)), (0, .ref h0_0)]) G dX3_potentialsAddUp_1 rfl (by decide) rfl rfl ?_
  refine zq_iconst (q := 3) (v := 0) G dX3_potentialsAddUp_2 (by decide) rfl ?_
  refine zq_istore_n (q := 4) (lv2 := [(2, .int (0 : Int32)), (1, .int (0 : Int32)), (0, .ref h0_0)]) G dX3_potentialsAddUp_3 rfl (by decide) rfl rfl ?_
  exact zq_sub _ [2, 1, 0] rfl (b4  _ _ _ _ h)
set_option maxHeartbeats 4000000 in
set_option maxRecDepth 100000 in
theorem c_X3_reducedCostsHold (l : Launch) (D : va_G) (cyI cyZ : ClassId) (h0_0 h0_1 h0_2 h0_3 h0_4 h0_5 h0_6 h0_7 h0_8 h0_9 h0_10 h0_11 h0_12 h0_13 h0_14 h0_15 h0_16 : Nat) (σ0 : zC) (r : Int32) (h : s_X3_reducedCostsHold σ0 = some r) (sz : Nat) : zMi l yX3_reducedCostsHold cX3_reducedCostsHold 4 .boolean 4 87 D cyI cyZ sz [.ref h0_0] (w_C cyI cyZ h0_0 h0_1 h0_2 h0_3 h0_4 h0_5 h0_6 h0_7 h0_8 h0_9 h0_10 h0_11 h0_12 h0_13 h0_14 h0_15 h0_16 σ0) r (w_C cyI cyZ h0_0 h0_1 h0_2 h0_3 h0_4 h0_5 h0_6 h0_7 h0_8 h0_9 h0_10 h0_11 h0_12 h0_13 h0_14 h0_15 h0_16 σ0) := by
  unfold s_X3_reducedCostsHold at h
  refine zstartI (lv0 := [(0, .ref h0_0)]) (by decide) (Nat.le_of_ble_eq_true rfl) rfl (fun p e s m args below meth c G hr hlocks => ?_)
  have b15 : ∀ (k2 : (zC → Int32 → Option (Int32))) (hk2 : ∀ (x1 : Int32), k2 σ0 x1 = some r → zW p l e ({ frames := 4, cells := 0, slots := 0, locals := 87 } : Room) s m args below meth c D (va_A (w_C cyI cyZ h0_0 h0_1 h0_2 h0_3 h0_4 h0_5 h0_6 h0_7 h0_8 h0_9 h0_10 h0_11 h0_12 h0_13 h0_14 h0_15 h0_16 σ0) sz) 4 0 0 (MQ below (zQi D cyI cyZ sz (w_C cyI cyZ h0_0 h0_1 h0_2 h0_3 h0_4 h0_5 h0_6 h0_7 h0_8 h0_9 h0_10 h0_11 h0_12 h0_13 h0_14 h0_15 h0_16 σ0) r (w_C cyI cyZ h0_0 h0_1 h0_2 h0_3 h0_4 h0_5 h0_6 h0_7 h0_8 h0_9 h0_10 h0_11 h0_12 h0_13 h0_14 h0_15 h0_16 σ0)) args s 0 0 (va_A (w_C cyI cyZ h0_0 h0_1 h0_2 h0_3 h0_4 h0_5 h0_6 h0_7 h0_8 h0_9 h0_10 h0_11 h0_12 h0_13 h0_14 h0_15 h0_16 σ0) sz)) 2 [(0, .ref h0_0), (1, .int x1)] [] (w_C cyI cyZ h0_0 h0_1 h0_2 h0_3 h0_4 h0_5 h0_6 h0_7 h0_8 h0_9 h0_10 h0_11 h0_12 h0_13 h0_14 h0_15 h0_16 σ0)) (n : Nat) (x1 : Int32) (x2 : Int32), s_X3_reducedCostsHold_15 k2 n σ0 x1 x2 = some r → zW p l e ({ frames := 4, cells := 0, slots := 0, locals := 87 } : Room) s m args below meth c D (va_A (w_C cyI cyZ h0_0 h0_1 h0_2 h0_3 h0_4 h0_5 h0_6 h0_7 h0_8 h0_9 h0_10 h0_11 h0_12 h0_13 h0_14 h0_15 h0_16 σ0) sz) 4 0 0 (MQ below (zQi D cyI cyZ sz (w_C cyI cyZ h0_0 h0_1 h0_2 h0_3 h0_4 h0_5 h0_6 h0_7 h0_8 h0_9 h0_10 h0_11 h0_12 h0_13 h0_14 h0_15 h0_16 σ0) r (w_C cyI cyZ h0_0 h0_1 h0_2 h0_3 h0_4 h0_5 h0_6 h0_7 h0_8 h0_9 h0_10 h0_11 h0_12 h0_13 h0_14 h0_15 h0_16 σ0)) args s 0 0 (va_A (w_C cyI cyZ h0_0 h0_1 h0_2 h0_3 h0_4 h0_5 h0_6 h0_7 h0_8 h0_9 h0_10 h0_11 h0_12 h0_13 h0_14 h0_15 h0_16 σ0) sz)) 15 [(0, .ref h0_0), (1, .int x1), (2, .int x2)] [] (w_C cyI cyZ h0_0 h0_1 h0_2 h0_3 h0_4 h0_5 h0_6 h0_7 h0_8 h0_9 h0_10 h0_11 h0_12 h0_13 h0_14 h0_15 h0_16 σ0) := by
    intro k2 hk2
    intro n
    induction n with
    | zero => intro x1 x2 h; rw [s_X3_reducedCostsHold_15] at h; exact nomatch h
    | succ n ih =>
      intro x1 x2 h
      rw [s_X3_reducedCostsHold_15] at h
      refine zq_iload_n (q := 16) G dX3_reducedCostsHold_15 2 rfl rfl rfl ?_
      refine zq_aload_n (q := 17) G dX3_reducedCostsHold_16 0 rfl rfl rfl ?_
      refine zq_get (q := 20) G zu_X3 rfl zw_X3_f12 dX3_reducedCostsHold_17 0 0 rfl (by decide) ⟨⟨rfl, rfl⟩, rfl⟩ rfl rfl ?_
      refine zq_getN (q := 23) G zu_X1 rfl zw_X3_f83 dX3_reducedCostsHold_20 1 0 rfl (by decide) ⟨⟨rfl, rfl⟩, rfl⟩ rfl rfl ?_
      refine zq_icmp_ge (tgt := 59) (q := 26) G dX3_reducedCostsHold_23 (by decide) rfl (fun c1 => ?_) (fun c1 => ?_)
      · have h := zit h c1
        refine zq_iinc (q := 62) (v := (x1 + 1)) (lv2 := [(1, .int (x1 + 1)), (0, .ref h0_0), (2, .int x2)]) G dX3_reducedCostsHold_59 1 rfl rfl (by decide) rfl rfl ?_
        refine zq_goto (q := 2) G dX3_reducedCostsHold_62 (by decide) ?_
        exact zq_sub _ [1, 0] rfl (hk2 _ h)
      · have h := zie h c1
        refine zq_aload_n (q := 27) G dX3_reducedCostsHold_26 0 rfl rfl rfl ?_
        refine zq_iload_n (q := 28) G dX3_reducedCostsHold_27 1 rfl rfl rfl ?_
        refine zq_iload_n (q := 29) G dX3_reducedCostsHold_28 2 rfl rfl rfl ?_
        obtain ⟨z2, hc2, h⟩ := zbd h
        refine zq_callVi (q := 32) (ws2 := (w_C cyI cyZ h0_0 h0_1 h0_2 h0_3 h0_4 h0_5 h0_6 h0_7 h0_8 h0_9 h0_10 h0_11 h0_12 h0_13 h0_14 h0_15 h0_16 σ0)) (isC := [0, 1, 2, 3, 4, 5, 6, 7, 8, 9, 10, 11, 12, 13, 14, 15, 16]) (isR := []) (perm := [0, 1, 2, 3, 4, 5, 6, 7, 8, 9, 10, 11, 12, 13, 14, 15, 16]) (rest := []) (As := [.int x1, .int x2]) G zs_X3_155 dX3_reducedCostsHold_29 (fun sz9 => c_X3_reducedBy l D cyI cyZ h0_0 h0_1 h0_2 h0_3 h0_4 h0_5 h0_6 h0_7 h0_8 h0_9 h0_10 h0_11 h0_12 h0_13 h0_14 h0_15 h0_16 σ0 x1 x2 z2 hc2 sz9) 0 rfl rfl rfl ⟨rfl, rfl, rfl, rfl⟩ rfl (Nat.le_of_ble_eq_true rfl) ⟨Nat.le_of_ble_eq_true rfl, Nat.le_of_ble_eq_true rfl, Nat.zero_le _, Nat.zero_le _⟩ rfl ?_
        refine zq_istore_n (q := 33) (lv2 := [(3, .int z2), (0, .ref h0_0), (1, .int x1), (2, .int x2)]) G dX3_reducedCostsHold_32 rfl (by decide) rfl rfl ?_
        refine zq_iload_n (q := 34) G dX3_reducedCostsHold_33 0 rfl rfl rfl ?_
        refine zq_if_lt (tgt := 51) (q := 37) G dX3_reducedCostsHold_34 (by decide) rfl (fun c3 => ?_) (fun c3 => ?_)
        · have h := zit h c3
          refine zq_iconst (q := 52) (v := 0) G dX3_reducedCostsHold_51 (by decide) rfl ?_
          exact zq_iret G hlocks hr rfl dX3_reducedCostsHold_52 (zsome h)
        · have h := zie h c3
          refine zq_iload_n (q := 38) G dX3_reducedCostsHold_37 0 rfl rfl rfl ?_
          refine zq_if_eq (tgt := 53) (q := 41) G dX3_reducedCostsHold_38 (by decide) rfl (fun c4 => ?_) (fun c4 => ?_)
          · have h := zit h c4
            refine zq_iinc (q := 56) (v := (x2 + 1)) (lv2 := [(2, .int (x2 + 1)), (3, .int z2), (0, .ref h0_0), (1, .int x1)]) G dX3_reducedCostsHold_53 3 rfl rfl (by decide) rfl rfl ?_
            refine zq_goto (q := 15) G dX3_reducedCostsHold_56 (by decide) ?_
            exact zq_sub _ [2, 3, 0] rfl (ih _ _ h)
          · have h := zie h c4
            refine zq_aload_n (q := 42) G dX3_reducedCostsHold_41 1 rfl rfl rfl ?_
            refine zq_get (q := 45) G zu_X3 rfl zw_X3_f33 dX3_reducedCostsHold_42 0 5 rfl (by decide) ⟨⟨rfl, rfl⟩, rfl⟩ rfl rfl ?_
            refine zq_iload_n (q := 46) G dX3_reducedCostsHold_45 2 rfl rfl rfl ?_
            obtain ⟨q5, h⟩ := zif h
            refine zq_iald (q := 47) G dX3_reducedCostsHold_46 14 rfl q5 rfl ?_
            refine zq_iload_n (q := 48) G dX3_reducedCostsHold_47 3 rfl rfl rfl ?_
            refine zq_icmp_ne (tgt := 53) (q := 51) G dX3_reducedCostsHold_48 (by decide) rfl (fun c6 => ?_) (fun c6 => ?_)
            · have h := zie h c6
              refine zq_iinc (q := 56) (v := (x2 + 1)) (lv2 := [(2, .int (x2 + 1)), (3, .int z2), (0, .ref h0_0), (1, .int x1)]) G dX3_reducedCostsHold_53 3 rfl rfl (by decide) rfl rfl ?_
              refine zq_goto (q := 15) G dX3_reducedCostsHold_56 (by decide) ?_
              exact zq_sub _ [2, 3, 0] rfl (ih _ _ h)
            · have h := zit h c6
              refine zq_iconst (q := 52) (v := 0) G dX3_reducedCostsHold_51 (by decide) rfl ?_
              exact zq_iret G hlocks hr rfl dX3_reducedCostsHold_52 (zsome h)
  have b2 : ∀ (n : Nat) (x1 : Int32), s_X3_reducedCostsHold_2 n σ0 x1 = some r → zW p l e ({ frames := 4, cells := 0, slots := 0, locals := 87 } : Room) s m args below meth c D (va_A (w_C cyI cyZ h0_0 h0_1 h0_2 h0_3 h0_4 h0_5 h0_6 h0_7 h0_8 h0_9 h0_10 h0_11 h0_12 h0_13 h0_14 h0_15 h0_16 σ0) sz) 4 0 0 (MQ below (zQi D cyI cyZ sz (w_C cyI cyZ h0_0 h0_1 h0_2 h0_3 h0_4 h0_5 h0_6 h0_7 h0_8 h0_9 h0_10 h0_11 h0_12 h0_13 h0_14 h0_15 h0_16 σ0) r (w_C cyI cyZ h0_0 h0_1 h0_2 h0_3 h0_4 h0_5 h0_6 h0_7 h0_8 h0_9 h0_10 h0_11 h0_12 h0_13 h0_14 h0_15 h0_16 σ0)) args s 0 0 (va_A (w_C cyI cyZ h0_0 h0_1 h0_2 h0_3 h0_4 h0_5 h0_6 h0_7 h0_8 h0_9 h0_10 h0_11 h0_12 h0_13 h0_14 h0_15 h0_16 σ0) sz)) 2 [(0, .ref h0_0), (1, .int x1)] [] (w_C cyI cyZ h0_0 h0_1 h0_2 h0_3 h0_4 h0_5 h0_6 h0_7 h0_8 h0_9 h0_10 h0_11 h0_12 h0_13 h0_14 h0_15 h0_16 σ0) := by
    intro n
    induction n with
    | zero => intro x1 h; rw [s_X3_reducedCostsHold_2] at h; exact nomatch h
    | succ n ih =>
      intro x1 h
      rw [s_X3_reducedCostsHold_2] at h
      refine zq_iload_n (q := 3) G dX3_reducedCostsHold_2 1 rfl rfl rfl ?_
      refine zq_aload_n (q := 4) G dX3_reducedCostsHold_3 0 rfl rfl rfl ?_
      refine zq_get (q := 7) G zu_X3 rfl zw_X3_f12 dX3_reducedCostsHold_4 0 0 rfl (by decide) ⟨⟨rfl, rfl⟩, rfl⟩ rfl rfl ?_
      refine zq_getN (q := 10) G zu_X1 rfl zw_X3_f83 dX3_reducedCostsHold_7 1 0 rfl (by decide) ⟨⟨rfl, rfl⟩, rfl⟩ rfl rfl ?_
      refine zq_icmp_ge (tgt := 65) (q := 13) G dX3_reducedCostsHold_10 (by decide) rfl (fun c1 => ?_) (fun c1 => ?_)
      · have h := zit h c1
        refine zq_iconst (q := 66) (v := 1) G dX3_reducedCostsHold_65 (by decide) rfl ?_
        exact zq_iret G hlocks hr rfl dX3_reducedCostsHold_66 (zsome h)
      · have h := zie h c1
        refine zq_iconst (q := 14) (v := 0) G dX3_reducedCostsHold_13 (by decide) rfl ?_
        refine zq_istore_n (q := 15) (lv2 := [(2, .int (0 : Int32)), (0, .ref h0_0), (1, .int x1)]) G dX3_reducedCostsHold_14 rfl (by decide) rfl rfl ?_
        exact zq_sub _ [1, 2, 0] rfl (b15 _ ih _ _ _ h)
  refine zq_iconst (q := 1) (v := 0) G dX3_reducedCostsHold_0 (by decide) rfl ?_
  refine zq_istore_n (q := 2) (lv2 := [(1, .int (0 : Int32)), (0, .ref h0_0)]) G dX3_reducedCostsHold_1 rfl (by decide) rfl rfl ?_
  exact zq_sub _ [1, 0] rfl (b2  _ _ h)
set_option maxHeartbeats 4000000 in
set_option maxRecDepth 100000 in
theorem c_X3_cellSplitHolds (l : Launch) (hst : l.stackTraces = false) (D : va_G) (cyI cyZ : ClassId) (h0_0 h0_1 h0_2 h0_3 h0_4 h0_5 h0_6 h0_7 h0_8 h0_9 h0_10 h0_11 h0_12 h0_13 h0_14 h0_15 h0_16 : Nat) (σ0 : zC) (z : Sum String Int32) (o0 : zC) (h : s_X3_cellSplitHolds σ0 = some (z, o0)) (sz : Nat) : zXi l yX3_cellSplitHolds cX3_cellSplitHolds 2 .boolean 10 176 D cyI cyZ sz [.ref h0_0] (w_C cyI cyZ h0_0 h0_1 h0_2 h0_3 h0_4 h0_5 h0_6 h0_7 h0_8 h0_9 h0_10 h0_11 h0_12 h0_13 h0_14 h0_15 h0_16 σ0) z (w_C cyI cyZ h0_0 h0_1 h0_2 h0_3 h0_4 h0_5 h0_6 h0_7 h0_8 h0_9 h0_10 h0_11 h0_12 h0_13 h0_14 h0_15 h0_16 o0) := by
  unfold s_X3_cellSplitHolds at h
  refine zstartXI (lv0 := [(0, .ref h0_0)]) (by decide) (Nat.le_of_ble_eq_true rfl) rfl (fun p e s m args below meth c G hr hlocks ht => ?_)
  refine zq_aload_n (q := 1) G dX3_cellSplitHolds_0 0 rfl rfl rfl ?_
  refine zq_iconst (q := 2) (v := 0) G dX3_cellSplitHolds_1 (by decide) rfl ?_
  refine zq_iconst (q := 3) (v := 0) G dX3_cellSplitHolds_2 (by decide) rfl ?_
  obtain ⟨z1, hc1, h⟩ := zbd h
  rcases zsum z1.1 with ⟨E1, e1⟩ | ⟨r1, e1⟩
  · have h := zselL2 h e1
    exact zq_outVi (ws2 := (w_C cyI cyZ h0_0 h0_1 h0_2 h0_3 h0_4 h0_5 h0_6 h0_7 h0_8 h0_9 h0_10 h0_11 h0_12 h0_13 h0_14 h0_15 h0_16 z1.2)) (isC := [0, 1, 2, 3, 4, 5, 6, 7, 8, 9, 10, 11, 12, 13, 14, 15, 16]) (isR := []) (perm := [0, 1, 2, 3, 4, 5, 6, 7, 8, 9, 10, 11, 12, 13, 14, 15, 16]) (rest := []) (As := [.int (0 : Int32), .int (0 : Int32)]) G hlocks ht zs_X3_254 dX3_cellSplitHolds_3 (fun sz9 => c_X3_minimumWith l hst D cyI cyZ h0_0 h0_1 h0_2 h0_3 h0_4 h0_5 h0_6 h0_7 h0_8 h0_9 h0_10 h0_11 h0_12 h0_13 h0_14 h0_15 h0_16 σ0 (0 : Int32) (0 : Int32) (.inl E1) z1.2 (zpair hc1 e1) sz9) 0 rfl rfl rfl ⟨rfl, rfl, rfl, rfl⟩ rfl (Nat.le_of_ble_eq_true rfl) ⟨Nat.le_of_ble_eq_true rfl, Nat.le_of_ble_eq_true rfl⟩ rfl rfl (congrArg Prod.fst (zsome h)).symm (congrArg (fun w9 => (w_C cyI cyZ h0_0 h0_1 h0_2 h0_3 h0_4 h0_5 h0_6 h0_7 h0_8 h0_9 h0_10 h0_11 h0_12 h0_13 h0_14 h0_15 h0_16 w9.2)) (zsome h))
  · have h := zselR2 h e1
    refine zq_callVi (q := 6) (ws2 := (w_C cyI cyZ h0_0 h0_1 h0_2 h0_3 h0_4 h0_5 h0_6 h0_7 h0_8 h0_9 h0_10 h0_11 h0_12 h0_13 h0_14 h0_15 h0_16 z1.2)) (isC := [0, 1, 2, 3, 4, 5, 6, 7, 8, 9, 10, 11, 12, 13, 14, 15, 16]) (isR := []) (perm := [0, 1, 2, 3, 4, 5, 6, 7, 8, 9, 10, 11, 12, 13, 14, 15, 16]) (rest := []) (As := [.int (0 : Int32), .int (0 : Int32)]) G zs_X3_254 dX3_cellSplitHolds_3 (fun sz9 => zXi_ret (c_X3_minimumWith l hst D cyI cyZ h0_0 h0_1 h0_2 h0_3 h0_4 h0_5 h0_6 h0_7 h0_8 h0_9 h0_10 h0_11 h0_12 h0_13 h0_14 h0_15 h0_16 σ0 (0 : Int32) (0 : Int32) (.inr r1) z1.2 (zpair hc1 e1) sz9)) 0 rfl rfl rfl ⟨rfl, rfl, rfl, rfl⟩ rfl (Nat.le_of_ble_eq_true rfl) ⟨Nat.le_of_ble_eq_true rfl, Nat.le_of_ble_eq_true rfl, Nat.zero_le _, Nat.zero_le _⟩ rfl ?_
    refine zq_istore_n (q := 7) (lv2 := [(1, .int r1), (0, .ref h0_0)]) G dX3_cellSplitHolds_6 rfl (by decide) rfl rfl ?_
    refine zq_aload_n (q := 8) G dX3_cellSplitHolds_7 1 rfl rfl rfl ?_
    refine zq_get (q := 11) G zu_X3 rfl zw_X3_f12 dX3_cellSplitHolds_8 0 0 rfl (by decide) ⟨⟨rfl, rfl⟩, rfl⟩ rfl rfl ?_
    refine zq_getN (q := 14) G zu_X1 rfl zw_X3_f83 dX3_cellSplitHolds_11 1 0 rfl (by decide) ⟨⟨rfl, rfl⟩, rfl⟩ rfl rfl ?_
    refine zq_iconst (q := 15) (v := 1) G dX3_cellSplitHolds_14 (by decide) rfl ?_
    refine zq_icmp_le (tgt := 29) (q := 18) G dX3_cellSplitHolds_15 (by decide) rfl (fun c2 => ?_) (fun c2 => ?_)
    · have h := zit h c2
      refine zq_aload_n (q := 30) G dX3_cellSplitHolds_29 1 rfl rfl rfl ?_
      obtain ⟨z3, hc3, h⟩ := zbd h
      refine zq_callVi (q := 33) (ws2 := (w_C cyI cyZ h0_0 h0_1 h0_2 h0_3 h0_4 h0_5 h0_6 h0_7 h0_8 h0_9 h0_10 h0_11 h0_12 h0_13 h0_14 h0_15 h0_16 z3.2)) (isC := [0, 1, 2, 3, 4, 5, 6, 7, 8, 9, 10, 11, 12, 13, 14, 15, 16]) (isR := []) (perm := [0, 1, 2, 3, 4, 5, 6, 7, 8, 9, 10, 11, 12, 13, 14, 15, 16]) (rest := []) (As := []) G zs_X3_209 dX3_cellSplitHolds_30 (fun sz9 => c_X3_minimum l D cyI cyZ h0_0 h0_1 h0_2 h0_3 h0_4 h0_5 h0_6 h0_7 h0_8 h0_9 h0_10 h0_11 h0_12 h0_13 h0_14 h0_15 h0_16 z1.2 z3.1 z3.2 hc3 sz9) 0 rfl rfl rfl ⟨rfl, rfl, rfl, rfl⟩ rfl (Nat.le_of_ble_eq_true rfl) ⟨Nat.le_of_ble_eq_true rfl, Nat.le_of_ble_eq_true rfl, Nat.zero_le _, Nat.zero_le _⟩ rfl ?_
      refine zq_iload_n (q := 34) G dX3_cellSplitHolds_33 0 rfl rfl rfl ?_
      refine zq_icmp_ne (tgt := 41) (q := 37) G dX3_cellSplitHolds_34 (by decide) rfl (fun c4 => ?_) (fun c4 => ?_)
      · have h := zie h c4
        refine zq_iconst (q := 42) (v := 0) G dX3_cellSplitHolds_41 (by decide) rfl ?_
        refine zq_ws (congrArg (fun w9 => (w_C cyI cyZ h0_0 h0_1 h0_2 h0_3 h0_4 h0_5 h0_6 h0_7 h0_8 h0_9 h0_10 h0_11 h0_12 h0_13 h0_14 h0_15 h0_16 w9.2)) (zsome h)) ?_
        exact zq_iretX G hlocks hr rfl dX3_cellSplitHolds_42 (congrArg Prod.fst (zsome h)).symm
      · have h := zit h c4
        refine zq_iconst (q := 38) (v := 1) G dX3_cellSplitHolds_37 (by decide) rfl ?_
        refine zq_goto (q := 42) G dX3_cellSplitHolds_38 (by decide) ?_
        refine zq_ws (congrArg (fun w9 => (w_C cyI cyZ h0_0 h0_1 h0_2 h0_3 h0_4 h0_5 h0_6 h0_7 h0_8 h0_9 h0_10 h0_11 h0_12 h0_13 h0_14 h0_15 h0_16 w9.2)) (zsome h)) ?_
        exact zq_iretX G hlocks hr rfl dX3_cellSplitHolds_42 (congrArg Prod.fst (zsome h)).symm
    · have h := zie h c2
      refine zq_iload_n (q := 19) G dX3_cellSplitHolds_18 0 rfl rfl rfl ?_
      refine zq_aload_n (q := 20) G dX3_cellSplitHolds_19 1 rfl rfl rfl ?_
      refine zq_iconst (q := 21) (v := 0) G dX3_cellSplitHolds_20 (by decide) rfl ?_
      refine zq_iconst (q := 22) (v := 0) G dX3_cellSplitHolds_21 (by decide) rfl ?_
      obtain ⟨z5, hc5, h⟩ := zbd h
      rcases zsum z5.1 with ⟨E5, e5⟩ | ⟨r5, e5⟩
      · have h := zselL2 h e5
        exact zq_outVi (ws2 := (w_C cyI cyZ h0_0 h0_1 h0_2 h0_3 h0_4 h0_5 h0_6 h0_7 h0_8 h0_9 h0_10 h0_11 h0_12 h0_13 h0_14 h0_15 h0_16 z5.2)) (isC := [0, 1, 2, 3, 4, 5, 6, 7, 8, 9, 10, 11, 12, 13, 14, 15, 16]) (isR := []) (perm := [0, 1, 2, 3, 4, 5, 6, 7, 8, 9, 10, 11, 12, 13, 14, 15, 16]) (rest := [.int r1]) (As := [.int (0 : Int32), .int (0 : Int32)]) G hlocks ht zs_X3_260 dX3_cellSplitHolds_22 (fun sz9 => c_X3_minimumWithout l hst D cyI cyZ h0_0 h0_1 h0_2 h0_3 h0_4 h0_5 h0_6 h0_7 h0_8 h0_9 h0_10 h0_11 h0_12 h0_13 h0_14 h0_15 h0_16 z1.2 (0 : Int32) (0 : Int32) (.inl E5) z5.2 (zpair hc5 e5) sz9) 0 rfl rfl rfl ⟨rfl, rfl, rfl, rfl⟩ rfl (Nat.le_of_ble_eq_true rfl) ⟨Nat.le_of_ble_eq_true rfl, Nat.le_of_ble_eq_true rfl⟩ rfl rfl (congrArg Prod.fst (zsome h)).symm (congrArg (fun w9 => (w_C cyI cyZ h0_0 h0_1 h0_2 h0_3 h0_4 h0_5 h0_6 h0_7 h0_8 h0_9 h0_10 h0_11 h0_12 h0_13 h0_14 h0_15 h0_16 w9.2)) (zsome h))
      · have h := zselR2 h e5
        refine zq_callVi (q := 25) (ws2 := (w_C cyI cyZ h0_0 h0_1 h0_2 h0_3 h0_4 h0_5 h0_6 h0_7 h0_8 h0_9 h0_10 h0_11 h0_12 h0_13 h0_14 h0_15 h0_16 z5.2)) (isC := [0, 1, 2, 3, 4, 5, 6, 7, 8, 9, 10, 11, 12, 13, 14, 15, 16]) (isR := []) (perm := [0, 1, 2, 3, 4, 5, 6, 7, 8, 9, 10, 11, 12, 13, 14, 15, 16]) (rest := [.int r1]) (As := [.int (0 : Int32), .int (0 : Int32)]) G zs_X3_260 dX3_cellSplitHolds_22 (fun sz9 => zXi_ret (c_X3_minimumWithout l hst D cyI cyZ h0_0 h0_1 h0_2 h0_3 h0_4 h0_5 h0_6 h0_7 h0_8 h0_9 h0_10 h0_11 h0_12 h0_13 h0_14 h0_15 h0_16 z1.2 (0 : Int32) (0 : Int32) (.inr r5) z5.2 (zpair hc5 e5) sz9)) 0 rfl rfl rfl ⟨rfl, rfl, rfl, rfl⟩ rfl (Nat.le_of_ble_eq_true rfl) ⟨Nat.le_of_ble_eq_true rfl, Nat.le_of_ble_eq_true rfl, Nat.zero_le _, Nat.zero_le _⟩ rfl ?_
        refine zq_mmin (q := 28) G zl_X3_78 zstat_J9_min_7cf53 zini_J9 zcode_J9_min_7cf53 dX3_cellSplitHolds_25 ⟨Nat.le_of_ble_eq_true rfl, Nat.le_of_ble_eq_true rfl, Nat.zero_le _, Nat.zero_le _⟩ rfl ?_
        refine zq_istore_n (q := 29) (lv2 := [(1, .int (if r5 < r1 then r5 else r1)), (0, .ref h0_0)]) G dX3_cellSplitHolds_28 rfl (by decide) rfl rfl ?_
        refine zq_aload_n (q := 30) G dX3_cellSplitHolds_29 1 rfl rfl rfl ?_
        obtain ⟨z6, hc6, h⟩ := zbd h
        refine zq_callVi (q := 33) (ws2 := (w_C cyI cyZ h0_0 h0_1 h0_2 h0_3 h0_4 h0_5 h0_6 h0_7 h0_8 h0_9 h0_10 h0_11 h0_12 h0_13 h0_14 h0_15 h0_16 z6.2)) (isC := [0, 1, 2, 3, 4, 5, 6, 7, 8, 9, 10, 11, 12, 13, 14, 15, 16]) (isR := []) (perm := [0, 1, 2, 3, 4, 5, 6, 7, 8, 9, 10, 11, 12, 13, 14, 15, 16]) (rest := []) (As := []) G zs_X3_209 dX3_cellSplitHolds_30 (fun sz9 => c_X3_minimum l D cyI cyZ h0_0 h0_1 h0_2 h0_3 h0_4 h0_5 h0_6 h0_7 h0_8 h0_9 h0_10 h0_11 h0_12 h0_13 h0_14 h0_15 h0_16 z5.2 z6.1 z6.2 hc6 sz9) 0 rfl rfl rfl ⟨rfl, rfl, rfl, rfl⟩ rfl (Nat.le_of_ble_eq_true rfl) ⟨Nat.le_of_ble_eq_true rfl, Nat.le_of_ble_eq_true rfl, Nat.zero_le _, Nat.zero_le _⟩ rfl ?_
        refine zq_iload_n (q := 34) G dX3_cellSplitHolds_33 0 rfl rfl rfl ?_
        refine zq_icmp_ne (tgt := 41) (q := 37) G dX3_cellSplitHolds_34 (by decide) rfl (fun c7 => ?_) (fun c7 => ?_)
        · have h := zie h c7
          refine zq_iconst (q := 42) (v := 0) G dX3_cellSplitHolds_41 (by decide) rfl ?_
          refine zq_ws (congrArg (fun w9 => (w_C cyI cyZ h0_0 h0_1 h0_2 h0_3 h0_4 h0_5 h0_6 h0_7 h0_8 h0_9 h0_10 h0_11 h0_12 h0_13 h0_14 h0_15 h0_16 w9.2)) (zsome h)) ?_
          exact zq_iretX G hlocks hr rfl dX3_cellSplitHolds_42 (congrArg Prod.fst (zsome h)).symm
        · have h := zit h c7
          refine zq_iconst (q := 38) (v := 1) G dX3_cellSplitHolds_37 (by decide) rfl ?_
          refine zq_goto (q := 42) G dX3_cellSplitHolds_38 (by decide) ?_
          refine zq_ws (congrArg (fun w9 => (w_C cyI cyZ h0_0 h0_1 h0_2 h0_3 h0_4 h0_5 h0_6 h0_7 h0_8 h0_9 h0_10 h0_11 h0_12 h0_13 h0_14 h0_15 h0_16 w9.2)) (zsome h)) ?_
          exact zq_iretX G hlocks hr rfl dX3_cellSplitHolds_42 (congrArg Prod.fst (zsome h)).symm
set_option maxHeartbeats 4000000 in
set_option maxRecDepth 100000 in
theorem c_X3_bottleneckHolds (l : Launch) (hst : l.stackTraces = false) (D : va_G) (cyI cyZ : ClassId) (h0_0 h0_1 h0_2 h0_3 h0_4 h0_5 h0_6 h0_7 h0_8 h0_9 h0_10 h0_11 h0_12 h0_13 h0_14 h0_15 h0_16 : Nat) (σ0 : zC) (z : Sum String Int32) (o0 : zC) (h : s_X3_bottleneckHolds σ0 = some (z, o0)) (sz : Nat) : zXi l yX3_bottleneckHolds cX3_bottleneckHolds 2 .boolean 8 133 D cyI cyZ sz [.ref h0_0] (w_C cyI cyZ h0_0 h0_1 h0_2 h0_3 h0_4 h0_5 h0_6 h0_7 h0_8 h0_9 h0_10 h0_11 h0_12 h0_13 h0_14 h0_15 h0_16 σ0) z (w_C cyI cyZ h0_0 h0_1 h0_2 h0_3 h0_4 h0_5 h0_6 h0_7 h0_8 h0_9 h0_10 h0_11 h0_12 h0_13 h0_14 h0_15 h0_16 o0) := by
  unfold s_X3_bottleneckHolds at h
  refine zstartXI (lv0 := [(0, .ref h0_0)]) (by decide) (Nat.le_of_ble_eq_true rfl) rfl (fun p e s m args below meth c G hr hlocks ht => ?_)
  refine zq_aload_n (q := 1) G dX3_bottleneckHolds_0 0 rfl rfl rfl ?_
  obtain ⟨z1, hc1, h⟩ := zbd h
  refine zq_callVi (q := 4) (ws2 := (w_C cyI cyZ h0_0 h0_1 h0_2 h0_3 h0_4 h0_5 h0_6 h0_7 h0_8 h0_9 h0_10 h0_11 h0_12 h0_13 h0_14 h0_15 h0_16 z1.2)) (isC := [0, 1, 2, 3, 4, 5, 6, 7, 8, 9, 10, 11, 12, 13, 14, 15, 16]) (isR := []) (perm := [0, 1, 2, 3, 4, 5, 6, 7, 8, 9, 10, 11, 12, 13, 14, 15, 16]) (rest := []) (As := []) G zs_X3_263 dX3_bottleneckHolds_1 (fun sz9 => c_X3_bottleneck l D cyI cyZ h0_0 h0_1 h0_2 h0_3 h0_4 h0_5 h0_6 h0_7 h0_8 h0_9 h0_10 h0_11 h0_12 h0_13 h0_14 h0_15 h0_16 σ0 z1.1 z1.2 hc1 sz9) 0 rfl rfl rfl ⟨rfl, rfl, rfl, rfl⟩ rfl (Nat.le_of_ble_eq_true rfl) ⟨Nat.le_of_ble_eq_true rfl, Nat.le_of_ble_eq_true rfl, Nat.zero_le _, Nat.zero_le _⟩ rfl ?_
  refine zq_istore_n (q := 5) (lv2 := [(1, .int z1.1), (0, .ref h0_0)]) G dX3_bottleneckHolds_4 rfl (by decide) rfl rfl ?_
  refine zq_aload_n (q := 6) G dX3_bottleneckHolds_5 1 rfl rfl rfl ?_
  refine zq_iload_n (q := 7) G dX3_bottleneckHolds_6 0 rfl rfl rfl ?_
  obtain ⟨z2, hc2, h⟩ := zbd h
  rcases zsum z2.1 with ⟨E2, e2⟩ | ⟨r2, e2⟩
  · have h := zselL2 h e2
    exact zq_outVi (ws2 := (w_C cyI cyZ h0_0 h0_1 h0_2 h0_3 h0_4 h0_5 h0_6 h0_7 h0_8 h0_9 h0_10 h0_11 h0_12 h0_13 h0_14 h0_15 h0_16 z2.2)) (isC := [0, 1, 2, 3, 4, 5, 6, 7, 8, 9, 10, 11, 12, 13, 14, 15, 16]) (isR := []) (perm := [0, 1, 2, 3, 4, 5, 6, 7, 8, 9, 10, 11, 12, 13, 14, 15, 16]) (rest := []) (As := [.int z1.1]) G hlocks ht zs_X3_266 dX3_bottleneckHolds_7 (fun sz9 => c_X3_fits l hst D cyI cyZ h0_0 h0_1 h0_2 h0_3 h0_4 h0_5 h0_6 h0_7 h0_8 h0_9 h0_10 h0_11 h0_12 h0_13 h0_14 h0_15 h0_16 z1.2 z1.1 (.inl E2) z2.2 (zpair hc2 e2) sz9) 0 rfl rfl rfl ⟨rfl, rfl, rfl, rfl⟩ rfl (Nat.le_of_ble_eq_true rfl) ⟨Nat.le_of_ble_eq_true rfl, Nat.le_of_ble_eq_true rfl⟩ rfl rfl (congrArg Prod.fst (zsome h)).symm (congrArg (fun w9 => (w_C cyI cyZ h0_0 h0_1 h0_2 h0_3 h0_4 h0_5 h0_6 h0_7 h0_8 h0_9 h0_10 h0_11 h0_12 h0_13 h0_14 h0_15 h0_16 w9.2)) (zsome h))
  · have h := zselR2 h e2
    refine zq_callVi (q := 10) (ws2 := (w_C cyI cyZ h0_0 h0_1 h0_2 h0_3 h0_4 h0_5 h0_6 h0_7 h0_8 h0_9 h0_10 h0_11 h0_12 h0_13 h0_14 h0_15 h0_16 z2.2)) (isC := [0, 1, 2, 3, 4, 5, 6, 7, 8, 9, 10, 11, 12, 13, 14, 15, 16]) (isR := []) (perm := [0, 1, 2, 3, 4, 5, 6, 7, 8, 9, 10, 11, 12, 13, 14, 15, 16]) (rest := []) (As := [.int z1.1]) G zs_X3_266 dX3_bottleneckHolds_7 (fun sz9 => zXi_ret (c_X3_fits l hst D cyI cyZ h0_0 h0_1 h0_2 h0_3 h0_4 h0_5 h0_6 h0_7 h0_8 h0_9 h0_10 h0_11 h0_12 h0_13 h0_14 h0_15 h0_16 z1.2 z1.1 (.inr r2) z2.2 (zpair hc2 e2) sz9)) 0 rfl rfl rfl ⟨rfl, rfl, rfl, rfl⟩ rfl (Nat.le_of_ble_eq_true rfl) ⟨Nat.le_of_ble_eq_true rfl, Nat.le_of_ble_eq_true rfl, Nat.zero_le _, Nat.zero_le _⟩ rfl ?_
    refine zq_if_eq (tgt := 31) (q := 13) G dX3_bottleneckHolds_10 (by decide) rfl (fun c3 => ?_) (fun c3 => ?_)
    · have h := zit h c3
      refine zq_iconst (q := 32) (v := 0) G dX3_bottleneckHolds_31 (by decide) rfl ?_
      refine zq_ws (congrArg (fun w9 => (w_C cyI cyZ h0_0 h0_1 h0_2 h0_3 h0_4 h0_5 h0_6 h0_7 h0_8 h0_9 h0_10 h0_11 h0_12 h0_13 h0_14 h0_15 h0_16 w9.2)) (zsome h)) ?_
      exact zq_iretX G hlocks hr rfl dX3_bottleneckHolds_32 (congrArg Prod.fst (zsome h)).symm
    · have h := zie h c3
      refine zq_iload_n (q := 14) G dX3_bottleneckHolds_13 0 rfl rfl rfl ?_
      refine zq_if_eq (tgt := 27) (q := 17) G dX3_bottleneckHolds_14 (by decide) rfl (fun c4 => ?_) (fun c4 => ?_)
      · have h := zit h c4
        refine zq_iconst (q := 28) (v := 1) G dX3_bottleneckHolds_27 (by decide) rfl ?_
        refine zq_goto (q := 32) G dX3_bottleneckHolds_28 (by decide) ?_
        refine zq_ws (congrArg (fun w9 => (w_C cyI cyZ h0_0 h0_1 h0_2 h0_3 h0_4 h0_5 h0_6 h0_7 h0_8 h0_9 h0_10 h0_11 h0_12 h0_13 h0_14 h0_15 h0_16 w9.2)) (zsome h)) ?_
        exact zq_iretX G hlocks hr rfl dX3_bottleneckHolds_32 (congrArg Prod.fst (zsome h)).symm
      · have h := zie h c4
        refine zq_aload_n (q := 18) G dX3_bottleneckHolds_17 1 rfl rfl rfl ?_
        refine zq_iload_n (q := 19) G dX3_bottleneckHolds_18 0 rfl rfl rfl ?_
        refine zq_iconst (q := 20) (v := 1) G dX3_bottleneckHolds_19 (by decide) rfl ?_
        refine zq_isub (q := 21) G dX3_bottleneckHolds_20 rfl ?_
        obtain ⟨z5, hc5, h⟩ := zbd h
        rcases zsum z5.1 with ⟨E5, e5⟩ | ⟨r5, e5⟩
        · have h := zselL2 h e5
          exact zq_outVi (ws2 := (w_C cyI cyZ h0_0 h0_1 h0_2 h0_3 h0_4 h0_5 h0_6 h0_7 h0_8 h0_9 h0_10 h0_11 h0_12 h0_13 h0_14 h0_15 h0_16 z5.2)) (isC := [0, 1, 2, 3, 4, 5, 6, 7, 8, 9, 10, 11, 12, 13, 14, 15, 16]) (isR := []) (perm := [0, 1, 2, 3, 4, 5, 6, 7, 8, 9, 10, 11, 12, 13, 14, 15, 16]) (rest := []) (As := [.int (z1.1 - (1 : Int32))]) G hlocks ht zs_X3_266 dX3_bottleneckHolds_21 (fun sz9 => c_X3_fits l hst D cyI cyZ h0_0 h0_1 h0_2 h0_3 h0_4 h0_5 h0_6 h0_7 h0_8 h0_9 h0_10 h0_11 h0_12 h0_13 h0_14 h0_15 h0_16 z2.2 (z1.1 - (1 : Int32)) (.inl E5) z5.2 (zpair hc5 e5) sz9) 0 rfl rfl rfl ⟨rfl, rfl, rfl, rfl⟩ rfl (Nat.le_of_ble_eq_true rfl) ⟨Nat.le_of_ble_eq_true rfl, Nat.le_of_ble_eq_true rfl⟩ rfl rfl (congrArg Prod.fst (zsome h)).symm (congrArg (fun w9 => (w_C cyI cyZ h0_0 h0_1 h0_2 h0_3 h0_4 h0_5 h0_6 h0_7 h0_8 h0_9 h0_10 h0_11 h0_12 h0_13 h0_14 h0_15 h0_16 w9.2)) (zsome h))
        · have h := zselR2 h e5
          refine zq_callVi (q := 24) (ws2 := (w_C cyI cyZ h0_0 h0_1 h0_2 h0_3 h0_4 h0_5 h0_6 h0_7 h0_8 h0_9 h0_10 h0_11 h0_12 h0_13 h0_14 h0_15 h0_16 z5.2)) (isC := [0, 1, 2, 3, 4, 5, 6, 7, 8, 9, 10, 11, 12, 13, 14, 15, 16]) (isR := []) (perm := [0, 1, 2, 3, 4, 5, 6, 7, 8, 9, 10, 11, 12, 13, 14, 15, 16]) (rest := []) (As := [.int (z1.1 - (1 : Int32))]) G zs_X3_266 dX3_bottleneckHolds_21 (fun sz9 => zXi_ret (c_X3_fits l hst D cyI cyZ h0_0 h0_1 h0_2 h0_3 h0_4 h0_5 h0_6 h0_7 h0_8 h0_9 h0_10 h0_11 h0_12 h0_13 h0_14 h0_15 h0_16 z2.2 (z1.1 - (1 : Int32)) (.inr r5) z5.2 (zpair hc5 e5) sz9)) 0 rfl rfl rfl ⟨rfl, rfl, rfl, rfl⟩ rfl (Nat.le_of_ble_eq_true rfl) ⟨Nat.le_of_ble_eq_true rfl, Nat.le_of_ble_eq_true rfl, Nat.zero_le _, Nat.zero_le _⟩ rfl ?_
          refine zq_if_ne (tgt := 31) (q := 27) G dX3_bottleneckHolds_24 (by decide) rfl (fun c6 => ?_) (fun c6 => ?_)
          · have h := zie h c6
            refine zq_iconst (q := 32) (v := 0) G dX3_bottleneckHolds_31 (by decide) rfl ?_
            refine zq_ws (congrArg (fun w9 => (w_C cyI cyZ h0_0 h0_1 h0_2 h0_3 h0_4 h0_5 h0_6 h0_7 h0_8 h0_9 h0_10 h0_11 h0_12 h0_13 h0_14 h0_15 h0_16 w9.2)) (zsome h)) ?_
            exact zq_iretX G hlocks hr rfl dX3_bottleneckHolds_32 (congrArg Prod.fst (zsome h)).symm
          · have h := zit h c6
            refine zq_iconst (q := 28) (v := 1) G dX3_bottleneckHolds_27 (by decide) rfl ?_
            refine zq_goto (q := 32) G dX3_bottleneckHolds_28 (by decide) ?_
            refine zq_ws (congrArg (fun w9 => (w_C cyI cyZ h0_0 h0_1 h0_2 h0_3 h0_4 h0_5 h0_6 h0_7 h0_8 h0_9 h0_10 h0_11 h0_12 h0_13 h0_14 h0_15 h0_16 w9.2)) (zsome h)) ?_
            exact zq_iretX G hlocks hr rfl dX3_bottleneckHolds_32 (congrArg Prod.fst (zsome h)).symm
set_option maxHeartbeats 4000000 in
set_option maxRecDepth 100000 in
theorem c_X3_isSound (l : Launch) (hst : l.stackTraces = false) (D : va_G) (cyI cyZ : ClassId) (h0_0 h0_1 h0_2 h0_3 h0_4 h0_5 h0_6 h0_7 h0_8 h0_9 h0_10 h0_11 h0_12 h0_13 h0_14 h0_15 h0_16 : Nat) (σ0 : zC) (z : Sum String Int32) (o0 : zC) (h : s_X3_isSound σ0 = some (z, o0)) (sz : Nat) : zXi l yX3_isSound cX3_isSound 1 .boolean 11 199 D cyI cyZ sz [.ref h0_0] (w_C cyI cyZ h0_0 h0_1 h0_2 h0_3 h0_4 h0_5 h0_6 h0_7 h0_8 h0_9 h0_10 h0_11 h0_12 h0_13 h0_14 h0_15 h0_16 σ0) z (w_C cyI cyZ h0_0 h0_1 h0_2 h0_3 h0_4 h0_5 h0_6 h0_7 h0_8 h0_9 h0_10 h0_11 h0_12 h0_13 h0_14 h0_15 h0_16 o0) := by
  unfold s_X3_isSound at h
  refine zstartXI (lv0 := [(0, .ref h0_0)]) (by decide) (Nat.le_of_ble_eq_true rfl) rfl (fun p e s m args below meth c G hr hlocks ht => ?_)
  refine zq_aload_n (q := 1) G dX3_isSound_0 0 rfl rfl rfl ?_
  obtain ⟨z1, hc1, h⟩ := zbd h
  rcases zsum z1.1 with ⟨E1, e1⟩ | ⟨r1, e1⟩
  · have h := zselL2 h e1
    exact zq_outVv (ws2 := (w_C cyI cyZ h0_0 h0_1 h0_2 h0_3 h0_4 h0_5 h0_6 h0_7 h0_8 h0_9 h0_10 h0_11 h0_12 h0_13 h0_14 h0_15 h0_16 z1.2)) (isC := [0, 1, 2, 3, 4, 5, 6, 7, 8, 9, 10, 11, 12, 13, 14, 15, 16]) (isR := []) (perm := [0, 1, 2, 3, 4, 5, 6, 7, 8, 9, 10, 11, 12, 13, 14, 15, 16]) (rest := []) (As := []) G hlocks ht zs_X3_149 dX3_isSound_1 (fun sz9 => c_X3_findPotentials l hst D cyI cyZ h0_0 h0_1 h0_2 h0_3 h0_4 h0_5 h0_6 h0_7 h0_8 h0_9 h0_10 h0_11 h0_12 h0_13 h0_14 h0_15 h0_16 σ0 (.inl E1) z1.2 (zpair hc1 e1) sz9) 0 rfl rfl rfl ⟨rfl, rfl, rfl, rfl⟩ rfl (Nat.le_of_ble_eq_true rfl) ⟨Nat.le_of_ble_eq_true rfl, Nat.le_of_ble_eq_true rfl⟩ rfl rfl (congrArg Prod.fst (zsome h)).symm (congrArg (fun w9 => (w_C cyI cyZ h0_0 h0_1 h0_2 h0_3 h0_4 h0_5 h0_6 h0_7 h0_8 h0_9 h0_10 h0_11 h0_12 h0_13 h0_14 h0_15 h0_16 w9.2)) (zsome h))
  · have h := zselR2 h e1
    refine zq_callVv (q := 4) (ws2 := (w_C cyI cyZ h0_0 h0_1 h0_2 h0_3 h0_4 h0_5 h0_6 h0_7 h0_8 h0_9 h0_10 h0_11 h0_12 h0_13 h0_14 h0_15 h0_16 z1.2)) (isC := [0, 1, 2, 3, 4, 5, 6, 7, 8, 9, 10, 11, 12, 13, 14, 15, 16]) (isR := []) (perm := [0, 1, 2, 3, 4, 5, 6, 7, 8, 9, 10, 11, 12, 13, 14, 15, 16]) (rest := []) (As := []) G zs_X3_149 dX3_isSound_1 (fun sz9 => zXv_ret (c_X3_findPotentials l hst D cyI cyZ h0_0 h0_1 h0_2 h0_3 h0_4 h0_5 h0_6 h0_7 h0_8 h0_9 h0_10 h0_11 h0_12 h0_13 h0_14 h0_15 h0_16 σ0 (.inr r1) z1.2 (zpair hc1 e1) sz9)) 0 rfl rfl rfl ⟨rfl, rfl, rfl, rfl⟩ rfl (Nat.le_of_ble_eq_true rfl) ⟨Nat.le_of_ble_eq_true rfl, Nat.le_of_ble_eq_true rfl, Nat.zero_le _, Nat.zero_le _⟩ rfl ?_
    refine zq_aload_n (q := 5) G dX3_isSound_4 0 rfl rfl rfl ?_
    obtain ⟨z2, hc2, h⟩ := zbd h
    refine zq_callVv (q := 8) (ws2 := (w_C cyI cyZ h0_0 h0_1 h0_2 h0_3 h0_4 h0_5 h0_6 h0_7 h0_8 h0_9 h0_10 h0_11 h0_12 h0_13 h0_14 h0_15 h0_16 z2)) (isC := [0, 1, 2, 3, 4, 5, 6, 7, 8, 9, 10, 11, 12, 13, 14, 15, 16]) (isR := []) (perm := [0, 1, 2, 3, 4, 5, 6, 7, 8, 9, 10, 11, 12, 13, 14, 15, 16]) (rest := []) (As := []) G zs_X3_143 dX3_isSound_5 (fun sz9 => c_X3_findFirstOptimal l D cyI cyZ h0_0 h0_1 h0_2 h0_3 h0_4 h0_5 h0_6 h0_7 h0_8 h0_9 h0_10 h0_11 h0_12 h0_13 h0_14 h0_15 h0_16 z1.2 z2 hc2 sz9) 0 rfl rfl rfl ⟨rfl, rfl, rfl, rfl⟩ rfl (Nat.le_of_ble_eq_true rfl) ⟨Nat.le_of_ble_eq_true rfl, Nat.le_of_ble_eq_true rfl, Nat.zero_le _, Nat.zero_le _⟩ rfl ?_
    refine zq_aload_n (q := 9) G dX3_isSound_8 0 rfl rfl rfl ?_
    obtain ⟨z3, hc3, h⟩ := zbd h
    refine zq_callVi (q := 12) (ws2 := (w_C cyI cyZ h0_0 h0_1 h0_2 h0_3 h0_4 h0_5 h0_6 h0_7 h0_8 h0_9 h0_10 h0_11 h0_12 h0_13 h0_14 h0_15 h0_16 z3.2)) (isC := [0, 1, 2, 3, 4, 5, 6, 7, 8, 9, 10, 11, 12, 13, 14, 15, 16]) (isR := []) (perm := [0, 1, 2, 3, 4, 5, 6, 7, 8, 9, 10, 11, 12, 13, 14, 15, 16]) (rest := []) (As := []) G zs_X3_234 dX3_isSound_9 (fun sz9 => c_X3_potentialsAddUp l D cyI cyZ h0_0 h0_1 h0_2 h0_3 h0_4 h0_5 h0_6 h0_7 h0_8 h0_9 h0_10 h0_11 h0_12 h0_13 h0_14 h0_15 h0_16 z2 z3.1 z3.2 hc3 sz9) 0 rfl rfl rfl ⟨rfl, rfl, rfl, rfl⟩ rfl (Nat.le_of_ble_eq_true rfl) ⟨Nat.le_of_ble_eq_true rfl, Nat.le_of_ble_eq_true rfl, Nat.zero_le _, Nat.zero_le _⟩ rfl ?_
    refine zq_if_eq (tgt := 40) (q := 15) G dX3_isSound_12 (by decide) rfl (fun c4 => ?_) (fun c4 => ?_)
    · have h := zit h c4
      refine zq_iconst (q := 41) (v := 0) G dX3_isSound_40 (by decide) rfl ?_
      refine zq_ws (congrArg (fun w9 => (w_C cyI cyZ h0_0 h0_1 h0_2 h0_3 h0_4 h0_5 h0_6 h0_7 h0_8 h0_9 h0_10 h0_11 h0_12 h0_13 h0_14 h0_15 h0_16 w9.2)) (zsome h)) ?_
      exact zq_iretX G hlocks hr rfl dX3_isSound_41 (congrArg Prod.fst (zsome h)).symm
    · have h := zie h c4
      refine zq_aload_n (q := 16) G dX3_isSound_15 0 rfl rfl rfl ?_
      obtain ⟨z5, hc5, h⟩ := zbd h
      refine zq_callVi (q := 19) (ws2 := (w_C cyI cyZ h0_0 h0_1 h0_2 h0_3 h0_4 h0_5 h0_6 h0_7 h0_8 h0_9 h0_10 h0_11 h0_12 h0_13 h0_14 h0_15 h0_16 z3.2)) (isC := [0, 1, 2, 3, 4, 5, 6, 7, 8, 9, 10, 11, 12, 13, 14, 15, 16]) (isR := []) (perm := [0, 1, 2, 3, 4, 5, 6, 7, 8, 9, 10, 11, 12, 13, 14, 15, 16]) (rest := []) (As := []) G zs_X3_238 dX3_isSound_16 (fun sz9 => c_X3_reducedCostsHold l D cyI cyZ h0_0 h0_1 h0_2 h0_3 h0_4 h0_5 h0_6 h0_7 h0_8 h0_9 h0_10 h0_11 h0_12 h0_13 h0_14 h0_15 h0_16 z3.2 z5 hc5 sz9) 0 rfl rfl rfl ⟨rfl, rfl, rfl, rfl⟩ rfl (Nat.le_of_ble_eq_true rfl) ⟨Nat.le_of_ble_eq_true rfl, Nat.le_of_ble_eq_true rfl, Nat.zero_le _, Nat.zero_le _⟩ rfl ?_
      refine zq_if_eq (tgt := 40) (q := 22) G dX3_isSound_19 (by decide) rfl (fun c6 => ?_) (fun c6 => ?_)
      · have h := zit h c6
        refine zq_iconst (q := 41) (v := 0) G dX3_isSound_40 (by decide) rfl ?_
        refine zq_ws (congrArg (fun w9 => (w_C cyI cyZ h0_0 h0_1 h0_2 h0_3 h0_4 h0_5 h0_6 h0_7 h0_8 h0_9 h0_10 h0_11 h0_12 h0_13 h0_14 h0_15 h0_16 w9.2)) (zsome h)) ?_
        exact zq_iretX G hlocks hr rfl dX3_isSound_41 (congrArg Prod.fst (zsome h)).symm
      · have h := zie h c6
        refine zq_aload_n (q := 23) G dX3_isSound_22 0 rfl rfl rfl ?_
        obtain ⟨z7, hc7, h⟩ := zbd h
        rcases zsum z7.1 with ⟨E7, e7⟩ | ⟨r7, e7⟩
        · have h := zselL2 h e7
          exact zq_outVi (ws2 := (w_C cyI cyZ h0_0 h0_1 h0_2 h0_3 h0_4 h0_5 h0_6 h0_7 h0_8 h0_9 h0_10 h0_11 h0_12 h0_13 h0_14 h0_15 h0_16 z7.2)) (isC := [0, 1, 2, 3, 4, 5, 6, 7, 8, 9, 10, 11, 12, 13, 14, 15, 16]) (isR := []) (perm := [0, 1, 2, 3, 4, 5, 6, 7, 8, 9, 10, 11, 12, 13, 14, 15, 16]) (rest := []) (As := []) G hlocks ht zs_X3_241 dX3_isSound_23 (fun sz9 => c_X3_cellSplitHolds l hst D cyI cyZ h0_0 h0_1 h0_2 h0_3 h0_4 h0_5 h0_6 h0_7 h0_8 h0_9 h0_10 h0_11 h0_12 h0_13 h0_14 h0_15 h0_16 z3.2 (.inl E7) z7.2 (zpair hc7 e7) sz9) 0 rfl rfl rfl ⟨rfl, rfl, rfl, rfl⟩ rfl (Nat.le_of_ble_eq_true rfl) ⟨Nat.le_of_ble_eq_true rfl, Nat.le_of_ble_eq_true rfl⟩ rfl rfl (congrArg Prod.fst (zsome h)).symm (congrArg (fun w9 => (w_C cyI cyZ h0_0 h0_1 h0_2 h0_3 h0_4 h0_5 h0_6 h0_7 h0_8 h0_9 h0_10 h0_11 h0_12 h0_13 h0_14 h0_15 h0_16 w9.2)) (zsome h))
        · have h := zselR2 h e7
          refine zq_callVi (q := 26) (ws2 := (w_C cyI cyZ h0_0 h0_1 h0_2 h0_3 h0_4 h0_5 h0_6 h0_7 h0_8 h0_9 h0_10 h0_11 h0_12 h0_13 h0_14 h0_15 h0_16 z7.2)) (isC := [0, 1, 2, 3, 4, 5, 6, 7, 8, 9, 10, 11, 12, 13, 14, 15, 16]) (isR := []) (perm := [0, 1, 2, 3, 4, 5, 6, 7, 8, 9, 10, 11, 12, 13, 14, 15, 16]) (rest := []) (As := []) G zs_X3_241 dX3_isSound_23 (fun sz9 => zXi_ret (c_X3_cellSplitHolds l hst D cyI cyZ h0_0 h0_1 h0_2 h0_3 h0_4 h0_5 h0_6 h0_7 h0_8 h0_9 h0_10 h0_11 h0_12 h0_13 h0_14 h0_15 h0_16 z3.2 (.inr r7) z7.2 (zpair hc7 e7) sz9)) 0 rfl rfl rfl ⟨rfl, rfl, rfl, rfl⟩ rfl (Nat.le_of_ble_eq_true rfl) ⟨Nat.le_of_ble_eq_true rfl, Nat.le_of_ble_eq_true rfl, Nat.zero_le _, Nat.zero_le _⟩ rfl ?_
          refine zq_if_eq (tgt := 40) (q := 29) G dX3_isSound_26 (by decide) rfl (fun c8 => ?_) (fun c8 => ?_)
          · have h := zit h c8
            refine zq_iconst (q := 41) (v := 0) G dX3_isSound_40 (by decide) rfl ?_
            refine zq_ws (congrArg (fun w9 => (w_C cyI cyZ h0_0 h0_1 h0_2 h0_3 h0_4 h0_5 h0_6 h0_7 h0_8 h0_9 h0_10 h0_11 h0_12 h0_13 h0_14 h0_15 h0_16 w9.2)) (zsome h)) ?_
            exact zq_iretX G hlocks hr rfl dX3_isSound_41 (congrArg Prod.fst (zsome h)).symm
          · have h := zie h c8
            refine zq_aload_n (q := 30) G dX3_isSound_29 0 rfl rfl rfl ?_
            obtain ⟨z9, hc9, h⟩ := zbd h
            rcases zsum z9.1 with ⟨E9, e9⟩ | ⟨r9, e9⟩
            · have h := zselL2 h e9
              exact zq_outVi (ws2 := (w_C cyI cyZ h0_0 h0_1 h0_2 h0_3 h0_4 h0_5 h0_6 h0_7 h0_8 h0_9 h0_10 h0_11 h0_12 h0_13 h0_14 h0_15 h0_16 z9.2)) (isC := [0, 1, 2, 3, 4, 5, 6, 7, 8, 9, 10, 11, 12, 13, 14, 15, 16]) (isR := []) (perm := [0, 1, 2, 3, 4, 5, 6, 7, 8, 9, 10, 11, 12, 13, 14, 15, 16]) (rest := []) (As := []) G hlocks ht zs_X3_244 dX3_isSound_30 (fun sz9 => c_X3_bottleneckHolds l hst D cyI cyZ h0_0 h0_1 h0_2 h0_3 h0_4 h0_5 h0_6 h0_7 h0_8 h0_9 h0_10 h0_11 h0_12 h0_13 h0_14 h0_15 h0_16 z7.2 (.inl E9) z9.2 (zpair hc9 e9) sz9) 0 rfl rfl rfl ⟨rfl, rfl, rfl, rfl⟩ rfl (Nat.le_of_ble_eq_true rfl) ⟨Nat.le_of_ble_eq_true rfl, Nat.le_of_ble_eq_true rfl⟩ rfl rfl (congrArg Prod.fst (zsome h)).symm (congrArg (fun w9 => (w_C cyI cyZ h0_0 h0_1 h0_2 h0_3 h0_4 h0_5 h0_6 h0_7 h0_8 h0_9 h0_10 h0_11 h0_12 h0_13 h0_14 h0_15 h0_16 w9.2)) (zsome h))
            · have h := zselR2 h e9
              refine zq_callVi (q := 33) (ws2 := (w_C cyI cyZ h0_0 h0_1 h0_2 h0_3 h0_4 h0_5 h0_6 h0_7 h0_8 h0_9 h0_10 h0_11 h0_12 h0_13 h0_14 h0_15 h0_16 z9.2)) (isC := [0, 1, 2, 3, 4, 5, 6, 7, 8, 9, 10, 11, 12, 13, 14, 15, 16]) (isR := []) (perm := [0, 1, 2, 3, 4, 5, 6, 7, 8, 9, 10, 11, 12, 13, 14, 15, 16]) (rest := []) (As := []) G zs_X3_244 dX3_isSound_30 (fun sz9 => zXi_ret (c_X3_bottleneckHolds l hst D cyI cyZ h0_0 h0_1 h0_2 h0_3 h0_4 h0_5 h0_6 h0_7 h0_8 h0_9 h0_10 h0_11 h0_12 h0_13 h0_14 h0_15 h0_16 z7.2 (.inr r9) z9.2 (zpair hc9 e9) sz9)) 0 rfl rfl rfl ⟨rfl, rfl, rfl, rfl⟩ rfl (Nat.le_of_ble_eq_true rfl) ⟨Nat.le_of_ble_eq_true rfl, Nat.le_of_ble_eq_true rfl, Nat.zero_le _, Nat.zero_le _⟩ rfl ?_
              refine zq_if_eq (tgt := 40) (q := 36) G dX3_isSound_33 (by decide) rfl (fun c10 => ?_) (fun c10 => ?_)
              · have h := zit h c10
                refine zq_iconst (q := 41) (v := 0) G dX3_isSound_40 (by decide) rfl ?_
                refine zq_ws (congrArg (fun w9 => (w_C cyI cyZ h0_0 h0_1 h0_2 h0_3 h0_4 h0_5 h0_6 h0_7 h0_8 h0_9 h0_10 h0_11 h0_12 h0_13 h0_14 h0_15 h0_16 w9.2)) (zsome h)) ?_
                exact zq_iretX G hlocks hr rfl dX3_isSound_41 (congrArg Prod.fst (zsome h)).symm
              · have h := zie h c10
                refine zq_iconst (q := 37) (v := 1) G dX3_isSound_36 (by decide) rfl ?_
                refine zq_goto (q := 41) G dX3_isSound_37 (by decide) ?_
                refine zq_ws (congrArg (fun w9 => (w_C cyI cyZ h0_0 h0_1 h0_2 h0_3 h0_4 h0_5 h0_6 h0_7 h0_8 h0_9 h0_10 h0_11 h0_12 h0_13 h0_14 h0_15 h0_16 w9.2)) (zsome h)) ?_
                exact zq_iretX G hlocks hr rfl dX3_isSound_41 (congrArg Prod.fst (zsome h)).symm
