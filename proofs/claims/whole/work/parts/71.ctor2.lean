/-! ===== constructors of straight code ===== -/
abbrev S0 : zS := (1, f0, f0, f0, f0)
abbrev K0 : zK := (0, 0, -1, 0, f0)
abbrev M0 : zM := (T0, T0, (f0, f0, f0, f0, 0, 0, 0, 0, 0, f0, f0), (-1, 0, 0, f0), 0)
set_option maxHeartbeats 4000000 in
set_option maxRecDepth 100000 in
theorem c_X0_init (l : Launch) (D : va_G) (cyI cyZ : ClassId) (h0 sz : Nat) : zMc l yX0_init cX0_init 1 1 12 4 433 D cyI cyZ sz [.ref h0] [(h0, .inr (0, [.int 0, .null, .null, .null, .null]))] (fun W => ∃ q1 q2 q3 q4, W = w_S cyI h0 q1 q2 q3 q4 S0) := by
  refine zstartC (lv0 := [(0, .ref h0)]) (by decide) (Nat.le_of_ble_eq_true rfl) rfl (fun p e s m args below meth c G hr hlocks hin => ?_)
  refine zq_aload_n (q := 1) G dX0_init_0 0 rfl rfl rfl ?_
  refine zq_objInit (q := 4) G (zin1 53 rfl rfl) dX0_init_1 (Nat.le_of_ble_eq_true rfl) (Nat.le_of_ble_eq_true rfl) rfl ?_
  refine zq_aload_n (q := 5) G dX0_init_4 0 rfl rfl rfl ?_
  refine zq_iconst (q := 6) (v := 1) G dX0_init_5 (by decide) rfl ?_
  refine zq_put (q := 9) (ws2 := [(h0, .inr (0, [.int 1, .null, .null, .null, .null]))]) G zu_X0 rfl tyX0_ok nmX0 zw_X0_f9 dX0_init_6 0 0 rfl (by decide) ⟨⟨rfl, rfl⟩, rfl⟩ rfl rfl rfl (Nat.le_of_ble_eq_true rfl) rfl rfl ?_
  refine zq_aload_n (q := 10) G dX0_init_9 0 rfl rfl rfl ?_
  refine zq_bipush (q := 12) (v := 49) G dX0_init_10 (by decide) rfl ?_
  refine zq_newI (q := 14) (N := 49) G (by decide) (by decide) (by decide) (Nat.le_of_ble_eq_true rfl) (Nat.le_of_ble_eq_true rfl) dX0_init_12 rfl (fun q1 => ?_)
  refine zq_putF (q := 17) (ws2 := [(h0, .inr (0, [.int 1, .ref q1, .null, .null, .null])), (q1, .inl (cyI, 49, .inl f0))]) G zu_X0 rfl tyX0_ok nmX0 zw_X0_f15 dX0_init_14 0 1 rfl (by decide) ⟨⟨rfl, rfl⟩, rfl⟩ rfl hin rfl rfl rfl (Nat.le_of_ble_eq_true rfl) rfl rfl ?_
  refine zq_aload_n (q := 18) G dX0_init_17 0 rfl rfl rfl ?_
  refine zq_sipush (q := 21) (v := 128) G dX0_init_18 (by decide) rfl ?_
  refine zq_newI (q := 23) (N := 128) G (by decide) (by decide) (by decide) (Nat.le_of_ble_eq_true rfl) (Nat.le_of_ble_eq_true rfl) dX0_init_21 rfl (fun q2 => ?_)
  refine zq_putF (q := 26) (ws2 := [(h0, .inr (0, [.int 1, .ref q1, .ref q2, .null, .null])), (q1, .inl (cyI, 49, .inl f0)), (q2, .inl (cyI, 128, .inl f0))]) G zu_X0 rfl tyX0_ok nmX0 zw_X0_f19 dX0_init_23 0 2 rfl (by decide) ⟨⟨rfl, rfl⟩, rfl⟩ rfl hin rfl rfl rfl (Nat.le_of_ble_eq_true rfl) rfl rfl ?_
  refine zq_aload_n (q := 27) G dX0_init_26 0 rfl rfl rfl ?_
  refine zq_sipush (q := 30) (v := 128) G dX0_init_27 (by decide) rfl ?_
  refine zq_newI (q := 32) (N := 128) G (by decide) (by decide) (by decide) (Nat.le_of_ble_eq_true rfl) (Nat.le_of_ble_eq_true rfl) dX0_init_30 rfl (fun q3 => ?_)
  refine zq_putF (q := 35) (ws2 := [(h0, .inr (0, [.int 1, .ref q1, .ref q2, .ref q3, .null])), (q1, .inl (cyI, 49, .inl f0)), (q2, .inl (cyI, 128, .inl f0)), (q3, .inl (cyI, 128, .inl f0))]) G zu_X0 rfl tyX0_ok nmX0 zw_X0_f22 dX0_init_32 0 3 rfl (by decide) ⟨⟨rfl, rfl⟩, rfl⟩ rfl hin rfl rfl rfl (Nat.le_of_ble_eq_true rfl) rfl rfl ?_
  refine zq_aload_n (q := 36) G dX0_init_35 0 rfl rfl rfl ?_
  refine zq_sipush (q := 39) (v := 128) G dX0_init_36 (by decide) rfl ?_
  refine zq_newI (q := 41) (N := 128) G (by decide) (by decide) (by decide) (Nat.le_of_ble_eq_true rfl) (Nat.le_of_ble_eq_true rfl) dX0_init_39 rfl (fun q4 => ?_)
  refine zq_putF (q := 44) (ws2 := w_S cyI h0 q1 q2 q3 q4 S0) G zu_X0 rfl tyX0_ok nmX0 zw_X0_f25 dX0_init_41 0 4 rfl (by decide) ⟨⟨rfl, rfl⟩, rfl⟩ rfl hin rfl rfl rfl (Nat.le_of_ble_eq_true rfl) rfl rfl ?_
  exact zq_cret G hlocks hr dX0_init_44 ⟨q1, q2, q3, q4, rfl⟩
set_option maxHeartbeats 4000000 in
set_option maxRecDepth 100000 in
theorem c_X2_init (l : Launch) (D : va_G) (cyI cyZ : ClassId) (h0 sz : Nat) : zMc l yX2_init cX2_init 1 1 12 1 720 D cyI cyZ sz [.ref h0] [(h0, .inr (2, [.int 0, .int 0, .int 0, .int 0, .null]))] (fun W => ∃ q1, W = w_K cyI h0 q1 K0) := by
  refine zstartC (lv0 := [(0, .ref h0)]) (by decide) (Nat.le_of_ble_eq_true rfl) rfl (fun p e s m args below meth c G hr hlocks hin => ?_)
  refine zq_aload_n (q := 1) G dX2_init_0 0 rfl rfl rfl ?_
  refine zq_objInit (q := 4) G (zin1 75 rfl rfl) dX2_init_1 (Nat.le_of_ble_eq_true rfl) (Nat.le_of_ble_eq_true rfl) rfl ?_
  refine zq_aload_n (q := 5) G dX2_init_4 0 rfl rfl rfl ?_
  refine zq_iconst (q := 6) (v := 0) G dX2_init_5 (by decide) rfl ?_
  refine zq_put (q := 9) (ws2 := [(h0, .inr (2, [.int 0, .int 0, .int 0, .int 0, .null]))]) G zu_X2 rfl tyX2_ok nmX2 zw_X2_f9 dX2_init_6 0 0 rfl (by decide) ⟨⟨rfl, rfl⟩, rfl⟩ rfl rfl rfl (Nat.le_of_ble_eq_true rfl) rfl rfl ?_
  refine zq_aload_n (q := 10) G dX2_init_9 0 rfl rfl rfl ?_
  refine zq_iconst (q := 11) (v := 0) G dX2_init_10 (by decide) rfl ?_
  refine zq_put (q := 14) (ws2 := [(h0, .inr (2, [.int 0, .int 0, .int 0, .int 0, .null]))]) G zu_X2 rfl tyX2_ok nmX2 zw_X2_f13 dX2_init_11 0 1 rfl (by decide) ⟨⟨rfl, rfl⟩, rfl⟩ rfl rfl rfl (Nat.le_of_ble_eq_true rfl) rfl rfl ?_
  refine zq_aload_n (q := 15) G dX2_init_14 0 rfl rfl rfl ?_
  refine zq_iconst (q := 16) (v := -1) G dX2_init_15 (by decide) rfl ?_
  refine zq_put (q := 19) (ws2 := [(h0, .inr (2, [.int 0, .int 0, .int (-1), .int 0, .null]))]) G zu_X2 rfl tyX2_ok nmX2 zw_X2_f17 dX2_init_16 0 2 rfl (by decide) ⟨⟨rfl, rfl⟩, rfl⟩ rfl rfl rfl (Nat.le_of_ble_eq_true rfl) rfl rfl ?_
  refine zq_aload_n (q := 20) G dX2_init_19 0 rfl rfl rfl ?_
  refine zq_iconst (q := 21) (v := 0) G dX2_init_20 (by decide) rfl ?_
  refine zq_put (q := 24) (ws2 := [(h0, .inr (2, [.int 0, .int 0, .int (-1), .int 0, .null]))]) G zu_X2 rfl tyX2_ok nmX2 zw_X2_f20 dX2_init_21 0 3 rfl (by decide) ⟨⟨rfl, rfl⟩, rfl⟩ rfl rfl rfl (Nat.le_of_ble_eq_true rfl) rfl rfl ?_
  refine zq_aload_n (q := 25) G dX2_init_24 0 rfl rfl rfl ?_
  refine zq_sipush (q := 28) (v := 720) G dX2_init_25 (by decide) rfl ?_
  refine zq_newI (q := 30) (N := 720) G (by decide) (by decide) (by decide) (Nat.le_of_ble_eq_true rfl) (Nat.le_of_ble_eq_true rfl) dX2_init_28 rfl (fun q1 => ?_)
  refine zq_putF (q := 33) (ws2 := w_K cyI h0 q1 K0) G zu_X2 rfl tyX2_ok nmX2 zw_X2_f23 dX2_init_30 0 4 rfl (by decide) ⟨⟨rfl, rfl⟩, rfl⟩ rfl hin rfl rfl rfl (Nat.le_of_ble_eq_true rfl) rfl rfl ?_
  exact zq_cret G hlocks hr dX2_init_33 ⟨q1, rfl⟩
set_option maxHeartbeats 4000000 in
set_option maxRecDepth 100000 in
theorem c_X4_init (l : Launch) (D : va_G) (cyI cyZ : ClassId) (h0 sz : Nat) : zMc l yX4_init cX4_init 1 1 12 11 329 D cyI cyZ sz [.ref h0] [(h0, .inr (4, [.int 0, .int 0, .int 0, .int 0, .int 0, .null, .null, .null, .null, .null, .null, .null, .null, .int 0, .int 0, .int 0, .int 0, .int 0, .int 0, .int 0, .int 0, .null, .null, .null]))] (fun W => ∃ q1 q2 q3 q4 q5 q6 q7 q8 q9 q10 q11, W = w_M cyI cyZ h0 q1 q2 q3 q4 q5 q6 q7 q8 q9 q10 q11 M0) := by
  refine zstartC (lv0 := [(0, .ref h0)]) (by decide) (Nat.le_of_ble_eq_true rfl) rfl (fun p e s m args below meth c G hr hlocks hin => ?_)
  refine zq_aload_n (q := 1) G dX4_init_0 0 rfl rfl rfl ?_
  refine zq_objInit (q := 4) G (zin4 3 rfl rfl) dX4_init_1 (Nat.le_of_ble_eq_true rfl) (Nat.le_of_ble_eq_true rfl) rfl ?_
  refine zq_aload_n (q := 5) G dX4_init_4 0 rfl rfl rfl ?_
  refine zq_iconst (q := 6) (v := 1) G dX4_init_5 (by decide) rfl ?_
  refine zq_put (q := 9) (ws2 := [(h0, .inr (4, [.int 1, .int 0, .int 0, .int 0, .int 0, .null, .null, .null, .null, .null, .null, .null, .null, .int 0, .int 0, .int 0, .int 0, .int 0, .int 0, .int 0, .int 0, .null, .null, .null]))]) G zu_X4 rfl tyX4_ok nmX4 zw_X4_f7 dX4_init_6 0 0 rfl (by decide) ⟨⟨rfl, rfl⟩, rfl⟩ rfl rfl rfl (Nat.le_of_ble_eq_true rfl) rfl rfl ?_
  refine zq_aload_n (q := 10) G dX4_init_9 0 rfl rfl rfl ?_
  refine zq_iconst (q := 11) (v := 1) G dX4_init_10 (by decide) rfl ?_
  refine zq_put (q := 14) (ws2 := [(h0, .inr (4, [.int 1, .int 1, .int 0, .int 0, .int 0, .null, .null, .null, .null, .null, .null, .null, .null, .int 0, .int 0, .int 0, .int 0, .int 0, .int 0, .int 0, .int 0, .null, .null, .null]))]) G zu_X4 rfl tyX4_ok nmX4 zw_X4_f13 dX4_init_11 0 1 rfl (by decide) ⟨⟨rfl, rfl⟩, rfl⟩ rfl rfl rfl (Nat.le_of_ble_eq_true rfl) rfl rfl ?_
  refine zq_aload_n (q := 15) G dX4_init_14 0 rfl rfl rfl ?_
  refine zq_iconst (q := 16) (v := 1) G dX4_init_15 (by decide) rfl ?_
  refine zq_put (q := 19) (ws2 := [(h0, .inr (4, [.int 1, .int 1, .int 1, .int 0, .int 0, .null, .null, .null, .null, .null, .null, .null, .null, .int 0, .int 0, .int 0, .int 0, .int 0, .int 0, .int 0, .int 0, .null, .null, .null]))]) G zu_X4 rfl tyX4_ok nmX4 zw_X4_f16 dX4_init_16 0 2 rfl (by decide) ⟨⟨rfl, rfl⟩, rfl⟩ rfl rfl rfl (Nat.le_of_ble_eq_true rfl) rfl rfl ?_
  refine zq_aload_n (q := 20) G dX4_init_19 0 rfl rfl rfl ?_
  refine zq_iconst (q := 21) (v := 1) G dX4_init_20 (by decide) rfl ?_
  refine zq_put (q := 24) (ws2 := [(h0, .inr (4, [.int 1, .int 1, .int 1, .int 1, .int 0, .null, .null, .null, .null, .null, .null, .null, .null, .int 0, .int 0, .int 0, .int 0, .int 0, .int 0, .int 0, .int 0, .null, .null, .null]))]) G zu_X4 rfl tyX4_ok nmX4 zw_X4_f19 dX4_init_21 0 3 rfl (by decide) ⟨⟨rfl, rfl⟩, rfl⟩ rfl rfl rfl (Nat.le_of_ble_eq_true rfl) rfl rfl ?_
  refine zq_aload_n (q := 25) G dX4_init_24 0 rfl rfl rfl ?_
  refine zq_bipush (q := 27) (v := 49) G dX4_init_25 (by decide) rfl ?_
  refine zq_newI (q := 29) (N := 49) G (by decide) (by decide) (by decide) (Nat.le_of_ble_eq_true rfl) (Nat.le_of_ble_eq_true rfl) dX4_init_27 rfl (fun q1 => ?_)
  refine zq_putF (q := 32) (ws2 := [(h0, .inr (4, [.int 1, .int 1, .int 1, .int 1, .int 0, .ref q1, .null, .null, .null, .null, .null, .null, .null, .int 0, .int 0, .int 0, .int 0, .int 0, .int 0, .int 0, .int 0, .null, .null, .null])), (q1, .inl (cyI, 49, .inl f0))]) G zu_X4 rfl tyX4_ok nmX4 zw_X4_f22 dX4_init_29 0 5 rfl (by decide) ⟨⟨rfl, rfl⟩, rfl⟩ rfl hin rfl rfl rfl (Nat.le_of_ble_eq_true rfl) rfl rfl ?_
  refine zq_aload_n (q := 33) G dX4_init_32 0 rfl rfl rfl ?_
  refine zq_bipush (q := 35) (v := 49) G dX4_init_33 (by decide) rfl ?_
  refine zq_newI (q := 37) (N := 49) G (by decide) (by decide) (by decide) (Nat.le_of_ble_eq_true rfl) (Nat.le_of_ble_eq_true rfl) dX4_init_35 rfl (fun q2 => ?_)
  refine zq_putF (q := 40) (ws2 := [(h0, .inr (4, [.int 1, .int 1, .int 1, .int 1, .int 0, .ref q1, .ref q2, .null, .null, .null, .null, .null, .null, .int 0, .int 0, .int 0, .int 0, .int 0, .int 0, .int 0, .int 0, .null, .null, .null])), (q1, .inl (cyI, 49, .inl f0)), (q2, .inl (cyI, 49, .inl f0))]) G zu_X4 rfl tyX4_ok nmX4 zw_X4_f26 dX4_init_37 0 6 rfl (by decide) ⟨⟨rfl, rfl⟩, rfl⟩ rfl hin rfl rfl rfl (Nat.le_of_ble_eq_true rfl) rfl rfl ?_
  refine zq_aload_n (q := 41) G dX4_init_40 0 rfl rfl rfl ?_
  refine zq_bipush (q := 43) (v := 49) G dX4_init_41 (by decide) rfl ?_
  refine zq_newZ (q := 45) (N := 49) G (by decide) (by decide) (by decide) (Nat.le_of_ble_eq_true rfl) (Nat.le_of_ble_eq_true rfl) dX4_init_43 rfl (fun q3 => ?_)
  refine zq_putF (q := 48) (ws2 := [(h0, .inr (4, [.int 1, .int 1, .int 1, .int 1, .int 0, .ref q1, .ref q2, .ref q3, .null, .null, .null, .null, .null, .int 0, .int 0, .int 0, .int 0, .int 0, .int 0, .int 0, .int 0, .null, .null, .null])), (q1, .inl (cyI, 49, .inl f0)), (q2, .inl (cyI, 49, .inl f0)), (q3, .inl (cyZ, 49, .inl f0))]) G zu_X4 rfl tyX4_ok nmX4 zw_X4_f29 dX4_init_45 0 7 rfl (by decide) ⟨⟨rfl, rfl⟩, rfl⟩ rfl hin rfl rfl rfl (Nat.le_of_ble_eq_true rfl) rfl rfl ?_
  refine zq_aload_n (q := 49) G dX4_init_48 0 rfl rfl rfl ?_
  refine zq_bipush (q := 51) (v := 49) G dX4_init_49 (by decide) rfl ?_
  refine zq_newZ (q := 53) (N := 49) G (by decide) (by decide) (by decide) (Nat.le_of_ble_eq_true rfl) (Nat.le_of_ble_eq_true rfl) dX4_init_51 rfl (fun q4 => ?_)
  refine zq_putF (q := 56) (ws2 := [(h0, .inr (4, [.int 1, .int 1, .int 1, .int 1, .int 0, .ref q1, .ref q2, .ref q3, .ref q4, .null, .null, .null, .null, .int 0, .int 0, .int 0, .int 0, .int 0, .int 0, .int 0, .int 0, .null, .null, .null])), (q1, .inl (cyI, 49, .inl f0)), (q2, .inl (cyI, 49, .inl f0)), (q3, .inl (cyZ, 49, .inl f0)), (q4, .inl (cyZ, 49, .inl f0))]) G zu_X4 rfl tyX4_ok nmX4 zw_X4_f33 dX4_init_53 0 8 rfl (by decide) ⟨⟨rfl, rfl⟩, rfl⟩ rfl hin rfl rfl rfl (Nat.le_of_ble_eq_true rfl) rfl rfl ?_
  refine zq_aload_n (q := 57) G dX4_init_56 0 rfl rfl rfl ?_
  refine zq_bipush (q := 59) (v := 49) G dX4_init_57 (by decide) rfl ?_
  refine zq_newI (q := 61) (N := 49) G (by decide) (by decide) (by decide) (Nat.le_of_ble_eq_true rfl) (Nat.le_of_ble_eq_true rfl) dX4_init_59 rfl (fun q5 => ?_)
  refine zq_putF (q := 64) (ws2 := [(h0, .inr (4, [.int 1, .int 1, .int 1, .int 1, .int 0, .ref q1, .ref q2, .ref q3, .ref q4, .ref q5, .null, .null, .null, .int 0, .int 0, .int 0, .int 0, .int 0, .int 0, .int 0, .int 0, .null, .null, .null])), (q1, .inl (cyI, 49, .inl f0)), (q2, .inl (cyI, 49, .inl f0)), (q3, .inl (cyZ, 49, .inl f0)), (q4, .inl (cyZ, 49, .inl f0)), (q5, .inl (cyI, 49, .inl f0))]) G zu_X4 rfl tyX4_ok nmX4 zw_X4_f36 dX4_init_61 0 9 rfl (by decide) ⟨⟨rfl, rfl⟩, rfl⟩ rfl hin rfl rfl rfl (Nat.le_of_ble_eq_true rfl) rfl rfl ?_
  refine zq_aload_n (q := 65) G dX4_init_64 0 rfl rfl rfl ?_
  refine zq_bipush (q := 67) (v := 49) G dX4_init_65 (by decide) rfl ?_
  refine zq_newI (q := 69) (N := 49) G (by decide) (by decide) (by decide) (Nat.le_of_ble_eq_true rfl) (Nat.le_of_ble_eq_true rfl) dX4_init_67 rfl (fun q6 => ?_)
  refine zq_putF (q := 72) (ws2 := [(h0, .inr (4, [.int 1, .int 1, .int 1, .int 1, .int 0, .ref q1, .ref q2, .ref q3, .ref q4, .ref q5, .ref q6, .null, .null, .int 0, .int 0, .int 0, .int 0, .int 0, .int 0, .int 0, .int 0, .null, .null, .null])), (q1, .inl (cyI, 49, .inl f0)), (q2, .inl (cyI, 49, .inl f0)), (q3, .inl (cyZ, 49, .inl f0)), (q4, .inl (cyZ, 49, .inl f0)), (q5, .inl (cyI, 49, .inl f0)), (q6, .inl (cyI, 49, .inl f0))]) G zu_X4 rfl tyX4_ok nmX4 zw_X4_f39 dX4_init_69 0 10 rfl (by decide) ⟨⟨rfl, rfl⟩, rfl⟩ rfl hin rfl rfl rfl (Nat.le_of_ble_eq_true rfl) rfl rfl ?_
  refine zq_aload_n (q := 73) G dX4_init_72 0 rfl rfl rfl ?_
  refine zq_bipush (q := 75) (v := 7) G dX4_init_73 (by decide) rfl ?_
  refine zq_newI (q := 77) (N := 7) G (by decide) (by decide) (by decide) (Nat.le_of_ble_eq_true rfl) (Nat.le_of_ble_eq_true rfl) dX4_init_75 rfl (fun q7 => ?_)
  refine zq_putF (q := 80) (ws2 := [(h0, .inr (4, [.int 1, .int 1, .int 1, .int 1, .int 0, .ref q1, .ref q2, .ref q3, .ref q4, .ref q5, .ref q6, .ref q7, .null, .int 0, .int 0, .int 0, .int 0, .int 0, .int 0, .int 0, .int 0, .null, .null, .null])), (q1, .inl (cyI, 49, .inl f0)), (q2, .inl (cyI, 49, .inl f0)), (q3, .inl (cyZ, 49, .inl f0)), (q4, .inl (cyZ, 49, .inl f0)), (q5, .inl (cyI, 49, .inl f0)), (q6, .inl (cyI, 49, .inl f0)), (q7, .inl (cyI, 7, .inl f0))]) G zu_X4 rfl tyX4_ok nmX4 zw_X4_f42 dX4_init_77 0 11 rfl (by decide) ⟨⟨rfl, rfl⟩, rfl⟩ rfl hin rfl rfl rfl (Nat.le_of_ble_eq_true rfl) rfl rfl ?_
  refine zq_aload_n (q := 81) G dX4_init_80 0 rfl rfl rfl ?_
  refine zq_bipush (q := 83) (v := 7) G dX4_init_81 (by decide) rfl ?_
  refine zq_newI (q := 85) (N := 7) G (by decide) (by decide) (by decide) (Nat.le_of_ble_eq_true rfl) (Nat.le_of_ble_eq_true rfl) dX4_init_83 rfl (fun q8 => ?_)
  refine zq_putF (q := 88) (ws2 := [(h0, .inr (4, [.int 1, .int 1, .int 1, .int 1, .int 0, .ref q1, .ref q2, .ref q3, .ref q4, .ref q5, .ref q6, .ref q7, .ref q8, .int 0, .int 0, .int 0, .int 0, .int 0, .int 0, .int 0, .int 0, .null, .null, .null])), (q1, .inl (cyI, 49, .inl f0)), (q2, .inl (cyI, 49, .inl f0)), (q3, .inl (cyZ, 49, .inl f0)), (q4, .inl (cyZ, 49, .inl f0)), (q5, .inl (cyI, 49, .inl f0)), (q6, .inl (cyI, 49, .inl f0)), (q7, .inl (cyI, 7, .inl f0)), (q8, .inl (cyI, 7, .inl f0))]) G zu_X4 rfl tyX4_ok nmX4 zw_X4_f45 dX4_init_85 0 12 rfl (by decide) ⟨⟨rfl, rfl⟩, rfl⟩ rfl hin rfl rfl rfl (Nat.le_of_ble_eq_true rfl) rfl rfl ?_
  refine zq_aload_n (q := 89) G dX4_init_88 0 rfl rfl rfl ?_
  refine zq_iconst (q := 90) (v := -1) G dX4_init_89 (by decide) rfl ?_
  refine zq_put (q := 93) (ws2 := [(h0, .inr (4, [.int 1, .int 1, .int 1, .int 1, .int 0, .ref q1, .ref q2, .ref q3, .ref q4, .ref q5, .ref q6, .ref q7, .ref q8, .int 0, .int 0, .int 0, .int 0, .int 0, .int (-1), .int 0, .int 0, .null, .null, .null])), (q1, .inl (cyI, 49, .inl f0)), (q2, .inl (cyI, 49, .inl f0)), (q3, .inl (cyZ, 49, .inl f0)), (q4, .inl (cyZ, 49, .inl f0)), (q5, .inl (cyI, 49, .inl f0)), (q6, .inl (cyI, 49, .inl f0)), (q7, .inl (cyI, 7, .inl f0)), (q8, .inl (cyI, 7, .inl f0))]) G zu_X4 rfl tyX4_ok nmX4 zw_X4_f48 dX4_init_90 0 18 rfl (by decide) ⟨⟨rfl, rfl⟩, rfl⟩ rfl rfl rfl (Nat.le_of_ble_eq_true rfl) rfl rfl ?_
  refine zq_aload_n (q := 94) G dX4_init_93 0 rfl rfl rfl ?_
  refine zq_bipush (q := 96) (v := 7) G dX4_init_94 (by decide) rfl ?_
  refine zq_newI (q := 98) (N := 7) G (by decide) (by decide) (by decide) (Nat.le_of_ble_eq_true rfl) (Nat.le_of_ble_eq_true rfl) dX4_init_96 rfl (fun q9 => ?_)
  refine zq_putF (q := 101) (ws2 := [(h0, .inr (4, [.int 1, .int 1, .int 1, .int 1, .int 0, .ref q1, .ref q2, .ref q3, .ref q4, .ref q5, .ref q6, .ref q7, .ref q8, .int 0, .int 0, .int 0, .int 0, .int 0, .int (-1), .int 0, .int 0, .ref q9, .null, .null])), (q1, .inl (cyI, 49, .inl f0)), (q2, .inl (cyI, 49, .inl f0)), (q3, .inl (cyZ, 49, .inl f0)), (q4, .inl (cyZ, 49, .inl f0)), (q5, .inl (cyI, 49, .inl f0)), (q6, .inl (cyI, 49, .inl f0)), (q7, .inl (cyI, 7, .inl f0)), (q8, .inl (cyI, 7, .inl f0)), (q9, .inl (cyI, 7, .inl f0))]) G zu_X4 rfl tyX4_ok nmX4 zw_X4_f51 dX4_init_98 0 21 rfl (by decide) ⟨⟨rfl, rfl⟩, rfl⟩ rfl hin rfl rfl rfl (Nat.le_of_ble_eq_true rfl) rfl rfl ?_
  refine zq_aload_n (q := 102) G dX4_init_101 0 rfl rfl rfl ?_
  refine zq_bipush (q := 104) (v := 7) G dX4_init_102 (by decide) rfl ?_
  refine zq_newI (q := 106) (N := 7) G (by decide) (by decide) (by decide) (Nat.le_of_ble_eq_true rfl) (Nat.le_of_ble_eq_true rfl) dX4_init_104 rfl (fun q10 => ?_)
  refine zq_putF (q := 109) (ws2 := [(h0, .inr (4, [.int 1, .int 1, .int 1, .int 1, .int 0, .ref q1, .ref q2, .ref q3, .ref q4, .ref q5, .ref q6, .ref q7, .ref q8, .int 0, .int 0, .int 0, .int 0, .int 0, .int (-1), .int 0, .int 0, .ref q9, .ref q10, .null])), (q1, .inl (cyI, 49, .inl f0)), (q2, .inl (cyI, 49, .inl f0)), (q3, .inl (cyZ, 49, .inl f0)), (q4, .inl (cyZ, 49, .inl f0)), (q5, .inl (cyI, 49, .inl f0)), (q6, .inl (cyI, 49, .inl f0)), (q7, .inl (cyI, 7, .inl f0)), (q8, .inl (cyI, 7, .inl f0)), (q9, .inl (cyI, 7, .inl f0)), (q10, .inl (cyI, 7, .inl f0))]) G zu_X4 rfl tyX4_ok nmX4 zw_X4_f54 dX4_init_106 0 22 rfl (by decide) ⟨⟨rfl, rfl⟩, rfl⟩ rfl hin rfl rfl rfl (Nat.le_of_ble_eq_true rfl) rfl rfl ?_
  refine zq_aload_n (q := 110) G dX4_init_109 0 rfl rfl rfl ?_
  refine zq_bipush (q := 112) (v := 7) G dX4_init_110 (by decide) rfl ?_
  refine zq_newI (q := 114) (N := 7) G (by decide) (by decide) (by decide) (Nat.le_of_ble_eq_true rfl) (Nat.le_of_ble_eq_true rfl) dX4_init_112 rfl (fun q11 => ?_)
  refine zq_putF (q := 117) (ws2 := w_M cyI cyZ h0 q1 q2 q3 q4 q5 q6 q7 q8 q9 q10 q11 M0) G zu_X4 rfl tyX4_ok nmX4 zw_X4_f57 dX4_init_114 0 23 rfl (by decide) ⟨⟨rfl, rfl⟩, rfl⟩ rfl hin rfl rfl rfl (Nat.le_of_ble_eq_true rfl) rfl rfl ?_
  exact zq_cret G hlocks hr dX4_init_117 ⟨q1, q2, q3, q4, q5, q6, q7, q8, q9, q10, q11, rfl⟩
