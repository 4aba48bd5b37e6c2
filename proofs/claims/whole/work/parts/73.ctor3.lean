/-! ===== ChoreAssignment() ===== -/
abbrev C0 : zC := (T0, T0, S0, f0, f0, f0, K0)
set_option maxHeartbeats 4000000 in
set_option maxRecDepth 100000 in
theorem c_X3_init (l : Launch) (D : va_G) (cyI cyZ : ClassId) (h0 sz : Nat) : zMc l yX3_init cX3_init 1 2 32 16 1388 D cyI cyZ sz [.ref h0] [(h0, .inr (3, [.null, .null, .null, .null, .null, .null, .null]))] (fun W => ∃ t0 t1 t2 v0 v1 v2 s0 s1 s2 s3 s4 rp cp fo k0 k1, W = w_C cyI cyZ h0 t0 t1 t2 v0 v1 v2 s0 s1 s2 s3 s4 rp cp fo k0 k1 C0) := by
  refine zstartC (lv0 := [(0, .ref h0)]) (by decide) (Nat.le_of_ble_eq_true rfl) rfl (fun p e s m args below meth c G hr hlocks hin => ?_)
  refine zq_aload_n (q := 1) G dX3_init_0 0 rfl rfl rfl ?_
  refine zq_objInit (q := 4) G (zin1 20 rfl rfl) dX3_init_1 (Nat.le_of_ble_eq_true rfl) (Nat.le_of_ble_eq_true rfl) rfl ?_
  refine zq_aload_n (q := 5) G dX3_init_4 0 rfl rfl rfl ?_
  refine zq_newO (q := 8) (ci := 1) (fs := [.int 0, .int 0, .null, .null]) (ty0 := tyX1) G zu_X1 rfl tyX1_ok zw_X3_k9 zw_X1_new zini_X1 (fun j hj => by match j, hj with
    | 0, _ => rfl
    | 1, _ => rfl
    | 2, _ => rfl
    | 3, _ => rfl) (Nat.le_of_ble_eq_true rfl) (Nat.le_of_ble_eq_true rfl) dX3_init_5 rfl (fun t0 => ?_)
  refine zq_dup (q := 9) G dX3_init_8 rfl rfl ?_
  refine zq_callC (q := 12) (isC := [1]) (isR := [0]) (perm := [0, 1, 2, 3]) G zs_X3_11 dX3_init_9 (c_X1_init l D cyI cyZ t0) rfl (by decide) (Nat.le_of_ble_eq_true rfl) ⟨Nat.le_of_ble_eq_true rfl, Nat.le_of_ble_eq_true rfl, Nat.le_of_ble_eq_true rfl, Nat.le_of_ble_eq_true rfl⟩ rfl (fun W1 hW1 => ?_)
  obtain ⟨t1, t2, rfl⟩ := hW1
  refine ⟨[(h0, .inr (3, [.null, .null, .null, .null, .null, .null, .null])), (t0, .inr (1, [.int 1, .int 1, .ref t1, .ref t2])), (t1, .inl (cyI, 49, .inl f0)), (t2, .inl (cyZ, 49, .inl f0))], ⟨rfl, rfl, by decide, rfl⟩, ?_⟩
  refine zq_putF (q := 15) (ws2 := [(h0, .inr (3, [.ref t0, .null, .null, .null, .null, .null, .null])), (t0, .inr (1, [.int 1, .int 1, .ref t1, .ref t2])), (t1, .inl (cyI, 49, .inl f0)), (t2, .inl (cyZ, 49, .inl f0))]) G zu_X3 rfl tyX3_ok nmX3 zw_X3_f12 dX3_init_12 0 0 rfl (by decide) ⟨⟨rfl, rfl⟩, rfl⟩ rfl hin rfl rfl rfl (Nat.le_of_ble_eq_true rfl) rfl rfl ?_
  refine zq_aload_n (q := 16) G dX3_init_15 0 rfl rfl rfl ?_
  refine zq_newO (q := 19) (ci := 1) (fs := [.int 0, .int 0, .null, .null]) (ty0 := tyX1) G zu_X1 rfl tyX1_ok zw_X3_k9 zw_X1_new zini_X1 (fun j hj => by match j, hj with
    | 0, _ => rfl
    | 1, _ => rfl
    | 2, _ => rfl
    | 3, _ => rfl) (Nat.le_of_ble_eq_true rfl) (Nat.le_of_ble_eq_true rfl) dX3_init_16 rfl (fun v0 => ?_)
  refine zq_dup (q := 20) G dX3_init_19 rfl rfl ?_
  refine zq_callC (q := 23) (isC := [4]) (isR := [0, 1, 2, 3]) (perm := [0, 1, 2, 3, 4, 5, 6]) G zs_X3_11 dX3_init_20 (c_X1_init l D cyI cyZ v0) rfl (by decide) (Nat.le_of_ble_eq_true rfl) ⟨Nat.le_of_ble_eq_true rfl, Nat.le_of_ble_eq_true rfl, Nat.le_of_ble_eq_true rfl, Nat.le_of_ble_eq_true rfl⟩ rfl (fun W1 hW1 => ?_)
  obtain ⟨v1, v2, rfl⟩ := hW1
  refine ⟨[(h0, .inr (3, [.ref t0, .null, .null, .null, .null, .null, .null])), (t0, .inr (1, [.int 1, .int 1, .ref t1, .ref t2])), (t1, .inl (cyI, 49, .inl f0)), (t2, .inl (cyZ, 49, .inl f0)), (v0, .inr (1, [.int 1, .int 1, .ref v1, .ref v2])), (v1, .inl (cyI, 49, .inl f0)), (v2, .inl (cyZ, 49, .inl f0))], ⟨rfl, rfl, by decide, rfl⟩, ?_⟩
  refine zq_putF (q := 26) (ws2 := [(h0, .inr (3, [.ref t0, .ref v0, .null, .null, .null, .null, .null])), (t0, .inr (1, [.int 1, .int 1, .ref t1, .ref t2])), (t1, .inl (cyI, 49, .inl f0)), (t2, .inl (cyZ, 49, .inl f0)), (v0, .inr (1, [.int 1, .int 1, .ref v1, .ref v2])), (v1, .inl (cyI, 49, .inl f0)), (v2, .inl (cyZ, 49, .inl f0))]) G zu_X3 rfl tyX3_ok nmX3 zw_X3_f16 dX3_init_23 0 1 rfl (by decide) ⟨⟨rfl, rfl⟩, rfl⟩ rfl hin rfl rfl rfl (Nat.le_of_ble_eq_true rfl) rfl rfl ?_
  refine zq_aload_n (q := 27) G dX3_init_26 0 rfl rfl rfl ?_
  refine zq_newO (q := 30) (ci := 0) (fs := [.int 0, .null, .null, .null, .null]) (ty0 := tyX0) G zu_X0 rfl tyX0_ok zw_X3_k19 zw_X0_new zini_X0 (fun j hj => by match j, hj with
    | 0, _ => rfl
    | 1, _ => rfl
    | 2, _ => rfl
    | 3, _ => rfl
    | 4, _ => rfl) (Nat.le_of_ble_eq_true rfl) (Nat.le_of_ble_eq_true rfl) dX3_init_27 rfl (fun s0 => ?_)
  refine zq_dup (q := 31) G dX3_init_30 rfl rfl ?_
  refine zq_callC (q := 34) (isC := [7]) (isR := [0, 1, 2, 3, 4, 5, 6]) (perm := [0, 1, 2, 3, 4, 5, 6, 7, 8, 9, 10, 11]) G zs_X3_21 dX3_init_31 (c_X0_init l D cyI cyZ s0) rfl (by decide) (Nat.le_of_ble_eq_true rfl) ⟨Nat.le_of_ble_eq_true rfl, Nat.le_of_ble_eq_true rfl, Nat.le_of_ble_eq_true rfl, Nat.le_of_ble_eq_true rfl⟩ rfl (fun W1 hW1 => ?_)
  obtain ⟨s1, s2, s3, s4, rfl⟩ := hW1
  refine ⟨[(h0, .inr (3, [.ref t0, .ref v0, .null, .null, .null, .null, .null])), (t0, .inr (1, [.int 1, .int 1, .ref t1, .ref t2])), (t1, .inl (cyI, 49, .inl f0)), (t2, .inl (cyZ, 49, .inl f0)), (v0, .inr (1, [.int 1, .int 1, .ref v1, .ref v2])), (v1, .inl (cyI, 49, .inl f0)), (v2, .inl (cyZ, 49, .inl f0)), (s0, .inr (0, [.int 1, .ref s1, .ref s2, .ref s3, .ref s4])), (s1, .inl (cyI, 49, .inl f0)), (s2, .inl (cyI, 128, .inl f0)), (s3, .inl (cyI, 128, .inl f0)), (s4, .inl (cyI, 128, .inl f0))], ⟨rfl, rfl, by decide, rfl⟩, ?_⟩
  refine zq_putF (q := 37) (ws2 := [(h0, .inr (3, [.ref t0, .ref v0, .ref s0, .null, .null, .null, .null])), (t0, .inr (1, [.int 1, .int 1, .ref t1, .ref t2])), (t1, .inl (cyI, 49, .inl f0)), (t2, .inl (cyZ, 49, .inl f0)), (v0, .inr (1, [.int 1, .int 1, .ref v1, .ref v2])), (v1, .inl (cyI, 49, .inl f0)), (v2, .inl (cyZ, 49, .inl f0)), (s0, .inr (0, [.int 1, .ref s1, .ref s2, .ref s3, .ref s4])), (s1, .inl (cyI, 49, .inl f0)), (s2, .inl (cyI, 128, .inl f0)), (s3, .inl (cyI, 128, .inl f0)), (s4, .inl (cyI, 128, .inl f0))]) G zu_X3 rfl tyX3_ok nmX3 zw_X3_f22 dX3_init_34 0 2 rfl (by decide) ⟨⟨rfl, rfl⟩, rfl⟩ rfl hin rfl rfl rfl (Nat.le_of_ble_eq_true rfl) rfl rfl ?_
  refine zq_aload_n (q := 38) G dX3_init_37 0 rfl rfl rfl ?_
  refine zq_bipush (q := 40) (v := 7) G dX3_init_38 (by decide) rfl ?_
  refine zq_newI (q := 42) (N := 7) G (by decide) (by decide) (by decide) (Nat.le_of_ble_eq_true rfl) (Nat.le_of_ble_eq_true rfl) dX3_init_40 rfl (fun rp => ?_)
  refine zq_putF (q := 45) (ws2 := [(h0, .inr (3, [.ref t0, .ref v0, .ref s0, .ref rp, .null, .null, .null])), (t0, .inr (1, [.int 1, .int 1, .ref t1, .ref t2])), (t1, .inl (cyI, 49, .inl f0)), (t2, .inl (cyZ, 49, .inl f0)), (v0, .inr (1, [.int 1, .int 1, .ref v1, .ref v2])), (v1, .inl (cyI, 49, .inl f0)), (v2, .inl (cyZ, 49, .inl f0)), (s0, .inr (0, [.int 1, .ref s1, .ref s2, .ref s3, .ref s4])), (s1, .inl (cyI, 49, .inl f0)), (s2, .inl (cyI, 128, .inl f0)), (s3, .inl (cyI, 128, .inl f0)), (s4, .inl (cyI, 128, .inl f0)), (rp, .inl (cyI, 7, .inl f0))]) G zu_X3 rfl tyX3_ok nmX3 zw_X3_f26 dX3_init_42 0 3 rfl (by decide) ⟨⟨rfl, rfl⟩, rfl⟩ rfl hin rfl rfl rfl (Nat.le_of_ble_eq_true rfl) rfl rfl ?_
  refine zq_aload_n (q := 46) G dX3_init_45 0 rfl rfl rfl ?_
  refine zq_bipush (q := 48) (v := 7) G dX3_init_46 (by decide) rfl ?_
  refine zq_newI (q := 50) (N := 7) G (by decide) (by decide) (by decide) (Nat.le_of_ble_eq_true rfl) (Nat.le_of_ble_eq_true rfl) dX3_init_48 rfl (fun cp => ?_)
  refine zq_putF (q := 53) (ws2 := [(h0, .inr (3, [.ref t0, .ref v0, .ref s0, .ref rp, .ref cp, .null, .null])), (t0, .inr (1, [.int 1, .int 1, .ref t1, .ref t2])), (t1, .inl (cyI, 49, .inl f0)), (t2, .inl (cyZ, 49, .inl f0)), (v0, .inr (1, [.int 1, .int 1, .ref v1, .ref v2])), (v1, .inl (cyI, 49, .inl f0)), (v2, .inl (cyZ, 49, .inl f0)), (s0, .inr (0, [.int 1, .ref s1, .ref s2, .ref s3, .ref s4])), (s1, .inl (cyI, 49, .inl f0)), (s2, .inl (cyI, 128, .inl f0)), (s3, .inl (cyI, 128, .inl f0)), (s4, .inl (cyI, 128, .inl f0)), (rp, .inl (cyI, 7, .inl f0)), (cp, .inl (cyI, 7, .inl f0))]) G zu_X3 rfl tyX3_ok nmX3 zw_X3_f30 dX3_init_50 0 4 rfl (by decide) ⟨⟨rfl, rfl⟩, rfl⟩ rfl hin rfl rfl rfl (Nat.le_of_ble_eq_true rfl) rfl rfl ?_
  refine zq_aload_n (q := 54) G dX3_init_53 0 rfl rfl rfl ?_
  refine zq_bipush (q := 56) (v := 7) G dX3_init_54 (by decide) rfl ?_
  refine zq_newI (q := 58) (N := 7) G (by decide) (by decide) (by decide) (Nat.le_of_ble_eq_true rfl) (Nat.le_of_ble_eq_true rfl) dX3_init_56 rfl (fun fo => ?_)
  refine zq_putF (q := 61) (ws2 := [(h0, .inr (3, [.ref t0, .ref v0, .ref s0, .ref rp, .ref cp, .ref fo, .null])), (t0, .inr (1, [.int 1, .int 1, .ref t1, .ref t2])), (t1, .inl (cyI, 49, .inl f0)), (t2, .inl (cyZ, 49, .inl f0)), (v0, .inr (1, [.int 1, .int 1, .ref v1, .ref v2])), (v1, .inl (cyI, 49, .inl f0)), (v2, .inl (cyZ, 49, .inl f0)), (s0, .inr (0, [.int 1, .ref s1, .ref s2, .ref s3, .ref s4])), (s1, .inl (cyI, 49, .inl f0)), (s2, .inl (cyI, 128, .inl f0)), (s3, .inl (cyI, 128, .inl f0)), (s4, .inl (cyI, 128, .inl f0)), (rp, .inl (cyI, 7, .inl f0)), (cp, .inl (cyI, 7, .inl f0)), (fo, .inl (cyI, 7, .inl f0))]) G zu_X3 rfl tyX3_ok nmX3 zw_X3_f33 dX3_init_58 0 5 rfl (by decide) ⟨⟨rfl, rfl⟩, rfl⟩ rfl hin rfl rfl rfl (Nat.le_of_ble_eq_true rfl) rfl rfl ?_
  refine zq_aload_n (q := 62) G dX3_init_61 0 rfl rfl rfl ?_
  refine zq_newO (q := 65) (ci := 2) (fs := [.int 0, .int 0, .int 0, .int 0, .null]) (ty0 := tyX2) G zu_X2 rfl tyX2_ok zw_X3_k36 zw_X2_new zini_X2 (fun j hj => by match j, hj with
    | 0, _ => rfl
    | 1, _ => rfl
    | 2, _ => rfl
    | 3, _ => rfl
    | 4, _ => rfl) (Nat.le_of_ble_eq_true rfl) (Nat.le_of_ble_eq_true rfl) dX3_init_62 rfl (fun k0 => ?_)
  refine zq_dup (q := 66) G dX3_init_65 rfl rfl ?_
  refine zq_callC (q := 69) (isC := [15]) (isR := [0, 1, 2, 3, 4, 5, 6, 7, 8, 9, 10, 11, 12, 13, 14]) (perm := [0, 1, 2, 3, 4, 5, 6, 7, 8, 9, 10, 11, 12, 13, 14, 15, 16]) G zs_X3_38 dX3_init_66 (c_X2_init l D cyI cyZ k0) rfl (by decide) (Nat.le_of_ble_eq_true rfl) ⟨Nat.le_of_ble_eq_true rfl, Nat.le_of_ble_eq_true rfl, Nat.le_of_ble_eq_true rfl, Nat.le_of_ble_eq_true rfl⟩ rfl (fun W1 hW1 => ?_)
  obtain ⟨k1, rfl⟩ := hW1
  refine ⟨[(h0, .inr (3, [.ref t0, .ref v0, .ref s0, .ref rp, .ref cp, .ref fo, .null])), (t0, .inr (1, [.int 1, .int 1, .ref t1, .ref t2])), (t1, .inl (cyI, 49, .inl f0)), (t2, .inl (cyZ, 49, .inl f0)), (v0, .inr (1, [.int 1, .int 1, .ref v1, .ref v2])), (v1, .inl (cyI, 49, .inl f0)), (v2, .inl (cyZ, 49, .inl f0)), (s0, .inr (0, [.int 1, .ref s1, .ref s2, .ref s3, .ref s4])), (s1, .inl (cyI, 49, .inl f0)), (s2, .inl (cyI, 128, .inl f0)), (s3, .inl (cyI, 128, .inl f0)), (s4, .inl (cyI, 128, .inl f0)), (rp, .inl (cyI, 7, .inl f0)), (cp, .inl (cyI, 7, .inl f0)), (fo, .inl (cyI, 7, .inl f0)), (k0, .inr (2, [.int 0, .int 0, .int (-1), .int 0, .ref k1])), (k1, .inl (cyI, 720, .inl f0))], ⟨rfl, rfl, by decide, rfl⟩, ?_⟩
  refine zq_putF (q := 72) (ws2 := w_C cyI cyZ h0 t0 t1 t2 v0 v1 v2 s0 s1 s2 s3 s4 rp cp fo k0 k1 C0) G zu_X3 rfl tyX3_ok nmX3 zw_X3_f39 dX3_init_69 0 6 rfl (by decide) ⟨⟨rfl, rfl⟩, rfl⟩ rfl hin rfl rfl rfl (Nat.le_of_ble_eq_true rfl) rfl rfl ?_
  exact zq_cret G hlocks hr dX3_init_72 ⟨t0, t1, t2, v0, v1, v2, s0, s1, s2, s3, s4, rp, cp, fo, k0, k1, rfl⟩
