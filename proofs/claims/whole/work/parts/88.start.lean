/-! ===== the law from its entry ===== -/
abbrev Cst0 : zC := C0
set_option maxHeartbeats 4000000 in
set_option maxRecDepth 100000 in
theorem whole_start {p : Program} {e : Env} {s : State} {m : MethodId} {below : List Frame} {meth : Method} {c : Code} (l : Launch) (hflags : l.flags = flags0) {b L : Nat} {xs : Nat → Int32} (hL : L ≤ 2048) (C0 : lw_At p s m meth c b L xs) : W p l e room_1 s m #[Value.ref b] below meth c s.heap [] 0 0 (lw_Z below #[Value.ref b] s) (entryFrame m ([Value.ref b] : List Value).toArray 10) := by
  obtain ⟨hx, hb, hr, hml, hown, hts, hX, hbl, hlocks, hgv⟩ := id C0
  have hst : l.stackTraces = false := by
    unfold Launch.stackTraces
    rw [hflags]
    decide
  have hA : ∀ q : Nat, s.heap.size ≤ q → (fun q : Nat => s.heap.size ≤ q) q := fun _ h => h
  have hbA : ¬ (fun q : Nat => s.heap.size ≤ q) b := Nat.not_le.mpr hbl
  have hB : ∀ w ∈ zB, w.before #[Value.ref b] s = true := fun w h => hts w (zB_tbl h)
  obtain ⟨c0, iS0, hKn0⟩ := u_known (C := RX0) (T := TX0) (N := 5) (n := 5) hB zu_X0 (hB _ zw_X0_new)
  obtain ⟨c1, iS1, hKn1⟩ := u_known (C := RX1) (T := TX1) (N := 4) (n := 4) hB zu_X1 (hB _ zw_X1_new)
  obtain ⟨c2, iS2, hKn2⟩ := u_known (C := RX2) (T := TX2) (N := 5) (n := 5) hB zu_X2 (hB _ zw_X2_new)
  obtain ⟨c3, iS3, hKn3⟩ := u_known (C := RX3) (T := TX3) (N := 7) (n := 7) hB zu_X3 (hB _ zw_X3_new)
  obtain ⟨c4, iS4, hKn4⟩ := u_known (C := RX4) (T := TX4) (N := 24) (n := 24) hB zu_X4 (hB _ zw_X4_new)
  obtain ⟨D, hKc⟩ : ∃ D : va_G, ∀ (k : Nat) (q : vw_C), vwCl[k]? = some q → u_Kn s q.1 q.2.1 q.2.2 (D.1 k) (D.2 k) := by
    refine ⟨(fun k => match k with | 0 => c0 | 1 => c1 | 2 => c2 | 3 => c3 | _ => c4, fun k => match k with | 0 => iS0 | 1 => iS1 | 2 => iS2 | 3 => iS3 | _ => iS4), ?_⟩
    intro k q hq
    match k, hq with
    | 0, hq => cases hq; exact hKn0
    | 1, hq => cases hq; exact hKn1
    | 2, hq => cases hq; exact hKn2
    | 3, hq => cases hq; exact hKn3
    | 4, hq => cases hq; exact hKn4
    | k + 5, hq => simp [vwCl] at hq
  obtain ⟨cI, kI, pI, f1, f2, f3⟩ := Cond.arrayClass_spec (hB _ zw_arr_int)
  obtain ⟨cZ, kZ, pZ, g1, g2, g3⟩ := Cond.arrayClass_spec (hB _ zw_arr_boolean)
  obtain ⟨cJ, kJ, pJ, j1, j2, j3⟩ := Cond.arrayClass_spec (hB _ zw_arr_long)
  obtain ⟨cD, kD, pD, d1, d2, d3⟩ := Cond.arrayClass_spec (hB _ zw_arr_double)
  have hK : va_K D vwCl (zty cI cZ) s := ⟨hKc, fun k q h => by
    match k, h with
    | 0, h => cases h; exact ⟨fun n z => ⟨fun k h => (by cases h), kI, f2, pI, f3⟩, f1⟩
    | 1, h => cases h; exact ⟨fun n z => ⟨fun k h => (by cases h), kZ, g2, pZ, g3⟩, g1⟩
    | k + 2, h => simp at h⟩
  have hJ : va_K D vwCl (ztyJ cJ cD) s := ⟨hKc, fun k q h => by
    match k, h with
    | 0, h => cases h; exact ⟨fun n z => ⟨fun k h => (by cases h), kJ, j2, pJ, j3⟩, j1⟩
    | 1, h => cases h; exact ⟨fun n z => ⟨fun k h => (by cases h), kD, d2, pD, d3⟩, d1⟩
    | k + 2, h => simp at h⟩
  have hfl := flat_of_before _ hgv
  have hini : (Cond.initialized Bundle.tN).before #[Value.ref b] s = true := hts _ (List.mem_append_right _ (List.mem_append_left _ (List.mem_of_getElem? (i := 6) rfl)))
  have hl1 : (Cond.laysStatic Bundle.tN "UNASSIGNED_STACK" Bundle.steD).before #[Value.ref b] s = true := hts _ (List.mem_append_right _ (List.mem_append_right _ (List.mem_append_left _ (List.mem_of_getElem? (i := 105) rfl))))
  have hl2 : (Cond.laysStatic Bundle.tN "SUPPRESSED_SENTINEL" Bundle.listD).before #[Value.ref b] s = true := hts _ (List.mem_append_right _ (List.mem_append_right _ (List.mem_append_left _ (List.mem_of_getElem? (i := 107) rfl))))
  have hr1 : (Cond.isRef (.static Bundle.tN "UNASSIGNED_STACK" Bundle.steD)).before #[Value.ref b] s = true := hfl _ (by decide +kernel)
  have hr2 : (Cond.isRef (.static Bundle.tN "SUPPRESSED_SENTINEL" Bundle.listD)).before #[Value.ref b] s = true := hfl _ (by decide +kernel)
  have hZX : zX (fun q : Nat => s.heap.size ≤ q) s s.heap := by
    refine ⟨vx_Zqof hl1 hini hr1 (fun a h => Nat.not_le.mpr h), vx_Zqof hl2 hini hr2 (fun a h => Nat.not_le.mpr h), ?_⟩
    intro q hq
    have h9 : ∀ w ∈ zncs.map (fun q => Cond.not (.castable q.1 q.2)), w ∈ flatC (Jvm.Cond.and given_1 narrow_1) := by decide +kernel
    exact va_Nc.of (hfl _ (h9 _ (List.mem_map_of_mem hq)))
  have G : zG p s m #[Value.ref b] c cL_law 10 RL D cI cZ (fun q : Nat => s.heap.size ≤ q) := ⟨hx, hb, hml, hown, hB, hK, hA, hZX⟩
  have LW : zLaw p s m #[Value.ref b] c D cI cZ cJ cD (fun q : Nat => s.heap.size ≤ q) b L xs := ⟨G, hJ, hX, hbl, hbA⟩
  have hl := lv_entry ([.ref b]) (n := 10) (Nat.le_of_ble_eq_true rfl)
  rw [lg_entry_eq]
  have hl : lv_has _ 10 [(0, .ref b)] := hl
  suffices K : zW p l e room_1 s m #[Value.ref b] below meth c D (fun q : Nat => s.heap.size ≤ q) 10 0 0 (lw_Z below #[Value.ref b] s) 0 [(0, .ref b)] [] [] from K s.heap [] _ (fun k q h => by simp at h) ⟨fun i j p q h => by simp at h, fun k q h => by simp at h⟩ va_S.rf hl
  refine zq_newO (q := 3) (ci := 3) (fs := [.null, .null, .null, .null, .null, .null, .null]) (ty0 := tyX3) G zu_X3 rfl tyX3_ok zw_L_k8 zw_X3_new zini_X3 (fun j hj => by match j, hj with
    | 0, _ => rfl
    | 1, _ => rfl
    | 2, _ => rfl
    | 3, _ => rfl
    | 4, _ => rfl
    | 5, _ => rfl
    | 6, _ => rfl) (Nat.le_of_ble_eq_true rfl) (Nat.le_of_ble_eq_true rfl) dL_law_0 rfl (fun x0 => ?_)
  refine zq_dup (q := 4) G dL_law_3 rfl rfl ?_
  refine zq_callCI (q := 7) (isC := [0]) (isR := []) (perm := [0, 1, 2, 3, 4, 5, 6, 7, 8, 9, 10, 11, 12, 13, 14, 15, 16]) G zs_L_100 dL_law_4 (fun sz9 => c_X3_init l D cI cZ x0 sz9) rfl (by decide) (Nat.le_of_ble_eq_true rfl) ⟨(Nat.le_of_ble_eq_true rfl), (Nat.le_of_ble_eq_true rfl), (Nat.le_of_ble_eq_true rfl), (Nat.le_of_ble_eq_true rfl)⟩ rfl (fun W1 hW1 => ?_)
  obtain ⟨t0, t1, t2, v0, v1, v2, s0, s1, s2, s3, s4, rp, cp, fo, k0, k1, rfl⟩ := hW1
  refine ⟨w_C cI cZ x0 t0 t1 t2 v0 v1 v2 s0 s1 s2 s3 s4 rp cp fo k0 k1 Cst0, ⟨rfl, rfl, rfl, rfl⟩, ?_⟩
  refine zq_astore_n (q := 8) (lv2 := [(1, .ref x0), (0, .ref b)]) G dL_law_7 rfl (by decide) rfl rfl ?_
  refine zq_newO (q := 11) (ci := 4) (fs := [.int 0, .int 0, .int 0, .int 0, .int 0, .null, .null, .null, .null, .null, .null, .null, .null, .int 0, .int 0, .int 0, .int 0, .int 0, .int 0, .int 0, .int 0, .null, .null, .null]) (ty0 := tyX4) G zu_X4 rfl tyX4_ok zw_L_k101 zw_X4_new zini_X4 (fun j hj => by match j, hj with
    | 0, _ => rfl
    | 1, _ => rfl
    | 2, _ => rfl
    | 3, _ => rfl
    | 4, _ => rfl
    | 5, _ => rfl
    | 6, _ => rfl
    | 7, _ => rfl
    | 8, _ => rfl
    | 9, _ => rfl
    | 10, _ => rfl
    | 11, _ => rfl
    | 12, _ => rfl
    | 13, _ => rfl
    | 14, _ => rfl
    | 15, _ => rfl
    | 16, _ => rfl
    | 17, _ => rfl
    | 18, _ => rfl
    | 19, _ => rfl
    | 20, _ => rfl
    | 21, _ => rfl
    | 22, _ => rfl
    | 23, _ => rfl
    | k + 24, h => exact absurd h (by omega)) (Nat.le_of_ble_eq_true rfl) (Nat.le_of_ble_eq_true rfl) dL_law_8 rfl (fun m0 => ?_)
  refine zq_dup (q := 12) G dL_law_11 rfl rfl ?_
  refine zq_callCI (q := 15) (isC := [17]) (isR := [0, 1, 2, 3, 4, 5, 6, 7, 8, 9, 10, 11, 12, 13, 14, 15, 16]) (perm := [0, 1, 2, 3, 4, 5, 6, 7, 8, 9, 10, 11, 12, 13, 14, 15, 16, 17, 18, 19, 20, 21, 22, 23, 24, 25, 26, 27, 28]) G zs_L_103 dL_law_12 (fun sz9 => c_X4_init l D cI cZ m0 sz9) rfl (by decide) (Nat.le_of_ble_eq_true rfl) ⟨(Nat.le_of_ble_eq_true rfl), (Nat.le_of_ble_eq_true rfl), (Nat.le_of_ble_eq_true rfl), (Nat.le_of_ble_eq_true rfl)⟩ rfl (fun W1 hW1 => ?_)
  obtain ⟨m1, m2, m3, m4, m5, m6, m7, m8, m9, m10, m11, rfl⟩ := hW1
  refine ⟨w_C cI cZ x0 t0 t1 t2 v0 v1 v2 s0 s1 s2 s3 s4 rp cp fo k0 k1 Cst0 ++ w_M cI cZ m0 m1 m2 m3 m4 m5 m6 m7 m8 m9 m10 m11 M0, ⟨rfl, rfl, rfl, rfl⟩, ?_⟩
  refine zq_astore_n (q := 16) (lv2 := [(2, .ref m0), (1, .ref x0), (0, .ref b)]) G dL_law_15 rfl (by decide) rfl rfl ?_
  refine zq_iconst (q := 17) (v := 1) G dL_law_16 rfl rfl ?_
  refine zq_newJ (q := 19) (N := 1) G hJ (by decide) (by decide) (by decide) (Nat.le_of_ble_eq_true rfl) (Nat.le_of_ble_eq_true rfl) dL_law_17 rfl (fun o1 => ?_)
  refine zq_astore_n (q := 20) (lv2 := [(3, .ref o1), (2, .ref m0), (1, .ref x0), (0, .ref b)]) G dL_law_19 rfl (by decide) rfl rfl ?_
  refine zq_iconst (q := 21) (v := 1) G dL_law_20 rfl rfl ?_
  refine zq_newD (q := 23) (N := 1) G hJ (by decide) (by decide) (by decide) (Nat.le_of_ble_eq_true rfl) (Nat.le_of_ble_eq_true rfl) dL_law_21 rfl (fun o2 => ?_)
  refine zq_astore (q := 25) (lv2 := [(4, .ref o2), (3, .ref o1), (2, .ref m0), (1, .ref x0), (0, .ref b)]) G dL_law_23 (by decide) rfl rfl ?_
  refine zq_iconst (q := 26) (v := 0) G dL_law_25 rfl rfl ?_
  refine zq_istore (q := 28) (lv2 := [(5, .int 0), (4, .ref o2), (3, .ref o1), (2, .ref m0), (1, .ref x0), (0, .ref b)]) G dL_law_26 (by decide) rfl rfl ?_
  refine zq_widen (k := 31 + 0) (n := 2000 + 6 * 0) (Nat.le_of_ble_eq_true rfl) (Nat.le_of_ble_eq_true rfl) ?_
  refine zq_sub [(0, .ref b), (1, .ref x0), (2, .ref m0), (3, .ref o1), (4, .ref o2), (5, .int (nI (4 * 0)))] [5, 4, 3, 2, 1, 0] rfl ?_
  have C9 : Rel Cst0 M0 := rel_start rfl rfl ⟨rfl, rfl, fun _ _ => rfl, fun _ _ => rfl⟩ ⟨rfl, rfl, fun _ _ => rfl, fun _ _ => rfl⟩ rfl rfl
  exact law_loop (h := fun k => ([x0, t0, t1, t2, v0, v1, v2, s0, s1, s2, s3, s4, rp, cp, fo, k0, k1, m0, m1, m2, m3, m4, m5, m6, m7, m8, m9, m10, m11, o1, o2] : List Nat).getD k 0) hst LW hL (fun cells slots lv ws h1 h2 H locs ls hP hD hS hl => W.widen h1 h2 (va_forget (fun q hq => hS.2.2 q hq) (lw_ret (d0 := s.drawn) (Drawn.sameBut.refl s.drawn lw_cs) hx hb hr hlocks dL_law_2130))) L 0 (by omega) (by omega) Cst0 M0 (fun _ => 0) (fun _ => 0) C9
