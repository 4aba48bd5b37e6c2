/-! ===== the law's helpers ===== -/
abbrev w_H (cyI cyZ cyJ : ClassId) (h : Nat → Nat) (o : Nat) (σ : zC) (g : Nat → Int64) : va_W := w_C cyI cyZ (h 0) (h 1) (h 2) (h 3) (h 4) (h 5) (h 6) (h 7) (h 8) (h 9) (h 10) (h 11) (h 12) (h 13) (h 14) (h 15) (h 16) σ ++ [(o, .inl (cyJ, 1, .inr (.inl g)))]
abbrev w_HD (cyI cyZ cyD : ClassId) (h : Nat → Nat) (o : Nat) (σ : zC) (g : Nat → UInt64) : va_W := w_C cyI cyZ (h 0) (h 1) (h 2) (h 3) (h 4) (h 5) (h 6) (h 7) (h 8) (h 9) (h 10) (h 11) (h 12) (h 13) (h 14) (h 15) (h 16) σ ++ [(o, .inl (cyD, 1, .inr (.inr (.inr (.inl g)))))]
theorem zcov {x : ExceptionTableEntry} {pc : Nat} (h : covers x pc = true) : covers x pc = true := h
theorem zpass0 {own E0 : String} : ∀ z ∈ ([] : List ExceptionTableEntry), z.catchType ≠ 0 ∧ ∃ nm, Cond.classLink own z.catchType nm ∈ zB ∧ (E0, nm) ∈ zncs := fun _ h => nomatch h
theorem zpassC {own E0 nm : String} {x : ExceptionTableEntry} {xs : List ExceptionTableEntry} (h0 : x.catchType ≠ 0) (h1 : Cond.classLink own x.catchType nm ∈ zB) (h2 : (E0, nm) ∈ zncs) (h : ∀ z ∈ xs, z.catchType ≠ 0 ∧ ∃ nm, Cond.classLink own z.catchType nm ∈ zB ∧ (E0, nm) ∈ zncs) : ∀ z ∈ x :: xs, z.catchType ≠ 0 ∧ ∃ nm, Cond.classLink own z.catchType nm ∈ zB ∧ (E0, nm) ∈ zncs := List.forall_mem_cons.mpr ⟨⟨h0, nm, h1, h2⟩, h⟩
theorem upd0J (g : Nat → Int64) (x : Int64) : vp_updL g ((0 : Int32).toNatClampNeg) x ((0 : Int32).toNatClampNeg) = x := if_pos rfl
theorem upd0D (g : Nat → UInt64) (x : UInt64) : vf_upd g ((0 : Int32).toNatClampNeg) x ((0 : Int32).toNatClampNeg) = x := if_pos rfl

set_option maxHeartbeats 4000000 in
set_option maxRecDepth 100000 in
theorem h_resize (l : Launch) (hst : l.stackTraces = false) (D : va_G) (cyI cyZ cyJ cyD : ClassId) (h : Nat → Nat) (o : Nat) (σ σ2 : zC) (g : Nat → Int64) (p0 : Int32) (p1 : Int32) (z : Sum String Int32) (b th : Int32) (ez : s_X3_resize σ p0 p1 = some (z, σ2)) (hT : TH [xA] z b th) (sz : Nat) : zMh l yL_resize cL_resize 5 [(0, 10, 13, 13)] D cyI cyZ cyJ cyD sz [.ref (h 0), .int p0, .int p1, .ref o] (w_H cyI cyZ cyJ h o σ g) th (fun W9 => ∃ g2 : Nat → Int64, (th = 0 → g2 ((0 : Int32).toNatClampNeg) = b.toInt64) ∧ W9 = (w_H cyI cyZ cyJ h o σ2 g2)) := by
  refine zstartH (lv0 := [(0, .ref (h 0)), (1, .int p0), (2, .int p1), (3, .ref o)]) (by decide) (Nat.le_of_ble_eq_true rfl) rfl (fun p e s m args below meth c G hJ hr hlocks ht => ?_)
  refine zq_aload_n (q := 1) G dL_resize_0 3 rfl rfl rfl ?_
  refine zq_iconst (q := 2) (v := 0) G dL_resize_1 rfl rfl ?_
  refine zq_aload_n (q := 3) G dL_resize_2 0 rfl rfl rfl ?_
  refine zq_iload_n (q := 4) G dL_resize_3 1 rfl rfl rfl ?_
  refine zq_iload_n (q := 5) G dL_resize_4 2 rfl rfl rfl ?_
  rcases hT with ⟨rfl, rfl⟩ | ⟨k, nm, hk, rfl, rfl⟩
  · refine zq_callVi (q := 8) (ws2 := (w_H cyI cyZ cyJ h o σ2 g)) (isC := [0, 1, 2, 3, 4, 5, 6, 7, 8, 9, 10, 11, 12, 13, 14, 15, 16]) (isR := [17]) (perm := [1, 2, 3, 4, 5, 6, 7, 8, 9, 10, 11, 12, 13, 14, 15, 16, 17, 0]) (rest := [.int 0, .ref o]) (As := [.int p0, .int p1]) G zs_L_7 dL_resize_5 (fun sz9 => zXi_ret (c_X3_resize l hst D cyI cyZ (h 0) (h 1) (h 2) (h 3) (h 4) (h 5) (h 6) (h 7) (h 8) (h 9) (h 10) (h 11) (h 12) (h 13) (h 14) (h 15) (h 16) σ p0 p1 (.inr b) σ2 ez sz9)) 0 rfl rfl rfl ⟨rfl, rfl, rfl, rfl⟩ rfl (Nat.le_of_ble_eq_true rfl) ⟨Nat.le_of_ble_eq_true rfl, Nat.le_of_ble_eq_true rfl, Nat.zero_le _, Nat.zero_le _⟩ rfl ?_
    refine zq_i2l (q := 9) G dL_resize_8 rfl ?_
    refine zq_last (q := 10) (ws2 := (w_H cyI cyZ cyJ h o σ2 (vp_updL g ((0 : Int32).toNatClampNeg) b.toInt64))) G hJ dL_resize_9 17 rfl rfl rfl rfl ?_
    refine zq_goto (q := 17) G dL_resize_10 (by decide) ?_
    refine zq_iconst (q := 18) (v := 0) G dL_resize_17 rfl rfl ?_
    exact zq_hret G hlocks hr dL_resize_18 (Nat.le_of_ble_eq_true rfl) (Nat.le_of_ble_eq_true rfl) rfl ⟨_, fun _ => upd0J g _, rfl⟩
  · match k, hk with
    | 0, hk =>
      cases hk
      refine zq_tryX (q := 13) (pre := []) (x := ⟨0, 10, 13, 13⟩) (suf := []) (ws2 := (w_H cyI cyZ cyJ h o σ2 g)) (isC := [0, 1, 2, 3, 4, 5, 6, 7, 8, 9, 10, 11, 12, 13, 14, 15, 16]) (isR := [17]) (perm := [1, 2, 3, 4, 5, 6, 7, 8, 9, 10, 11, 12, 13, 14, 15, 16, 17, 0]) (rest := [.int 0, .ref o]) (As := [.int p0, .int p1]) G (ht.trans rfl) zs_L_7 dL_resize_5 (fun sz9 => c_X3_resize l hst D cyI cyZ (h 0) (h 1) (h 2) (h 3) (h 4) (h 5) (h 6) (h 7) (h 8) (h 9) (h 10) (h 11) (h 12) (h 13) (h 14) (h 15) (h 16) σ p0 p1 (.inl xA) σ2 ez sz9) 0 rfl rfl rfl ⟨rfl, rfl, rfl, rfl⟩ rfl (Nat.le_of_ble_eq_true rfl) ⟨Nat.le_of_ble_eq_true rfl, Nat.le_of_ble_eq_true rfl, Nat.le_of_ble_eq_true rfl, Nat.le_of_ble_eq_true rfl⟩ zpass0 (by decide) (by decide) zw_L_k13 (zin2 185 rfl rfl) rfl (fun q9 => ?_)
      refine zq_sub [] [] rfl ?_
      refine zq_astore (q := 15) (lv2 := [(4, .ref q9)]) G dL_resize_13 (by decide) rfl rfl ?_
      refine zq_iconst (q := 16) (v := 1) G dL_resize_15 rfl rfl ?_
      exact zq_hret G hlocks hr dL_resize_16 (Nat.le_of_ble_eq_true rfl) (Nat.le_of_ble_eq_true rfl) rfl ⟨g, fun c9 => absurd c9 (by decide), rfl⟩
    | k + 1, hk => first | exact nomatch hk | simp at hk
set_option maxHeartbeats 4000000 in
set_option maxRecDepth 100000 in
theorem h_setCost (l : Launch) (hst : l.stackTraces = false) (D : va_G) (cyI cyZ cyJ cyD : ClassId) (h : Nat → Nat) (o : Nat) (σ σ2 : zC) (g : Nat → Int64) (p0 : Int32) (p1 : Int32) (p2 : Int32) (z : Sum String Int32) (b th : Int32) (ez : s_X3_setCost σ p0 p1 p2 = some (z, σ2)) (hT : TH [xO, xA] z b th) (sz : Nat) : zMh l yL_setCost cL_setCost 6 [(0, 12, 15, 19), (0, 12, 19, 13)] D cyI cyZ cyJ cyD sz [.ref (h 0), .int p0, .int p1, .int p2, .ref o] (w_H cyI cyZ cyJ h o σ g) th (fun W9 => ∃ g2 : Nat → Int64, (th = 0 → g2 ((0 : Int32).toNatClampNeg) = b.toInt64) ∧ W9 = (w_H cyI cyZ cyJ h o σ2 g2)) := by
  refine zstartH (lv0 := [(0, .ref (h 0)), (1, .int p0), (2, .int p1), (3, .int p2), (4, .ref o)]) (by decide) (Nat.le_of_ble_eq_true rfl) rfl (fun p e s m args below meth c G hJ hr hlocks ht => ?_)
  refine zq_aload (q := 2) G dL_setCost_0 4 rfl rfl ?_
  refine zq_iconst (q := 3) (v := 0) G dL_setCost_2 rfl rfl ?_
  refine zq_aload_n (q := 4) G dL_setCost_3 0 rfl rfl rfl ?_
  refine zq_iload_n (q := 5) G dL_setCost_4 1 rfl rfl rfl ?_
  refine zq_iload_n (q := 6) G dL_setCost_5 2 rfl rfl rfl ?_
  refine zq_iload_n (q := 7) G dL_setCost_6 3 rfl rfl rfl ?_
  rcases hT with ⟨rfl, rfl⟩ | ⟨k, nm, hk, rfl, rfl⟩
  · refine zq_callVi (q := 10) (ws2 := (w_H cyI cyZ cyJ h o σ2 g)) (isC := [0, 1, 2, 3, 4, 5, 6, 7, 8, 9, 10, 11, 12, 13, 14, 15, 16]) (isR := [17]) (perm := [1, 2, 3, 4, 5, 6, 7, 8, 9, 10, 11, 12, 13, 14, 15, 16, 17, 0]) (rest := [.int 0, .ref o]) (As := [.int p0, .int p1, .int p2]) G zs_L_15 dL_setCost_7 (fun sz9 => zXi_ret (c_X3_setCost l hst D cyI cyZ (h 0) (h 1) (h 2) (h 3) (h 4) (h 5) (h 6) (h 7) (h 8) (h 9) (h 10) (h 11) (h 12) (h 13) (h 14) (h 15) (h 16) σ p0 p1 p2 (.inr b) σ2 ez sz9)) 0 rfl rfl rfl ⟨rfl, rfl, rfl, rfl⟩ rfl (Nat.le_of_ble_eq_true rfl) ⟨Nat.le_of_ble_eq_true rfl, Nat.le_of_ble_eq_true rfl, Nat.zero_le _, Nat.zero_le _⟩ rfl ?_
    refine zq_i2l (q := 11) G dL_setCost_10 rfl ?_
    refine zq_last (q := 12) (ws2 := (w_H cyI cyZ cyJ h o σ2 (vp_updL g ((0 : Int32).toNatClampNeg) b.toInt64))) G hJ dL_setCost_11 17 rfl rfl rfl rfl ?_
    refine zq_goto (q := 23) G dL_setCost_12 (by decide) ?_
    refine zq_iconst (q := 24) (v := 0) G dL_setCost_23 rfl rfl ?_
    exact zq_hret G hlocks hr dL_setCost_24 (Nat.le_of_ble_eq_true rfl) (Nat.le_of_ble_eq_true rfl) rfl ⟨_, fun _ => upd0J g _, rfl⟩
  · match k, hk with
    | 0, hk =>
      cases hk
      refine zq_tryX (q := 15) (pre := []) (x := ⟨0, 12, 15, 19⟩) (suf := [⟨0, 12, 19, 13⟩]) (ws2 := (w_H cyI cyZ cyJ h o σ2 g)) (isC := [0, 1, 2, 3, 4, 5, 6, 7, 8, 9, 10, 11, 12, 13, 14, 15, 16]) (isR := [17]) (perm := [1, 2, 3, 4, 5, 6, 7, 8, 9, 10, 11, 12, 13, 14, 15, 16, 17, 0]) (rest := [.int 0, .ref o]) (As := [.int p0, .int p1, .int p2]) G (ht.trans rfl) zs_L_15 dL_setCost_7 (fun sz9 => c_X3_setCost l hst D cyI cyZ (h 0) (h 1) (h 2) (h 3) (h 4) (h 5) (h 6) (h 7) (h 8) (h 9) (h 10) (h 11) (h 12) (h 13) (h 14) (h 15) (h 16) σ p0 p1 p2 (.inl xO) σ2 ez sz9) 0 rfl rfl rfl ⟨rfl, rfl, rfl, rfl⟩ rfl (Nat.le_of_ble_eq_true rfl) ⟨Nat.le_of_ble_eq_true rfl, Nat.le_of_ble_eq_true rfl, Nat.le_of_ble_eq_true rfl, Nat.le_of_ble_eq_true rfl⟩ zpass0 (by decide) (by decide) zw_L_k19 (zin2 80 rfl rfl) rfl (fun q9 => ?_)
      refine zq_sub [] [] rfl ?_
      refine zq_astore (q := 17) (lv2 := [(5, .ref q9)]) G dL_setCost_15 (by decide) rfl rfl ?_
      refine zq_iconst (q := 18) (v := 1) G dL_setCost_17 rfl rfl ?_
      exact zq_hret G hlocks hr dL_setCost_18 (Nat.le_of_ble_eq_true rfl) (Nat.le_of_ble_eq_true rfl) rfl ⟨g, fun c9 => absurd c9 (by decide), rfl⟩
    | 1, hk =>
      cases hk
      refine zq_tryX (q := 19) (pre := [⟨0, 12, 15, 19⟩]) (x := ⟨0, 12, 19, 13⟩) (suf := []) (ws2 := (w_H cyI cyZ cyJ h o σ2 g)) (isC := [0, 1, 2, 3, 4, 5, 6, 7, 8, 9, 10, 11, 12, 13, 14, 15, 16]) (isR := [17]) (perm := [1, 2, 3, 4, 5, 6, 7, 8, 9, 10, 11, 12, 13, 14, 15, 16, 17, 0]) (rest := [.int 0, .ref o]) (As := [.int p0, .int p1, .int p2]) G (ht.trans rfl) zs_L_15 dL_setCost_7 (fun sz9 => c_X3_setCost l hst D cyI cyZ (h 0) (h 1) (h 2) (h 3) (h 4) (h 5) (h 6) (h 7) (h 8) (h 9) (h 10) (h 11) (h 12) (h 13) (h 14) (h 15) (h 16) σ p0 p1 p2 (.inl xA) σ2 ez sz9) 0 rfl rfl rfl ⟨rfl, rfl, rfl, rfl⟩ rfl (Nat.le_of_ble_eq_true rfl) ⟨Nat.le_of_ble_eq_true rfl, Nat.le_of_ble_eq_true rfl, Nat.le_of_ble_eq_true rfl, Nat.le_of_ble_eq_true rfl⟩ (zpassC (by decide) zw_L_k19 (List.mem_of_getElem? (i := 0) rfl) zpass0) (by decide) (by decide) zw_L_k13 (zin2 185 rfl rfl) rfl (fun q9 => ?_)
      refine zq_sub [] [] rfl ?_
      refine zq_astore (q := 21) (lv2 := [(5, .ref q9)]) G dL_setCost_19 (by decide) rfl rfl ?_
      refine zq_iconst (q := 22) (v := 2) G dL_setCost_21 rfl rfl ?_
      exact zq_hret G hlocks hr dL_setCost_22 (Nat.le_of_ble_eq_true rfl) (Nat.le_of_ble_eq_true rfl) rfl ⟨g, fun c9 => absurd c9 (by decide), rfl⟩
    | k + 2, hk => first | exact nomatch hk | simp at hk
set_option maxHeartbeats 4000000 in
set_option maxRecDepth 100000 in
theorem h_setRow (l : Launch) (hst : l.stackTraces = false) (D : va_G) (cyI cyZ cyJ cyD : ClassId) (h : Nat → Nat) (o : Nat) (σ σ2 : zC) (g : Nat → Int64) (p0 : Int32) (p1 : Int64) (z : Sum String Int32) (b th : Int32) (ez : s_X3_setRow σ p0 p1 = some (z, σ2)) (hT : TH [xO, xA] z b th) (sz : Nat) : zMh l yL_setRow cL_setRow 6 [(0, 11, 14, 19), (0, 11, 18, 13)] D cyI cyZ cyJ cyD sz [.ref (h 0), .int p0, .long p1, .ref o] (w_H cyI cyZ cyJ h o σ g) th (fun W9 => ∃ g2 : Nat → Int64, (th = 0 → g2 ((0 : Int32).toNatClampNeg) = b.toInt64) ∧ W9 = (w_H cyI cyZ cyJ h o σ2 g2)) := by
  refine zstartH (lv0 := [(0, .ref (h 0)), (1, .int p0), (2, .long p1), (4, .ref o)]) (by decide) (Nat.le_of_ble_eq_true rfl) rfl (fun p e s m args below meth c G hJ hr hlocks ht => ?_)
  refine zq_aload (q := 2) G dL_setRow_0 3 rfl rfl ?_
  refine zq_iconst (q := 3) (v := 0) G dL_setRow_2 rfl rfl ?_
  refine zq_aload_n (q := 4) G dL_setRow_3 0 rfl rfl rfl ?_
  refine zq_iload_n (q := 5) G dL_setRow_4 1 rfl rfl rfl ?_
  refine zq_lload_n (q := 6) G dL_setRow_5 2 rfl rfl rfl ?_
  rcases hT with ⟨rfl, rfl⟩ | ⟨k, nm, hk, rfl, rfl⟩
  · refine zq_callVi (q := 9) (ws2 := (w_H cyI cyZ cyJ h o σ2 g)) (isC := [0, 1, 2, 3, 4, 5, 6, 7, 8, 9, 10, 11, 12, 13, 14, 15, 16]) (isR := [17]) (perm := [1, 2, 3, 4, 5, 6, 7, 8, 9, 10, 11, 12, 13, 14, 15, 16, 17, 0]) (rest := [.int 0, .ref o]) (As := [.int p0, .long p1]) G zs_L_21 dL_setRow_6 (fun sz9 => zXi_ret (c_X3_setRow l hst D cyI cyZ (h 0) (h 1) (h 2) (h 3) (h 4) (h 5) (h 6) (h 7) (h 8) (h 9) (h 10) (h 11) (h 12) (h 13) (h 14) (h 15) (h 16) σ p0 p1 (.inr b) σ2 ez sz9)) 0 rfl rfl rfl ⟨rfl, rfl, rfl, rfl⟩ rfl (Nat.le_of_ble_eq_true rfl) ⟨Nat.le_of_ble_eq_true rfl, Nat.le_of_ble_eq_true rfl, Nat.zero_le _, Nat.zero_le _⟩ rfl ?_
    refine zq_i2l (q := 10) G dL_setRow_9 rfl ?_
    refine zq_last (q := 11) (ws2 := (w_H cyI cyZ cyJ h o σ2 (vp_updL g ((0 : Int32).toNatClampNeg) b.toInt64))) G hJ dL_setRow_10 17 rfl rfl rfl rfl ?_
    refine zq_goto (q := 22) G dL_setRow_11 (by decide) ?_
    refine zq_iconst (q := 23) (v := 0) G dL_setRow_22 rfl rfl ?_
    exact zq_hret G hlocks hr dL_setRow_23 (Nat.le_of_ble_eq_true rfl) (Nat.le_of_ble_eq_true rfl) rfl ⟨_, fun _ => upd0J g _, rfl⟩
  · match k, hk with
    | 0, hk =>
      cases hk
      refine zq_tryX (q := 14) (pre := []) (x := ⟨0, 11, 14, 19⟩) (suf := [⟨0, 11, 18, 13⟩]) (ws2 := (w_H cyI cyZ cyJ h o σ2 g)) (isC := [0, 1, 2, 3, 4, 5, 6, 7, 8, 9, 10, 11, 12, 13, 14, 15, 16]) (isR := [17]) (perm := [1, 2, 3, 4, 5, 6, 7, 8, 9, 10, 11, 12, 13, 14, 15, 16, 17, 0]) (rest := [.int 0, .ref o]) (As := [.int p0, .long p1]) G (ht.trans rfl) zs_L_21 dL_setRow_6 (fun sz9 => c_X3_setRow l hst D cyI cyZ (h 0) (h 1) (h 2) (h 3) (h 4) (h 5) (h 6) (h 7) (h 8) (h 9) (h 10) (h 11) (h 12) (h 13) (h 14) (h 15) (h 16) σ p0 p1 (.inl xO) σ2 ez sz9) 0 rfl rfl rfl ⟨rfl, rfl, rfl, rfl⟩ rfl (Nat.le_of_ble_eq_true rfl) ⟨Nat.le_of_ble_eq_true rfl, Nat.le_of_ble_eq_true rfl, Nat.le_of_ble_eq_true rfl, Nat.le_of_ble_eq_true rfl⟩ zpass0 (by decide) (by decide) zw_L_k19 (zin2 80 rfl rfl) rfl (fun q9 => ?_)
      refine zq_sub [] [] rfl ?_
      refine zq_astore (q := 16) (lv2 := [(5, .ref q9)]) G dL_setRow_14 (by decide) rfl rfl ?_
      refine zq_iconst (q := 17) (v := 1) G dL_setRow_16 rfl rfl ?_
      exact zq_hret G hlocks hr dL_setRow_17 (Nat.le_of_ble_eq_true rfl) (Nat.le_of_ble_eq_true rfl) rfl ⟨g, fun c9 => absurd c9 (by decide), rfl⟩
    | 1, hk =>
      cases hk
      refine zq_tryX (q := 18) (pre := [⟨0, 11, 14, 19⟩]) (x := ⟨0, 11, 18, 13⟩) (suf := []) (ws2 := (w_H cyI cyZ cyJ h o σ2 g)) (isC := [0, 1, 2, 3, 4, 5, 6, 7, 8, 9, 10, 11, 12, 13, 14, 15, 16]) (isR := [17]) (perm := [1, 2, 3, 4, 5, 6, 7, 8, 9, 10, 11, 12, 13, 14, 15, 16, 17, 0]) (rest := [.int 0, .ref o]) (As := [.int p0, .long p1]) G (ht.trans rfl) zs_L_21 dL_setRow_6 (fun sz9 => c_X3_setRow l hst D cyI cyZ (h 0) (h 1) (h 2) (h 3) (h 4) (h 5) (h 6) (h 7) (h 8) (h 9) (h 10) (h 11) (h 12) (h 13) (h 14) (h 15) (h 16) σ p0 p1 (.inl xA) σ2 ez sz9) 0 rfl rfl rfl ⟨rfl, rfl, rfl, rfl⟩ rfl (Nat.le_of_ble_eq_true rfl) ⟨Nat.le_of_ble_eq_true rfl, Nat.le_of_ble_eq_true rfl, Nat.le_of_ble_eq_true rfl, Nat.le_of_ble_eq_true rfl⟩ (zpassC (by decide) zw_L_k19 (List.mem_of_getElem? (i := 0) rfl) zpass0) (by decide) (by decide) zw_L_k13 (zin2 185 rfl rfl) rfl (fun q9 => ?_)
      refine zq_sub [] [] rfl ?_
      refine zq_astore (q := 20) (lv2 := [(5, .ref q9)]) G dL_setRow_18 (by decide) rfl rfl ?_
      refine zq_iconst (q := 21) (v := 2) G dL_setRow_20 rfl rfl ?_
      exact zq_hret G hlocks hr dL_setRow_21 (Nat.le_of_ble_eq_true rfl) (Nat.le_of_ble_eq_true rfl) rfl ⟨g, fun c9 => absurd c9 (by decide), rfl⟩
    | k + 2, hk => first | exact nomatch hk | simp at hk
set_option maxHeartbeats 4000000 in
set_option maxRecDepth 100000 in
theorem h_fill (l : Launch) (hst : l.stackTraces = false) (D : va_G) (cyI cyZ cyJ cyD : ClassId) (h : Nat → Nat) (o : Nat) (σ σ2 : zC) (g : Nat → Int64) (p0 : Int32) (p1 : Int32) (z : Sum String Int32) (b th : Int32) (ez : s_X3_fill σ p0 p1 = some (z, σ2)) (hT : TH [xA] z b th) (sz : Nat) : zMh l yL_fill cL_fill 5 [(0, 10, 13, 13)] D cyI cyZ cyJ cyD sz [.ref (h 0), .int p0, .int p1, .ref o] (w_H cyI cyZ cyJ h o σ g) th (fun W9 => ∃ g2 : Nat → Int64, (th = 0 → g2 ((0 : Int32).toNatClampNeg) = b.toInt64) ∧ W9 = (w_H cyI cyZ cyJ h o σ2 g2)) := by
  refine zstartH (lv0 := [(0, .ref (h 0)), (1, .int p0), (2, .int p1), (3, .ref o)]) (by decide) (Nat.le_of_ble_eq_true rfl) rfl (fun p e s m args below meth c G hJ hr hlocks ht => ?_)
  refine zq_aload_n (q := 1) G dL_fill_0 3 rfl rfl rfl ?_
  refine zq_iconst (q := 2) (v := 0) G dL_fill_1 rfl rfl ?_
  refine zq_aload_n (q := 3) G dL_fill_2 0 rfl rfl rfl ?_
  refine zq_iload_n (q := 4) G dL_fill_3 1 rfl rfl rfl ?_
  refine zq_iload_n (q := 5) G dL_fill_4 2 rfl rfl rfl ?_
  rcases hT with ⟨rfl, rfl⟩ | ⟨k, nm, hk, rfl, rfl⟩
  · refine zq_callVi (q := 8) (ws2 := (w_H cyI cyZ cyJ h o σ2 g)) (isC := [0, 1, 2, 3, 4, 5, 6, 7, 8, 9, 10, 11, 12, 13, 14, 15, 16]) (isR := [17]) (perm := [1, 2, 3, 4, 5, 6, 7, 8, 9, 10, 11, 12, 13, 14, 15, 16, 17, 0]) (rest := [.int 0, .ref o]) (As := [.int p0, .int p1]) G zs_L_25 dL_fill_5 (fun sz9 => zXi_ret (c_X3_fill l hst D cyI cyZ (h 0) (h 1) (h 2) (h 3) (h 4) (h 5) (h 6) (h 7) (h 8) (h 9) (h 10) (h 11) (h 12) (h 13) (h 14) (h 15) (h 16) σ p0 p1 (.inr b) σ2 ez sz9)) 0 rfl rfl rfl ⟨rfl, rfl, rfl, rfl⟩ rfl (Nat.le_of_ble_eq_true rfl) ⟨Nat.le_of_ble_eq_true rfl, Nat.le_of_ble_eq_true rfl, Nat.zero_le _, Nat.zero_le _⟩ rfl ?_
    refine zq_i2l (q := 9) G dL_fill_8 rfl ?_
    refine zq_last (q := 10) (ws2 := (w_H cyI cyZ cyJ h o σ2 (vp_updL g ((0 : Int32).toNatClampNeg) b.toInt64))) G hJ dL_fill_9 17 rfl rfl rfl rfl ?_
    refine zq_goto (q := 17) G dL_fill_10 (by decide) ?_
    refine zq_iconst (q := 18) (v := 0) G dL_fill_17 rfl rfl ?_
    exact zq_hret G hlocks hr dL_fill_18 (Nat.le_of_ble_eq_true rfl) (Nat.le_of_ble_eq_true rfl) rfl ⟨_, fun _ => upd0J g _, rfl⟩
  · match k, hk with
    | 0, hk =>
      cases hk
      refine zq_tryX (q := 13) (pre := []) (x := ⟨0, 10, 13, 13⟩) (suf := []) (ws2 := (w_H cyI cyZ cyJ h o σ2 g)) (isC := [0, 1, 2, 3, 4, 5, 6, 7, 8, 9, 10, 11, 12, 13, 14, 15, 16]) (isR := [17]) (perm := [1, 2, 3, 4, 5, 6, 7, 8, 9, 10, 11, 12, 13, 14, 15, 16, 17, 0]) (rest := [.int 0, .ref o]) (As := [.int p0, .int p1]) G (ht.trans rfl) zs_L_25 dL_fill_5 (fun sz9 => c_X3_fill l hst D cyI cyZ (h 0) (h 1) (h 2) (h 3) (h 4) (h 5) (h 6) (h 7) (h 8) (h 9) (h 10) (h 11) (h 12) (h 13) (h 14) (h 15) (h 16) σ p0 p1 (.inl xA) σ2 ez sz9) 0 rfl rfl rfl ⟨rfl, rfl, rfl, rfl⟩ rfl (Nat.le_of_ble_eq_true rfl) ⟨Nat.le_of_ble_eq_true rfl, Nat.le_of_ble_eq_true rfl, Nat.le_of_ble_eq_true rfl, Nat.le_of_ble_eq_true rfl⟩ zpass0 (by decide) (by decide) zw_L_k13 (zin2 185 rfl rfl) rfl (fun q9 => ?_)
      refine zq_sub [] [] rfl ?_
      refine zq_astore (q := 15) (lv2 := [(4, .ref q9)]) G dL_fill_13 (by decide) rfl rfl ?_
      refine zq_iconst (q := 16) (v := 1) G dL_fill_15 rfl rfl ?_
      exact zq_hret G hlocks hr dL_fill_16 (Nat.le_of_ble_eq_true rfl) (Nat.le_of_ble_eq_true rfl) rfl ⟨g, fun c9 => absurd c9 (by decide), rfl⟩
    | k + 1, hk => first | exact nomatch hk | simp at hk
set_option maxHeartbeats 4000000 in
set_option maxRecDepth 100000 in
theorem h_setForbidden (l : Launch) (hst : l.stackTraces = false) (D : va_G) (cyI cyZ cyJ cyD : ClassId) (h : Nat → Nat) (o : Nat) (σ σ2 : zC) (g : Nat → Int64) (p0 : Int32) (p1 : Int32) (p2 : Int32) (z : Sum String Int32) (b th : Int32) (ez : s_X3_setForbidden σ p0 p1 p2 = some (z, σ2)) (hT : TH [xO] z b th) (sz : Nat) : zMh l yL_setForbidden cL_setForbidden 6 [(0, 12, 15, 19)] D cyI cyZ cyJ cyD sz [.ref (h 0), .int p0, .int p1, .int p2, .ref o] (w_H cyI cyZ cyJ h o σ g) th (fun W9 => ∃ g2 : Nat → Int64, (th = 0 → g2 ((0 : Int32).toNatClampNeg) = b.toInt64) ∧ W9 = (w_H cyI cyZ cyJ h o σ2 g2)) := by
  refine zstartH (lv0 := [(0, .ref (h 0)), (1, .int p0), (2, .int p1), (3, .int p2), (4, .ref o)]) (by decide) (Nat.le_of_ble_eq_true rfl) rfl (fun p e s m args below meth c G hJ hr hlocks ht => ?_)
  refine zq_aload (q := 2) G dL_setForbidden_0 4 rfl rfl ?_
  refine zq_iconst (q := 3) (v := 0) G dL_setForbidden_2 rfl rfl ?_
  refine zq_aload_n (q := 4) G dL_setForbidden_3 0 rfl rfl rfl ?_
  refine zq_iload_n (q := 5) G dL_setForbidden_4 1 rfl rfl rfl ?_
  refine zq_iload_n (q := 6) G dL_setForbidden_5 2 rfl rfl rfl ?_
  refine zq_iload_n (q := 7) G dL_setForbidden_6 3 rfl rfl rfl ?_
  rcases hT with ⟨rfl, rfl⟩ | ⟨k, nm, hk, rfl, rfl⟩
  · refine zq_callVi (q := 10) (ws2 := (w_H cyI cyZ cyJ h o σ2 g)) (isC := [0, 1, 2, 3, 4, 5, 6, 7, 8, 9, 10, 11, 12, 13, 14, 15, 16]) (isR := [17]) (perm := [1, 2, 3, 4, 5, 6, 7, 8, 9, 10, 11, 12, 13, 14, 15, 16, 17, 0]) (rest := [.int 0, .ref o]) (As := [.int p0, .int p1, .int p2]) G zs_L_28 dL_setForbidden_7 (fun sz9 => zXi_ret (c_X3_setForbidden l hst D cyI cyZ (h 0) (h 1) (h 2) (h 3) (h 4) (h 5) (h 6) (h 7) (h 8) (h 9) (h 10) (h 11) (h 12) (h 13) (h 14) (h 15) (h 16) σ p0 p1 p2 (.inr b) σ2 ez sz9)) 0 rfl rfl rfl ⟨rfl, rfl, rfl, rfl⟩ rfl (Nat.le_of_ble_eq_true rfl) ⟨Nat.le_of_ble_eq_true rfl, Nat.le_of_ble_eq_true rfl, Nat.zero_le _, Nat.zero_le _⟩ rfl ?_
    refine zq_i2l (q := 11) G dL_setForbidden_10 rfl ?_
    refine zq_last (q := 12) (ws2 := (w_H cyI cyZ cyJ h o σ2 (vp_updL g ((0 : Int32).toNatClampNeg) b.toInt64))) G hJ dL_setForbidden_11 17 rfl rfl rfl rfl ?_
    refine zq_goto (q := 19) G dL_setForbidden_12 (by decide) ?_
    refine zq_iconst (q := 20) (v := 0) G dL_setForbidden_19 rfl rfl ?_
    exact zq_hret G hlocks hr dL_setForbidden_20 (Nat.le_of_ble_eq_true rfl) (Nat.le_of_ble_eq_true rfl) rfl ⟨_, fun _ => upd0J g _, rfl⟩
  · match k, hk with
    | 0, hk =>
      cases hk
      refine zq_tryX (q := 15) (pre := []) (x := ⟨0, 12, 15, 19⟩) (suf := []) (ws2 := (w_H cyI cyZ cyJ h o σ2 g)) (isC := [0, 1, 2, 3, 4, 5, 6, 7, 8, 9, 10, 11, 12, 13, 14, 15, 16]) (isR := [17]) (perm := [1, 2, 3, 4, 5, 6, 7, 8, 9, 10, 11, 12, 13, 14, 15, 16, 17, 0]) (rest := [.int 0, .ref o]) (As := [.int p0, .int p1, .int p2]) G (ht.trans rfl) zs_L_28 dL_setForbidden_7 (fun sz9 => c_X3_setForbidden l hst D cyI cyZ (h 0) (h 1) (h 2) (h 3) (h 4) (h 5) (h 6) (h 7) (h 8) (h 9) (h 10) (h 11) (h 12) (h 13) (h 14) (h 15) (h 16) σ p0 p1 p2 (.inl xO) σ2 ez sz9) 0 rfl rfl rfl ⟨rfl, rfl, rfl, rfl⟩ rfl (Nat.le_of_ble_eq_true rfl) ⟨Nat.le_of_ble_eq_true rfl, Nat.le_of_ble_eq_true rfl, Nat.le_of_ble_eq_true rfl, Nat.le_of_ble_eq_true rfl⟩ zpass0 (by decide) (by decide) zw_L_k19 (zin2 80 rfl rfl) rfl (fun q9 => ?_)
      refine zq_sub [] [] rfl ?_
      refine zq_astore (q := 17) (lv2 := [(5, .ref q9)]) G dL_setForbidden_15 (by decide) rfl rfl ?_
      refine zq_iconst (q := 18) (v := 1) G dL_setForbidden_17 rfl rfl ?_
      exact zq_hret G hlocks hr dL_setForbidden_18 (Nat.le_of_ble_eq_true rfl) (Nat.le_of_ble_eq_true rfl) rfl ⟨g, fun c9 => absurd c9 (by decide), rfl⟩
    | k + 1, hk => first | exact nomatch hk | simp at hk
set_option maxHeartbeats 4000000 in
set_option maxRecDepth 100000 in
theorem h_costAt (l : Launch) (hst : l.stackTraces = false) (D : va_G) (cyI cyZ cyJ cyD : ClassId) (h : Nat → Nat) (o : Nat) (σ : zC) (g : Nat → Int64) (p0 : Int32) (p1 : Int32) (z : Sum String Int32) (b th : Int32) (ez : s_X3_costAt σ p0 p1 = some z) (hT : TH [xO] z b th) (sz : Nat) : zMh l yL_costAt cL_costAt 5 [(0, 10, 13, 19)] D cyI cyZ cyJ cyD sz [.ref (h 0), .int p0, .int p1, .ref o] (w_H cyI cyZ cyJ h o σ g) th (fun W9 => ∃ g2 : Nat → Int64, (th = 0 → g2 ((0 : Int32).toNatClampNeg) = b.toInt64) ∧ W9 = (w_H cyI cyZ cyJ h o σ g2)) := by
  refine zstartH (lv0 := [(0, .ref (h 0)), (1, .int p0), (2, .int p1), (3, .ref o)]) (by decide) (Nat.le_of_ble_eq_true rfl) rfl (fun p e s m args below meth c G hJ hr hlocks ht => ?_)
  refine zq_aload_n (q := 1) G dL_costAt_0 3 rfl rfl rfl ?_
  refine zq_iconst (q := 2) (v := 0) G dL_costAt_1 rfl rfl ?_
  refine zq_aload_n (q := 3) G dL_costAt_2 0 rfl rfl rfl ?_
  refine zq_iload_n (q := 4) G dL_costAt_3 1 rfl rfl rfl ?_
  refine zq_iload_n (q := 5) G dL_costAt_4 2 rfl rfl rfl ?_
  rcases hT with ⟨rfl, rfl⟩ | ⟨k, nm, hk, rfl, rfl⟩
  · refine zq_callVi (q := 8) (ws2 := (w_H cyI cyZ cyJ h o σ g)) (isC := [0, 1, 2, 3, 4, 5, 6, 7, 8, 9, 10, 11, 12, 13, 14, 15, 16]) (isR := [17]) (perm := [1, 2, 3, 4, 5, 6, 7, 8, 9, 10, 11, 12, 13, 14, 15, 16, 17, 0]) (rest := [.int 0, .ref o]) (As := [.int p0, .int p1]) G zs_L_32 dL_costAt_5 (fun sz9 => zXi_ret (c_X3_costAt l hst D cyI cyZ (h 0) (h 1) (h 2) (h 3) (h 4) (h 5) (h 6) (h 7) (h 8) (h 9) (h 10) (h 11) (h 12) (h 13) (h 14) (h 15) (h 16) σ p0 p1 (.inr b) ez sz9)) 0 rfl rfl rfl ⟨rfl, rfl, rfl, rfl⟩ rfl (Nat.le_of_ble_eq_true rfl) ⟨Nat.le_of_ble_eq_true rfl, Nat.le_of_ble_eq_true rfl, Nat.zero_le _, Nat.zero_le _⟩ rfl ?_
    refine zq_i2l (q := 9) G dL_costAt_8 rfl ?_
    refine zq_last (q := 10) (ws2 := (w_H cyI cyZ cyJ h o σ (vp_updL g ((0 : Int32).toNatClampNeg) b.toInt64))) G hJ dL_costAt_9 17 rfl rfl rfl rfl ?_
    refine zq_goto (q := 17) G dL_costAt_10 (by decide) ?_
    refine zq_iconst (q := 18) (v := 0) G dL_costAt_17 rfl rfl ?_
    exact zq_hret G hlocks hr dL_costAt_18 (Nat.le_of_ble_eq_true rfl) (Nat.le_of_ble_eq_true rfl) rfl ⟨_, fun _ => upd0J g _, rfl⟩
  · match k, hk with
    | 0, hk =>
      cases hk
      refine zq_tryX (q := 13) (pre := []) (x := ⟨0, 10, 13, 19⟩) (suf := []) (ws2 := (w_H cyI cyZ cyJ h o σ g)) (isC := [0, 1, 2, 3, 4, 5, 6, 7, 8, 9, 10, 11, 12, 13, 14, 15, 16]) (isR := [17]) (perm := [1, 2, 3, 4, 5, 6, 7, 8, 9, 10, 11, 12, 13, 14, 15, 16, 17, 0]) (rest := [.int 0, .ref o]) (As := [.int p0, .int p1]) G (ht.trans rfl) zs_L_32 dL_costAt_5 (fun sz9 => c_X3_costAt l hst D cyI cyZ (h 0) (h 1) (h 2) (h 3) (h 4) (h 5) (h 6) (h 7) (h 8) (h 9) (h 10) (h 11) (h 12) (h 13) (h 14) (h 15) (h 16) σ p0 p1 (.inl xO) ez sz9) 0 rfl rfl rfl ⟨rfl, rfl, rfl, rfl⟩ rfl (Nat.le_of_ble_eq_true rfl) ⟨Nat.le_of_ble_eq_true rfl, Nat.le_of_ble_eq_true rfl, Nat.le_of_ble_eq_true rfl, Nat.le_of_ble_eq_true rfl⟩ zpass0 (by decide) (by decide) zw_L_k19 (zin2 80 rfl rfl) rfl (fun q9 => ?_)
      refine zq_sub [] [] rfl ?_
      refine zq_astore (q := 15) (lv2 := [(4, .ref q9)]) G dL_costAt_13 (by decide) rfl rfl ?_
      refine zq_iconst (q := 16) (v := 1) G dL_costAt_15 rfl rfl ?_
      exact zq_hret G hlocks hr dL_costAt_16 (Nat.le_of_ble_eq_true rfl) (Nat.le_of_ble_eq_true rfl) rfl ⟨g, fun c9 => absurd c9 (by decide), rfl⟩
    | k + 1, hk => first | exact nomatch hk | simp at hk
set_option maxHeartbeats 4000000 in
set_option maxRecDepth 100000 in
theorem h_addToRow (l : Launch) (hst : l.stackTraces = false) (D : va_G) (cyI cyZ cyJ cyD : ClassId) (h : Nat → Nat) (o : Nat) (σ σ2 : zC) (g : Nat → Int64) (p0 : Int32) (p1 : Int32) (z : Sum String Int32) (b th : Int32) (ez : s_X3_addToRow σ p0 p1 = some (z, σ2)) (hT : TH [xO, xA, xS] z b th) (sz : Nat) : zMh l yL_addToRow cL_addToRow 5 [(0, 10, 13, 19), (0, 10, 17, 13), (0, 10, 21, 38)] D cyI cyZ cyJ cyD sz [.ref (h 0), .int p0, .int p1, .ref o] (w_H cyI cyZ cyJ h o σ g) th (fun W9 => ∃ g2 : Nat → Int64, (th = 0 → g2 ((0 : Int32).toNatClampNeg) = b.toInt64) ∧ W9 = (w_H cyI cyZ cyJ h o σ2 g2)) := by
  refine zstartH (lv0 := [(0, .ref (h 0)), (1, .int p0), (2, .int p1), (3, .ref o)]) (by decide) (Nat.le_of_ble_eq_true rfl) rfl (fun p e s m args below meth c G hJ hr hlocks ht => ?_)
  refine zq_aload_n (q := 1) G dL_addToRow_0 3 rfl rfl rfl ?_
  refine zq_iconst (q := 2) (v := 0) G dL_addToRow_1 rfl rfl ?_
  refine zq_aload_n (q := 3) G dL_addToRow_2 0 rfl rfl rfl ?_
  refine zq_iload_n (q := 4) G dL_addToRow_3 1 rfl rfl rfl ?_
  refine zq_iload_n (q := 5) G dL_addToRow_4 2 rfl rfl rfl ?_
  rcases hT with ⟨rfl, rfl⟩ | ⟨k, nm, hk, rfl, rfl⟩
  · refine zq_callVi (q := 8) (ws2 := (w_H cyI cyZ cyJ h o σ2 g)) (isC := [0, 1, 2, 3, 4, 5, 6, 7, 8, 9, 10, 11, 12, 13, 14, 15, 16]) (isR := [17]) (perm := [1, 2, 3, 4, 5, 6, 7, 8, 9, 10, 11, 12, 13, 14, 15, 16, 17, 0]) (rest := [.int 0, .ref o]) (As := [.int p0, .int p1]) G zs_L_35 dL_addToRow_5 (fun sz9 => zXi_ret (c_X3_addToRow l hst D cyI cyZ (h 0) (h 1) (h 2) (h 3) (h 4) (h 5) (h 6) (h 7) (h 8) (h 9) (h 10) (h 11) (h 12) (h 13) (h 14) (h 15) (h 16) σ p0 p1 (.inr b) σ2 ez sz9)) 0 rfl rfl rfl ⟨rfl, rfl, rfl, rfl⟩ rfl (Nat.le_of_ble_eq_true rfl) ⟨Nat.le_of_ble_eq_true rfl, Nat.le_of_ble_eq_true rfl, Nat.zero_le _, Nat.zero_le _⟩ rfl ?_
    refine zq_i2l (q := 9) G dL_addToRow_8 rfl ?_
    refine zq_last (q := 10) (ws2 := (w_H cyI cyZ cyJ h o σ2 (vp_updL g ((0 : Int32).toNatClampNeg) b.toInt64))) G hJ dL_addToRow_9 17 rfl rfl rfl rfl ?_
    refine zq_goto (q := 25) G dL_addToRow_10 (by decide) ?_
    refine zq_iconst (q := 26) (v := 0) G dL_addToRow_25 rfl rfl ?_
    exact zq_hret G hlocks hr dL_addToRow_26 (Nat.le_of_ble_eq_true rfl) (Nat.le_of_ble_eq_true rfl) rfl ⟨_, fun _ => upd0J g _, rfl⟩
  · match k, hk with
    | 0, hk =>
      cases hk
      refine zq_tryX (q := 13) (pre := []) (x := ⟨0, 10, 13, 19⟩) (suf := [⟨0, 10, 17, 13⟩, ⟨0, 10, 21, 38⟩]) (ws2 := (w_H cyI cyZ cyJ h o σ2 g)) (isC := [0, 1, 2, 3, 4, 5, 6, 7, 8, 9, 10, 11, 12, 13, 14, 15, 16]) (isR := [17]) (perm := [1, 2, 3, 4, 5, 6, 7, 8, 9, 10, 11, 12, 13, 14, 15, 16, 17, 0]) (rest := [.int 0, .ref o]) (As := [.int p0, .int p1]) G (ht.trans rfl) zs_L_35 dL_addToRow_5 (fun sz9 => c_X3_addToRow l hst D cyI cyZ (h 0) (h 1) (h 2) (h 3) (h 4) (h 5) (h 6) (h 7) (h 8) (h 9) (h 10) (h 11) (h 12) (h 13) (h 14) (h 15) (h 16) σ p0 p1 (.inl xO) σ2 ez sz9) 0 rfl rfl rfl ⟨rfl, rfl, rfl, rfl⟩ rfl (Nat.le_of_ble_eq_true rfl) ⟨Nat.le_of_ble_eq_true rfl, Nat.le_of_ble_eq_true rfl, Nat.le_of_ble_eq_true rfl, Nat.le_of_ble_eq_true rfl⟩ zpass0 (by decide) (by decide) zw_L_k19 (zin2 80 rfl rfl) rfl (fun q9 => ?_)
      refine zq_sub [] [] rfl ?_
      refine zq_astore (q := 15) (lv2 := [(4, .ref q9)]) G dL_addToRow_13 (by decide) rfl rfl ?_
      refine zq_iconst (q := 16) (v := 1) G dL_addToRow_15 rfl rfl ?_
      exact zq_hret G hlocks hr dL_addToRow_16 (Nat.le_of_ble_eq_true rfl) (Nat.le_of_ble_eq_true rfl) rfl ⟨g, fun c9 => absurd c9 (by decide), rfl⟩
    | 1, hk =>
      cases hk
      refine zq_tryX (q := 17) (pre := [⟨0, 10, 13, 19⟩]) (x := ⟨0, 10, 17, 13⟩) (suf := [⟨0, 10, 21, 38⟩]) (ws2 := (w_H cyI cyZ cyJ h o σ2 g)) (isC := [0, 1, 2, 3, 4, 5, 6, 7, 8, 9, 10, 11, 12, 13, 14, 15, 16]) (isR := [17]) (perm := [1, 2, 3, 4, 5, 6, 7, 8, 9, 10, 11, 12, 13, 14, 15, 16, 17, 0]) (rest := [.int 0, .ref o]) (As := [.int p0, .int p1]) G (ht.trans rfl) zs_L_35 dL_addToRow_5 (fun sz9 => c_X3_addToRow l hst D cyI cyZ (h 0) (h 1) (h 2) (h 3) (h 4) (h 5) (h 6) (h 7) (h 8) (h 9) (h 10) (h 11) (h 12) (h 13) (h 14) (h 15) (h 16) σ p0 p1 (.inl xA) σ2 ez sz9) 0 rfl rfl rfl ⟨rfl, rfl, rfl, rfl⟩ rfl (Nat.le_of_ble_eq_true rfl) ⟨Nat.le_of_ble_eq_true rfl, Nat.le_of_ble_eq_true rfl, Nat.le_of_ble_eq_true rfl, Nat.le_of_ble_eq_true rfl⟩ (zpassC (by decide) zw_L_k19 (List.mem_of_getElem? (i := 0) rfl) zpass0) (by decide) (by decide) zw_L_k13 (zin2 185 rfl rfl) rfl (fun q9 => ?_)
      refine zq_sub [] [] rfl ?_
      refine zq_astore (q := 19) (lv2 := [(4, .ref q9)]) G dL_addToRow_17 (by decide) rfl rfl ?_
      refine zq_iconst (q := 20) (v := 2) G dL_addToRow_19 rfl rfl ?_
      exact zq_hret G hlocks hr dL_addToRow_20 (Nat.le_of_ble_eq_true rfl) (Nat.le_of_ble_eq_true rfl) rfl ⟨g, fun c9 => absurd c9 (by decide), rfl⟩
    | 2, hk =>
      cases hk
      refine zq_tryX (q := 21) (pre := [⟨0, 10, 13, 19⟩, ⟨0, 10, 17, 13⟩]) (x := ⟨0, 10, 21, 38⟩) (suf := []) (ws2 := (w_H cyI cyZ cyJ h o σ2 g)) (isC := [0, 1, 2, 3, 4, 5, 6, 7, 8, 9, 10, 11, 12, 13, 14, 15, 16]) (isR := [17]) (perm := [1, 2, 3, 4, 5, 6, 7, 8, 9, 10, 11, 12, 13, 14, 15, 16, 17, 0]) (rest := [.int 0, .ref o]) (As := [.int p0, .int p1]) G (ht.trans rfl) zs_L_35 dL_addToRow_5 (fun sz9 => c_X3_addToRow l hst D cyI cyZ (h 0) (h 1) (h 2) (h 3) (h 4) (h 5) (h 6) (h 7) (h 8) (h 9) (h 10) (h 11) (h 12) (h 13) (h 14) (h 15) (h 16) σ p0 p1 (.inl xS) σ2 ez sz9) 0 rfl rfl rfl ⟨rfl, rfl, rfl, rfl⟩ rfl (Nat.le_of_ble_eq_true rfl) ⟨Nat.le_of_ble_eq_true rfl, Nat.le_of_ble_eq_true rfl, Nat.le_of_ble_eq_true rfl, Nat.le_of_ble_eq_true rfl⟩ (zpassC (by decide) zw_L_k19 (List.mem_of_getElem? (i := 1) rfl) (zpassC (by decide) zw_L_k13 (List.mem_of_getElem? (i := 2) rfl) zpass0)) (by decide) (by decide) zw_L_k38 (zin3 46 rfl rfl) rfl (fun q9 => ?_)
      refine zq_sub [] [] rfl ?_
      refine zq_astore (q := 23) (lv2 := [(4, .ref q9)]) G dL_addToRow_21 (by decide) rfl rfl ?_
      refine zq_iconst (q := 24) (v := 3) G dL_addToRow_23 rfl rfl ?_
      exact zq_hret G hlocks hr dL_addToRow_24 (Nat.le_of_ble_eq_true rfl) (Nat.le_of_ble_eq_true rfl) rfl ⟨g, fun c9 => absurd c9 (by decide), rfl⟩
    | k + 3, hk => first | exact nomatch hk | simp at hk
set_option maxHeartbeats 4000000 in
set_option maxRecDepth 100000 in
theorem h_addToColumn (l : Launch) (hst : l.stackTraces = false) (D : va_G) (cyI cyZ cyJ cyD : ClassId) (h : Nat → Nat) (o : Nat) (σ σ2 : zC) (g : Nat → Int64) (p0 : Int32) (p1 : Int32) (z : Sum String Int32) (b th : Int32) (ez : s_X3_addToColumn σ p0 p1 = some (z, σ2)) (hT : TH [xO, xA, xS] z b th) (sz : Nat) : zMh l yL_addToColumn cL_addToColumn 5 [(0, 10, 13, 19), (0, 10, 17, 13), (0, 10, 21, 38)] D cyI cyZ cyJ cyD sz [.ref (h 0), .int p0, .int p1, .ref o] (w_H cyI cyZ cyJ h o σ g) th (fun W9 => ∃ g2 : Nat → Int64, (th = 0 → g2 ((0 : Int32).toNatClampNeg) = b.toInt64) ∧ W9 = (w_H cyI cyZ cyJ h o σ2 g2)) := by
  refine zstartH (lv0 := [(0, .ref (h 0)), (1, .int p0), (2, .int p1), (3, .ref o)]) (by decide) (Nat.le_of_ble_eq_true rfl) rfl (fun p e s m args below meth c G hJ hr hlocks ht => ?_)
  refine zq_aload_n (q := 1) G dL_addToColumn_0 3 rfl rfl rfl ?_
  refine zq_iconst (q := 2) (v := 0) G dL_addToColumn_1 rfl rfl ?_
  refine zq_aload_n (q := 3) G dL_addToColumn_2 0 rfl rfl rfl ?_
  refine zq_iload_n (q := 4) G dL_addToColumn_3 1 rfl rfl rfl ?_
  refine zq_iload_n (q := 5) G dL_addToColumn_4 2 rfl rfl rfl ?_
  rcases hT with ⟨rfl, rfl⟩ | ⟨k, nm, hk, rfl, rfl⟩
  · refine zq_callVi (q := 8) (ws2 := (w_H cyI cyZ cyJ h o σ2 g)) (isC := [0, 1, 2, 3, 4, 5, 6, 7, 8, 9, 10, 11, 12, 13, 14, 15, 16]) (isR := [17]) (perm := [1, 2, 3, 4, 5, 6, 7, 8, 9, 10, 11, 12, 13, 14, 15, 16, 17, 0]) (rest := [.int 0, .ref o]) (As := [.int p0, .int p1]) G zs_L_40 dL_addToColumn_5 (fun sz9 => zXi_ret (c_X3_addToColumn l hst D cyI cyZ (h 0) (h 1) (h 2) (h 3) (h 4) (h 5) (h 6) (h 7) (h 8) (h 9) (h 10) (h 11) (h 12) (h 13) (h 14) (h 15) (h 16) σ p0 p1 (.inr b) σ2 ez sz9)) 0 rfl rfl rfl ⟨rfl, rfl, rfl, rfl⟩ rfl (Nat.le_of_ble_eq_true rfl) ⟨Nat.le_of_ble_eq_true rfl, Nat.le_of_ble_eq_true rfl, Nat.zero_le _, Nat.zero_le _⟩ rfl ?_
    refine zq_i2l (q := 9) G dL_addToColumn_8 rfl ?_
    refine zq_last (q := 10) (ws2 := (w_H cyI cyZ cyJ h o σ2 (vp_updL g ((0 : Int32).toNatClampNeg) b.toInt64))) G hJ dL_addToColumn_9 17 rfl rfl rfl rfl ?_
    refine zq_goto (q := 25) G dL_addToColumn_10 (by decide) ?_
    refine zq_iconst (q := 26) (v := 0) G dL_addToColumn_25 rfl rfl ?_
    exact zq_hret G hlocks hr dL_addToColumn_26 (Nat.le_of_ble_eq_true rfl) (Nat.le_of_ble_eq_true rfl) rfl ⟨_, fun _ => upd0J g _, rfl⟩
  · match k, hk with
    | 0, hk =>
      cases hk
      refine zq_tryX (q := 13) (pre := []) (x := ⟨0, 10, 13, 19⟩) (suf := [⟨0, 10, 17, 13⟩, ⟨0, 10, 21, 38⟩]) (ws2 := (w_H cyI cyZ cyJ h o σ2 g)) (isC := [0, 1, 2, 3, 4, 5, 6, 7, 8, 9, 10, 11, 12, 13, 14, 15, 16]) (isR := [17]) (perm := [1, 2, 3, 4, 5, 6, 7, 8, 9, 10, 11, 12, 13, 14, 15, 16, 17, 0]) (rest := [.int 0, .ref o]) (As := [.int p0, .int p1]) G (ht.trans rfl) zs_L_40 dL_addToColumn_5 (fun sz9 => c_X3_addToColumn l hst D cyI cyZ (h 0) (h 1) (h 2) (h 3) (h 4) (h 5) (h 6) (h 7) (h 8) (h 9) (h 10) (h 11) (h 12) (h 13) (h 14) (h 15) (h 16) σ p0 p1 (.inl xO) σ2 ez sz9) 0 rfl rfl rfl ⟨rfl, rfl, rfl, rfl⟩ rfl (Nat.le_of_ble_eq_true rfl) ⟨Nat.le_of_ble_eq_true rfl, Nat.le_of_ble_eq_true rfl, Nat.le_of_ble_eq_true rfl, Nat.le_of_ble_eq_true rfl⟩ zpass0 (by decide) (by decide) zw_L_k19 (zin2 80 rfl rfl) rfl (fun q9 => ?_)
      refine zq_sub [] [] rfl ?_
      refine zq_astore (q := 15) (lv2 := [(4, .ref q9)]) G dL_addToColumn_13 (by decide) rfl rfl ?_
      refine zq_iconst (q := 16) (v := 1) G dL_addToColumn_15 rfl rfl ?_
      exact zq_hret G hlocks hr dL_addToColumn_16 (Nat.le_of_ble_eq_true rfl) (Nat.le_of_ble_eq_true rfl) rfl ⟨g, fun c9 => absurd c9 (by decide), rfl⟩
    | 1, hk =>
      cases hk
      refine zq_tryX (q := 17) (pre := [⟨0, 10, 13, 19⟩]) (x := ⟨0, 10, 17, 13⟩) (suf := [⟨0, 10, 21, 38⟩]) (ws2 := (w_H cyI cyZ cyJ h o σ2 g)) (isC := [0, 1, 2, 3, 4, 5, 6, 7, 8, 9, 10, 11, 12, 13, 14, 15, 16]) (isR := [17]) (perm := [1, 2, 3, 4, 5, 6, 7, 8, 9, 10, 11, 12, 13, 14, 15, 16, 17, 0]) (rest := [.int 0, .ref o]) (As := [.int p0, .int p1]) G (ht.trans rfl) zs_L_40 dL_addToColumn_5 (fun sz9 => c_X3_addToColumn l hst D cyI cyZ (h 0) (h 1) (h 2) (h 3) (h 4) (h 5) (h 6) (h 7) (h 8) (h 9) (h 10) (h 11) (h 12) (h 13) (h 14) (h 15) (h 16) σ p0 p1 (.inl xA) σ2 ez sz9) 0 rfl rfl rfl ⟨rfl, rfl, rfl, rfl⟩ rfl (Nat.le_of_ble_eq_true rfl) ⟨Nat.le_of_ble_eq_true rfl, Nat.le_of_ble_eq_true rfl, Nat.le_of_ble_eq_true rfl, Nat.le_of_ble_eq_true rfl⟩ (zpassC (by decide) zw_L_k19 (List.mem_of_getElem? (i := 0) rfl) zpass0) (by decide) (by decide) zw_L_k13 (zin2 185 rfl rfl) rfl (fun q9 => ?_)
      refine zq_sub [] [] rfl ?_
      refine zq_astore (q := 19) (lv2 := [(4, .ref q9)]) G dL_addToColumn_17 (by decide) rfl rfl ?_
      refine zq_iconst (q := 20) (v := 2) G dL_addToColumn_19 rfl rfl ?_
      exact zq_hret G hlocks hr dL_addToColumn_20 (Nat.le_of_ble_eq_true rfl) (Nat.le_of_ble_eq_true rfl) rfl ⟨g, fun c9 => absurd c9 (by decide), rfl⟩
    | 2, hk =>
      cases hk
      refine zq_tryX (q := 21) (pre := [⟨0, 10, 13, 19⟩, ⟨0, 10, 17, 13⟩]) (x := ⟨0, 10, 21, 38⟩) (suf := []) (ws2 := (w_H cyI cyZ cyJ h o σ2 g)) (isC := [0, 1, 2, 3, 4, 5, 6, 7, 8, 9, 10, 11, 12, 13, 14, 15, 16]) (isR := [17]) (perm := [1, 2, 3, 4, 5, 6, 7, 8, 9, 10, 11, 12, 13, 14, 15, 16, 17, 0]) (rest := [.int 0, .ref o]) (As := [.int p0, .int p1]) G (ht.trans rfl) zs_L_40 dL_addToColumn_5 (fun sz9 => c_X3_addToColumn l hst D cyI cyZ (h 0) (h 1) (h 2) (h 3) (h 4) (h 5) (h 6) (h 7) (h 8) (h 9) (h 10) (h 11) (h 12) (h 13) (h 14) (h 15) (h 16) σ p0 p1 (.inl xS) σ2 ez sz9) 0 rfl rfl rfl ⟨rfl, rfl, rfl, rfl⟩ rfl (Nat.le_of_ble_eq_true rfl) ⟨Nat.le_of_ble_eq_true rfl, Nat.le_of_ble_eq_true rfl, Nat.le_of_ble_eq_true rfl, Nat.le_of_ble_eq_true rfl⟩ (zpassC (by decide) zw_L_k19 (List.mem_of_getElem? (i := 1) rfl) (zpassC (by decide) zw_L_k13 (List.mem_of_getElem? (i := 2) rfl) zpass0)) (by decide) (by decide) zw_L_k38 (zin3 46 rfl rfl) rfl (fun q9 => ?_)
      refine zq_sub [] [] rfl ?_
      refine zq_astore (q := 23) (lv2 := [(4, .ref q9)]) G dL_addToColumn_21 (by decide) rfl rfl ?_
      refine zq_iconst (q := 24) (v := 3) G dL_addToColumn_23 rfl rfl ?_
      exact zq_hret G hlocks hr dL_addToColumn_24 (Nat.le_of_ble_eq_true rfl) (Nat.le_of_ble_eq_true rfl) rfl ⟨g, fun c9 => absurd c9 (by decide), rfl⟩
    | k + 3, hk => first | exact nomatch hk | simp at hk
set_option maxHeartbeats 4000000 in
set_option maxRecDepth 100000 in
theorem h_swapRows (l : Launch) (hst : l.stackTraces = false) (D : va_G) (cyI cyZ cyJ cyD : ClassId) (h : Nat → Nat) (o : Nat) (σ σ2 : zC) (g : Nat → Int64) (p0 : Int32) (p1 : Int32) (z : Sum String Int32) (b th : Int32) (ez : s_X3_swapRows σ p0 p1 = some (z, σ2)) (hT : TH [xO] z b th) (sz : Nat) : zMh l yL_swapRows cL_swapRows 5 [(0, 10, 13, 19)] D cyI cyZ cyJ cyD sz [.ref (h 0), .int p0, .int p1, .ref o] (w_H cyI cyZ cyJ h o σ g) th (fun W9 => ∃ g2 : Nat → Int64, (th = 0 → g2 ((0 : Int32).toNatClampNeg) = b.toInt64) ∧ W9 = (w_H cyI cyZ cyJ h o σ2 g2)) := by
  refine zstartH (lv0 := [(0, .ref (h 0)), (1, .int p0), (2, .int p1), (3, .ref o)]) (by decide) (Nat.le_of_ble_eq_true rfl) rfl (fun p e s m args below meth c G hJ hr hlocks ht => ?_)
  refine zq_aload_n (q := 1) G dL_swapRows_0 3 rfl rfl rfl ?_
  refine zq_iconst (q := 2) (v := 0) G dL_swapRows_1 rfl rfl ?_
  refine zq_aload_n (q := 3) G dL_swapRows_2 0 rfl rfl rfl ?_
  refine zq_iload_n (q := 4) G dL_swapRows_3 1 rfl rfl rfl ?_
  refine zq_iload_n (q := 5) G dL_swapRows_4 2 rfl rfl rfl ?_
  rcases hT with ⟨rfl, rfl⟩ | ⟨k, nm, hk, rfl, rfl⟩
  · refine zq_callVi (q := 8) (ws2 := (w_H cyI cyZ cyJ h o σ2 g)) (isC := [0, 1, 2, 3, 4, 5, 6, 7, 8, 9, 10, 11, 12, 13, 14, 15, 16]) (isR := [17]) (perm := [1, 2, 3, 4, 5, 6, 7, 8, 9, 10, 11, 12, 13, 14, 15, 16, 17, 0]) (rest := [.int 0, .ref o]) (As := [.int p0, .int p1]) G zs_L_43 dL_swapRows_5 (fun sz9 => zXi_ret (c_X3_swapRows l hst D cyI cyZ (h 0) (h 1) (h 2) (h 3) (h 4) (h 5) (h 6) (h 7) (h 8) (h 9) (h 10) (h 11) (h 12) (h 13) (h 14) (h 15) (h 16) σ p0 p1 (.inr b) σ2 ez sz9)) 0 rfl rfl rfl ⟨rfl, rfl, rfl, rfl⟩ rfl (Nat.le_of_ble_eq_true rfl) ⟨Nat.le_of_ble_eq_true rfl, Nat.le_of_ble_eq_true rfl, Nat.zero_le _, Nat.zero_le _⟩ rfl ?_
    refine zq_i2l (q := 9) G dL_swapRows_8 rfl ?_
    refine zq_last (q := 10) (ws2 := (w_H cyI cyZ cyJ h o σ2 (vp_updL g ((0 : Int32).toNatClampNeg) b.toInt64))) G hJ dL_swapRows_9 17 rfl rfl rfl rfl ?_
    refine zq_goto (q := 17) G dL_swapRows_10 (by decide) ?_
    refine zq_iconst (q := 18) (v := 0) G dL_swapRows_17 rfl rfl ?_
    exact zq_hret G hlocks hr dL_swapRows_18 (Nat.le_of_ble_eq_true rfl) (Nat.le_of_ble_eq_true rfl) rfl ⟨_, fun _ => upd0J g _, rfl⟩
  · match k, hk with
    | 0, hk =>
      cases hk
      refine zq_tryX (q := 13) (pre := []) (x := ⟨0, 10, 13, 19⟩) (suf := []) (ws2 := (w_H cyI cyZ cyJ h o σ2 g)) (isC := [0, 1, 2, 3, 4, 5, 6, 7, 8, 9, 10, 11, 12, 13, 14, 15, 16]) (isR := [17]) (perm := [1, 2, 3, 4, 5, 6, 7, 8, 9, 10, 11, 12, 13, 14, 15, 16, 17, 0]) (rest := [.int 0, .ref o]) (As := [.int p0, .int p1]) G (ht.trans rfl) zs_L_43 dL_swapRows_5 (fun sz9 => c_X3_swapRows l hst D cyI cyZ (h 0) (h 1) (h 2) (h 3) (h 4) (h 5) (h 6) (h 7) (h 8) (h 9) (h 10) (h 11) (h 12) (h 13) (h 14) (h 15) (h 16) σ p0 p1 (.inl xO) σ2 ez sz9) 0 rfl rfl rfl ⟨rfl, rfl, rfl, rfl⟩ rfl (Nat.le_of_ble_eq_true rfl) ⟨Nat.le_of_ble_eq_true rfl, Nat.le_of_ble_eq_true rfl, Nat.le_of_ble_eq_true rfl, Nat.le_of_ble_eq_true rfl⟩ zpass0 (by decide) (by decide) zw_L_k19 (zin2 80 rfl rfl) rfl (fun q9 => ?_)
      refine zq_sub [] [] rfl ?_
      refine zq_astore (q := 15) (lv2 := [(4, .ref q9)]) G dL_swapRows_13 (by decide) rfl rfl ?_
      refine zq_iconst (q := 16) (v := 1) G dL_swapRows_15 rfl rfl ?_
      exact zq_hret G hlocks hr dL_swapRows_16 (Nat.le_of_ble_eq_true rfl) (Nat.le_of_ble_eq_true rfl) rfl ⟨g, fun c9 => absurd c9 (by decide), rfl⟩
    | k + 1, hk => first | exact nomatch hk | simp at hk
set_option maxHeartbeats 4000000 in
set_option maxRecDepth 100000 in
theorem h_swapColumns (l : Launch) (hst : l.stackTraces = false) (D : va_G) (cyI cyZ cyJ cyD : ClassId) (h : Nat → Nat) (o : Nat) (σ σ2 : zC) (g : Nat → Int64) (p0 : Int32) (p1 : Int32) (z : Sum String Int32) (b th : Int32) (ez : s_X3_swapColumns σ p0 p1 = some (z, σ2)) (hT : TH [xO] z b th) (sz : Nat) : zMh l yL_swapColumns cL_swapColumns 5 [(0, 10, 13, 19)] D cyI cyZ cyJ cyD sz [.ref (h 0), .int p0, .int p1, .ref o] (w_H cyI cyZ cyJ h o σ g) th (fun W9 => ∃ g2 : Nat → Int64, (th = 0 → g2 ((0 : Int32).toNatClampNeg) = b.toInt64) ∧ W9 = (w_H cyI cyZ cyJ h o σ2 g2)) := by
  refine zstartH (lv0 := [(0, .ref (h 0)), (1, .int p0), (2, .int p1), (3, .ref o)]) (by decide) (Nat.le_of_ble_eq_true rfl) rfl (fun p e s m args below meth c G hJ hr hlocks ht => ?_)
  refine zq_aload_n (q := 1) G dL_swapColumns_0 3 rfl rfl rfl ?_
  refine zq_iconst (q := 2) (v := 0) G dL_swapColumns_1 rfl rfl ?_
  refine zq_aload_n (q := 3) G dL_swapColumns_2 0 rfl rfl rfl ?_
  refine zq_iload_n (q := 4) G dL_swapColumns_3 1 rfl rfl rfl ?_
  refine zq_iload_n (q := 5) G dL_swapColumns_4 2 rfl rfl rfl ?_
  rcases hT with ⟨rfl, rfl⟩ | ⟨k, nm, hk, rfl, rfl⟩
  · refine zq_callVi (q := 8) (ws2 := (w_H cyI cyZ cyJ h o σ2 g)) (isC := [0, 1, 2, 3, 4, 5, 6, 7, 8, 9, 10, 11, 12, 13, 14, 15, 16]) (isR := [17]) (perm := [1, 2, 3, 4, 5, 6, 7, 8, 9, 10, 11, 12, 13, 14, 15, 16, 17, 0]) (rest := [.int 0, .ref o]) (As := [.int p0, .int p1]) G zs_L_46 dL_swapColumns_5 (fun sz9 => zXi_ret (c_X3_swapColumns l hst D cyI cyZ (h 0) (h 1) (h 2) (h 3) (h 4) (h 5) (h 6) (h 7) (h 8) (h 9) (h 10) (h 11) (h 12) (h 13) (h 14) (h 15) (h 16) σ p0 p1 (.inr b) σ2 ez sz9)) 0 rfl rfl rfl ⟨rfl, rfl, rfl, rfl⟩ rfl (Nat.le_of_ble_eq_true rfl) ⟨Nat.le_of_ble_eq_true rfl, Nat.le_of_ble_eq_true rfl, Nat.zero_le _, Nat.zero_le _⟩ rfl ?_
    refine zq_i2l (q := 9) G dL_swapColumns_8 rfl ?_
    refine zq_last (q := 10) (ws2 := (w_H cyI cyZ cyJ h o σ2 (vp_updL g ((0 : Int32).toNatClampNeg) b.toInt64))) G hJ dL_swapColumns_9 17 rfl rfl rfl rfl ?_
    refine zq_goto (q := 17) G dL_swapColumns_10 (by decide) ?_
    refine zq_iconst (q := 18) (v := 0) G dL_swapColumns_17 rfl rfl ?_
    exact zq_hret G hlocks hr dL_swapColumns_18 (Nat.le_of_ble_eq_true rfl) (Nat.le_of_ble_eq_true rfl) rfl ⟨_, fun _ => upd0J g _, rfl⟩
  · match k, hk with
    | 0, hk =>
      cases hk
      refine zq_tryX (q := 13) (pre := []) (x := ⟨0, 10, 13, 19⟩) (suf := []) (ws2 := (w_H cyI cyZ cyJ h o σ2 g)) (isC := [0, 1, 2, 3, 4, 5, 6, 7, 8, 9, 10, 11, 12, 13, 14, 15, 16]) (isR := [17]) (perm := [1, 2, 3, 4, 5, 6, 7, 8, 9, 10, 11, 12, 13, 14, 15, 16, 17, 0]) (rest := [.int 0, .ref o]) (As := [.int p0, .int p1]) G (ht.trans rfl) zs_L_46 dL_swapColumns_5 (fun sz9 => c_X3_swapColumns l hst D cyI cyZ (h 0) (h 1) (h 2) (h 3) (h 4) (h 5) (h 6) (h 7) (h 8) (h 9) (h 10) (h 11) (h 12) (h 13) (h 14) (h 15) (h 16) σ p0 p1 (.inl xO) σ2 ez sz9) 0 rfl rfl rfl ⟨rfl, rfl, rfl, rfl⟩ rfl (Nat.le_of_ble_eq_true rfl) ⟨Nat.le_of_ble_eq_true rfl, Nat.le_of_ble_eq_true rfl, Nat.le_of_ble_eq_true rfl, Nat.le_of_ble_eq_true rfl⟩ zpass0 (by decide) (by decide) zw_L_k19 (zin2 80 rfl rfl) rfl (fun q9 => ?_)
      refine zq_sub [] [] rfl ?_
      refine zq_astore (q := 15) (lv2 := [(4, .ref q9)]) G dL_swapColumns_13 (by decide) rfl rfl ?_
      refine zq_iconst (q := 16) (v := 1) G dL_swapColumns_15 rfl rfl ?_
      exact zq_hret G hlocks hr dL_swapColumns_16 (Nat.le_of_ble_eq_true rfl) (Nat.le_of_ble_eq_true rfl) rfl ⟨g, fun c9 => absurd c9 (by decide), rfl⟩
    | k + 1, hk => first | exact nomatch hk | simp at hk
set_option maxHeartbeats 4000000 in
set_option maxRecDepth 100000 in
theorem h_transpose (l : Launch) (hst : l.stackTraces = false) (D : va_G) (cyI cyZ cyJ cyD : ClassId) (h : Nat → Nat) (o : Nat) (σ σ2 : zC) (g : Nat → Int64)  (z : Sum String Int32) (b th : Int32) (ez : s_X3_transpose σ  = some (z, σ2)) (hT : TH [xS] z b th) (sz : Nat) : zMh l yL_transpose cL_transpose 3 [(0, 8, 11, 38)] D cyI cyZ cyJ cyD sz [.ref (h 0), .ref o] (w_H cyI cyZ cyJ h o σ g) th (fun W9 => ∃ g2 : Nat → Int64, (th = 0 → g2 ((0 : Int32).toNatClampNeg) = b.toInt64) ∧ W9 = (w_H cyI cyZ cyJ h o σ2 g2)) := by
  refine zstartH (lv0 := [(0, .ref (h 0)), (1, .ref o)]) (by decide) (Nat.le_of_ble_eq_true rfl) rfl (fun p e s m args below meth c G hJ hr hlocks ht => ?_)
  refine zq_aload_n (q := 1) G dL_transpose_0 1 rfl rfl rfl ?_
  refine zq_iconst (q := 2) (v := 0) G dL_transpose_1 rfl rfl ?_
  refine zq_aload_n (q := 3) G dL_transpose_2 0 rfl rfl rfl ?_
  rcases hT with ⟨rfl, rfl⟩ | ⟨k, nm, hk, rfl, rfl⟩
  · refine zq_callVi (q := 6) (ws2 := (w_H cyI cyZ cyJ h o σ2 g)) (isC := [0, 1, 2, 3, 4, 5, 6, 7, 8, 9, 10, 11, 12, 13, 14, 15, 16]) (isR := [17]) (perm := [1, 2, 3, 4, 5, 6, 7, 8, 9, 10, 11, 12, 13, 14, 15, 16, 17, 0]) (rest := [.int 0, .ref o]) (As := []) G zs_L_49 dL_transpose_3 (fun sz9 => zXi_ret (c_X3_transpose l hst D cyI cyZ (h 0) (h 1) (h 2) (h 3) (h 4) (h 5) (h 6) (h 7) (h 8) (h 9) (h 10) (h 11) (h 12) (h 13) (h 14) (h 15) (h 16) σ  (.inr b) σ2 ez sz9)) 0 rfl rfl rfl ⟨rfl, rfl, rfl, rfl⟩ rfl (Nat.le_of_ble_eq_true rfl) ⟨Nat.le_of_ble_eq_true rfl, Nat.le_of_ble_eq_true rfl, Nat.zero_le _, Nat.zero_le _⟩ rfl ?_
    refine zq_i2l (q := 7) G dL_transpose_6 rfl ?_
    refine zq_last (q := 8) (ws2 := (w_H cyI cyZ cyJ h o σ2 (vp_updL g ((0 : Int32).toNatClampNeg) b.toInt64))) G hJ dL_transpose_7 17 rfl rfl rfl rfl ?_
    refine zq_goto (q := 14) G dL_transpose_8 (by decide) ?_
    refine zq_iconst (q := 15) (v := 0) G dL_transpose_14 rfl rfl ?_
    exact zq_hret G hlocks hr dL_transpose_15 (Nat.le_of_ble_eq_true rfl) (Nat.le_of_ble_eq_true rfl) rfl ⟨_, fun _ => upd0J g _, rfl⟩
  · match k, hk with
    | 0, hk =>
      cases hk
      refine zq_tryX (q := 11) (pre := []) (x := ⟨0, 8, 11, 38⟩) (suf := []) (ws2 := (w_H cyI cyZ cyJ h o σ2 g)) (isC := [0, 1, 2, 3, 4, 5, 6, 7, 8, 9, 10, 11, 12, 13, 14, 15, 16]) (isR := [17]) (perm := [1, 2, 3, 4, 5, 6, 7, 8, 9, 10, 11, 12, 13, 14, 15, 16, 17, 0]) (rest := [.int 0, .ref o]) (As := []) G (ht.trans rfl) zs_L_49 dL_transpose_3 (fun sz9 => c_X3_transpose l hst D cyI cyZ (h 0) (h 1) (h 2) (h 3) (h 4) (h 5) (h 6) (h 7) (h 8) (h 9) (h 10) (h 11) (h 12) (h 13) (h 14) (h 15) (h 16) σ  (.inl xS) σ2 ez sz9) 0 rfl rfl rfl ⟨rfl, rfl, rfl, rfl⟩ rfl (Nat.le_of_ble_eq_true rfl) ⟨Nat.le_of_ble_eq_true rfl, Nat.le_of_ble_eq_true rfl, Nat.le_of_ble_eq_true rfl, Nat.le_of_ble_eq_true rfl⟩ zpass0 (by decide) (by decide) zw_L_k38 (zin3 46 rfl rfl) rfl (fun q9 => ?_)
      refine zq_sub [] [] rfl ?_
      refine zq_astore_n (q := 12) (lv2 := [(2, .ref q9)]) G dL_transpose_11 rfl (by decide) rfl rfl ?_
      refine zq_iconst (q := 13) (v := 1) G dL_transpose_12 rfl rfl ?_
      exact zq_hret G hlocks hr dL_transpose_13 (Nat.le_of_ble_eq_true rfl) (Nat.le_of_ble_eq_true rfl) rfl ⟨g, fun c9 => absurd c9 (by decide), rfl⟩
    | k + 1, hk => first | exact nomatch hk | simp at hk
set_option maxHeartbeats 4000000 in
set_option maxRecDepth 100000 in
theorem h_assigned (l : Launch) (hst : l.stackTraces = false) (D : va_G) (cyI cyZ cyJ cyD : ClassId) (h : Nat → Nat) (o : Nat) (σ σ2 : zC) (g : Nat → Int64) (p0 : Int32) (z : Sum String Int32) (b th : Int32) (ez : s_X3_assigned σ p0 = some (z, σ2)) (hT : TH [xO] z b th) (sz : Nat) : zMh l yL_assigned cL_assigned 4 [(0, 9, 12, 19)] D cyI cyZ cyJ cyD sz [.ref (h 0), .int p0, .ref o] (w_H cyI cyZ cyJ h o σ g) th (fun W9 => ∃ g2 : Nat → Int64, (th = 0 → g2 ((0 : Int32).toNatClampNeg) = b.toInt64) ∧ W9 = (w_H cyI cyZ cyJ h o σ2 g2)) := by
  refine zstartH (lv0 := [(0, .ref (h 0)), (1, .int p0), (2, .ref o)]) (by decide) (Nat.le_of_ble_eq_true rfl) rfl (fun p e s m args below meth c G hJ hr hlocks ht => ?_)
  refine zq_aload_n (q := 1) G dL_assigned_0 2 rfl rfl rfl ?_
  refine zq_iconst (q := 2) (v := 0) G dL_assigned_1 rfl rfl ?_
  refine zq_aload_n (q := 3) G dL_assigned_2 0 rfl rfl rfl ?_
  refine zq_iload_n (q := 4) G dL_assigned_3 1 rfl rfl rfl ?_
  rcases hT with ⟨rfl, rfl⟩ | ⟨k, nm, hk, rfl, rfl⟩
  · refine zq_callVi (q := 7) (ws2 := (w_H cyI cyZ cyJ h o σ2 g)) (isC := [0, 1, 2, 3, 4, 5, 6, 7, 8, 9, 10, 11, 12, 13, 14, 15, 16]) (isR := [17]) (perm := [1, 2, 3, 4, 5, 6, 7, 8, 9, 10, 11, 12, 13, 14, 15, 16, 17, 0]) (rest := [.int 0, .ref o]) (As := [.int p0]) G zs_L_53 dL_assigned_4 (fun sz9 => zXi_ret (c_X3_assigned l hst D cyI cyZ (h 0) (h 1) (h 2) (h 3) (h 4) (h 5) (h 6) (h 7) (h 8) (h 9) (h 10) (h 11) (h 12) (h 13) (h 14) (h 15) (h 16) σ p0 (.inr b) σ2 ez sz9)) 0 rfl rfl rfl ⟨rfl, rfl, rfl, rfl⟩ rfl (Nat.le_of_ble_eq_true rfl) ⟨Nat.le_of_ble_eq_true rfl, Nat.le_of_ble_eq_true rfl, Nat.zero_le _, Nat.zero_le _⟩ rfl ?_
    refine zq_i2l (q := 8) G dL_assigned_7 rfl ?_
    refine zq_last (q := 9) (ws2 := (w_H cyI cyZ cyJ h o σ2 (vp_updL g ((0 : Int32).toNatClampNeg) b.toInt64))) G hJ dL_assigned_8 17 rfl rfl rfl rfl ?_
    refine zq_goto (q := 15) G dL_assigned_9 (by decide) ?_
    refine zq_iconst (q := 16) (v := 0) G dL_assigned_15 rfl rfl ?_
    exact zq_hret G hlocks hr dL_assigned_16 (Nat.le_of_ble_eq_true rfl) (Nat.le_of_ble_eq_true rfl) rfl ⟨_, fun _ => upd0J g _, rfl⟩
  · match k, hk with
    | 0, hk =>
      cases hk
      refine zq_tryX (q := 12) (pre := []) (x := ⟨0, 9, 12, 19⟩) (suf := []) (ws2 := (w_H cyI cyZ cyJ h o σ2 g)) (isC := [0, 1, 2, 3, 4, 5, 6, 7, 8, 9, 10, 11, 12, 13, 14, 15, 16]) (isR := [17]) (perm := [1, 2, 3, 4, 5, 6, 7, 8, 9, 10, 11, 12, 13, 14, 15, 16, 17, 0]) (rest := [.int 0, .ref o]) (As := [.int p0]) G (ht.trans rfl) zs_L_53 dL_assigned_4 (fun sz9 => c_X3_assigned l hst D cyI cyZ (h 0) (h 1) (h 2) (h 3) (h 4) (h 5) (h 6) (h 7) (h 8) (h 9) (h 10) (h 11) (h 12) (h 13) (h 14) (h 15) (h 16) σ p0 (.inl xO) σ2 ez sz9) 0 rfl rfl rfl ⟨rfl, rfl, rfl, rfl⟩ rfl (Nat.le_of_ble_eq_true rfl) ⟨Nat.le_of_ble_eq_true rfl, Nat.le_of_ble_eq_true rfl, Nat.le_of_ble_eq_true rfl, Nat.le_of_ble_eq_true rfl⟩ zpass0 (by decide) (by decide) zw_L_k19 (zin2 80 rfl rfl) rfl (fun q9 => ?_)
      refine zq_sub [] [] rfl ?_
      refine zq_astore_n (q := 13) (lv2 := [(3, .ref q9)]) G dL_assigned_12 rfl (by decide) rfl rfl ?_
      refine zq_iconst (q := 14) (v := 1) G dL_assigned_13 rfl rfl ?_
      exact zq_hret G hlocks hr dL_assigned_14 (Nat.le_of_ble_eq_true rfl) (Nat.le_of_ble_eq_true rfl) rfl ⟨g, fun c9 => absurd c9 (by decide), rfl⟩
    | k + 1, hk => first | exact nomatch hk | simp at hk
set_option maxHeartbeats 4000000 in
set_option maxRecDepth 100000 in
theorem h_rowPotential (l : Launch) (hst : l.stackTraces = false) (D : va_G) (cyI cyZ cyJ cyD : ClassId) (h : Nat → Nat) (o : Nat) (σ σ2 : zC) (g : Nat → Int64) (p0 : Int32) (z : Sum String Int32) (b th : Int32) (ez : s_X3_rowPotential σ p0 = some (z, σ2)) (hT : TH [xO] z b th) (sz : Nat) : zMh l yL_rowPotential cL_rowPotential 4 [(0, 9, 12, 19)] D cyI cyZ cyJ cyD sz [.ref (h 0), .int p0, .ref o] (w_H cyI cyZ cyJ h o σ g) th (fun W9 => ∃ g2 : Nat → Int64, (th = 0 → g2 ((0 : Int32).toNatClampNeg) = b.toInt64) ∧ W9 = (w_H cyI cyZ cyJ h o σ2 g2)) := by
  refine zstartH (lv0 := [(0, .ref (h 0)), (1, .int p0), (2, .ref o)]) (by decide) (Nat.le_of_ble_eq_true rfl) rfl (fun p e s m args below meth c G hJ hr hlocks ht => ?_)
  refine zq_aload_n (q := 1) G dL_rowPotential_0 2 rfl rfl rfl ?_
  refine zq_iconst (q := 2) (v := 0) G dL_rowPotential_1 rfl rfl ?_
  refine zq_aload_n (q := 3) G dL_rowPotential_2 0 rfl rfl rfl ?_
  refine zq_iload_n (q := 4) G dL_rowPotential_3 1 rfl rfl rfl ?_
  rcases hT with ⟨rfl, rfl⟩ | ⟨k, nm, hk, rfl, rfl⟩
  · refine zq_callVi (q := 7) (ws2 := (w_H cyI cyZ cyJ h o σ2 g)) (isC := [0, 1, 2, 3, 4, 5, 6, 7, 8, 9, 10, 11, 12, 13, 14, 15, 16]) (isR := [17]) (perm := [1, 2, 3, 4, 5, 6, 7, 8, 9, 10, 11, 12, 13, 14, 15, 16, 17, 0]) (rest := [.int 0, .ref o]) (As := [.int p0]) G zs_L_57 dL_rowPotential_4 (fun sz9 => zXi_ret (c_X3_rowPotential l hst D cyI cyZ (h 0) (h 1) (h 2) (h 3) (h 4) (h 5) (h 6) (h 7) (h 8) (h 9) (h 10) (h 11) (h 12) (h 13) (h 14) (h 15) (h 16) σ p0 (.inr b) σ2 ez sz9)) 0 rfl rfl rfl ⟨rfl, rfl, rfl, rfl⟩ rfl (Nat.le_of_ble_eq_true rfl) ⟨Nat.le_of_ble_eq_true rfl, Nat.le_of_ble_eq_true rfl, Nat.zero_le _, Nat.zero_le _⟩ rfl ?_
    refine zq_i2l (q := 8) G dL_rowPotential_7 rfl ?_
    refine zq_last (q := 9) (ws2 := (w_H cyI cyZ cyJ h o σ2 (vp_updL g ((0 : Int32).toNatClampNeg) b.toInt64))) G hJ dL_rowPotential_8 17 rfl rfl rfl rfl ?_
    refine zq_goto (q := 15) G dL_rowPotential_9 (by decide) ?_
    refine zq_iconst (q := 16) (v := 0) G dL_rowPotential_15 rfl rfl ?_
    exact zq_hret G hlocks hr dL_rowPotential_16 (Nat.le_of_ble_eq_true rfl) (Nat.le_of_ble_eq_true rfl) rfl ⟨_, fun _ => upd0J g _, rfl⟩
  · match k, hk with
    | 0, hk =>
      cases hk
      refine zq_tryX (q := 12) (pre := []) (x := ⟨0, 9, 12, 19⟩) (suf := []) (ws2 := (w_H cyI cyZ cyJ h o σ2 g)) (isC := [0, 1, 2, 3, 4, 5, 6, 7, 8, 9, 10, 11, 12, 13, 14, 15, 16]) (isR := [17]) (perm := [1, 2, 3, 4, 5, 6, 7, 8, 9, 10, 11, 12, 13, 14, 15, 16, 17, 0]) (rest := [.int 0, .ref o]) (As := [.int p0]) G (ht.trans rfl) zs_L_57 dL_rowPotential_4 (fun sz9 => c_X3_rowPotential l hst D cyI cyZ (h 0) (h 1) (h 2) (h 3) (h 4) (h 5) (h 6) (h 7) (h 8) (h 9) (h 10) (h 11) (h 12) (h 13) (h 14) (h 15) (h 16) σ p0 (.inl xO) σ2 ez sz9) 0 rfl rfl rfl ⟨rfl, rfl, rfl, rfl⟩ rfl (Nat.le_of_ble_eq_true rfl) ⟨Nat.le_of_ble_eq_true rfl, Nat.le_of_ble_eq_true rfl, Nat.le_of_ble_eq_true rfl, Nat.le_of_ble_eq_true rfl⟩ zpass0 (by decide) (by decide) zw_L_k19 (zin2 80 rfl rfl) rfl (fun q9 => ?_)
      refine zq_sub [] [] rfl ?_
      refine zq_astore_n (q := 13) (lv2 := [(3, .ref q9)]) G dL_rowPotential_12 rfl (by decide) rfl rfl ?_
      refine zq_iconst (q := 14) (v := 1) G dL_rowPotential_13 rfl rfl ?_
      exact zq_hret G hlocks hr dL_rowPotential_14 (Nat.le_of_ble_eq_true rfl) (Nat.le_of_ble_eq_true rfl) rfl ⟨g, fun c9 => absurd c9 (by decide), rfl⟩
    | k + 1, hk => first | exact nomatch hk | simp at hk
set_option maxHeartbeats 4000000 in
set_option maxRecDepth 100000 in
theorem h_columnPotential (l : Launch) (hst : l.stackTraces = false) (D : va_G) (cyI cyZ cyJ cyD : ClassId) (h : Nat → Nat) (o : Nat) (σ σ2 : zC) (g : Nat → Int64) (p0 : Int32) (z : Sum String Int32) (b th : Int32) (ez : s_X3_columnPotential σ p0 = some (z, σ2)) (hT : TH [xO] z b th) (sz : Nat) : zMh l yL_columnPotential cL_columnPotential 4 [(0, 9, 12, 19)] D cyI cyZ cyJ cyD sz [.ref (h 0), .int p0, .ref o] (w_H cyI cyZ cyJ h o σ g) th (fun W9 => ∃ g2 : Nat → Int64, (th = 0 → g2 ((0 : Int32).toNatClampNeg) = b.toInt64) ∧ W9 = (w_H cyI cyZ cyJ h o σ2 g2)) := by
  refine zstartH (lv0 := [(0, .ref (h 0)), (1, .int p0), (2, .ref o)]) (by decide) (Nat.le_of_ble_eq_true rfl) rfl (fun p e s m args below meth c G hJ hr hlocks ht => ?_)
  refine zq_aload_n (q := 1) G dL_columnPotential_0 2 rfl rfl rfl ?_
  refine zq_iconst (q := 2) (v := 0) G dL_columnPotential_1 rfl rfl ?_
  refine zq_aload_n (q := 3) G dL_columnPotential_2 0 rfl rfl rfl ?_
  refine zq_iload_n (q := 4) G dL_columnPotential_3 1 rfl rfl rfl ?_
  rcases hT with ⟨rfl, rfl⟩ | ⟨k, nm, hk, rfl, rfl⟩
  · refine zq_callVi (q := 7) (ws2 := (w_H cyI cyZ cyJ h o σ2 g)) (isC := [0, 1, 2, 3, 4, 5, 6, 7, 8, 9, 10, 11, 12, 13, 14, 15, 16]) (isR := [17]) (perm := [1, 2, 3, 4, 5, 6, 7, 8, 9, 10, 11, 12, 13, 14, 15, 16, 17, 0]) (rest := [.int 0, .ref o]) (As := [.int p0]) G zs_L_60 dL_columnPotential_4 (fun sz9 => zXi_ret (c_X3_columnPotential l hst D cyI cyZ (h 0) (h 1) (h 2) (h 3) (h 4) (h 5) (h 6) (h 7) (h 8) (h 9) (h 10) (h 11) (h 12) (h 13) (h 14) (h 15) (h 16) σ p0 (.inr b) σ2 ez sz9)) 0 rfl rfl rfl ⟨rfl, rfl, rfl, rfl⟩ rfl (Nat.le_of_ble_eq_true rfl) ⟨Nat.le_of_ble_eq_true rfl, Nat.le_of_ble_eq_true rfl, Nat.zero_le _, Nat.zero_le _⟩ rfl ?_
    refine zq_i2l (q := 8) G dL_columnPotential_7 rfl ?_
    refine zq_last (q := 9) (ws2 := (w_H cyI cyZ cyJ h o σ2 (vp_updL g ((0 : Int32).toNatClampNeg) b.toInt64))) G hJ dL_columnPotential_8 17 rfl rfl rfl rfl ?_
    refine zq_goto (q := 15) G dL_columnPotential_9 (by decide) ?_
    refine zq_iconst (q := 16) (v := 0) G dL_columnPotential_15 rfl rfl ?_
    exact zq_hret G hlocks hr dL_columnPotential_16 (Nat.le_of_ble_eq_true rfl) (Nat.le_of_ble_eq_true rfl) rfl ⟨_, fun _ => upd0J g _, rfl⟩
  · match k, hk with
    | 0, hk =>
      cases hk
      refine zq_tryX (q := 12) (pre := []) (x := ⟨0, 9, 12, 19⟩) (suf := []) (ws2 := (w_H cyI cyZ cyJ h o σ2 g)) (isC := [0, 1, 2, 3, 4, 5, 6, 7, 8, 9, 10, 11, 12, 13, 14, 15, 16]) (isR := [17]) (perm := [1, 2, 3, 4, 5, 6, 7, 8, 9, 10, 11, 12, 13, 14, 15, 16, 17, 0]) (rest := [.int 0, .ref o]) (As := [.int p0]) G (ht.trans rfl) zs_L_60 dL_columnPotential_4 (fun sz9 => c_X3_columnPotential l hst D cyI cyZ (h 0) (h 1) (h 2) (h 3) (h 4) (h 5) (h 6) (h 7) (h 8) (h 9) (h 10) (h 11) (h 12) (h 13) (h 14) (h 15) (h 16) σ p0 (.inl xO) σ2 ez sz9) 0 rfl rfl rfl ⟨rfl, rfl, rfl, rfl⟩ rfl (Nat.le_of_ble_eq_true rfl) ⟨Nat.le_of_ble_eq_true rfl, Nat.le_of_ble_eq_true rfl, Nat.le_of_ble_eq_true rfl, Nat.le_of_ble_eq_true rfl⟩ zpass0 (by decide) (by decide) zw_L_k19 (zin2 80 rfl rfl) rfl (fun q9 => ?_)
      refine zq_sub [] [] rfl ?_
      refine zq_astore_n (q := 13) (lv2 := [(3, .ref q9)]) G dL_columnPotential_12 rfl (by decide) rfl rfl ?_
      refine zq_iconst (q := 14) (v := 1) G dL_columnPotential_13 rfl rfl ?_
      exact zq_hret G hlocks hr dL_columnPotential_14 (Nat.le_of_ble_eq_true rfl) (Nat.le_of_ble_eq_true rfl) rfl ⟨g, fun c9 => absurd c9 (by decide), rfl⟩
    | k + 1, hk => first | exact nomatch hk | simp at hk
set_option maxHeartbeats 4000000 in
set_option maxRecDepth 100000 in
theorem h_reducedCost (l : Launch) (hst : l.stackTraces = false) (D : va_G) (cyI cyZ cyJ cyD : ClassId) (h : Nat → Nat) (o : Nat) (σ σ2 : zC) (g : Nat → Int64) (p0 : Int32) (p1 : Int32) (z : Sum String Int32) (b th : Int32) (ez : s_X3_reducedCost σ p0 p1 = some (z, σ2)) (hT : TH [xO] z b th) (sz : Nat) : zMh l yL_reducedCost cL_reducedCost 5 [(0, 10, 13, 19)] D cyI cyZ cyJ cyD sz [.ref (h 0), .int p0, .int p1, .ref o] (w_H cyI cyZ cyJ h o σ g) th (fun W9 => ∃ g2 : Nat → Int64, (th = 0 → g2 ((0 : Int32).toNatClampNeg) = b.toInt64) ∧ W9 = (w_H cyI cyZ cyJ h o σ2 g2)) := by
  refine zstartH (lv0 := [(0, .ref (h 0)), (1, .int p0), (2, .int p1), (3, .ref o)]) (by decide) (Nat.le_of_ble_eq_true rfl) rfl (fun p e s m args below meth c G hJ hr hlocks ht => ?_)
  refine zq_aload_n (q := 1) G dL_reducedCost_0 3 rfl rfl rfl ?_
  refine zq_iconst (q := 2) (v := 0) G dL_reducedCost_1 rfl rfl ?_
  refine zq_aload_n (q := 3) G dL_reducedCost_2 0 rfl rfl rfl ?_
  refine zq_iload_n (q := 4) G dL_reducedCost_3 1 rfl rfl rfl ?_
  refine zq_iload_n (q := 5) G dL_reducedCost_4 2 rfl rfl rfl ?_
  rcases hT with ⟨rfl, rfl⟩ | ⟨k, nm, hk, rfl, rfl⟩
  · refine zq_callVi (q := 8) (ws2 := (w_H cyI cyZ cyJ h o σ2 g)) (isC := [0, 1, 2, 3, 4, 5, 6, 7, 8, 9, 10, 11, 12, 13, 14, 15, 16]) (isR := [17]) (perm := [1, 2, 3, 4, 5, 6, 7, 8, 9, 10, 11, 12, 13, 14, 15, 16, 17, 0]) (rest := [.int 0, .ref o]) (As := [.int p0, .int p1]) G zs_L_63 dL_reducedCost_5 (fun sz9 => zXi_ret (c_X3_reducedCost l hst D cyI cyZ (h 0) (h 1) (h 2) (h 3) (h 4) (h 5) (h 6) (h 7) (h 8) (h 9) (h 10) (h 11) (h 12) (h 13) (h 14) (h 15) (h 16) σ p0 p1 (.inr b) σ2 ez sz9)) 0 rfl rfl rfl ⟨rfl, rfl, rfl, rfl⟩ rfl (Nat.le_of_ble_eq_true rfl) ⟨Nat.le_of_ble_eq_true rfl, Nat.le_of_ble_eq_true rfl, Nat.zero_le _, Nat.zero_le _⟩ rfl ?_
    refine zq_i2l (q := 9) G dL_reducedCost_8 rfl ?_
    refine zq_last (q := 10) (ws2 := (w_H cyI cyZ cyJ h o σ2 (vp_updL g ((0 : Int32).toNatClampNeg) b.toInt64))) G hJ dL_reducedCost_9 17 rfl rfl rfl rfl ?_
    refine zq_goto (q := 17) G dL_reducedCost_10 (by decide) ?_
    refine zq_iconst (q := 18) (v := 0) G dL_reducedCost_17 rfl rfl ?_
    exact zq_hret G hlocks hr dL_reducedCost_18 (Nat.le_of_ble_eq_true rfl) (Nat.le_of_ble_eq_true rfl) rfl ⟨_, fun _ => upd0J g _, rfl⟩
  · match k, hk with
    | 0, hk =>
      cases hk
      refine zq_tryX (q := 13) (pre := []) (x := ⟨0, 10, 13, 19⟩) (suf := []) (ws2 := (w_H cyI cyZ cyJ h o σ2 g)) (isC := [0, 1, 2, 3, 4, 5, 6, 7, 8, 9, 10, 11, 12, 13, 14, 15, 16]) (isR := [17]) (perm := [1, 2, 3, 4, 5, 6, 7, 8, 9, 10, 11, 12, 13, 14, 15, 16, 17, 0]) (rest := [.int 0, .ref o]) (As := [.int p0, .int p1]) G (ht.trans rfl) zs_L_63 dL_reducedCost_5 (fun sz9 => c_X3_reducedCost l hst D cyI cyZ (h 0) (h 1) (h 2) (h 3) (h 4) (h 5) (h 6) (h 7) (h 8) (h 9) (h 10) (h 11) (h 12) (h 13) (h 14) (h 15) (h 16) σ p0 p1 (.inl xO) σ2 ez sz9) 0 rfl rfl rfl ⟨rfl, rfl, rfl, rfl⟩ rfl (Nat.le_of_ble_eq_true rfl) ⟨Nat.le_of_ble_eq_true rfl, Nat.le_of_ble_eq_true rfl, Nat.le_of_ble_eq_true rfl, Nat.le_of_ble_eq_true rfl⟩ zpass0 (by decide) (by decide) zw_L_k19 (zin2 80 rfl rfl) rfl (fun q9 => ?_)
      refine zq_sub [] [] rfl ?_
      refine zq_astore (q := 15) (lv2 := [(4, .ref q9)]) G dL_reducedCost_13 (by decide) rfl rfl ?_
      refine zq_iconst (q := 16) (v := 1) G dL_reducedCost_15 rfl rfl ?_
      exact zq_hret G hlocks hr dL_reducedCost_16 (Nat.le_of_ble_eq_true rfl) (Nat.le_of_ble_eq_true rfl) rfl ⟨g, fun c9 => absurd c9 (by decide), rfl⟩
    | k + 1, hk => first | exact nomatch hk | simp at hk
set_option maxHeartbeats 4000000 in
set_option maxRecDepth 100000 in
theorem h_minimumWith (l : Launch) (hst : l.stackTraces = false) (D : va_G) (cyI cyZ cyJ cyD : ClassId) (h : Nat → Nat) (o : Nat) (σ σ2 : zC) (g : Nat → Int64) (p0 : Int32) (p1 : Int32) (z : Sum String Int32) (b th : Int32) (ez : s_X3_minimumWith σ p0 p1 = some (z, σ2)) (hT : TH [xO] z b th) (sz : Nat) : zMh l yL_minimumWith cL_minimumWith 5 [(0, 10, 13, 19)] D cyI cyZ cyJ cyD sz [.ref (h 0), .int p0, .int p1, .ref o] (w_H cyI cyZ cyJ h o σ g) th (fun W9 => ∃ g2 : Nat → Int64, (th = 0 → g2 ((0 : Int32).toNatClampNeg) = b.toInt64) ∧ W9 = (w_H cyI cyZ cyJ h o σ2 g2)) := by
  refine zstartH (lv0 := [(0, .ref (h 0)), (1, .int p0), (2, .int p1), (3, .ref o)]) (by decide) (Nat.le_of_ble_eq_true rfl) rfl (fun p e s m args below meth c G hJ hr hlocks ht => ?_)
  refine zq_aload_n (q := 1) G dL_minimumWith_0 3 rfl rfl rfl ?_
  refine zq_iconst (q := 2) (v := 0) G dL_minimumWith_1 rfl rfl ?_
  refine zq_aload_n (q := 3) G dL_minimumWith_2 0 rfl rfl rfl ?_
  refine zq_iload_n (q := 4) G dL_minimumWith_3 1 rfl rfl rfl ?_
  refine zq_iload_n (q := 5) G dL_minimumWith_4 2 rfl rfl rfl ?_
  rcases hT with ⟨rfl, rfl⟩ | ⟨k, nm, hk, rfl, rfl⟩
  · refine zq_callVi (q := 8) (ws2 := (w_H cyI cyZ cyJ h o σ2 g)) (isC := [0, 1, 2, 3, 4, 5, 6, 7, 8, 9, 10, 11, 12, 13, 14, 15, 16]) (isR := [17]) (perm := [1, 2, 3, 4, 5, 6, 7, 8, 9, 10, 11, 12, 13, 14, 15, 16, 17, 0]) (rest := [.int 0, .ref o]) (As := [.int p0, .int p1]) G zs_L_66 dL_minimumWith_5 (fun sz9 => zXi_ret (c_X3_minimumWith l hst D cyI cyZ (h 0) (h 1) (h 2) (h 3) (h 4) (h 5) (h 6) (h 7) (h 8) (h 9) (h 10) (h 11) (h 12) (h 13) (h 14) (h 15) (h 16) σ p0 p1 (.inr b) σ2 ez sz9)) 0 rfl rfl rfl ⟨rfl, rfl, rfl, rfl⟩ rfl (Nat.le_of_ble_eq_true rfl) ⟨Nat.le_of_ble_eq_true rfl, Nat.le_of_ble_eq_true rfl, Nat.zero_le _, Nat.zero_le _⟩ rfl ?_
    refine zq_i2l (q := 9) G dL_minimumWith_8 rfl ?_
    refine zq_last (q := 10) (ws2 := (w_H cyI cyZ cyJ h o σ2 (vp_updL g ((0 : Int32).toNatClampNeg) b.toInt64))) G hJ dL_minimumWith_9 17 rfl rfl rfl rfl ?_
    refine zq_goto (q := 17) G dL_minimumWith_10 (by decide) ?_
    refine zq_iconst (q := 18) (v := 0) G dL_minimumWith_17 rfl rfl ?_
    exact zq_hret G hlocks hr dL_minimumWith_18 (Nat.le_of_ble_eq_true rfl) (Nat.le_of_ble_eq_true rfl) rfl ⟨_, fun _ => upd0J g _, rfl⟩
  · match k, hk with
    | 0, hk =>
      cases hk
      refine zq_tryX (q := 13) (pre := []) (x := ⟨0, 10, 13, 19⟩) (suf := []) (ws2 := (w_H cyI cyZ cyJ h o σ2 g)) (isC := [0, 1, 2, 3, 4, 5, 6, 7, 8, 9, 10, 11, 12, 13, 14, 15, 16]) (isR := [17]) (perm := [1, 2, 3, 4, 5, 6, 7, 8, 9, 10, 11, 12, 13, 14, 15, 16, 17, 0]) (rest := [.int 0, .ref o]) (As := [.int p0, .int p1]) G (ht.trans rfl) zs_L_66 dL_minimumWith_5 (fun sz9 => c_X3_minimumWith l hst D cyI cyZ (h 0) (h 1) (h 2) (h 3) (h 4) (h 5) (h 6) (h 7) (h 8) (h 9) (h 10) (h 11) (h 12) (h 13) (h 14) (h 15) (h 16) σ p0 p1 (.inl xO) σ2 ez sz9) 0 rfl rfl rfl ⟨rfl, rfl, rfl, rfl⟩ rfl (Nat.le_of_ble_eq_true rfl) ⟨Nat.le_of_ble_eq_true rfl, Nat.le_of_ble_eq_true rfl, Nat.le_of_ble_eq_true rfl, Nat.le_of_ble_eq_true rfl⟩ zpass0 (by decide) (by decide) zw_L_k19 (zin2 80 rfl rfl) rfl (fun q9 => ?_)
      refine zq_sub [] [] rfl ?_
      refine zq_astore (q := 15) (lv2 := [(4, .ref q9)]) G dL_minimumWith_13 (by decide) rfl rfl ?_
      refine zq_iconst (q := 16) (v := 1) G dL_minimumWith_15 rfl rfl ?_
      exact zq_hret G hlocks hr dL_minimumWith_16 (Nat.le_of_ble_eq_true rfl) (Nat.le_of_ble_eq_true rfl) rfl ⟨g, fun c9 => absurd c9 (by decide), rfl⟩
    | k + 1, hk => first | exact nomatch hk | simp at hk
set_option maxHeartbeats 4000000 in
set_option maxRecDepth 100000 in
theorem h_minimumWithout (l : Launch) (hst : l.stackTraces = false) (D : va_G) (cyI cyZ cyJ cyD : ClassId) (h : Nat → Nat) (o : Nat) (σ σ2 : zC) (g : Nat → Int64) (p0 : Int32) (p1 : Int32) (z : Sum String Int32) (b th : Int32) (ez : s_X3_minimumWithout σ p0 p1 = some (z, σ2)) (hT : TH [xO] z b th) (sz : Nat) : zMh l yL_minimumWithout cL_minimumWithout 5 [(0, 10, 13, 19)] D cyI cyZ cyJ cyD sz [.ref (h 0), .int p0, .int p1, .ref o] (w_H cyI cyZ cyJ h o σ g) th (fun W9 => ∃ g2 : Nat → Int64, (th = 0 → g2 ((0 : Int32).toNatClampNeg) = b.toInt64) ∧ W9 = (w_H cyI cyZ cyJ h o σ2 g2)) := by
  refine zstartH (lv0 := [(0, .ref (h 0)), (1, .int p0), (2, .int p1), (3, .ref o)]) (by decide) (Nat.le_of_ble_eq_true rfl) rfl (fun p e s m args below meth c G hJ hr hlocks ht => ?_)
  refine zq_aload_n (q := 1) G dL_minimumWithout_0 3 rfl rfl rfl ?_
  refine zq_iconst (q := 2) (v := 0) G dL_minimumWithout_1 rfl rfl ?_
  refine zq_aload_n (q := 3) G dL_minimumWithout_2 0 rfl rfl rfl ?_
  refine zq_iload_n (q := 4) G dL_minimumWithout_3 1 rfl rfl rfl ?_
  refine zq_iload_n (q := 5) G dL_minimumWithout_4 2 rfl rfl rfl ?_
  rcases hT with ⟨rfl, rfl⟩ | ⟨k, nm, hk, rfl, rfl⟩
  · refine zq_callVi (q := 8) (ws2 := (w_H cyI cyZ cyJ h o σ2 g)) (isC := [0, 1, 2, 3, 4, 5, 6, 7, 8, 9, 10, 11, 12, 13, 14, 15, 16]) (isR := [17]) (perm := [1, 2, 3, 4, 5, 6, 7, 8, 9, 10, 11, 12, 13, 14, 15, 16, 17, 0]) (rest := [.int 0, .ref o]) (As := [.int p0, .int p1]) G zs_L_69 dL_minimumWithout_5 (fun sz9 => zXi_ret (c_X3_minimumWithout l hst D cyI cyZ (h 0) (h 1) (h 2) (h 3) (h 4) (h 5) (h 6) (h 7) (h 8) (h 9) (h 10) (h 11) (h 12) (h 13) (h 14) (h 15) (h 16) σ p0 p1 (.inr b) σ2 ez sz9)) 0 rfl rfl rfl ⟨rfl, rfl, rfl, rfl⟩ rfl (Nat.le_of_ble_eq_true rfl) ⟨Nat.le_of_ble_eq_true rfl, Nat.le_of_ble_eq_true rfl, Nat.zero_le _, Nat.zero_le _⟩ rfl ?_
    refine zq_i2l (q := 9) G dL_minimumWithout_8 rfl ?_
    refine zq_last (q := 10) (ws2 := (w_H cyI cyZ cyJ h o σ2 (vp_updL g ((0 : Int32).toNatClampNeg) b.toInt64))) G hJ dL_minimumWithout_9 17 rfl rfl rfl rfl ?_
    refine zq_goto (q := 17) G dL_minimumWithout_10 (by decide) ?_
    refine zq_iconst (q := 18) (v := 0) G dL_minimumWithout_17 rfl rfl ?_
    exact zq_hret G hlocks hr dL_minimumWithout_18 (Nat.le_of_ble_eq_true rfl) (Nat.le_of_ble_eq_true rfl) rfl ⟨_, fun _ => upd0J g _, rfl⟩
  · match k, hk with
    | 0, hk =>
      cases hk
      refine zq_tryX (q := 13) (pre := []) (x := ⟨0, 10, 13, 19⟩) (suf := []) (ws2 := (w_H cyI cyZ cyJ h o σ2 g)) (isC := [0, 1, 2, 3, 4, 5, 6, 7, 8, 9, 10, 11, 12, 13, 14, 15, 16]) (isR := [17]) (perm := [1, 2, 3, 4, 5, 6, 7, 8, 9, 10, 11, 12, 13, 14, 15, 16, 17, 0]) (rest := [.int 0, .ref o]) (As := [.int p0, .int p1]) G (ht.trans rfl) zs_L_69 dL_minimumWithout_5 (fun sz9 => c_X3_minimumWithout l hst D cyI cyZ (h 0) (h 1) (h 2) (h 3) (h 4) (h 5) (h 6) (h 7) (h 8) (h 9) (h 10) (h 11) (h 12) (h 13) (h 14) (h 15) (h 16) σ p0 p1 (.inl xO) σ2 ez sz9) 0 rfl rfl rfl ⟨rfl, rfl, rfl, rfl⟩ rfl (Nat.le_of_ble_eq_true rfl) ⟨Nat.le_of_ble_eq_true rfl, Nat.le_of_ble_eq_true rfl, Nat.le_of_ble_eq_true rfl, Nat.le_of_ble_eq_true rfl⟩ zpass0 (by decide) (by decide) zw_L_k19 (zin2 80 rfl rfl) rfl (fun q9 => ?_)
      refine zq_sub [] [] rfl ?_
      refine zq_astore (q := 15) (lv2 := [(4, .ref q9)]) G dL_minimumWithout_13 (by decide) rfl rfl ?_
      refine zq_iconst (q := 16) (v := 1) G dL_minimumWithout_15 rfl rfl ?_
      exact zq_hret G hlocks hr dL_minimumWithout_16 (Nat.le_of_ble_eq_true rfl) (Nat.le_of_ble_eq_true rfl) rfl ⟨g, fun c9 => absurd c9 (by decide), rfl⟩
    | k + 1, hk => first | exact nomatch hk | simp at hk
set_option maxHeartbeats 4000000 in
set_option maxRecDepth 100000 in
theorem h_minimumIfCost (l : Launch) (hst : l.stackTraces = false) (D : va_G) (cyI cyZ cyJ cyD : ClassId) (h : Nat → Nat) (o : Nat) (σ σ2 : zC) (g : Nat → Int64) (p0 : Int32) (p1 : Int32) (p2 : Int32) (z : Sum String Int32) (b th : Int32) (ez : s_X3_minimumIfCost σ p0 p1 p2 = some (z, σ2)) (hT : TH [xO, xA] z b th) (sz : Nat) : zMh l yL_minimumIfCost cL_minimumIfCost 6 [(0, 12, 15, 19), (0, 12, 19, 13)] D cyI cyZ cyJ cyD sz [.ref (h 0), .int p0, .int p1, .int p2, .ref o] (w_H cyI cyZ cyJ h o σ g) th (fun W9 => ∃ g2 : Nat → Int64, (th = 0 → g2 ((0 : Int32).toNatClampNeg) = b.toInt64) ∧ W9 = (w_H cyI cyZ cyJ h o σ2 g2)) := by
  refine zstartH (lv0 := [(0, .ref (h 0)), (1, .int p0), (2, .int p1), (3, .int p2), (4, .ref o)]) (by decide) (Nat.le_of_ble_eq_true rfl) rfl (fun p e s m args below meth c G hJ hr hlocks ht => ?_)
  refine zq_aload (q := 2) G dL_minimumIfCost_0 4 rfl rfl ?_
  refine zq_iconst (q := 3) (v := 0) G dL_minimumIfCost_2 rfl rfl ?_
  refine zq_aload_n (q := 4) G dL_minimumIfCost_3 0 rfl rfl rfl ?_
  refine zq_iload_n (q := 5) G dL_minimumIfCost_4 1 rfl rfl rfl ?_
  refine zq_iload_n (q := 6) G dL_minimumIfCost_5 2 rfl rfl rfl ?_
  refine zq_iload_n (q := 7) G dL_minimumIfCost_6 3 rfl rfl rfl ?_
  rcases hT with ⟨rfl, rfl⟩ | ⟨k, nm, hk, rfl, rfl⟩
  · refine zq_callVi (q := 10) (ws2 := (w_H cyI cyZ cyJ h o σ2 g)) (isC := [0, 1, 2, 3, 4, 5, 6, 7, 8, 9, 10, 11, 12, 13, 14, 15, 16]) (isR := [17]) (perm := [1, 2, 3, 4, 5, 6, 7, 8, 9, 10, 11, 12, 13, 14, 15, 16, 17, 0]) (rest := [.int 0, .ref o]) (As := [.int p0, .int p1, .int p2]) G zs_L_72 dL_minimumIfCost_7 (fun sz9 => zXi_ret (c_X3_minimumIfCost l hst D cyI cyZ (h 0) (h 1) (h 2) (h 3) (h 4) (h 5) (h 6) (h 7) (h 8) (h 9) (h 10) (h 11) (h 12) (h 13) (h 14) (h 15) (h 16) σ p0 p1 p2 (.inr b) σ2 ez sz9)) 0 rfl rfl rfl ⟨rfl, rfl, rfl, rfl⟩ rfl (Nat.le_of_ble_eq_true rfl) ⟨Nat.le_of_ble_eq_true rfl, Nat.le_of_ble_eq_true rfl, Nat.zero_le _, Nat.zero_le _⟩ rfl ?_
    refine zq_i2l (q := 11) G dL_minimumIfCost_10 rfl ?_
    refine zq_last (q := 12) (ws2 := (w_H cyI cyZ cyJ h o σ2 (vp_updL g ((0 : Int32).toNatClampNeg) b.toInt64))) G hJ dL_minimumIfCost_11 17 rfl rfl rfl rfl ?_
    refine zq_goto (q := 23) G dL_minimumIfCost_12 (by decide) ?_
    refine zq_iconst (q := 24) (v := 0) G dL_minimumIfCost_23 rfl rfl ?_
    exact zq_hret G hlocks hr dL_minimumIfCost_24 (Nat.le_of_ble_eq_true rfl) (Nat.le_of_ble_eq_true rfl) rfl ⟨_, fun _ => upd0J g _, rfl⟩
  · match k, hk with
    | 0, hk =>
      cases hk
      refine zq_tryX (q := 15) (pre := []) (x := ⟨0, 12, 15, 19⟩) (suf := [⟨0, 12, 19, 13⟩]) (ws2 := (w_H cyI cyZ cyJ h o σ2 g)) (isC := [0, 1, 2, 3, 4, 5, 6, 7, 8, 9, 10, 11, 12, 13, 14, 15, 16]) (isR := [17]) (perm := [1, 2, 3, 4, 5, 6, 7, 8, 9, 10, 11, 12, 13, 14, 15, 16, 17, 0]) (rest := [.int 0, .ref o]) (As := [.int p0, .int p1, .int p2]) G (ht.trans rfl) zs_L_72 dL_minimumIfCost_7 (fun sz9 => c_X3_minimumIfCost l hst D cyI cyZ (h 0) (h 1) (h 2) (h 3) (h 4) (h 5) (h 6) (h 7) (h 8) (h 9) (h 10) (h 11) (h 12) (h 13) (h 14) (h 15) (h 16) σ p0 p1 p2 (.inl xO) σ2 ez sz9) 0 rfl rfl rfl ⟨rfl, rfl, rfl, rfl⟩ rfl (Nat.le_of_ble_eq_true rfl) ⟨Nat.le_of_ble_eq_true rfl, Nat.le_of_ble_eq_true rfl, Nat.le_of_ble_eq_true rfl, Nat.le_of_ble_eq_true rfl⟩ zpass0 (by decide) (by decide) zw_L_k19 (zin2 80 rfl rfl) rfl (fun q9 => ?_)
      refine zq_sub [] [] rfl ?_
      refine zq_astore (q := 17) (lv2 := [(5, .ref q9)]) G dL_minimumIfCost_15 (by decide) rfl rfl ?_
      refine zq_iconst (q := 18) (v := 1) G dL_minimumIfCost_17 rfl rfl ?_
      exact zq_hret G hlocks hr dL_minimumIfCost_18 (Nat.le_of_ble_eq_true rfl) (Nat.le_of_ble_eq_true rfl) rfl ⟨g, fun c9 => absurd c9 (by decide), rfl⟩
    | 1, hk =>
      cases hk
      refine zq_tryX (q := 19) (pre := [⟨0, 12, 15, 19⟩]) (x := ⟨0, 12, 19, 13⟩) (suf := []) (ws2 := (w_H cyI cyZ cyJ h o σ2 g)) (isC := [0, 1, 2, 3, 4, 5, 6, 7, 8, 9, 10, 11, 12, 13, 14, 15, 16]) (isR := [17]) (perm := [1, 2, 3, 4, 5, 6, 7, 8, 9, 10, 11, 12, 13, 14, 15, 16, 17, 0]) (rest := [.int 0, .ref o]) (As := [.int p0, .int p1, .int p2]) G (ht.trans rfl) zs_L_72 dL_minimumIfCost_7 (fun sz9 => c_X3_minimumIfCost l hst D cyI cyZ (h 0) (h 1) (h 2) (h 3) (h 4) (h 5) (h 6) (h 7) (h 8) (h 9) (h 10) (h 11) (h 12) (h 13) (h 14) (h 15) (h 16) σ p0 p1 p2 (.inl xA) σ2 ez sz9) 0 rfl rfl rfl ⟨rfl, rfl, rfl, rfl⟩ rfl (Nat.le_of_ble_eq_true rfl) ⟨Nat.le_of_ble_eq_true rfl, Nat.le_of_ble_eq_true rfl, Nat.le_of_ble_eq_true rfl, Nat.le_of_ble_eq_true rfl⟩ (zpassC (by decide) zw_L_k19 (List.mem_of_getElem? (i := 0) rfl) zpass0) (by decide) (by decide) zw_L_k13 (zin2 185 rfl rfl) rfl (fun q9 => ?_)
      refine zq_sub [] [] rfl ?_
      refine zq_astore (q := 21) (lv2 := [(5, .ref q9)]) G dL_minimumIfCost_19 (by decide) rfl rfl ?_
      refine zq_iconst (q := 22) (v := 2) G dL_minimumIfCost_21 rfl rfl ?_
      exact zq_hret G hlocks hr dL_minimumIfCost_22 (Nat.le_of_ble_eq_true rfl) (Nat.le_of_ble_eq_true rfl) rfl ⟨g, fun c9 => absurd c9 (by decide), rfl⟩
    | k + 2, hk => first | exact nomatch hk | simp at hk
set_option maxHeartbeats 4000000 in
set_option maxRecDepth 100000 in
theorem h_fits (l : Launch) (hst : l.stackTraces = false) (D : va_G) (cyI cyZ cyJ cyD : ClassId) (h : Nat → Nat) (o : Nat) (σ σ2 : zC) (g : Nat → Int64) (p0 : Int32) (z : Sum String Int32) (b th : Int32) (ez : s_X3_fits σ p0 = some (z, σ2)) (hT : TH [xA] z b th) (hb : b = 0 ∨ b = 1) (sz : Nat) : zMh l yL_fits cL_fits 4 [(0, 16, 19, 13)] D cyI cyZ cyJ cyD sz [.ref (h 0), .int p0, .ref o] (w_H cyI cyZ cyJ h o σ g) th (fun W9 => ∃ g2 : Nat → Int64, (th = 0 → g2 ((0 : Int32).toNatClampNeg) = b.toInt64) ∧ W9 = (w_H cyI cyZ cyJ h o σ2 g2)) := by
  refine zstartH (lv0 := [(0, .ref (h 0)), (1, .int p0), (2, .ref o)]) (by decide) (Nat.le_of_ble_eq_true rfl) rfl (fun p e s m args below meth c G hJ hr hlocks ht => ?_)
  refine zq_aload_n (q := 1) G dL_fits_0 2 rfl rfl rfl ?_
  refine zq_iconst (q := 2) (v := 0) G dL_fits_1 rfl rfl ?_
  refine zq_aload_n (q := 3) G dL_fits_2 0 rfl rfl rfl ?_
  refine zq_iload_n (q := 4) G dL_fits_3 1 rfl rfl rfl ?_
  rcases hT with ⟨rfl, rfl⟩ | ⟨k, nm, hk, rfl, rfl⟩
  · refine zq_callVi (q := 7) (ws2 := (w_H cyI cyZ cyJ h o σ2 g)) (isC := [0, 1, 2, 3, 4, 5, 6, 7, 8, 9, 10, 11, 12, 13, 14, 15, 16]) (isR := [17]) (perm := [1, 2, 3, 4, 5, 6, 7, 8, 9, 10, 11, 12, 13, 14, 15, 16, 17, 0]) (rest := [.int 0, .ref o]) (As := [.int p0]) G zs_L_75 dL_fits_4 (fun sz9 => zXi_ret (c_X3_fits l hst D cyI cyZ (h 0) (h 1) (h 2) (h 3) (h 4) (h 5) (h 6) (h 7) (h 8) (h 9) (h 10) (h 11) (h 12) (h 13) (h 14) (h 15) (h 16) σ p0 (.inr b) σ2 ez sz9)) 0 rfl rfl rfl ⟨rfl, rfl, rfl, rfl⟩ rfl (Nat.le_of_ble_eq_true rfl) ⟨Nat.le_of_ble_eq_true rfl, Nat.le_of_ble_eq_true rfl, Nat.zero_le _, Nat.zero_le _⟩ rfl ?_
    rcases hb with rfl | rfl
    · refine zq_if_eq (tgt := 14) (q := 10) G dL_fits_7 (by decide) rfl (fun _ => ?_) (fun c9 => absurd rfl c9)
      refine zq_lconst (q := 15) (v := 0) G dL_fits_14 rfl rfl ?_
      refine zq_last (q := 16) (ws2 := (w_H cyI cyZ cyJ h o σ2 (vp_updL g ((0 : Int32).toNatClampNeg) 0))) G hJ dL_fits_15 17 rfl rfl rfl rfl ?_
      refine zq_goto (q := 22) G dL_fits_16 (by decide) ?_
      refine zq_iconst (q := 23) (v := 0) G dL_fits_22 rfl rfl ?_
      exact zq_hret G hlocks hr dL_fits_23 (Nat.le_of_ble_eq_true rfl) (Nat.le_of_ble_eq_true rfl) rfl ⟨_, fun _ => upd0J g 0, rfl⟩
    · refine zq_if_eq (tgt := 14) (q := 10) G dL_fits_7 (by decide) rfl (fun c9 => absurd c9 (by decide)) (fun _ => ?_)
      refine zq_lconst (q := 11) (v := 1) G dL_fits_10 rfl rfl ?_
      refine zq_goto (q := 15) G dL_fits_11 (by decide) ?_
      refine zq_last (q := 16) (ws2 := (w_H cyI cyZ cyJ h o σ2 (vp_updL g ((0 : Int32).toNatClampNeg) 1))) G hJ dL_fits_15 17 rfl rfl rfl rfl ?_
      refine zq_goto (q := 22) G dL_fits_16 (by decide) ?_
      refine zq_iconst (q := 23) (v := 0) G dL_fits_22 rfl rfl ?_
      exact zq_hret G hlocks hr dL_fits_23 (Nat.le_of_ble_eq_true rfl) (Nat.le_of_ble_eq_true rfl) rfl ⟨_, fun _ => upd0J g 1, rfl⟩
  · match k, hk with
    | 0, hk =>
      cases hk
      refine zq_tryX (q := 19) (pre := []) (x := ⟨0, 16, 19, 13⟩) (suf := []) (ws2 := (w_H cyI cyZ cyJ h o σ2 g)) (isC := [0, 1, 2, 3, 4, 5, 6, 7, 8, 9, 10, 11, 12, 13, 14, 15, 16]) (isR := [17]) (perm := [1, 2, 3, 4, 5, 6, 7, 8, 9, 10, 11, 12, 13, 14, 15, 16, 17, 0]) (rest := [.int 0, .ref o]) (As := [.int p0]) G (ht.trans rfl) zs_L_75 dL_fits_4 (fun sz9 => c_X3_fits l hst D cyI cyZ (h 0) (h 1) (h 2) (h 3) (h 4) (h 5) (h 6) (h 7) (h 8) (h 9) (h 10) (h 11) (h 12) (h 13) (h 14) (h 15) (h 16) σ p0 (.inl xA) σ2 ez sz9) 0 rfl rfl rfl ⟨rfl, rfl, rfl, rfl⟩ rfl (Nat.le_of_ble_eq_true rfl) ⟨Nat.le_of_ble_eq_true rfl, Nat.le_of_ble_eq_true rfl, Nat.le_of_ble_eq_true rfl, Nat.le_of_ble_eq_true rfl⟩ zpass0 (by decide) (by decide) zw_L_k13 (zin2 185 rfl rfl) rfl (fun q9 => ?_)
      refine zq_sub [] [] rfl ?_
      refine zq_astore_n (q := 20) (lv2 := [(3, .ref q9)]) G dL_fits_19 rfl (by decide) rfl rfl ?_
      refine zq_iconst (q := 21) (v := 1) G dL_fits_20 rfl rfl ?_
      exact zq_hret G hlocks hr dL_fits_21 (Nat.le_of_ble_eq_true rfl) (Nat.le_of_ble_eq_true rfl) rfl ⟨g, fun c9 => absurd c9 (by decide), rfl⟩
    | k + 1, hk => first | exact nomatch hk | simp at hk
set_option maxHeartbeats 4000000 in
set_option maxRecDepth 100000 in
theorem h_countWithin (l : Launch) (hst : l.stackTraces = false) (D : va_G) (cyI cyZ cyJ cyD : ClassId) (h : Nat → Nat) (o : Nat) (σ σ2 : zC) (g : Nat → Int64) (p0 : Int32) (z : Sum String Int32) (b th : Int32) (ez : s_X3_countWithin σ p0 = some (z, σ2)) (hT : TH [xA] z b th) (sz : Nat) : zMh l yL_countWithin cL_countWithin 4 [(0, 9, 12, 13)] D cyI cyZ cyJ cyD sz [.ref (h 0), .int p0, .ref o] (w_H cyI cyZ cyJ h o σ g) th (fun W9 => ∃ g2 : Nat → Int64, (th = 0 → g2 ((0 : Int32).toNatClampNeg) = b.toInt64) ∧ W9 = (w_H cyI cyZ cyJ h o σ2 g2)) := by
  refine zstartH (lv0 := [(0, .ref (h 0)), (1, .int p0), (2, .ref o)]) (by decide) (Nat.le_of_ble_eq_true rfl) rfl (fun p e s m args below meth c G hJ hr hlocks ht => ?_)
  refine zq_aload_n (q := 1) G dL_countWithin_0 2 rfl rfl rfl ?_
  refine zq_iconst (q := 2) (v := 0) G dL_countWithin_1 rfl rfl ?_
  refine zq_aload_n (q := 3) G dL_countWithin_2 0 rfl rfl rfl ?_
  refine zq_iload_n (q := 4) G dL_countWithin_3 1 rfl rfl rfl ?_
  rcases hT with ⟨rfl, rfl⟩ | ⟨k, nm, hk, rfl, rfl⟩
  · refine zq_callVi (q := 7) (ws2 := (w_H cyI cyZ cyJ h o σ2 g)) (isC := [0, 1, 2, 3, 4, 5, 6, 7, 8, 9, 10, 11, 12, 13, 14, 15, 16]) (isR := [17]) (perm := [1, 2, 3, 4, 5, 6, 7, 8, 9, 10, 11, 12, 13, 14, 15, 16, 17, 0]) (rest := [.int 0, .ref o]) (As := [.int p0]) G zs_L_79 dL_countWithin_4 (fun sz9 => zXi_ret (c_X3_countWithin l hst D cyI cyZ (h 0) (h 1) (h 2) (h 3) (h 4) (h 5) (h 6) (h 7) (h 8) (h 9) (h 10) (h 11) (h 12) (h 13) (h 14) (h 15) (h 16) σ p0 (.inr b) σ2 ez sz9)) 0 rfl rfl rfl ⟨rfl, rfl, rfl, rfl⟩ rfl (Nat.le_of_ble_eq_true rfl) ⟨Nat.le_of_ble_eq_true rfl, Nat.le_of_ble_eq_true rfl, Nat.zero_le _, Nat.zero_le _⟩ rfl ?_
    refine zq_i2l (q := 8) G dL_countWithin_7 rfl ?_
    refine zq_last (q := 9) (ws2 := (w_H cyI cyZ cyJ h o σ2 (vp_updL g ((0 : Int32).toNatClampNeg) b.toInt64))) G hJ dL_countWithin_8 17 rfl rfl rfl rfl ?_
    refine zq_goto (q := 15) G dL_countWithin_9 (by decide) ?_
    refine zq_iconst (q := 16) (v := 0) G dL_countWithin_15 rfl rfl ?_
    exact zq_hret G hlocks hr dL_countWithin_16 (Nat.le_of_ble_eq_true rfl) (Nat.le_of_ble_eq_true rfl) rfl ⟨_, fun _ => upd0J g _, rfl⟩
  · match k, hk with
    | 0, hk =>
      cases hk
      refine zq_tryX (q := 12) (pre := []) (x := ⟨0, 9, 12, 13⟩) (suf := []) (ws2 := (w_H cyI cyZ cyJ h o σ2 g)) (isC := [0, 1, 2, 3, 4, 5, 6, 7, 8, 9, 10, 11, 12, 13, 14, 15, 16]) (isR := [17]) (perm := [1, 2, 3, 4, 5, 6, 7, 8, 9, 10, 11, 12, 13, 14, 15, 16, 17, 0]) (rest := [.int 0, .ref o]) (As := [.int p0]) G (ht.trans rfl) zs_L_79 dL_countWithin_4 (fun sz9 => c_X3_countWithin l hst D cyI cyZ (h 0) (h 1) (h 2) (h 3) (h 4) (h 5) (h 6) (h 7) (h 8) (h 9) (h 10) (h 11) (h 12) (h 13) (h 14) (h 15) (h 16) σ p0 (.inl xA) σ2 ez sz9) 0 rfl rfl rfl ⟨rfl, rfl, rfl, rfl⟩ rfl (Nat.le_of_ble_eq_true rfl) ⟨Nat.le_of_ble_eq_true rfl, Nat.le_of_ble_eq_true rfl, Nat.le_of_ble_eq_true rfl, Nat.le_of_ble_eq_true rfl⟩ zpass0 (by decide) (by decide) zw_L_k13 (zin2 185 rfl rfl) rfl (fun q9 => ?_)
      refine zq_sub [] [] rfl ?_
      refine zq_astore_n (q := 13) (lv2 := [(3, .ref q9)]) G dL_countWithin_12 rfl (by decide) rfl rfl ?_
      refine zq_iconst (q := 14) (v := 1) G dL_countWithin_13 rfl rfl ?_
      exact zq_hret G hlocks hr dL_countWithin_14 (Nat.le_of_ble_eq_true rfl) (Nat.le_of_ble_eq_true rfl) rfl ⟨g, fun c9 => absurd c9 (by decide), rfl⟩
    | k + 1, hk => first | exact nomatch hk | simp at hk
set_option maxHeartbeats 4000000 in
set_option maxRecDepth 100000 in
theorem h_sumOf (l : Launch) (hst : l.stackTraces = false) (D : va_G) (cyI cyZ cyJ cyD : ClassId) (h : Nat → Nat) (o : Nat) (σ : zC) (g : Nat → Int64) (p0 : Int32) (z : Sum String Int32) (b th : Int32) (ez : s_X3_sumOf σ p0 = some z) (hT : TH [xA] z b th) (sz : Nat) : zMh l yL_sumOf cL_sumOf 4 [(0, 9, 12, 13)] D cyI cyZ cyJ cyD sz [.ref (h 0), .int p0, .ref o] (w_H cyI cyZ cyJ h o σ g) th (fun W9 => ∃ g2 : Nat → Int64, (th = 0 → g2 ((0 : Int32).toNatClampNeg) = b.toInt64) ∧ W9 = (w_H cyI cyZ cyJ h o σ g2)) := by
  refine zstartH (lv0 := [(0, .ref (h 0)), (1, .int p0), (2, .ref o)]) (by decide) (Nat.le_of_ble_eq_true rfl) rfl (fun p e s m args below meth c G hJ hr hlocks ht => ?_)
  refine zq_aload_n (q := 1) G dL_sumOf_0 2 rfl rfl rfl ?_
  refine zq_iconst (q := 2) (v := 0) G dL_sumOf_1 rfl rfl ?_
  refine zq_aload_n (q := 3) G dL_sumOf_2 0 rfl rfl rfl ?_
  refine zq_iload_n (q := 4) G dL_sumOf_3 1 rfl rfl rfl ?_
  rcases hT with ⟨rfl, rfl⟩ | ⟨k, nm, hk, rfl, rfl⟩
  · refine zq_callVi (q := 7) (ws2 := (w_H cyI cyZ cyJ h o σ g)) (isC := [0, 1, 2, 3, 4, 5, 6, 7, 8, 9, 10, 11, 12, 13, 14, 15, 16]) (isR := [17]) (perm := [1, 2, 3, 4, 5, 6, 7, 8, 9, 10, 11, 12, 13, 14, 15, 16, 17, 0]) (rest := [.int 0, .ref o]) (As := [.int p0]) G zs_L_82 dL_sumOf_4 (fun sz9 => zXi_ret (c_X3_sumOf l hst D cyI cyZ (h 0) (h 1) (h 2) (h 3) (h 4) (h 5) (h 6) (h 7) (h 8) (h 9) (h 10) (h 11) (h 12) (h 13) (h 14) (h 15) (h 16) σ p0 (.inr b) ez sz9)) 0 rfl rfl rfl ⟨rfl, rfl, rfl, rfl⟩ rfl (Nat.le_of_ble_eq_true rfl) ⟨Nat.le_of_ble_eq_true rfl, Nat.le_of_ble_eq_true rfl, Nat.zero_le _, Nat.zero_le _⟩ rfl ?_
    refine zq_i2l (q := 8) G dL_sumOf_7 rfl ?_
    refine zq_last (q := 9) (ws2 := (w_H cyI cyZ cyJ h o σ (vp_updL g ((0 : Int32).toNatClampNeg) b.toInt64))) G hJ dL_sumOf_8 17 rfl rfl rfl rfl ?_
    refine zq_goto (q := 15) G dL_sumOf_9 (by decide) ?_
    refine zq_iconst (q := 16) (v := 0) G dL_sumOf_15 rfl rfl ?_
    exact zq_hret G hlocks hr dL_sumOf_16 (Nat.le_of_ble_eq_true rfl) (Nat.le_of_ble_eq_true rfl) rfl ⟨_, fun _ => upd0J g _, rfl⟩
  · match k, hk with
    | 0, hk =>
      cases hk
      refine zq_tryX (q := 12) (pre := []) (x := ⟨0, 9, 12, 13⟩) (suf := []) (ws2 := (w_H cyI cyZ cyJ h o σ g)) (isC := [0, 1, 2, 3, 4, 5, 6, 7, 8, 9, 10, 11, 12, 13, 14, 15, 16]) (isR := [17]) (perm := [1, 2, 3, 4, 5, 6, 7, 8, 9, 10, 11, 12, 13, 14, 15, 16, 17, 0]) (rest := [.int 0, .ref o]) (As := [.int p0]) G (ht.trans rfl) zs_L_82 dL_sumOf_4 (fun sz9 => c_X3_sumOf l hst D cyI cyZ (h 0) (h 1) (h 2) (h 3) (h 4) (h 5) (h 6) (h 7) (h 8) (h 9) (h 10) (h 11) (h 12) (h 13) (h 14) (h 15) (h 16) σ p0 (.inl xA) ez sz9) 0 rfl rfl rfl ⟨rfl, rfl, rfl, rfl⟩ rfl (Nat.le_of_ble_eq_true rfl) ⟨Nat.le_of_ble_eq_true rfl, Nat.le_of_ble_eq_true rfl, Nat.le_of_ble_eq_true rfl, Nat.le_of_ble_eq_true rfl⟩ zpass0 (by decide) (by decide) zw_L_k13 (zin2 185 rfl rfl) rfl (fun q9 => ?_)
      refine zq_sub [] [] rfl ?_
      refine zq_astore_n (q := 13) (lv2 := [(3, .ref q9)]) G dL_sumOf_12 rfl (by decide) rfl rfl ?_
      refine zq_iconst (q := 14) (v := 1) G dL_sumOf_13 rfl rfl ?_
      exact zq_hret G hlocks hr dL_sumOf_14 (Nat.le_of_ble_eq_true rfl) (Nat.le_of_ble_eq_true rfl) rfl ⟨g, fun c9 => absurd c9 (by decide), rfl⟩
    | k + 1, hk => first | exact nomatch hk | simp at hk
set_option maxHeartbeats 4000000 in
set_option maxRecDepth 100000 in
theorem h_startEnumeration (l : Launch) (hst : l.stackTraces = false) (D : va_G) (cyI cyZ cyJ cyD : ClassId) (h : Nat → Nat) (o : Nat) (σ σ2 : zC) (g : Nat → Int64)  (z : Sum String Int32) (b th : Int32) (ez : s_X3_startEnumeration σ  = some (z, σ2)) (hT : TH [xS] z b th) (sz : Nat) : zMh l yL_startEnumeration cL_startEnumeration 3 [(0, 8, 11, 38)] D cyI cyZ cyJ cyD sz [.ref (h 0), .ref o] (w_H cyI cyZ cyJ h o σ g) th (fun W9 => ∃ g2 : Nat → Int64, (th = 0 → g2 ((0 : Int32).toNatClampNeg) = b.toInt64) ∧ W9 = (w_H cyI cyZ cyJ h o σ2 g2)) := by
  refine zstartH (lv0 := [(0, .ref (h 0)), (1, .ref o)]) (by decide) (Nat.le_of_ble_eq_true rfl) rfl (fun p e s m args below meth c G hJ hr hlocks ht => ?_)
  refine zq_aload_n (q := 1) G dL_startEnumeration_0 1 rfl rfl rfl ?_
  refine zq_iconst (q := 2) (v := 0) G dL_startEnumeration_1 rfl rfl ?_
  refine zq_aload_n (q := 3) G dL_startEnumeration_2 0 rfl rfl rfl ?_
  rcases hT with ⟨rfl, rfl⟩ | ⟨k, nm, hk, rfl, rfl⟩
  · refine zq_callVi (q := 6) (ws2 := (w_H cyI cyZ cyJ h o σ2 g)) (isC := [0, 1, 2, 3, 4, 5, 6, 7, 8, 9, 10, 11, 12, 13, 14, 15, 16]) (isR := [17]) (perm := [1, 2, 3, 4, 5, 6, 7, 8, 9, 10, 11, 12, 13, 14, 15, 16, 17, 0]) (rest := [.int 0, .ref o]) (As := []) G zs_L_85 dL_startEnumeration_3 (fun sz9 => zXi_ret (c_X3_startEnumeration l hst D cyI cyZ (h 0) (h 1) (h 2) (h 3) (h 4) (h 5) (h 6) (h 7) (h 8) (h 9) (h 10) (h 11) (h 12) (h 13) (h 14) (h 15) (h 16) σ  (.inr b) σ2 ez sz9)) 0 rfl rfl rfl ⟨rfl, rfl, rfl, rfl⟩ rfl (Nat.le_of_ble_eq_true rfl) ⟨Nat.le_of_ble_eq_true rfl, Nat.le_of_ble_eq_true rfl, Nat.zero_le _, Nat.zero_le _⟩ rfl ?_
    refine zq_i2l (q := 7) G dL_startEnumeration_6 rfl ?_
    refine zq_last (q := 8) (ws2 := (w_H cyI cyZ cyJ h o σ2 (vp_updL g ((0 : Int32).toNatClampNeg) b.toInt64))) G hJ dL_startEnumeration_7 17 rfl rfl rfl rfl ?_
    refine zq_goto (q := 14) G dL_startEnumeration_8 (by decide) ?_
    refine zq_iconst (q := 15) (v := 0) G dL_startEnumeration_14 rfl rfl ?_
    exact zq_hret G hlocks hr dL_startEnumeration_15 (Nat.le_of_ble_eq_true rfl) (Nat.le_of_ble_eq_true rfl) rfl ⟨_, fun _ => upd0J g _, rfl⟩
  · match k, hk with
    | 0, hk =>
      cases hk
      refine zq_tryX (q := 11) (pre := []) (x := ⟨0, 8, 11, 38⟩) (suf := []) (ws2 := (w_H cyI cyZ cyJ h o σ2 g)) (isC := [0, 1, 2, 3, 4, 5, 6, 7, 8, 9, 10, 11, 12, 13, 14, 15, 16]) (isR := [17]) (perm := [1, 2, 3, 4, 5, 6, 7, 8, 9, 10, 11, 12, 13, 14, 15, 16, 17, 0]) (rest := [.int 0, .ref o]) (As := []) G (ht.trans rfl) zs_L_85 dL_startEnumeration_3 (fun sz9 => c_X3_startEnumeration l hst D cyI cyZ (h 0) (h 1) (h 2) (h 3) (h 4) (h 5) (h 6) (h 7) (h 8) (h 9) (h 10) (h 11) (h 12) (h 13) (h 14) (h 15) (h 16) σ  (.inl xS) σ2 ez sz9) 0 rfl rfl rfl ⟨rfl, rfl, rfl, rfl⟩ rfl (Nat.le_of_ble_eq_true rfl) ⟨Nat.le_of_ble_eq_true rfl, Nat.le_of_ble_eq_true rfl, Nat.le_of_ble_eq_true rfl, Nat.le_of_ble_eq_true rfl⟩ zpass0 (by decide) (by decide) zw_L_k38 (zin3 46 rfl rfl) rfl (fun q9 => ?_)
      refine zq_sub [] [] rfl ?_
      refine zq_astore_n (q := 12) (lv2 := [(2, .ref q9)]) G dL_startEnumeration_11 rfl (by decide) rfl rfl ?_
      refine zq_iconst (q := 13) (v := 1) G dL_startEnumeration_12 rfl rfl ?_
      exact zq_hret G hlocks hr dL_startEnumeration_13 (Nat.le_of_ble_eq_true rfl) (Nat.le_of_ble_eq_true rfl) rfl ⟨g, fun c9 => absurd c9 (by decide), rfl⟩
    | k + 1, hk => first | exact nomatch hk | simp at hk
set_option maxHeartbeats 4000000 in
set_option maxRecDepth 100000 in
theorem h_nextSum (l : Launch) (hst : l.stackTraces = false) (D : va_G) (cyI cyZ cyJ cyD : ClassId) (h : Nat → Nat) (o : Nat) (σ σ2 : zC) (g : Nat → Int64)  (z : Sum String Int32) (b th : Int32) (ez : s_X3_nextSum σ  = some (z, σ2)) (hT : TH [xS, xN] z b th) (sz : Nat) : zMh l yL_nextSum cL_nextSum 3 [(0, 8, 11, 38), (0, 8, 14, 91)] D cyI cyZ cyJ cyD sz [.ref (h 0), .ref o] (w_H cyI cyZ cyJ h o σ g) th (fun W9 => ∃ g2 : Nat → Int64, (th = 0 → g2 ((0 : Int32).toNatClampNeg) = b.toInt64) ∧ W9 = (w_H cyI cyZ cyJ h o σ2 g2)) := by
  refine zstartH (lv0 := [(0, .ref (h 0)), (1, .ref o)]) (by decide) (Nat.le_of_ble_eq_true rfl) rfl (fun p e s m args below meth c G hJ hr hlocks ht => ?_)
  refine zq_aload_n (q := 1) G dL_nextSum_0 1 rfl rfl rfl ?_
  refine zq_iconst (q := 2) (v := 0) G dL_nextSum_1 rfl rfl ?_
  refine zq_aload_n (q := 3) G dL_nextSum_2 0 rfl rfl rfl ?_
  rcases hT with ⟨rfl, rfl⟩ | ⟨k, nm, hk, rfl, rfl⟩
  · refine zq_callVi (q := 6) (ws2 := (w_H cyI cyZ cyJ h o σ2 g)) (isC := [0, 1, 2, 3, 4, 5, 6, 7, 8, 9, 10, 11, 12, 13, 14, 15, 16]) (isR := [17]) (perm := [1, 2, 3, 4, 5, 6, 7, 8, 9, 10, 11, 12, 13, 14, 15, 16, 17, 0]) (rest := [.int 0, .ref o]) (As := []) G zs_L_88 dL_nextSum_3 (fun sz9 => zXi_ret (c_X3_nextSum l hst D cyI cyZ (h 0) (h 1) (h 2) (h 3) (h 4) (h 5) (h 6) (h 7) (h 8) (h 9) (h 10) (h 11) (h 12) (h 13) (h 14) (h 15) (h 16) σ  (.inr b) σ2 ez sz9)) 0 rfl rfl rfl ⟨rfl, rfl, rfl, rfl⟩ rfl (Nat.le_of_ble_eq_true rfl) ⟨Nat.le_of_ble_eq_true rfl, Nat.le_of_ble_eq_true rfl, Nat.zero_le _, Nat.zero_le _⟩ rfl ?_
    refine zq_i2l (q := 7) G dL_nextSum_6 rfl ?_
    refine zq_last (q := 8) (ws2 := (w_H cyI cyZ cyJ h o σ2 (vp_updL g ((0 : Int32).toNatClampNeg) b.toInt64))) G hJ dL_nextSum_7 17 rfl rfl rfl rfl ?_
    refine zq_goto (q := 17) G dL_nextSum_8 (by decide) ?_
    refine zq_iconst (q := 18) (v := 0) G dL_nextSum_17 rfl rfl ?_
    exact zq_hret G hlocks hr dL_nextSum_18 (Nat.le_of_ble_eq_true rfl) (Nat.le_of_ble_eq_true rfl) rfl ⟨_, fun _ => upd0J g _, rfl⟩
  · match k, hk with
    | 0, hk =>
      cases hk
      refine zq_tryX (q := 11) (pre := []) (x := ⟨0, 8, 11, 38⟩) (suf := [⟨0, 8, 14, 91⟩]) (ws2 := (w_H cyI cyZ cyJ h o σ2 g)) (isC := [0, 1, 2, 3, 4, 5, 6, 7, 8, 9, 10, 11, 12, 13, 14, 15, 16]) (isR := [17]) (perm := [1, 2, 3, 4, 5, 6, 7, 8, 9, 10, 11, 12, 13, 14, 15, 16, 17, 0]) (rest := [.int 0, .ref o]) (As := []) G (ht.trans rfl) zs_L_88 dL_nextSum_3 (fun sz9 => c_X3_nextSum l hst D cyI cyZ (h 0) (h 1) (h 2) (h 3) (h 4) (h 5) (h 6) (h 7) (h 8) (h 9) (h 10) (h 11) (h 12) (h 13) (h 14) (h 15) (h 16) σ  (.inl xS) σ2 ez sz9) 0 rfl rfl rfl ⟨rfl, rfl, rfl, rfl⟩ rfl (Nat.le_of_ble_eq_true rfl) ⟨Nat.le_of_ble_eq_true rfl, Nat.le_of_ble_eq_true rfl, Nat.le_of_ble_eq_true rfl, Nat.le_of_ble_eq_true rfl⟩ zpass0 (by decide) (by decide) zw_L_k38 (zin3 46 rfl rfl) rfl (fun q9 => ?_)
      refine zq_sub [] [] rfl ?_
      refine zq_astore_n (q := 12) (lv2 := [(2, .ref q9)]) G dL_nextSum_11 rfl (by decide) rfl rfl ?_
      refine zq_iconst (q := 13) (v := 1) G dL_nextSum_12 rfl rfl ?_
      exact zq_hret G hlocks hr dL_nextSum_13 (Nat.le_of_ble_eq_true rfl) (Nat.le_of_ble_eq_true rfl) rfl ⟨g, fun c9 => absurd c9 (by decide), rfl⟩
    | 1, hk =>
      cases hk
      refine zq_tryX (q := 14) (pre := [⟨0, 8, 11, 38⟩]) (x := ⟨0, 8, 14, 91⟩) (suf := []) (ws2 := (w_H cyI cyZ cyJ h o σ2 g)) (isC := [0, 1, 2, 3, 4, 5, 6, 7, 8, 9, 10, 11, 12, 13, 14, 15, 16]) (isR := [17]) (perm := [1, 2, 3, 4, 5, 6, 7, 8, 9, 10, 11, 12, 13, 14, 15, 16, 17, 0]) (rest := [.int 0, .ref o]) (As := []) G (ht.trans rfl) zs_L_88 dL_nextSum_3 (fun sz9 => c_X3_nextSum l hst D cyI cyZ (h 0) (h 1) (h 2) (h 3) (h 4) (h 5) (h 6) (h 7) (h 8) (h 9) (h 10) (h 11) (h 12) (h 13) (h 14) (h 15) (h 16) σ  (.inl xN) σ2 ez sz9) 0 rfl rfl rfl ⟨rfl, rfl, rfl, rfl⟩ rfl (Nat.le_of_ble_eq_true rfl) ⟨Nat.le_of_ble_eq_true rfl, Nat.le_of_ble_eq_true rfl, Nat.le_of_ble_eq_true rfl, Nat.le_of_ble_eq_true rfl⟩ (zpassC (by decide) zw_L_k38 (List.mem_of_getElem? (i := 3) rfl) zpass0) (by decide) (by decide) zw_L_k91 (zin3 197 rfl rfl) rfl (fun q9 => ?_)
      refine zq_sub [] [] rfl ?_
      refine zq_astore_n (q := 15) (lv2 := [(2, .ref q9)]) G dL_nextSum_14 rfl (by decide) rfl rfl ?_
      refine zq_iconst (q := 16) (v := 2) G dL_nextSum_15 rfl rfl ?_
      exact zq_hret G hlocks hr dL_nextSum_16 (Nat.le_of_ble_eq_true rfl) (Nat.le_of_ble_eq_true rfl) rfl ⟨g, fun c9 => absurd c9 (by decide), rfl⟩
    | k + 2, hk => first | exact nomatch hk | simp at hk
set_option maxHeartbeats 4000000 in
set_option maxRecDepth 100000 in
theorem h_currentColumn (l : Launch) (hst : l.stackTraces = false) (D : va_G) (cyI cyZ cyJ cyD : ClassId) (h : Nat → Nat) (o : Nat) (σ : zC) (g : Nat → Int64) (p0 : Int32) (z : Sum String Int32) (b th : Int32) (ez : s_X3_currentColumn σ p0 = some z) (hT : TH [xO, xS] z b th) (sz : Nat) : zMh l yL_currentColumn cL_currentColumn 4 [(0, 9, 12, 19), (0, 9, 15, 38)] D cyI cyZ cyJ cyD sz [.ref (h 0), .int p0, .ref o] (w_H cyI cyZ cyJ h o σ g) th (fun W9 => ∃ g2 : Nat → Int64, (th = 0 → g2 ((0 : Int32).toNatClampNeg) = b.toInt64) ∧ W9 = (w_H cyI cyZ cyJ h o σ g2)) := by
  refine zstartH (lv0 := [(0, .ref (h 0)), (1, .int p0), (2, .ref o)]) (by decide) (Nat.le_of_ble_eq_true rfl) rfl (fun p e s m args below meth c G hJ hr hlocks ht => ?_)
  refine zq_aload_n (q := 1) G dL_currentColumn_0 2 rfl rfl rfl ?_
  refine zq_iconst (q := 2) (v := 0) G dL_currentColumn_1 rfl rfl ?_
  refine zq_aload_n (q := 3) G dL_currentColumn_2 0 rfl rfl rfl ?_
  refine zq_iload_n (q := 4) G dL_currentColumn_3 1 rfl rfl rfl ?_
  rcases hT with ⟨rfl, rfl⟩ | ⟨k, nm, hk, rfl, rfl⟩
  · refine zq_callVi (q := 7) (ws2 := (w_H cyI cyZ cyJ h o σ g)) (isC := [0, 1, 2, 3, 4, 5, 6, 7, 8, 9, 10, 11, 12, 13, 14, 15, 16]) (isR := [17]) (perm := [1, 2, 3, 4, 5, 6, 7, 8, 9, 10, 11, 12, 13, 14, 15, 16, 17, 0]) (rest := [.int 0, .ref o]) (As := [.int p0]) G zs_L_93 dL_currentColumn_4 (fun sz9 => zXi_ret (c_X3_currentColumn l hst D cyI cyZ (h 0) (h 1) (h 2) (h 3) (h 4) (h 5) (h 6) (h 7) (h 8) (h 9) (h 10) (h 11) (h 12) (h 13) (h 14) (h 15) (h 16) σ p0 (.inr b) ez sz9)) 0 rfl rfl rfl ⟨rfl, rfl, rfl, rfl⟩ rfl (Nat.le_of_ble_eq_true rfl) ⟨Nat.le_of_ble_eq_true rfl, Nat.le_of_ble_eq_true rfl, Nat.zero_le _, Nat.zero_le _⟩ rfl ?_
    refine zq_i2l (q := 8) G dL_currentColumn_7 rfl ?_
    refine zq_last (q := 9) (ws2 := (w_H cyI cyZ cyJ h o σ (vp_updL g ((0 : Int32).toNatClampNeg) b.toInt64))) G hJ dL_currentColumn_8 17 rfl rfl rfl rfl ?_
    refine zq_goto (q := 18) G dL_currentColumn_9 (by decide) ?_
    refine zq_iconst (q := 19) (v := 0) G dL_currentColumn_18 rfl rfl ?_
    exact zq_hret G hlocks hr dL_currentColumn_19 (Nat.le_of_ble_eq_true rfl) (Nat.le_of_ble_eq_true rfl) rfl ⟨_, fun _ => upd0J g _, rfl⟩
  · match k, hk with
    | 0, hk =>
      cases hk
      refine zq_tryX (q := 12) (pre := []) (x := ⟨0, 9, 12, 19⟩) (suf := [⟨0, 9, 15, 38⟩]) (ws2 := (w_H cyI cyZ cyJ h o σ g)) (isC := [0, 1, 2, 3, 4, 5, 6, 7, 8, 9, 10, 11, 12, 13, 14, 15, 16]) (isR := [17]) (perm := [1, 2, 3, 4, 5, 6, 7, 8, 9, 10, 11, 12, 13, 14, 15, 16, 17, 0]) (rest := [.int 0, .ref o]) (As := [.int p0]) G (ht.trans rfl) zs_L_93 dL_currentColumn_4 (fun sz9 => c_X3_currentColumn l hst D cyI cyZ (h 0) (h 1) (h 2) (h 3) (h 4) (h 5) (h 6) (h 7) (h 8) (h 9) (h 10) (h 11) (h 12) (h 13) (h 14) (h 15) (h 16) σ p0 (.inl xO) ez sz9) 0 rfl rfl rfl ⟨rfl, rfl, rfl, rfl⟩ rfl (Nat.le_of_ble_eq_true rfl) ⟨Nat.le_of_ble_eq_true rfl, Nat.le_of_ble_eq_true rfl, Nat.le_of_ble_eq_true rfl, Nat.le_of_ble_eq_true rfl⟩ zpass0 (by decide) (by decide) zw_L_k19 (zin2 80 rfl rfl) rfl (fun q9 => ?_)
      refine zq_sub [] [] rfl ?_
      refine zq_astore_n (q := 13) (lv2 := [(3, .ref q9)]) G dL_currentColumn_12 rfl (by decide) rfl rfl ?_
      refine zq_iconst (q := 14) (v := 1) G dL_currentColumn_13 rfl rfl ?_
      exact zq_hret G hlocks hr dL_currentColumn_14 (Nat.le_of_ble_eq_true rfl) (Nat.le_of_ble_eq_true rfl) rfl ⟨g, fun c9 => absurd c9 (by decide), rfl⟩
    | 1, hk =>
      cases hk
      refine zq_tryX (q := 15) (pre := [⟨0, 9, 12, 19⟩]) (x := ⟨0, 9, 15, 38⟩) (suf := []) (ws2 := (w_H cyI cyZ cyJ h o σ g)) (isC := [0, 1, 2, 3, 4, 5, 6, 7, 8, 9, 10, 11, 12, 13, 14, 15, 16]) (isR := [17]) (perm := [1, 2, 3, 4, 5, 6, 7, 8, 9, 10, 11, 12, 13, 14, 15, 16, 17, 0]) (rest := [.int 0, .ref o]) (As := [.int p0]) G (ht.trans rfl) zs_L_93 dL_currentColumn_4 (fun sz9 => c_X3_currentColumn l hst D cyI cyZ (h 0) (h 1) (h 2) (h 3) (h 4) (h 5) (h 6) (h 7) (h 8) (h 9) (h 10) (h 11) (h 12) (h 13) (h 14) (h 15) (h 16) σ p0 (.inl xS) ez sz9) 0 rfl rfl rfl ⟨rfl, rfl, rfl, rfl⟩ rfl (Nat.le_of_ble_eq_true rfl) ⟨Nat.le_of_ble_eq_true rfl, Nat.le_of_ble_eq_true rfl, Nat.le_of_ble_eq_true rfl, Nat.le_of_ble_eq_true rfl⟩ (zpassC (by decide) zw_L_k19 (List.mem_of_getElem? (i := 1) rfl) zpass0) (by decide) (by decide) zw_L_k38 (zin3 46 rfl rfl) rfl (fun q9 => ?_)
      refine zq_sub [] [] rfl ?_
      refine zq_astore_n (q := 16) (lv2 := [(3, .ref q9)]) G dL_currentColumn_15 rfl (by decide) rfl rfl ?_
      refine zq_iconst (q := 17) (v := 2) G dL_currentColumn_16 rfl rfl ?_
      exact zq_hret G hlocks hr dL_currentColumn_17 (Nat.le_of_ble_eq_true rfl) (Nat.le_of_ble_eq_true rfl) rfl ⟨g, fun c9 => absurd c9 (by decide), rfl⟩
    | k + 2, hk => first | exact nomatch hk | simp at hk
set_option maxHeartbeats 4000000 in
set_option maxRecDepth 100000 in
theorem h_shareOfX (l : Launch) (hst : l.stackTraces = false) (D : va_G) (cyI cyZ cyJ cyD : ClassId) (h : Nat → Nat) (o : Nat) (σ : zC) (g : Nat → UInt64) (p0 : Int32) (ez : s_X3_requireRow σ p0 = some (.inl xO)) (sz : Nat) : zMh l yL_shareOf cL_shareOf 4 [(0, 9, 12, 19)] D cyI cyZ cyJ cyD sz [.ref (h 0), .int p0, .ref o] (w_HD cyI cyZ cyD h o σ g) 1 (fun W9 => ∃ g2 : Nat → UInt64, W9 = (w_HD cyI cyZ cyD h o σ g2)) := by
  refine zstartH (lv0 := [(0, .ref (h 0)), (1, .int p0), (2, .ref o)]) (by decide) (Nat.le_of_ble_eq_true rfl) rfl (fun p e s m args below meth c G hJ hr hlocks ht => ?_)
  refine zq_aload_n (q := 1) G dL_shareOf_0 2 rfl rfl rfl ?_
  refine zq_iconst (q := 2) (v := 0) G dL_shareOf_1 rfl rfl ?_
  refine zq_aload_n (q := 3) G dL_shareOf_2 0 rfl rfl rfl ?_
  refine zq_iload_n (q := 4) G dL_shareOf_3 1 rfl rfl rfl ?_
  refine zq_tryXf (q := 12) (pre := []) (x := ⟨0, 9, 12, 19⟩) (suf := []) (ws2 := (w_HD cyI cyZ cyD h o σ g)) (isC := [0, 1, 2, 3, 4, 5, 6, 7, 8, 9, 10, 11, 12, 13, 14, 15, 16]) (isR := [17]) (perm := [1, 2, 3, 4, 5, 6, 7, 8, 9, 10, 11, 12, 13, 14, 15, 16, 17, 0]) (rest := [.int 0, .ref o]) (As := [.int p0]) G (ht.trans rfl) zs_L_96 dL_shareOf_4 (fun sz9 => c_X3_shareOfX l hst D cyI cyZ (h 0) (h 1) (h 2) (h 3) (h 4) (h 5) (h 6) (h 7) (h 8) (h 9) (h 10) (h 11) (h 12) (h 13) (h 14) (h 15) (h 16) σ p0 xO ez sz9) 0 rfl rfl rfl ⟨rfl, rfl, rfl, rfl⟩ rfl (Nat.le_of_ble_eq_true rfl) ⟨Nat.le_of_ble_eq_true rfl, Nat.le_of_ble_eq_true rfl, Nat.le_of_ble_eq_true rfl, Nat.le_of_ble_eq_true rfl⟩ zpass0 (by decide) (by decide) zw_L_k19 (zin2 80 rfl rfl) rfl (fun q9 => ?_)
  refine zq_sub [] [] rfl ?_
  refine zq_astore_n (q := 13) (lv2 := [(3, .ref q9)]) G dL_shareOf_12 rfl (by decide) rfl rfl ?_
  refine zq_iconst (q := 14) (v := 1) G dL_shareOf_13 rfl rfl ?_
  exact zq_hret G hlocks hr dL_shareOf_14 (Nat.le_of_ble_eq_true rfl) (Nat.le_of_ble_eq_true rfl) rfl ⟨g, rfl⟩
set_option maxHeartbeats 4000000 in
set_option maxRecDepth 100000 in
theorem h_shareOfV (l : Launch) (D : va_G) (cyI cyZ cyJ cyD : ClassId) (h : Nat → Nat) (o : Nat) (σ σ2 : zC) (g : Nat → UInt64) (p0 : Int32) (r : UInt32) (hok : okF r) (hM : ∀ sz : Nat, zMf l yX3_shareOf cX3_shareOf 3 9 152 D cyI cyZ sz [.ref (h 0), .int p0] (w_C cyI cyZ (h 0) (h 1) (h 2) (h 3) (h 4) (h 5) (h 6) (h 7) (h 8) (h 9) (h 10) (h 11) (h 12) (h 13) (h 14) (h 15) (h 16) σ) r (w_C cyI cyZ (h 0) (h 1) (h 2) (h 3) (h 4) (h 5) (h 6) (h 7) (h 8) (h 9) (h 10) (h 11) (h 12) (h 13) (h 14) (h 15) (h 16) σ2)) (sz : Nat) : zMh l yL_shareOf cL_shareOf 4 [(0, 9, 12, 19)] D cyI cyZ cyJ cyD sz [.ref (h 0), .int p0, .ref o] (w_HD cyI cyZ cyD h o σ g) 0 (fun W9 => ∃ g2 : Nat → UInt64, g2 ((0 : Int32).toNatClampNeg) = FP.f2d r ∧ W9 = (w_HD cyI cyZ cyD h o σ2 g2)) := by
  refine zstartH (lv0 := [(0, .ref (h 0)), (1, .int p0), (2, .ref o)]) (by decide) (Nat.le_of_ble_eq_true rfl) rfl (fun p e s m args below meth c G hJ hr hlocks ht => ?_)
  refine zq_aload_n (q := 1) G dL_shareOf_0 2 rfl rfl rfl ?_
  refine zq_iconst (q := 2) (v := 0) G dL_shareOf_1 rfl rfl ?_
  refine zq_aload_n (q := 3) G dL_shareOf_2 0 rfl rfl rfl ?_
  refine zq_iload_n (q := 4) G dL_shareOf_3 1 rfl rfl rfl ?_
  refine zq_callVf (q := 7) (ws2 := (w_HD cyI cyZ cyD h o σ2 g)) (isC := [0, 1, 2, 3, 4, 5, 6, 7, 8, 9, 10, 11, 12, 13, 14, 15, 16]) (isR := [17]) (perm := [1, 2, 3, 4, 5, 6, 7, 8, 9, 10, 11, 12, 13, 14, 15, 16, 17, 0]) (rest := [.int 0, .ref o]) (As := [.int p0]) G zs_L_96 dL_shareOf_4 (fun sz9 => hM sz9) 0 rfl rfl rfl ⟨rfl, rfl, rfl, rfl⟩ rfl (Nat.le_of_ble_eq_true rfl) ⟨Nat.le_of_ble_eq_true rfl, Nat.le_of_ble_eq_true rfl, Nat.zero_le _, Nat.zero_le _⟩ rfl ?_
  refine zq_f2d (q := 8) G dL_shareOf_7 hok.2.1 rfl ?_
  refine zq_dast (q := 9) (ws2 := (w_HD cyI cyZ cyD h o σ2 (vf_upd g ((0 : Int32).toNatClampNeg) (FP.f2d r)))) G hJ dL_shareOf_8 17 rfl rfl rfl rfl ?_
  refine zq_goto (q := 15) G dL_shareOf_9 (by decide) ?_
  refine zq_iconst (q := 16) (v := 0) G dL_shareOf_15 rfl rfl ?_
  exact zq_hret G hlocks hr dL_shareOf_16 (Nat.le_of_ble_eq_true rfl) (Nat.le_of_ble_eq_true rfl) rfl ⟨_, upd0D g _, rfl⟩
