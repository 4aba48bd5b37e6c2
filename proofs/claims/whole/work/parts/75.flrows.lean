/-! ===== floats and doubles: contracts, rows ===== -/
def zQd (D : va_G) (cyI cyZ : ClassId) (sz : Nat) (W0 : va_W) (r : UInt64) (W1 : va_W) : Array Value → State → Outcome → State → Prop := va_Qd (fun r2 (_ : Unit) => r2 = r) (fun _ t => zEnd D cyI cyZ (va_A W0 sz) W1 t) (va_A W0 sz)
def zMd (l : Launch) (y : MethodName) (b : ByteArray) (k : Nat) (fr lo : Nat) (D : va_G) (cyI cyZ : ClassId) (sz : Nat) (av : List Value) (W0 : va_W) (r : UInt64) (W1 : va_W) : Prop :=
  Met l y (zws y b k (some .double)) { frames := fr, cells := 0, slots := 0, locals := lo } (va_Pc av (zPre D cyI cyZ sz W0)) (zQd D cyI cyZ sz W0 r W1) 0 0 (va_A W0 sz)
def zQf (D : va_G) (cyI cyZ : ClassId) (sz : Nat) (W0 : va_W) (r : UInt32) (W1 : va_W) : Array Value → State → Outcome → State → Prop := va_Qf (fun r2 (_ : Unit) => r2 = r) (fun _ t => zEnd D cyI cyZ (va_A W0 sz) W1 t) (va_A W0 sz)
def zMf (l : Launch) (y : MethodName) (b : ByteArray) (k : Nat) (fr lo : Nat) (D : va_G) (cyI cyZ : ClassId) (sz : Nat) (av : List Value) (W0 : va_W) (r : UInt32) (W1 : va_W) : Prop :=
  Met l y (zws y b k (some .float)) { frames := fr, cells := 0, slots := 0, locals := lo } (va_Pc av (zPre D cyI cyZ sz W0)) (zQf D cyI cyZ sz W0 r W1) 0 0 (va_A W0 sz)
def zQXf (D : va_G) (cyI cyZ : ClassId) (sz : Nat) (W0 : va_W) (z : Sum String UInt32) (W1 : va_W) : Array Value → State → Outcome → State → Prop := va_Qf (fun r2 (_ : Unit) => z = .inr r2) (fun _ t => zEnd D cyI cyZ (va_A W0 sz) W1 t) (va_A W0 sz)
def zXf (l : Launch) (y : MethodName) (b : ByteArray) (k : Nat) (fr lo : Nat) (D : va_G) (cyI cyZ : ClassId) (sz : Nat) (av : List Value) (W0 : va_W) (z : Sum String UInt32) (W1 : va_W) : Prop :=
  vx_Met l y (zws y b k (some .float)) { frames := fr, cells := zmc z, slots := zms z, locals := lo } (va_Pc av (zPre D cyI cyZ sz W0)) (zQXf D cyI cyZ sz W0 z W1) (zXC D cyI cyZ sz W0 z W1) (zmc z) (zms z) (va_A W0 sz)
theorem zXf_ret {l : Launch} {y : MethodName} {b : ByteArray} {k : Nat} {fr lo : Nat} {D : va_G} {cyI cyZ : ClassId} {sz : Nat} {av : List Value} {W0 W1 : va_W} {r : UInt32} (h : zXf l y b k fr lo D cyI cyZ sz av W0 (.inr r) W1) : zMf l y b k fr lo D cyI cyZ sz av W0 r W1 := by
  unfold zMf Met
  unfold zXf vx_Met at h
  refine MetFree.mono h (fun a s h => h) (fun _ _ _ _ _ h => h) (fun a s o t _ hq => ?_)
  rcases hq with ⟨⟨⟨r2, u, h1, h2, h3⟩, h4⟩, h5⟩ | ⟨q, -, E, ce, L, ⟨u, -, ⟨hE, -⟩, -⟩, -⟩
  · exact ⟨⟨⟨r2, u, h1, (Sum.inr.inj h2).symm, h3⟩, h4⟩, h5⟩
  · exact nomatch hE
theorem zstartD {l : Launch} {y : MethodName} {b : ByteArray} {k : Nat} {fr lo : Nat} {D : va_G} {cyI cyZ : ClassId} {sz : Nat} {av : List Value} {W0 : va_W} {r : UInt64} {W1 : va_W} {lv0 : List (Nat × Value)} (hy : plainName y.cls = true) (hk : (lg_sl av).length ≤ k) (hlv : lv_args 0 av = lv0)
    (body : ∀ (p : Program) (e : Env) (s : State) (m : MethodId) (args : Array Value) (below : List Frame) (meth : Method) (c : Code), zG p s m args c b k y.cls D cyI cyZ (va_A W0 sz) → meth.sig.returnType = some .double → meth.locks = false →
      zW p l e { frames := fr, cells := 0, slots := 0, locals := lo } s m args below meth c D (va_A W0 sz) k 0 0 (MQ below (zQd D cyI cyZ sz W0 r W1) args s 0 0 (va_A W0 sz)) 0 lv0 [] W0) : zMd l y b k fr lo D cyI cyZ sz av W0 r W1 := by
  subst hlv
  refine Met.ofW (cc := b) (maxL := k) (ret := some .double) hy rfl ?_
  intro p e s m args below meth c s₁ B hml hv
  obtain ⟨rfl, hv⟩ := hv
  obtain ⟨G, hD, hsz⟩ := zG_of B hml zws_sub hv
  rw [lg_entry_eq]
  subst hsz
  exact body p e s m _ below meth c G B.returns B.notSynchronized s.heap [] _ hv.2.1 hD va_S.rf (lv_entry av hk)
theorem zstartF {l : Launch} {y : MethodName} {b : ByteArray} {k : Nat} {fr lo : Nat} {D : va_G} {cyI cyZ : ClassId} {sz : Nat} {av : List Value} {W0 : va_W} {r : UInt32} {W1 : va_W} {lv0 : List (Nat × Value)} (hy : plainName y.cls = true) (hk : (lg_sl av).length ≤ k) (hlv : lv_args 0 av = lv0)
    (body : ∀ (p : Program) (e : Env) (s : State) (m : MethodId) (args : Array Value) (below : List Frame) (meth : Method) (c : Code), zG p s m args c b k y.cls D cyI cyZ (va_A W0 sz) → meth.sig.returnType = some .float → meth.locks = false →
      zW p l e { frames := fr, cells := 0, slots := 0, locals := lo } s m args below meth c D (va_A W0 sz) k 0 0 (MQ below (zQf D cyI cyZ sz W0 r W1) args s 0 0 (va_A W0 sz)) 0 lv0 [] W0) : zMf l y b k fr lo D cyI cyZ sz av W0 r W1 := by
  subst hlv
  refine Met.ofW (cc := b) (maxL := k) (ret := some .float) hy rfl ?_
  intro p e s m args below meth c s₁ B hml hv
  obtain ⟨rfl, hv⟩ := hv
  obtain ⟨G, hD, hsz⟩ := zG_of B hml zws_sub hv
  rw [lg_entry_eq]
  subst hsz
  exact body p e s m _ below meth c G B.returns B.notSynchronized s.heap [] _ hv.2.1 hD va_S.rf (lv_entry av hk)
theorem zstartXF {l : Launch} {y : MethodName} {b : ByteArray} {k : Nat} {fr lo : Nat} {D : va_G} {cyI cyZ : ClassId} {sz : Nat} {av : List Value} {W0 : va_W} {z : Sum String UInt32} {W1 : va_W} {lv0 : List (Nat × Value)} (hy : plainName y.cls = true) (hk : (lg_sl av).length ≤ k) (hlv : lv_args 0 av = lv0)
    (body : ∀ (p : Program) (e : Env) (s : State) (m : MethodId) (args : Array Value) (below : List Frame) (meth : Method) (c : Code), zG p s m args c b k y.cls D cyI cyZ (va_A W0 sz) → meth.sig.returnType = some .float → meth.locks = false → (∀ x ∈ c.exceptionTable.toList, False) →
      zW p l e { frames := fr, cells := zmc z, slots := zms z, locals := lo } s m args below meth c D (va_A W0 sz) k 0 0 (vx_MQ below (zQXf D cyI cyZ sz W0 z W1) (zXC D cyI cyZ sz W0 z W1) args s (zmc z) (zms z) (va_A W0 sz)) 0 lv0 [] W0) : zXf l y b k fr lo D cyI cyZ sz av W0 z W1 := by
  subst hlv
  refine vx_ofW (cc := b) (maxL := k) (ret := some .float) hy rfl ?_
  intro p e s m args below meth c s₁ B hml ht hv
  obtain ⟨rfl, hv⟩ := hv
  obtain ⟨G, hD, hsz⟩ := zG_of B hml zws_sub hv
  rw [lg_entry_eq]
  subst hsz
  exact body p e s m _ below meth c G B.returns B.notSynchronized ht s.heap [] _ hv.2.1 hD va_S.rf (lv_entry av hk)
section ZD
variable {p : Program} {l : Launch} {e : Env} {R : Room} {s : State} {m : MethodId} {args : Array Value} {below : List Frame} {meth : Method} {c : Code} {cells slots : Nat} {Q : State → Prop}
variable {cc : ByteArray} {nL : Nat} {own : String} {D : va_G} {cyI cyZ : ClassId} {A : Nat → Prop} {pc q : Nat} {lv : List (Nat × Value)} {st rest : List Value} {ws : va_W}
theorem zq_i2d (G : zG p s m args c cc nL own D cyI cyZ A) {x : Int32} (hdg : decode cc pc = .ok (.i2d, 1)) (hq : pc + 1 = q) (k : zW p l e R s m args below meth c D A nL cells slots Q q lv (.double (FP.i2d x) :: st) ws) : zW p l e R s m args below meth c D A nL cells slots Q pc lv (.int x :: st) ws := by
  subst hq
  exact fun H locs ls hP hD hS hl => lv_i2d G.1 G.2.1 hdg (k H locs ls hP hD hS hl)
theorem zq_i2f (G : zG p s m args c cc nL own D cyI cyZ A) {x : Int32} (hdg : decode cc pc = .ok (.i2f, 1)) (hq : pc + 1 = q) (k : zW p l e R s m args below meth c D A nL cells slots Q q lv (.float (FP.i2f x) :: st) ws) : zW p l e R s m args below meth c D A nL cells slots Q pc lv (.int x :: st) ws := by
  subst hq
  exact fun H locs ls hP hD hS hl => lv_i2f G.1 G.2.1 hdg (k H locs ls hP hD hS hl)
theorem zq_f2d (G : zG p s m args c cc nL own D cyI cyZ A) {x : UInt32} (hdg : decode cc pc = .ok (.f2d, 1)) (hne : vf_n64 (FP.f2d x)) (hq : pc + 1 = q) (k : zW p l e R s m args below meth c D A nL cells slots Q q lv (.double (FP.f2d x) :: st) ws) : zW p l e R s m args below meth c D A nL cells slots Q pc lv (.float x :: st) ws := by
  subst hq
  exact fun H locs ls hP hD hS hl => lv_f2d G.1 G.2.1 hdg hne (k H locs ls hP hD hS hl)
theorem zq_ddiv (G : zG p s m args c cc nL own D cyI cyZ A) {x y : UInt64} (hdg : decode cc pc = .ok (.ddiv, 1)) (hne : vf_n64 (FP.ddiv x y)) (hq : pc + 1 = q) (k : zW p l e R s m args below meth c D A nL cells slots Q q lv (.double (FP.ddiv x y) :: st) ws) : zW p l e R s m args below meth c D A nL cells slots Q pc lv (.double y :: .double x :: st) ws := by
  subst hq
  exact fun H locs ls hP hD hS hl => lv_ddiv G.1 G.2.1 hdg hne (k H locs ls hP hD hS hl)
theorem zq_fdiv (G : zG p s m args c cc nL own D cyI cyZ A) {x y : UInt32} (hdg : decode cc pc = .ok (.fdiv, 1)) (hne : vf_n32 (FP.fdiv x y)) (hq : pc + 1 = q) (k : zW p l e R s m args below meth c D A nL cells slots Q q lv (.float (FP.fdiv x y) :: st) ws) : zW p l e R s m args below meth c D A nL cells slots Q pc lv (.float y :: .float x :: st) ws := by
  subst hq
  exact fun H locs ls hP hD hS hl => lv_fdiv G.1 G.2.1 hdg hne (k H locs ls hP hD hS hl)
theorem zq_fconst0 (G : zG p s m args c cc nL own D cyI cyZ A) (hdg : decode cc pc = .ok (.fconst 0, 1)) (hq : pc + 1 = q) (k : zW p l e R s m args below meth c D A nL cells slots Q q lv (.float FP.fconst0 :: st) ws) : zW p l e R s m args below meth c D A nL cells slots Q pc lv (st) ws := by
  subst hq
  exact fun H locs ls hP hD hS hl => lv_fconst0 G.1 G.2.1 hdg (k H locs ls hP hD hS hl)
theorem zq_dcmp (G : zG p s m args c cc nL own D cyI cyZ A) {x y : UInt64} {op : CmpOp} {v : Int32} (hdg : decode cc pc = .ok (.dcmp op, 1)) (hv : Op.cmpValue (FP.dcmp x y) op = v) (hq : pc + 1 = q) (k : zW p l e R s m args below meth c D A nL cells slots Q q lv (.int v :: st) ws) : zW p l e R s m args below meth c D A nL cells slots Q pc lv (.double y :: .double x :: st) ws := by
  subst hq hv
  exact fun H locs ls hP hD hS hl => lv_dcmp G.1 G.2.1 hdg (k H locs ls hP hD hS hl)
theorem zq_dload (G : zG p s m args c cc nL own D cyI cyZ A) {i : Nat} {x : UInt64} (hdg : decode cc pc = .ok (.dload i, 2)) (j : Nat) (hj : lv[j]? = some (i, .double x)) (hq : pc + 2 = q) (k : zW p l e R s m args below meth c D A nL cells slots Q q lv (.double x :: st) ws) : zW p l e R s m args below meth c D A nL cells slots Q pc lv (st) ws := by
  subst hq
  exact fun H locs ls hP hD hS hl => lv_dload G.1 G.2.1 hdg (lv_at hl j hj) (k H locs ls hP hD hS hl)
theorem zq_fload (G : zG p s m args c cc nL own D cyI cyZ A) {i : Nat} {x : UInt32} (hdg : decode cc pc = .ok (.fload i, 2)) (j : Nat) (hj : lv[j]? = some (i, .float x)) (hq : pc + 2 = q) (k : zW p l e R s m args below meth c D A nL cells slots Q q lv (.float x :: st) ws) : zW p l e R s m args below meth c D A nL cells slots Q pc lv (st) ws := by
  subst hq
  exact fun H locs ls hP hD hS hl => lv_fload G.1 G.2.1 hdg (lv_at hl j hj) (k H locs ls hP hD hS hl)
theorem zq_fstore (G : zG p s m args c cc nL own D cyI cyZ A) {i : Nat} {x : UInt32} {lv2 : List (Nat × Value)} (hdg : decode cc pc = .ok (.fstore i, 2)) (hn : i < nL) (hl2 : (i, Value.float x) :: lv.filter (fun q => !(q.1 == i) && !(q.1 + 1 == i && q.2.category == 2)) = lv2) (hq : pc + 2 = q) (k : zW p l e R s m args below meth c D A nL cells slots Q q lv2 st ws) : zW p l e R s m args below meth c D A nL cells slots Q pc lv (Value.float x :: st) ws := by
  subst hq
  exact fun H locs ls hP hD hS hl => lv_fstore G.1 G.2.1 hdg hl hn hl2 (fun ls2 hl3 => k H locs ls2 hP hD hS hl3)
theorem zq_dstore (G : zG p s m args c cc nL own D cyI cyZ A) {i : Nat} {x : UInt64} {lv2 : List (Nat × Value)} (hdg : decode cc pc = .ok (.dstore i, 2)) (hn : i + 1 < nL) (hl2 : (i, Value.double x) :: lv.filter (fun q => !(q.1 == i) && (!(q.1 == i + 1) && !(q.1 + 1 == i && q.2.category == 2))) = lv2) (hq : pc + 2 = q) (k : zW p l e R s m args below meth c D A nL cells slots Q q lv2 st ws) : zW p l e R s m args below meth c D A nL cells slots Q pc lv (Value.double x :: st) ws := by
  subst hq
  exact fun H locs ls hP hD hS hl => lv_dstore G.1 G.2.1 hdg hl hn hl2 (fun ls2 hl3 => k H locs ls2 hP hD hS hl3)
theorem zq_callVd (G : zG p s m args c cc nL own D cyI cyZ A) {idx : Nat} {y : MethodName} {b : ByteArray} {k fr lo : Nat} {a : Nat} {As : List Value} {W0 W1 ws2 : va_W} {r : UInt64} {isC isR perm : List Nat} (hs : zSV own idx y b k (some .double) As.length) (hdg : decode cc pc = .ok (.invokevirtual idx, 3)) (hM : ∀ sz : Nat, zMd l y b k fr lo D cyI cyZ sz (.ref a :: As) W0 r W1) {ci : Nat} {fs : List Value} {cT : u_T} {cN : Nat} (q0 : Nat) (he : ws[q0]? = some (a, .inr (ci, fs))) (hc : vwCl[ci]? = some (y.cls, cT, cN)) (hst : st = As.reverse ++ .ref a :: rest) (hcut : zCut ws W0 W1 ws2 isC isR perm) (hC : va_nd isC = true) (hcat : (rest.map fun v => v.category).sum ≤ 8) (hR : zFit R { frames := fr, cells := 0, slots := 0, locals := lo } k cells slots) (hq : pc + 3 = q) (kk : zW p l e R s m args below meth c D A nL cells slots Q q lv (.double r :: rest) ws2) : zW p l e R s m args below meth c D A nL cells slots Q pc lv st ws := by
  subst hq hst
  intro H locs ls hP hD hS hl
  obtain ⟨hF, hpre⟩ := zcutP G hcut hC hP hD hS
  have hB1 : FrameBlind (va_Pc (.ref a :: As) (zPre D cyI cyZ H.size W0)) := zPre_blind
  refine va_calld (va_runV (As := As) (rest := rest) (zfix G) (hM H.size) (zCW G hs hR) ⟨hB1, va_recv G.2.2.2.2.2.1 hP hc he, fun U hU hW => ⟨rfl, hpre U hU hW⟩⟩ rfl rfl hl.1 rfl (lv_room hcat) hdg ⟨hR.2.2.1, hR.2.2.2⟩) hS (fun q _ h => hF q h) hF (fun r2 u t H1 locs1 ht hvm hw hB hz1 hk1 hS1 => ?_)
  obtain ⟨hP1, hK1, hD1⟩ := hB
  rw [ht] at hP1
  subst hw
  obtain ⟨hP2, hD2⟩ := zjoin hcut hP hD hk1 hF hP1 hD1
  exact kk H1 locs1 ls hP2 hD2 hS1 hl
theorem zq_callVf (G : zG p s m args c cc nL own D cyI cyZ A) {idx : Nat} {y : MethodName} {b : ByteArray} {k fr lo : Nat} {a : Nat} {As : List Value} {W0 W1 ws2 : va_W} {r : UInt32} {isC isR perm : List Nat} (hs : zSV own idx y b k (some .float) As.length) (hdg : decode cc pc = .ok (.invokevirtual idx, 3)) (hM : ∀ sz : Nat, zMf l y b k fr lo D cyI cyZ sz (.ref a :: As) W0 r W1) {ci : Nat} {fs : List Value} {cT : u_T} {cN : Nat} (q0 : Nat) (he : ws[q0]? = some (a, .inr (ci, fs))) (hc : vwCl[ci]? = some (y.cls, cT, cN)) (hst : st = As.reverse ++ .ref a :: rest) (hcut : zCut ws W0 W1 ws2 isC isR perm) (hC : va_nd isC = true) (hcat : (rest.map fun v => v.category).sum ≤ 8) (hR : zFit R { frames := fr, cells := 0, slots := 0, locals := lo } k cells slots) (hq : pc + 3 = q) (kk : zW p l e R s m args below meth c D A nL cells slots Q q lv (.float r :: rest) ws2) : zW p l e R s m args below meth c D A nL cells slots Q pc lv st ws := by
  subst hq hst
  intro H locs ls hP hD hS hl
  obtain ⟨hF, hpre⟩ := zcutP G hcut hC hP hD hS
  have hB1 : FrameBlind (va_Pc (.ref a :: As) (zPre D cyI cyZ H.size W0)) := zPre_blind
  refine va_callf (va_runV (As := As) (rest := rest) (zfix G) (hM H.size) (zCW G hs hR) ⟨hB1, va_recv G.2.2.2.2.2.1 hP hc he, fun U hU hW => ⟨rfl, hpre U hU hW⟩⟩ rfl rfl hl.1 rfl (lv_room hcat) hdg ⟨hR.2.2.1, hR.2.2.2⟩) hS (fun q _ h => hF q h) hF (fun r2 u t H1 locs1 ht hvm hw hB hz1 hk1 hS1 => ?_)
  obtain ⟨hP1, hK1, hD1⟩ := hB
  rw [ht] at hP1
  subst hw
  obtain ⟨hP2, hD2⟩ := zjoin hcut hP hD hk1 hF hP1 hD1
  exact kk H1 locs1 ls hP2 hD2 hS1 hl
theorem zq_dret {sz : Nat} {W0 : va_W} {r v : UInt64} {W1 : va_W} (G : zG p s m args c cc nL own D cyI cyZ (va_A W0 sz)) (hlocks : meth.locks = false) (hr : meth.sig.returnType = some .double) (hdg : decode cc pc = .ok (.dreturn, 1)) (e9 : v = r) : zW p l e R s m args below meth c D (va_A W0 sz) nL 0 0 (MQ below (zQd D cyI cyZ sz W0 r W1) args s 0 0 (va_A W0 sz)) pc lv [.double v] W1 := fun H locs ls hP hD hS hl => W.dret G.1 G.2.1 hr (fun t ht hW => ⟨⟨v, (), rfl, e9, zend_of (locs := locs) G hP hD ht hW⟩, hS.F ht⟩) hS.2.2 hdg hlocks
theorem zq_fret {sz : Nat} {W0 : va_W} {r v : UInt32} {W1 : va_W} (G : zG p s m args c cc nL own D cyI cyZ (va_A W0 sz)) (hlocks : meth.locks = false) (hr : meth.sig.returnType = some .float) (hdg : decode cc pc = .ok (.freturn, 1)) (e9 : v = r) : zW p l e R s m args below meth c D (va_A W0 sz) nL 0 0 (MQ below (zQf D cyI cyZ sz W0 r W1) args s 0 0 (va_A W0 sz)) pc lv [.float v] W1 := fun H locs ls hP hD hS hl => W.fret G.1 G.2.1 hr (fun t ht hW => ⟨⟨v, (), rfl, e9, zend_of (locs := locs) G hP hD ht hW⟩, hS.F ht⟩) hS.2.2 hdg hlocks
theorem zq_fretX {sz : Nat} {W0 : va_W} {v : UInt32} {W1 : va_W} {z : Sum String UInt32} (G : zG p s m args c cc nL own D cyI cyZ (va_A W0 sz)) (hlocks : meth.locks = false) (hr : meth.sig.returnType = some .float) (hdg : decode cc pc = .ok (.freturn, 1)) (e9 : z = .inr v) : zW p l e R s m args below meth c D (va_A W0 sz) nL 0 0 (vx_MQ below (zQXf D cyI cyZ sz W0 z W1) (zXC D cyI cyZ sz W0 z W1) args s (zmc z) (zms z) (va_A W0 sz)) pc lv [.float v] W1 := by
  subst e9
  exact fun H locs ls hP hD hS hl => vx_ret (W.fret G.1 G.2.1 hr (fun t ht hW => ⟨⟨v, (), rfl, rfl, zend_of (locs := locs) G hP hD ht hW⟩, hS.F ht⟩) hS.2.2 hdg hlocks)
end ZD
