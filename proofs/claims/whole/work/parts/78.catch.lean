/-! ===== methods that catch; the law's rows ===== -/
abbrev ztyJ (cyJ cyD : ClassId) : List (ClassId × FieldType) := [(cyJ, .long), (cyD, .double)]
def zPreH (D : va_G) (cyI cyZ cyJ cyD : ClassId) (sz : Nat) (W0 : va_W) (U : State) : Prop := zPre D cyI cyZ sz W0 U ∧ va_K D vwCl (ztyJ cyJ cyD) U
theorem zPreH_blind {D : va_G} {cyI cyZ cyJ cyD : ClassId} {sz : Nat} {W0 : va_W} {av : List Value} : FrameBlind (va_Pc av (zPreH D cyI cyZ cyJ cyD sz W0)) := fun a U g mk q => by
  obtain ⟨q0, ⟨q1, qP, qK, qD, qX⟩, qJ⟩ := q
  exact ⟨q0, ⟨q1, qP, va_K.moved (u := U) (U := U.calling g mk a) (Vm.Alike.refl U.vm) qK, qD, zX.moved (u := U) (U := U.calling g mk a) (Vm.Alike.refl U.vm) qX⟩, va_K.moved (u := U) (U := U.calling g mk a) (Vm.Alike.refl U.vm) qJ⟩
def zQh (D : va_G) (cyI cyZ : ClassId) (sz : Nat) (W0 : va_W) (r : Int32) (P : va_W → Prop) : Array Value → State → Outcome → State → Prop := va_Qi (fun r2 (_ : Unit) => r2 = r) (fun _ t => ∃ W1, P W1 ∧ zEnd D cyI cyZ (va_A W0 sz) W1 t) (va_A W0 sz)
abbrev zRH : Room := { frames := 40, cells := 1, slots := 6, locals := 1000 }
def zMh (l : Launch) (y : MethodName) (b : ByteArray) (k : Nat) (hh : List (Nat × Nat × Nat × Nat)) (D : va_G) (cyI cyZ cyJ cyD : ClassId) (sz : Nat) (av : List Value) (W0 : va_W) (r : Int32) (P : va_W → Prop) : Prop :=
  Met l y (zwh y b k (some .int) hh) zRH (va_Pc av (zPreH D cyI cyZ cyJ cyD sz W0)) (zQh D cyI cyZ sz W0 r P) 1 6 (va_A W0 sz)
theorem zstartH {l : Launch} {y : MethodName} {b : ByteArray} {k : Nat} {hh : List (Nat × Nat × Nat × Nat)} {D : va_G} {cyI cyZ cyJ cyD : ClassId} {sz : Nat} {av : List Value} {W0 : va_W} {r : Int32} {P : va_W → Prop} {lv0 : List (Nat × Value)} (hy : plainName y.cls = true) (hk : (lg_sl av).length ≤ k) (hlv : lv_args 0 av = lv0)
    (body : ∀ (p : Program) (e : Env) (s : State) (m : MethodId) (args : Array Value) (below : List Frame) (meth : Method) (c : Code), zG p s m args c b k y.cls D cyI cyZ (va_A W0 sz) → va_K D vwCl (ztyJ cyJ cyD) s → meth.sig.returnType = some .int → meth.locks = false → c.exceptionTable.toList = tableOf hh →
      zW p l e zRH s m args below meth c D (va_A W0 sz) k 0 0 (vx_MQ below (zQh D cyI cyZ sz W0 r P) (fun _ _ _ => False) args s 1 6 (va_A W0 sz)) 0 lv0 [] W0) : zMh l y b k hh D cyI cyZ cyJ cyD sz av W0 r P := by
  subst hlv
  have h : vx_Met l y (zwh y b k (some .int) hh) zRH (va_Pc av (zPreH D cyI cyZ cyJ cyD sz W0)) (zQh D cyI cyZ sz W0 r P) (fun _ _ _ => False) 1 6 (va_A W0 sz) := by
    refine vx_ofWH (cc := b) (maxL := k) (ret := some .int) (hh := hh) hy rfl ?_
    intro p e s m args below meth c s₁ B hml hv
    obtain ⟨rfl, hv, hJ⟩ := hv
    obtain ⟨G, hD, hsz⟩ := zG_of B hml zwh_sub hv
    have ht := vx_table (x := y) B (atoms_spec (ws := zwh y b k (some .int) hh) B.pre _ List.mem_cons_self)
    rw [lg_entry_eq]
    subst hsz
    exact body p e s m _ below meth c G hJ B.returns B.notSynchronized ht s.heap [] _ hv.2.1 hD va_S.rf (lv_entry av hk)
  unfold zMh Met
  unfold vx_Met at h
  refine MetFree.mono h (fun a s h => h) (fun _ _ _ _ _ h => h) (fun a s o t _ hq => ?_)
  rcases hq with hq | ⟨q, -, E, ce, L, hE, -⟩
  · exact hq
  · exact hE.elim
section ZH
variable {p : Program} {l : Launch} {e : Env} {R : Room} {s : State} {m : MethodId} {args : Array Value} {below : List Frame} {meth : Method} {c : Code} {cells slots : Nat} {Q : State → Prop}
variable {cc : ByteArray} {nL : Nat} {own : String} {D : va_G} {cyI cyZ cyJ cyD : ClassId} {A : Nat → Prop} {pc q : Nat} {lv : List (Nat × Value)} {st rest : List Value} {ws : va_W}
theorem zq_hret {sz : Nat} {W0 W1 : va_W} {r v : Int32} {P : va_W → Prop} {XC : String → State → State → Prop} (G : zG p s m args c cc nL own D cyI cyZ (va_A W0 sz)) (hlocks : meth.locks = false) (hr : meth.sig.returnType = some .int) (hdg : decode cc pc = .ok (.ireturn, 1)) (hc : cells ≤ 1) (hs : slots ≤ 6) (e9 : v = r) (hW1 : P W1) : zW p l e R s m args below meth c D (va_A W0 sz) nL cells slots (vx_MQ below (zQh D cyI cyZ sz W0 r P) XC args s 1 6 (va_A W0 sz)) pc lv [.int v] W1 := fun H locs ls hP hD hS hl =>
  W.widen hc hs (vx_ret (W.zret G.1 G.2.1 hr rfl (fun t ht hW => ⟨⟨v, (), rfl, e9, W1, hW1, zend_of (locs := locs) G hP hD ht hW⟩, hS.F ht⟩) hS.2.2 hdg hlocks))
theorem zq_tryX (G : zG p s m args c cc nL own D cyI cyZ A) {pre suf : List ExceptionTableEntry} {x : ExceptionTableEntry} (htab : c.exceptionTable.toList = pre ++ x :: suf) {idx : Nat} {y : MethodName} {b : ByteArray} {k fr lo : Nat} {rt : FieldType} {a : Nat} {As : List Value} {W0 W1 ws2 : va_W} {E0 nm : String} {isC isR perm : List Nat} (hs : zSV own idx y b k (some rt) As.length) (hdg : decode cc pc = .ok (.invokevirtual idx, 3)) (hM : ∀ sz : Nat, zXi l y b k rt fr lo D cyI cyZ sz (.ref a :: As) W0 (.inl E0) W1) {ci : Nat} {fs : List Value} {cT : u_T} {cN : Nat} (q0 : Nat) (he : ws[q0]? = some (a, .inr (ci, fs))) (hc : vwCl[ci]? = some (y.cls, cT, cN)) (hst : st = As.reverse ++ .ref a :: rest) (hcut : zCut ws W0 W1 ws2 isC isR perm) (hC : va_nd isC = true) (hcat : (rest.map fun v => v.category).sum ≤ 8) (hR : zFit R { frames := fr, cells := 1, slots := 6, locals := lo } k cells slots)
    (hpass : ∀ z ∈ pre, z.catchType ≠ 0 ∧ ∃ nm, Cond.classLink own z.catchType nm ∈ zB ∧ (E0, nm) ∈ zncs) (hx : covers x pc = true) (h0 : x.catchType ≠ 0) (hlink : Cond.classLink own x.catchType nm ∈ zB) (hcast : Cond.castable E0 nm ∈ zB) (hq : x.handlerPc = q)
    (kk : ∀ q9 : Nat, zW p l e R s m args below meth c D A nL (cells + 1) (slots + 6) Q q lv [.ref q9] ws2) : zW p l e R s m args below meth c D A nL cells slots Q pc lv st ws := by
  subst hst hq
  intro H locs ls hP hD hS hl
  obtain ⟨hF, hpre⟩ := zcutP G hcut hC hP hD hS
  have hB1 : FrameBlind (va_Pc (.ref a :: As) (zPre D cyI cyZ H.size W0)) := zPre_blind
  refine vx_calli (vx_runV (As := As) (rest := rest) (zfix G) (hM H.size) (zCW (rm := { frames := fr, cells := 1, slots := 6, locals := lo }) G hs hR) ⟨hB1, va_recv G.2.2.2.2.2.1 hP hc he, fun U hU hW => ⟨rfl, hpre U hU hW⟩⟩ rfl rfl hl.1 rfl (lv_room hcat) hdg ⟨hR.2.2.1, hR.2.2.2⟩) hS (fun q _ h => hF q h) hF (fun q _ h => hF q h) (fun E ce q9 u t H1 locs1 ht hvm hp hB hz1 hk1 hS1 hce hcv hcl => ?_) (fun r2 u t H1 locs1 ht hvm hw => nomatch hw)
  obtain ⟨hE, hP1, hK1, hD1⟩ := hB
  rw [ht] at hP1
  cases hE
  obtain ⟨hP2, hD2⟩ := zjoin hcut hP hD hk1 hF hP1 hD1
  exact vx_catch G.2.2.2.1 pre x suf htab (fun z hz => Or.inr (by obtain ⟨h1, n1, h2, h3⟩ := hpass z hz; exact ⟨h1, n1, G.2.2.2.2.1 _ h2, G.2.2.2.2.2.2.2.2.2 _ h3⟩)) hx h0 (G.2.2.2.2.1 _ hlink) (G.2.2.2.2.1 _ hcast) hce hcv hcl (kk q9 H1 locs1 ls hP2 hD2 hS1 hl)
theorem zq_tryXf (G : zG p s m args c cc nL own D cyI cyZ A) {pre suf : List ExceptionTableEntry} {x : ExceptionTableEntry} (htab : c.exceptionTable.toList = pre ++ x :: suf) {idx : Nat} {y : MethodName} {b : ByteArray} {k fr lo : Nat} {a : Nat} {As : List Value} {W0 W1 ws2 : va_W} {E0 nm : String} {isC isR perm : List Nat} (hs : zSV own idx y b k (some .float) As.length) (hdg : decode cc pc = .ok (.invokevirtual idx, 3)) (hM : ∀ sz : Nat, zXf l y b k fr lo D cyI cyZ sz (.ref a :: As) W0 (.inl E0) W1) {ci : Nat} {fs : List Value} {cT : u_T} {cN : Nat} (q0 : Nat) (he : ws[q0]? = some (a, .inr (ci, fs))) (hc : vwCl[ci]? = some (y.cls, cT, cN)) (hst : st = As.reverse ++ .ref a :: rest) (hcut : zCut ws W0 W1 ws2 isC isR perm) (hC : va_nd isC = true) (hcat : (rest.map fun v => v.category).sum ≤ 8) (hR : zFit R { frames := fr, cells := 1, slots := 6, locals := lo } k cells slots)
    (hpass : ∀ z ∈ pre, z.catchType ≠ 0 ∧ ∃ nm, Cond.classLink own z.catchType nm ∈ zB ∧ (E0, nm) ∈ zncs) (hx : covers x pc = true) (h0 : x.catchType ≠ 0) (hlink : Cond.classLink own x.catchType nm ∈ zB) (hcast : Cond.castable E0 nm ∈ zB) (hq : x.handlerPc = q)
    (kk : ∀ q9 : Nat, zW p l e R s m args below meth c D A nL (cells + 1) (slots + 6) Q q lv [.ref q9] ws2) : zW p l e R s m args below meth c D A nL cells slots Q pc lv st ws := by
  subst hst hq
  intro H locs ls hP hD hS hl
  obtain ⟨hF, hpre⟩ := zcutP G hcut hC hP hD hS
  have hB1 : FrameBlind (va_Pc (.ref a :: As) (zPre D cyI cyZ H.size W0)) := zPre_blind
  refine vx_callf (vx_runV (As := As) (rest := rest) (zfix G) (hM H.size) (zCW (rm := { frames := fr, cells := 1, slots := 6, locals := lo }) G hs hR) ⟨hB1, va_recv G.2.2.2.2.2.1 hP hc he, fun U hU hW => ⟨rfl, hpre U hU hW⟩⟩ rfl rfl hl.1 rfl (lv_room hcat) hdg ⟨hR.2.2.1, hR.2.2.2⟩) hS (fun q _ h => hF q h) hF (fun q _ h => hF q h) (fun E ce q9 u t H1 locs1 ht hvm hp hB hz1 hk1 hS1 hce hcv hcl => ?_) (fun r2 u t H1 locs1 ht hvm hw => nomatch hw)
  obtain ⟨hE, hP1, hK1, hD1⟩ := hB
  rw [ht] at hP1
  cases hE
  obtain ⟨hP2, hD2⟩ := zjoin hcut hP hD hk1 hF hP1 hD1
  exact vx_catch G.2.2.2.1 pre x suf htab (fun z hz => Or.inr (by obtain ⟨h1, n1, h2, h3⟩ := hpass z hz; exact ⟨h1, n1, G.2.2.2.2.1 _ h2, G.2.2.2.2.2.2.2.2.2 _ h3⟩)) hx h0 (G.2.2.2.2.1 _ hlink) (G.2.2.2.2.1 _ hcast) hce hcv hcl (kk q9 H1 locs1 ls hP2 hD2 hS1 hl)
theorem zCSWh (G : zG p s m args c cc nL own D cyI cyZ A) {idx : Nat} {y : MethodName} {b : ByteArray} {k n : Nat} {r : Option FieldType} {hh : List (Nat × Nat × Nat × Nat)} {rm : Room} (hs : zSW own idx y b k r hh n) (hR : zFit R rm k cells slots) : vx_CSW R s args own idx y b k r hh (zwh y b k r hh) rm rm.cells rm.slots n := by
  obtain ⟨h1, h2, h3, h4, h5, h6⟩ := hs
  have hB := G.2.2.2.2.1
  exact ⟨⟨rfl, rfl, hR.1, hR.2.1, zpaysW G h4, List.mem_cons_self⟩, hB _ h4, hB _ h3, h5, zlen h6, hB _ h1, hB _ h2⟩
theorem zq_callH (G : zG p s m args c cc nL own D cyI cyZ A) (hJ : va_K D vwCl (ztyJ cyJ cyD) s) {idx : Nat} {y : MethodName} {b : ByteArray} {k : Nat} {hh : List (Nat × Nat × Nat × Nat)} {As : List Value} {W0 : va_W} {r : Int32} {P : va_W → Prop} {isC isR perm : List Nat} (hs : zSW own idx y b k (some .int) hh As.length) (hdg : decode cc pc = .ok (.invokestatic idx, 3)) (hM : ∀ sz : Nat, zMh l y b k hh D cyI cyZ cyJ cyD sz As W0 r P) (hst : st = As.reverse ++ rest) (hcut0 : isC.map (fun i => ws[i]?) = W0.map some) (hC : va_nd isC = true) (hcat : (rest.map fun v => v.category).sum ≤ 8) (hR : zFit R zRH k cells slots) (hq : pc + 3 = q) (kk : ∀ W1, P W1 → ∃ ws2, zCut ws W0 W1 ws2 isC isR perm ∧ zW p l e R s m args below meth c D A nL (cells + 1) (slots + 6) Q q lv (.int r :: rest) ws2) : zW p l e R s m args below meth c D A nL cells slots Q pc lv st ws := by
  subst hq hst
  intro H locs ls hP hD hS hl
  obtain ⟨hF, hpre⟩ := zcutP (W1 := []) (ws2 := []) (isR := []) (perm := []) G ⟨hcut0, rfl, rfl, rfl⟩ hC hP hD hS
  have hB1 : FrameBlind (va_Pc As (zPreH D cyI cyZ cyJ cyD H.size W0)) := zPreH_blind
  refine va_calli (vx_runSW (As := As) (rest := rest) (zfix G) (hM H.size) (zCSWh G hs hR) ⟨hB1, fun U hU hW => ⟨rfl, hpre U hU hW, va_K.moved hW.alike hJ⟩⟩ rfl rfl hl.1 rfl (lv_room hcat) hdg ⟨hR.2.2.1, hR.2.2.2⟩) hS (fun q _ h => hF q h) hF (fun r2 u t H1 locs1 ht hvm hw hB hz1 hk1 hS1 => ?_)
  obtain ⟨W1, hPW, hP1, hK1, hD1⟩ := hB
  rw [ht] at hP1
  subst hw
  obtain ⟨ws2, hcut, kk2⟩ := kk W1 hPW
  obtain ⟨hP2, hD2⟩ := zjoin hcut hP hD hk1 hF hP1 hD1
  exact kk2 H1 locs1 ls hP2 hD2 hS1 hl
theorem zCI (G : zG p s m args c cc nL own D cyI cyZ A) {idx : Nat} {y : MethodName} {b : ByteArray} {k n : Nat} {rm : Room} (hs : zSI own idx y b k n) (hR : zFit R rm k cells slots) : CallB R s args own idx y b k none (zws y b k none) rm rm.cells rm.slots n ∧ y.name = "<init>" ∧ (Cond.instanceMethod y).before args s = true := by
  obtain ⟨h1, h2, h4, h5, h8, h6, h7⟩ := hs
  have hB := G.2.2.2.2.1
  exact ⟨⟨rfl, rfl, hR.1, hR.2.1, zpays G h5, List.mem_cons_self, hB _ h5, hB _ h4, h6, zlen h7, hB _ h1⟩, h8, hB _ h2⟩
theorem zq_callCI (G : zG p s m args c cc nL own D cyI cyZ A) {idx : Nat} {y : MethodName} {b : ByteArray} {k fr lo cs sl : Nat} {a : Nat} {W0 : va_W} {P : va_W → Prop} {isC isR perm : List Nat} (hs : zSI own idx y b k 0) (hdg : decode cc pc = .ok (.invokespecial idx, 3)) (hM : ∀ sz : Nat, zMc l y b k fr lo cs sl D cyI cyZ sz [.ref a] W0 P) (hcut0 : isC.map (fun i => ws[i]?) = W0.map some) (hC : va_nd isC = true) (hcat : (rest.map fun v => v.category).sum ≤ 8) (hR : zFit R { frames := fr, cells := cs, slots := sl, locals := lo } k cells slots) (hq : pc + 3 = q) (kk : ∀ W1, P W1 → ∃ ws2, zCut ws W0 W1 ws2 isC isR perm ∧ zW p l e R s m args below meth c D A nL (cells + cs) (slots + sl) Q q lv rest ws2) : zW p l e R s m args below meth c D A nL cells slots Q pc lv (.ref a :: rest) ws := by
  subst hq
  intro H locs ls hP hD hS hl
  obtain ⟨hF, hpre⟩ := zcutP (W1 := []) (ws2 := []) (isR := []) (perm := []) G ⟨hcut0, rfl, rfl, rfl⟩ hC hP hD hS
  have hB1 : FrameBlind (va_Pc [.ref a] (zPre D cyI cyZ H.size W0)) := zPre_blind
  refine va_callv (va_runI (As := []) (rest := rest) (zfix G) (hM H.size) (zCI G hs hR) ⟨hB1, fun U hU hW => ⟨rfl, hpre U hU hW⟩⟩ rfl rfl hl.1 rfl (lv_room hcat) hdg ⟨hR.2.2.1, hR.2.2.2⟩) hS (fun q _ h => hF q h) hF (fun u t H1 locs1 ht hvm hw hB hz1 hk1 hS1 => ?_)
  obtain ⟨W1, hPW, hP1, hK1, hD1⟩ := hB
  rw [ht] at hP1
  obtain ⟨ws2, hcut, kk2⟩ := kk W1 hPW
  obtain ⟨hP2, hD2⟩ := zjoin hcut hP hD hk1 hF hP1 hD1
  exact kk2 H1 locs1 ls hP2 hD2 hS1 hl
theorem zq_lald (G : zG p s m args c cc nL own D cyI cyZ A) (hJ : va_K D vwCl (ztyJ cyJ cyD) s) {a n : Nat} {f : Nat → Int64} {i : Int32} (hdg : decode cc pc = .ok (.laload, 1)) (q0 : Nat) (ha : ws[q0]? = some (a, .inl (cyJ, n, .inr (.inl f)))) (hi : ib i n = true) (hq : pc + 1 = q) (kk : zW p l e R s m args below meth c D A nL cells slots Q q lv (.long (f i.toNatClampNeg) :: st) ws) : zW p l e R s m args below meth c D A nL cells slots Q pc lv (.int i :: .ref a :: st) ws := by
  subst hq
  exact fun H locs ls hP hD hS hl => va_lald G.1 G.2.1 hJ hP q0 0 ha rfl (ib_in hi) hdg (kk H locs ls hP hD hS hl)
theorem zq_dald (G : zG p s m args c cc nL own D cyI cyZ A) (hJ : va_K D vwCl (ztyJ cyJ cyD) s) {a n : Nat} {f : Nat → UInt64} {i : Int32} (hdg : decode cc pc = .ok (.daload, 1)) (q0 : Nat) (ha : ws[q0]? = some (a, .inl (cyD, n, .inr (.inr (.inr (.inl f)))))) (hi : ib i n = true) (hq : pc + 1 = q) (kk : zW p l e R s m args below meth c D A nL cells slots Q q lv (.double (f i.toNatClampNeg) :: st) ws) : zW p l e R s m args below meth c D A nL cells slots Q pc lv (.int i :: .ref a :: st) ws := by
  subst hq
  exact fun H locs ls hP hD hS hl => va_dald G.1 G.2.1 hJ hP q0 1 ha rfl (ib_in hi) hdg (kk H locs ls hP hD hS hl)
theorem zq_last (G : zG p s m args c cc nL own D cyI cyZ A) (hJ : va_K D vwCl (ztyJ cyJ cyD) s) {a n : Nat} {f : Nat → Int64} {i : Int32} {x : Int64} {ws2 : va_W} (hdg : decode cc pc = .ok (.lastore, 1)) (q0 : Nat) (ha : ws[q0]? = some (a, .inl (cyJ, n, .inr (.inl f)))) (hi : ib i n = true) (hw : ws.set q0 (a, .inl (cyJ, n, .inr (.inl (vp_updL f i.toNatClampNeg x)))) = ws2) (hq : pc + 1 = q) (kk : zW p l e R s m args below meth c D A nL cells slots Q q lv st ws2) : zW p l e R s m args below meth c D A nL cells slots Q pc lv (.long x :: .int i :: .ref a :: st) ws := by
  subst hq hw
  exact fun H locs ls hP hD hS hl => va_last G.1 G.2.1 hJ hP hD hS q0 0 ha rfl (ib_in hi) hdg (fun H1 locs1 hP1 hD1 hS1 => kk H1 locs1 ls hP1 hD1 hS1 hl)
theorem zq_dast (G : zG p s m args c cc nL own D cyI cyZ A) (hJ : va_K D vwCl (ztyJ cyJ cyD) s) {a n : Nat} {f : Nat → UInt64} {i : Int32} {x : UInt64} {ws2 : va_W} (hdg : decode cc pc = .ok (.dastore, 1)) (q0 : Nat) (ha : ws[q0]? = some (a, .inl (cyD, n, .inr (.inr (.inr (.inl f)))))) (hi : ib i n = true) (hw : ws.set q0 (a, .inl (cyD, n, .inr (.inr (.inr (.inl (vf_upd f i.toNatClampNeg x)))))) = ws2) (hq : pc + 1 = q) (kk : zW p l e R s m args below meth c D A nL cells slots Q q lv st ws2) : zW p l e R s m args below meth c D A nL cells slots Q pc lv (.double x :: .int i :: .ref a :: st) ws := by
  subst hq hw
  exact fun H locs ls hP hD hS hl => va_dast G.1 G.2.1 hJ hP hD hS q0 1 ha rfl (ib_in hi) hdg (fun H1 locs1 hP1 hD1 hS1 => kk H1 locs1 ls hP1 hD1 hS1 hl)
theorem zq_newJ (G : zG p s m args c cc nL own D cyI cyZ A) (hJ : va_K D vwCl (ztyJ cyJ cyD) s) {n : Int32} {N : Nat} (hn : ¬ n < 0) (hN : n.toNatClampNeg = N) (hby : N * componentBytes .long ≤ 536870912) (hc : cells + 1 ≤ R.cells) (hs : slots + N ≤ R.slots) (hdg : decode cc pc = .ok (.newarray .long, 2)) (hq : pc + 2 = q) (k : ∀ a : Nat, zW p l e R s m args below meth c D A nL (cells + 1) (slots + N) Q q lv (.ref a :: st) (ws ++ [(a, .inl (cyJ, N, .inr (.inl (fun _ => 0))))])) : zW p l e R s m args below meth c D A nL cells slots Q pc lv (.int n :: st) ws := by
  subst hq
  intro H locs ls hP hD hS hl
  refine va_newa (D := D) (cl := vwCl) (tys := zty cyI cyZ) (atype := .long) (ty := .long) (a0 := (N, .inr (.inl (fun _ => 0)))) G.1 G.2.1 (G.2.2.2.2.1 _ zw_arr_long) rfl G.2.2.2.2.2.1 hP hD hS G.2.2.2.2.2.2.1 (fun cA => rfl) hn hN hby hc hs hdg (fun a cA H1 hK1 hP1 hD1 hS1 => ?_)
  have e1 : s.vm.findClass ("[" ++ FieldType.toString .long) = some cyJ := (hJ.2 0 _ rfl).2
  have e2 : s.vm.findClass ("[" ++ FieldType.toString .long) = some cA := (hK1.2 2 _ rfl).2
  have e3 : cA = cyJ := Option.some.inj (e2.symm.trans e1)
  subst e3
  exact k a H1 locs ls hP1 hD1 hS1 hl
theorem zq_newD (G : zG p s m args c cc nL own D cyI cyZ A) (hJ : va_K D vwCl (ztyJ cyJ cyD) s) {n : Int32} {N : Nat} (hn : ¬ n < 0) (hN : n.toNatClampNeg = N) (hby : N * componentBytes .double ≤ 536870912) (hc : cells + 1 ≤ R.cells) (hs : slots + N ≤ R.slots) (hdg : decode cc pc = .ok (.newarray .double, 2)) (hq : pc + 2 = q) (k : ∀ a : Nat, zW p l e R s m args below meth c D A nL (cells + 1) (slots + N) Q q lv (.ref a :: st) (ws ++ [(a, .inl (cyD, N, .inr (.inr (.inr (.inl (fun _ => 0))))))])) : zW p l e R s m args below meth c D A nL cells slots Q pc lv (.int n :: st) ws := by
  subst hq
  intro H locs ls hP hD hS hl
  refine va_newa (D := D) (cl := vwCl) (tys := zty cyI cyZ) (atype := .double) (ty := .double) (a0 := (N, .inr (.inr (.inr (.inl (fun _ => 0)))))) G.1 G.2.1 (G.2.2.2.2.1 _ zw_arr_double) rfl G.2.2.2.2.2.1 hP hD hS G.2.2.2.2.2.2.1 (fun cA => rfl) hn hN hby hc hs hdg (fun a cA H1 hK1 hP1 hD1 hS1 => ?_)
  have e1 : s.vm.findClass ("[" ++ FieldType.toString .double) = some cyD := (hJ.2 1 _ rfl).2
  have e2 : s.vm.findClass ("[" ++ FieldType.toString .double) = some cA := (hK1.2 2 _ rfl).2
  have e3 : cA = cyD := Option.some.inj (e2.symm.trans e1)
  subst e3
  exact k a H1 locs ls hP1 hD1 hS1 hl
theorem zq_sld (G : zG p s m args c cc nL own D cyI cyZ A) {b L : Nat} {xs : Nat → Int32} (hX : va_X b L xs s s.heap) (hbl : b < s.heap.size) (hbA : ¬ A b) {i : Int32} (hi : ib i L = true) (hdg : decode cc pc = .ok (.iaload, 1)) (hq : pc + 1 = q) (kk : zW p l e R s m args below meth c D A nL cells slots Q q lv (.int (xs i.toNatClampNeg) :: st) ws) : zW p l e R s m args below meth c D A nL cells slots Q pc lv (.int i :: .ref b :: st) ws := by
  subst hq
  exact fun H locs ls hP hD hS hl => va_sld G.1 G.2.1 hX hbl hbA hS (ib_in hi) hdg (kk H locs ls hP hD hS hl)
theorem zq_slen (G : zG p s m args c cc nL own D cyI cyZ A) {b L : Nat} {xs : Nat → Int32} (hX : va_X b L xs s s.heap) (hbl : b < s.heap.size) (hbA : ¬ A b) (hdg : decode cc pc = .ok (.arraylength, 1)) (hq : pc + 1 = q) (kk : zW p l e R s m args below meth c D A nL cells slots Q q lv (.int (Int32.ofNat L) :: st) ws) : zW p l e R s m args below meth c D A nL cells slots Q pc lv (.ref b :: st) ws := by
  subst hq
  exact fun H locs ls hP hD hS hl => va_slen G.1 G.2.1 hX hbl hbA hS hdg (kk H locs ls hP hD hS hl)
theorem zq_lshl (G : zG p s m args c cc nL own D cyI cyZ A) {x : Int64} {y : Int32} (hdg : decode cc pc = .ok (.lshl, 1)) (hq : pc + 1 = q) (k : zW p l e R s m args below meth c D A nL cells slots Q q lv (.long (x <<< (y.toInt64 &&& 63)) :: st) ws) : zW p l e R s m args below meth c D A nL cells slots Q pc lv (.int y :: .long x :: st) ws := by
  subst hq
  exact fun H locs ls hP hD hS hl => lv_lshl G.1 G.2.1 hdg rfl (k H locs ls hP hD hS hl)
theorem zq_land (G : zG p s m args c cc nL own D cyI cyZ A) {x y : Int64} (hdg : decode cc pc = .ok (.land, 1)) (hq : pc + 1 = q) (k : zW p l e R s m args below meth c D A nL cells slots Q q lv (.long (x &&& y) :: st) ws) : zW p l e R s m args below meth c D A nL cells slots Q pc lv (.long y :: .long x :: st) ws := by
  subst hq
  exact fun H locs ls hP hD hS hl => lv_land G.1 G.2.1 hdg (k H locs ls hP hD hS hl)
theorem zq_lor (G : zG p s m args c cc nL own D cyI cyZ A) {x y : Int64} (hdg : decode cc pc = .ok (.lor, 1)) (hq : pc + 1 = q) (k : zW p l e R s m args below meth c D A nL cells slots Q q lv (.long (x ||| y) :: st) ws) : zW p l e R s m args below meth c D A nL cells slots Q pc lv (.long y :: .long x :: st) ws := by
  subst hq
  exact fun H locs ls hP hD hS hl => lv_lor G.1 G.2.1 hdg (k H locs ls hP hD hS hl)
theorem zq_tabOut (G : zG p s m args c cc nL own D cyI cyZ A) {dflt lo hi : Int} {offs : Array Int} {len : Nat} {x : Int32} (hdg : decode cc pc = .ok (.tableswitch dflt lo hi offs, len)) (h : x.toInt < lo ∨ hi < x.toInt) (ht : (pc : Int) + dflt = (q : Int)) (k : zW p l e R s m args below meth c D A nL cells slots Q q lv st ws) : zW p l e R s m args below meth c D A nL cells slots Q pc lv (.int x :: st) ws := fun H locs ls hP hD hS hl => lv_tableOut G.1 G.2.1 hdg h ht (k H locs ls hP hD hS hl)
theorem zq_tabIn (G : zG p s m args c cc nL own D cyI cyZ A) {dflt lo hi : Int} {offs : Array Int} {len : Nat} {x : Int32} {off : Int} (hdg : decode cc pc = .ok (.tableswitch dflt lo hi offs, len)) (h1 : ¬ x.toInt < lo) (h2 : ¬ hi < x.toInt) (ho : offs[(x.toInt - lo).toNat]? = some off) (ht : (pc : Int) + off = (q : Int)) (k : zW p l e R s m args below meth c D A nL cells slots Q q lv st ws) : zW p l e R s m args below meth c D A nL cells slots Q pc lv (.int x :: st) ws := fun H locs ls hP hD hS hl => lv_tableIn G.1 G.2.1 hdg h1 h2 ho ht (k H locs ls hP hD hS hl)
end ZH
