/-! ===== a method that may draw ===== -/
theorem zGdr {p : Program} {s : State} {m : MethodId} {args : Array Value} {c : Code} {cc : ByteArray} {nL : Nat} {own : String} {D : va_G} {cyI cyZ : ClassId} {A : Nat → Prop} (G : zG p s m args c cc nL own D cyI cyZ A) (d : Drawn) : zG p (s.setDrawn d) m args c cc nL own D cyI cyZ A :=
  ⟨G.1, G.2.1, G.2.2.1, G.2.2.2.1, dr_words G.2.2.2.2.1 d, G.2.2.2.2.2.1, G.2.2.2.2.2.2.1, G.2.2.2.2.2.2.2⟩
def zQd (D : va_G) (cyI cyZ : ClassId) (sz : Nat) (W0 : va_W) (z : UInt64) (W1 : va_W) : Array Value → State → Outcome → State → Prop := va_Qd (fun r (_ : Unit) => alike64 r z = true) (fun _ t => zEnd D cyI cyZ (va_A W0 sz) W1 t) (va_A W0 sz)
def zMd (l : Launch) (y : MethodName) (b : ByteArray) (k : Nat) (fr lo : Nat) (D : va_G) (cyI cyZ : ClassId) (sz : Nat) (av : List Value) (W0 : va_W) (z : UInt64) (W1 : va_W) : Prop :=
  MetD lw_cs l y (zws y b k (some .double)) { frames := fr, cells := 0, slots := 0, locals := lo } (va_Pc av (zPre D cyI cyZ sz W0)) (zQd D cyI cyZ sz W0 z W1) 0 0 (va_A W0 sz)
theorem zstartD {l : Launch} {y : MethodName} {b : ByteArray} {k : Nat} {fr lo : Nat} {D : va_G} {cyI cyZ : ClassId} {sz : Nat} {av : List Value} {W0 W1 : va_W} {z : UInt64} {lv0 : List (Nat × Value)} (hy : plainName y.cls = true) (hk : (lg_sl av).length ≤ k) (hlv : lv_args 0 av = lv0)
    (body : ∀ (p : Program) (e : Env) (s : State) (m : MethodId) (args : Array Value) (below : List Frame) (meth : Method) (c : Code), zG p s m args c b k y.cls D cyI cyZ (va_A W0 sz) → meth.sig.returnType = some .double → meth.locks = false → s.drawn.sameBut s.drawn lw_cs →
      zW p l e { frames := fr, cells := 0, slots := 0, locals := lo } (s.setDrawn s.drawn) m args below meth c D (va_A W0 sz) k 0 0 (MQD lw_cs below (zQd D cyI cyZ sz W0 z W1) args s 0 0 (va_A W0 sz)) 0 lv0 [] W0) : zMd l y b k fr lo D cyI cyZ sz av W0 z W1 := by
  subst hlv
  refine MetD.ofW (cc := b) (maxL := k) (ret := some .double) hy rfl ?_
  intro p e s m args below meth c s₁ B hml hv hd0
  obtain ⟨rfl, hv⟩ := hv
  obtain ⟨G, hD, hsz⟩ := zG_of B hml zws_sub hv
  rw [lg_entry_eq]
  subst hsz
  exact body p e s m _ below meth c G B.returns B.notSynchronized hd0 s.heap [] _ hv.2.1 hD va_S.rf (lv_entry av hk)
section ZD
variable {p : Program} {l : Launch} {e : Env} {R : Room} {s : State} {m : MethodId} {args : Array Value} {below : List Frame} {meth : Method} {c : Code} {cells slots : Nat} {Q : State → Prop}
variable {cc : ByteArray} {nL : Nat} {own : String} {D : va_G} {cyI cyZ : ClassId} {A : Nat → Prop} {pc q : Nat} {lv : List (Nat × Value)} {st rest : List Value} {ws : va_W}
theorem zq_i2d (G : zG p s m args c cc nL own D cyI cyZ A) {x : Int32} (hdg : decode cc pc = .ok (.i2d, 1)) (hq : pc + 1 = q) (k : zW p l e R s m args below meth c D A nL cells slots Q q lv (.double (FP.i2d x) :: st) ws) : zW p l e R s m args below meth c D A nL cells slots Q pc lv (.int x :: st) ws := by
  subst hq
  exact fun H locs ls hP hD hS hl => lv_i2d G.1 G.2.1 hdg (k H locs ls hP hD hS hl)
theorem zq_ddiv {d0 : Drawn} (hd0 : s.drawn.sameBut d0 lw_cs) (G : zG p s m args c cc nL own D cyI cyZ A) {x y : UInt64} (hdg : decode cc pc = .ok (.ddiv, 1)) (hq : pc + 1 = q) (k : ∀ (r : UInt64) (d' : Drawn), alike64 r (FP.ddiv x y) = true → s.drawn.sameBut d' lw_cs → zW p l e R (s.setDrawn d') m args below meth c D A nL cells slots Q q lv (.double r :: st) ws) : zW p l e R (s.setDrawn d0) m args below meth c D A nL cells slots Q pc lv (.double y :: .double x :: st) ws := by
  subst hq
  exact fun H locs ls hP hD hS hl => lv_ddiv_any hd0 lw_bits G.1 G.2.1 hdg (fun r d' h1 h2 => k r d' h1 h2 H locs ls hP hD hS hl)
end ZD
theorem zq_dretD {p : Program} {l : Launch} {e : Env} {R : Room} {s : State} {m : MethodId} {args : Array Value} {below : List Frame} {meth : Method} {c : Code}
    {cc : ByteArray} {nL : Nat} {own : String} {D : va_G} {cyI cyZ : ClassId} {pc : Nat} {lv : List (Nat × Value)} {sz : Nat} {W0 W1 : va_W} {r z : UInt64} {d0 : Drawn} (hd0 : s.drawn.sameBut d0 lw_cs) (G : zG p s m args c cc nL own D cyI cyZ (va_A W0 sz)) (hlocks : meth.locks = false) (hr : meth.sig.returnType = some .double) (hdg : decode cc pc = .ok (.dreturn, 1)) (hz : alike64 r z = true) : zW p l e R (s.setDrawn d0) m args below meth c D (va_A W0 sz) nL 0 0 (MQD lw_cs below (zQd D cyI cyZ sz W0 z W1) args s 0 0 (va_A W0 sz)) pc lv [.double r] W1 := fun H locs ls hP hD hS hl =>
  W.endD hd0 (W.dret (zGdr G d0).1 G.2.1 hr (fun t ht hW => ⟨⟨r, (), rfl, hz, zend_of (locs := locs) (zGdr G d0) hP hD ht hW⟩, hS.F ht⟩) hS.2.2 hdg hlocks)
