/-! ===== making objects: rows ===== -/
section ZN
variable {p : Program} {l : Launch} {e : Env} {R : Room} {s : State} {m : MethodId} {args : Array Value} {below : List Frame} {meth : Method} {c : Code} {cells slots : Nat} {Q : State → Prop}
variable {cc : ByteArray} {nL : Nat} {own : String} {D : va_G} {cyI cyZ : ClassId} {A : Nat → Prop} {pc q : Nat} {lv : List (Nat × Value)} {st rest : List Value} {ws : va_W}
theorem zq_newI (G : zG p s m args c cc nL own D cyI cyZ A) {n : Int32} {N : Nat} (hn : ¬ n < 0) (hN : n.toNatClampNeg = N) (hby : N * componentBytes .int ≤ 536870912) (hc : cells + 1 ≤ R.cells) (hs : slots + N ≤ R.slots) (hdg : decode cc pc = .ok (.newarray .int, 2)) (hq : pc + 2 = q) (k : ∀ a : Nat, zW p l e R s m args below meth c D A nL (cells + 1) (slots + N) Q q lv (.ref a :: st) (ws ++ [(a, .inl (cyI, N, .inl (fun _ => 0)))])) : zW p l e R s m args below meth c D A nL cells slots Q pc lv (.int n :: st) ws := by
  subst hq
  intro H locs ls hP hD hS hl
  refine va_newa (D := D) (cl := vwCl) (tys := zty cyI cyZ) (atype := .int) (ty := .int) (a0 := (N, .inl (fun _ => 0))) G.1 G.2.1 (G.2.2.2.2.1 _ zw_arr_int) rfl G.2.2.2.2.2.1 hP hD hS G.2.2.2.2.2.2.1 (fun cA => rfl) hn hN hby hc hs hdg (fun a cA H1 hK1 hP1 hD1 hS1 => ?_)
  have e1 : s.vm.findClass ("[" ++ FieldType.toString .int) = some cyI := (G.2.2.2.2.2.1.2 0 _ rfl).2
  have e2 : s.vm.findClass ("[" ++ FieldType.toString .int) = some cA := (hK1.2 2 _ rfl).2
  have e3 : cA = cyI := Option.some.inj (e2.symm.trans e1)
  subst e3
  exact k a H1 locs ls hP1 hD1 hS1 hl
theorem zq_newZ (G : zG p s m args c cc nL own D cyI cyZ A) {n : Int32} {N : Nat} (hn : ¬ n < 0) (hN : n.toNatClampNeg = N) (hby : N * componentBytes .boolean ≤ 536870912) (hc : cells + 1 ≤ R.cells) (hs : slots + N ≤ R.slots) (hdg : decode cc pc = .ok (.newarray .boolean, 2)) (hq : pc + 2 = q) (k : ∀ a : Nat, zW p l e R s m args below meth c D A nL (cells + 1) (slots + N) Q q lv (.ref a :: st) (ws ++ [(a, .inl (cyZ, N, .inl (fun _ => 0)))])) : zW p l e R s m args below meth c D A nL cells slots Q pc lv (.int n :: st) ws := by
  subst hq
  intro H locs ls hP hD hS hl
  refine va_newa (D := D) (cl := vwCl) (tys := zty cyI cyZ) (atype := .boolean) (ty := .boolean) (a0 := (N, .inl (fun _ => 0))) G.1 G.2.1 (G.2.2.2.2.1 _ zw_arr_boolean) rfl G.2.2.2.2.2.1 hP hD hS G.2.2.2.2.2.2.1 (fun cA => rfl) hn hN hby hc hs hdg (fun a cA H1 hK1 hP1 hD1 hS1 => ?_)
  have e1 : s.vm.findClass ("[" ++ FieldType.toString .boolean) = some cyZ := (G.2.2.2.2.2.1.2 1 _ rfl).2
  have e2 : s.vm.findClass ("[" ++ FieldType.toString .boolean) = some cA := (hK1.2 2 _ rfl).2
  have e3 : cA = cyZ := Option.some.inj (e2.symm.trans e1)
  subst e3
  exact k a H1 locs ls hP1 hD1 hS1 hl
theorem zq_objInit (G : zG p s m args c cc nL own D cyI cyZ A) {idx : Nat} {a : Nat} (hlink : Cond.methodLink own idx objectInit ∈ zB) (hdg : decode cc pc = .ok (.invokespecial idx, 3)) (hf : 1 ≤ R.frames) (hl9 : (rest.map fun v => v.category).sum + 12 ≤ R.locals) (hq : pc + 3 = q) (k : zW p l e R s m args below meth c D A nL cells slots Q q lv rest ws) : zW p l e R s m args below meth c D A nL cells slots Q pc lv (.ref a :: rest) ws := by
  subst hq
  intro H locs ls hP hD hS hl
  exact W.objInit G.1 G.2.1 G.2.2.2.1 (G.2.2.2.2.1 _ hlink) (G.2.2.2.2.1 _ (zin1 21 rfl rfl)) (G.2.2.2.2.1 _ (zin1 22 rfl rfl)) (g := F0 m pc ls (.ref a :: rest)) rfl (by rw [G.2.2.1]; exact hl.1) rfl hdg hf (by show 2 * 0 + _ + 12 ≤ _; omega) (k H locs ls hP hD hS hl)
theorem zq_widen {k n : Nat} (hk : cells ≤ k) (hn : slots ≤ n) (kk : zW p l e R s m args below meth c D A nL k n Q pc lv st ws) : zW p l e R s m args below meth c D A nL cells slots Q pc lv st ws := fun H locs ls hP hD hS hl => W.widen (k := k) (n := n) hk hn (kk H locs ls hP hD hS hl)
end ZN
/-! the contract of a constructor: what is behind it is one of the worlds of P -/
def zQc (D : va_G) (cyI cyZ : ClassId) (sz : Nat) (W0 : va_W) (P : va_W → Prop) : Array Value → State → Outcome → State → Prop := va_Qv (fun (_ : Unit) => True) (fun _ t => ∃ W1, P W1 ∧ zEnd D cyI cyZ (va_A W0 sz) W1 t) (va_A W0 sz)
def zMc (l : Launch) (y : MethodName) (b : ByteArray) (k : Nat) (fr lo cs sl : Nat) (D : va_G) (cyI cyZ : ClassId) (sz : Nat) (av : List Value) (W0 : va_W) (P : va_W → Prop) : Prop :=
  Met l y (zws y b k none) { frames := fr, cells := cs, slots := sl, locals := lo } (va_Pc av (zPre D cyI cyZ sz W0)) (zQc D cyI cyZ sz W0 P) cs sl (va_A W0 sz)
theorem zstartC {l : Launch} {y : MethodName} {b : ByteArray} {k : Nat} {fr lo cs sl : Nat} {D : va_G} {cyI cyZ : ClassId} {sz : Nat} {av : List Value} {W0 : va_W} {P : va_W → Prop} {lv0 : List (Nat × Value)} (hy : plainName y.cls = true) (hk : (lg_sl av).length ≤ k) (hlv : lv_args 0 av = lv0)
    (body : ∀ (p : Program) (e : Env) (s : State) (m : MethodId) (args : Array Value) (below : List Frame) (meth : Method) (c : Code), zG p s m args c b k y.cls D cyI cyZ (va_A W0 sz) → meth.sig.returnType = none → meth.locks = false → meth.name = y.name →
      zW p l e { frames := fr, cells := cs, slots := sl, locals := lo } s m args below meth c D (va_A W0 sz) k 0 0 (MQ below (zQc D cyI cyZ sz W0 P) args s cs sl (va_A W0 sz)) 0 lv0 [] W0) : zMc l y b k fr lo cs sl D cyI cyZ sz av W0 P := by
  subst hlv
  refine Met.ofW (cc := b) (maxL := k) (ret := none) hy rfl ?_
  intro p e s m args below meth c s₁ B hml hv
  obtain ⟨rfl, hv⟩ := hv
  obtain ⟨G, hD, hsz⟩ := zG_of B hml zws_sub hv
  rw [lg_entry_eq]
  subst hsz
  exact body p e s m _ below meth c G B.returns B.notSynchronized (name_of_methodNamed B.named B.method).1 s.heap [] _ hv.2.1 hD va_S.rf (lv_entry av hk)
theorem zq_cret {p : Program} {l : Launch} {e : Env} {R : Room} {s : State} {m : MethodId} {args : Array Value} {below : List Frame} {meth : Method} {c : Code} {cells slots : Nat}
    {cc : ByteArray} {nL : Nat} {own : String} {D : va_G} {cyI cyZ : ClassId} {pc : Nat} {lv : List (Nat × Value)} {sz : Nat} {W0 W1 : va_W} {P : va_W → Prop} (G : zG p s m args c cc nL own D cyI cyZ (va_A W0 sz)) (hlocks : meth.locks = false) (hr : meth.sig.returnType = none) (hdg : decode cc pc = .ok (.return_, 1)) (hW1 : P W1) : zW p l e R s m args below meth c D (va_A W0 sz) nL cells slots (MQ below (zQc D cyI cyZ sz W0 P) args s cells slots (va_A W0 sz)) pc lv [] W1 := fun H locs ls hP hD hS hl => W.vret G.1 G.2.1 hr (fun t ht hW => ⟨⟨(), rfl, trivial, W1, hW1, zend_of (locs := locs) G hP hD ht hW⟩, hS.F ht⟩) hS.2.2 hdg hlocks
abbrev f0 : zF := fun _ => 0
abbrev T0 : zT := (1, 1, f0, f0)
set_option maxHeartbeats 4000000 in
set_option maxRecDepth 100000 in
/-- Table() -/
theorem c_X1_init (l : Launch) (D : va_G) (cyI cyZ : ClassId) (h0 sz : Nat) : zMc l yX1_init cX1_init 1 1 12 2 98 D cyI cyZ sz [.ref h0] [(h0, .inr (1, [.int 0, .int 0, .null, .null]))] (fun W => ∃ q1 q2, W = w_T cyI cyZ h0 q1 q2 T0) := by
  refine zstartC (lv0 := [(0, .ref h0)]) (by decide) (Nat.le_of_ble_eq_true rfl) rfl (fun p e s m args below meth c G hr hlocks hin => ?_)
  refine zq_aload_n (q := 1) G dX1_init_0 0 rfl rfl rfl ?_
  refine zq_objInit (q := 4) G (zin1 28 rfl rfl) dX1_init_1 (Nat.le_of_ble_eq_true rfl) (Nat.le_of_ble_eq_true rfl) rfl ?_
  refine zq_aload_n (q := 5) G dX1_init_4 0 rfl rfl rfl ?_
  refine zq_iconst (q := 6) (v := 1) G dX1_init_5 (by decide) rfl ?_
  refine zq_put (q := 9) (ws2 := [(h0, .inr (1, [.int 1, .int 0, .null, .null]))]) G zu_X1 rfl tyX1_ok nmX1 zw_X1_f9 dX1_init_6 0 0 rfl (by decide) ⟨⟨rfl, rfl⟩, rfl⟩ rfl rfl rfl (Nat.le_of_ble_eq_true rfl) rfl rfl ?_
  refine zq_aload_n (q := 10) G dX1_init_9 0 rfl rfl rfl ?_
  refine zq_iconst (q := 11) (v := 1) G dX1_init_10 (by decide) rfl ?_
  refine zq_put (q := 14) (ws2 := [(h0, .inr (1, [.int 1, .int 1, .null, .null]))]) G zu_X1 rfl tyX1_ok nmX1 zw_X1_f15 dX1_init_11 0 1 rfl (by decide) ⟨⟨rfl, rfl⟩, rfl⟩ rfl rfl rfl (Nat.le_of_ble_eq_true rfl) rfl rfl ?_
  refine zq_aload_n (q := 15) G dX1_init_14 0 rfl rfl rfl ?_
  refine zq_bipush (q := 17) (v := 49) G dX1_init_15 (by decide) rfl ?_
  refine zq_newI (q := 19) (N := 49) G (by decide) (by decide) (by decide) (Nat.le_of_ble_eq_true rfl) (Nat.le_of_ble_eq_true rfl) dX1_init_17 rfl (fun q1 => ?_)
  refine zq_putF (q := 22) (ws2 := [(h0, .inr (1, [.int 1, .int 1, .ref q1, .null])), (q1, .inl (cyI, 49, .inl f0))]) G zu_X1 rfl tyX1_ok nmX1 zw_X1_f18 dX1_init_19 0 2 rfl (by decide) ⟨⟨rfl, rfl⟩, rfl⟩ rfl hin rfl rfl rfl (Nat.le_of_ble_eq_true rfl) rfl rfl ?_
  refine zq_aload_n (q := 23) G dX1_init_22 0 rfl rfl rfl ?_
  refine zq_bipush (q := 25) (v := 49) G dX1_init_23 (by decide) rfl ?_
  refine zq_newZ (q := 27) (N := 49) G (by decide) (by decide) (by decide) (Nat.le_of_ble_eq_true rfl) (Nat.le_of_ble_eq_true rfl) dX1_init_25 rfl (fun q2 => ?_)
  refine zq_putF (q := 30) (ws2 := w_T cyI cyZ h0 q1 q2 T0) G zu_X1 rfl tyX1_ok nmX1 zw_X1_f22 dX1_init_27 0 3 rfl (by decide) ⟨⟨rfl, rfl⟩, rfl⟩ rfl hin rfl rfl rfl (Nat.le_of_ble_eq_true rfl) rfl rfl ?_
  exact zq_cret G hlocks hr dX1_init_30 ⟨q1, q2, rfl⟩
