/-! ===== the walk's own layer: words ===== -/
def zgood : Cond → Bool
  | .fieldLinkNest .. => true
  | .methodLinkNest .. => true
  | .castable .. => true
  | .declares _ => true
  | w => goodWord w
theorem zpay1 {s U : State} {args a' : Array Value} {w : Cond} (hg : zgood w = true) (hW : s.WarmedH U.vm) (h : w.before args s = true) : w.before a' U = true := by
  cases w <;> first
    | exact va_Nw.use rfl (va_Nw.warmF hW (va_Nw.of rfl h))
    | exact va_Nw.use rfl (va_Nw.warmM hW (va_Nw.of rfl h))
    | exact va_Nw.use rfl (va_Nw.warmC hW (va_Nw.of rfl h))
    | exact va_Nw.use rfl (va_Nw.warmD hW (va_Nw.of rfl h))
    | exact word_at hW (good_of_word hg) h
theorem zot1 {w : Cond} (hg : zgood w = true) : vx_ot w = true := by
  cases w <;> first
    | rfl
    | (simp only [vx_ot, Bool.or_eq_true]; exact Or.inr hg)
def zB : List Cond := lw_tbl.filter zgood
theorem zB_tbl {w : Cond} (h : w ∈ zB) : w ∈ lw_tbl := (List.mem_filter.mp h).1
theorem zB_good {w : Cond} (h : w ∈ zB) : zgood w = true := (List.mem_filter.mp h).2
theorem zB_of {w : Cond} (h : w ∈ lw_tbl) (hg : zgood w = true) : w ∈ zB := List.mem_filter.mpr ⟨h, hg⟩
theorem zin_tab {w : Cond} (h : w ∈ tables_1) (hg : zgood w = true) : w ∈ zB := zB_of (List.mem_append_right _ h) hg
theorem zin1 {w : Cond} (i : Nat) (h : tables_1_1[i]? = some w) (hg : zgood w = true) : w ∈ zB := zin_tab (List.mem_append_left _ (List.mem_of_getElem? h)) hg
theorem zin2 {w : Cond} (i : Nat) (h : tables_1_2[i]? = some w) (hg : zgood w = true) : w ∈ zB := zin_tab (List.mem_append_right _ (List.mem_append_left _ (List.mem_of_getElem? h))) hg
theorem zin3 {w : Cond} (i : Nat) (h : tables_1_3[i]? = some w) (hg : zgood w = true) : w ∈ zB := zin_tab (List.mem_append_right _ (List.mem_append_right _ (List.mem_append_left _ (List.mem_of_getElem? h)))) hg
theorem zin4 {w : Cond} (i : Nat) (h : tables_1_4[i]? = some w) (hg : zgood w = true) : w ∈ zB := zin_tab (List.mem_append_right _ (List.mem_append_right _ (List.mem_append_right _ (List.mem_append_left _ (List.mem_of_getElem? h))))) hg
theorem zin5 {w : Cond} (i : Nat) (h : tables_1_5[i]? = some w) (hg : zgood w = true) : w ∈ zB := zin_tab (List.mem_append_right _ (List.mem_append_right _ (List.mem_append_right _ (List.mem_append_right _ (List.mem_of_getElem? h))))) hg
theorem zin0 {w : Cond} (i : Nat) (h : (k2_sels lw_privs)[i]? = some w) (hg : zgood w = true) : w ∈ zB := zB_of (List.mem_append_left _ (List.mem_of_getElem? h)) hg
def zws (y : MethodName) (b : ByteArray) (k : Nat) (r : Option FieldType) : List Cond := Cond.code y b k r :: zB
def zwh (y : MethodName) (b : ByteArray) (k : Nat) (r : Option FieldType) (hh : List (Nat × Nat × Nat × Nat)) : List Cond := Cond.codeWith y b k r hh :: zB
/-- a call's site: what the tables say of it -/
def zHnd (y : MethodName) (n : Nat) : Prop := (y.cls ≠ "java/lang/invoke/MethodHandle" ∧ y.cls ≠ "java/lang/invoke/VarHandle") ∧ (parseMethodDescriptor y.desc).map (fun d => d.parameters.length) = some n
def zSV (own : String) (idx : Nat) (y : MethodName) (b : ByteArray) (k : Nat) (r : Option FieldType) (n : Nat) : Prop :=
  Cond.methodLink own idx y ∈ zB ∧ Cond.instanceMethod y ∈ zB ∧ Cond.selects y.cls y y ∈ zB ∧ Cond.initialized y.cls ∈ zB ∧ Cond.code y b k r ∈ zB ∧ zHnd y n
def zSS (own : String) (idx : Nat) (y : MethodName) (b : ByteArray) (k : Nat) (r : Option FieldType) (n : Nat) : Prop :=
  Cond.methodLink own idx y ∈ zB ∧ Cond.static y ∈ zB ∧ Cond.initialized y.cls ∈ zB ∧ Cond.code y b k r ∈ zB ∧ zHnd y n
def zSN (own : String) (idx : Nat) (y : MethodName) (host : String) (b : ByteArray) (k : Nat) (r : Option FieldType) (n : Nat) : Prop :=
  Cond.methodLinkNest own idx y host ∈ zB ∧ Cond.static y ∈ zB ∧ Cond.initialized y.cls ∈ zB ∧ Cond.code y b k r ∈ zB ∧ zHnd y n
def zSW (own : String) (idx : Nat) (y : MethodName) (b : ByteArray) (k : Nat) (r : Option FieldType) (hh : List (Nat × Nat × Nat × Nat)) (n : Nat) : Prop :=
  Cond.methodLink own idx y ∈ zB ∧ Cond.static y ∈ zB ∧ Cond.initialized y.cls ∈ zB ∧ Cond.codeWith y b k r hh ∈ zB ∧ zHnd y n
def zSI (own : String) (idx : Nat) (y : MethodName) (b : ByteArray) (k : Nat) (n : Nat) : Prop :=
  Cond.methodLink own idx y ∈ zB ∧ Cond.instanceMethod y ∈ zB ∧ Cond.initialized y.cls ∈ zB ∧ Cond.code y b k none ∈ zB ∧ y.name = "<init>" ∧ zHnd y n
def zSIN (own : String) (idx : Nat) (y : MethodName) (host : String) (b : ByteArray) (k : Nat) (n : Nat) : Prop :=
  Cond.methodLinkNest own idx y host ∈ zB ∧ Cond.instanceMethod y ∈ zB ∧ Cond.initialized y.cls ∈ zB ∧ Cond.code y b k none ∈ zB ∧ y.name = "<init>" ∧ zHnd y n
/-- 'throw new X()' at a class' places -/
def zThr (own : String) (ik ic : Nat) (cls : String) : Prop :=
  Cond.classLink own ik cls ∈ zB ∧ Cond.initialized cls ∈ zB ∧ (∀ w ∈ vx_at0 own ic cls ["java/lang/RuntimeException", "java/lang/Exception"], w ∈ zB) ∧ Bundle.fit cls = true
/-! ===== worlds and contracts ===== -/
def zncs : List (String × String) := [("java/lang/IllegalArgumentException", "java/lang/IndexOutOfBoundsException"), ("java/lang/IllegalStateException", "java/lang/IndexOutOfBoundsException"), ("java/lang/IllegalStateException", "java/lang/IllegalArgumentException"), ("java/util/NoSuchElementException", "java/lang/IllegalStateException")]
def zX (A : Nat → Prop) (U : State) (H : Heap) : Prop := vx_Zq Bundle.tN "UNASSIGNED_STACK" Bundle.steD A U H ∧ vx_Zq Bundle.tN "SUPPRESSED_SENTINEL" Bundle.listD A U H ∧ ∀ q ∈ zncs, va_Nc q.1 q.2 U
theorem zX.moved {A : Nat → Prop} {u U : State} {H : Heap} (hvm : u.vm.Alike U.vm) (h : zX A u H) : zX A U H := ⟨vx_Zq.moved hvm h.1, vx_Zq.moved hvm h.2.1, fun q hq => (h.2.2 q hq).moved hvm⟩
theorem zX.kept {A : Nat → Prop} {U : State} {H H1 : Heap} (h : zX A U H) (hq : ∀ a : Nat, a < H.size → ¬ A a → H1[a]? = H[a]?) : zX A U H1 := ⟨vx_Zq.kept h.1 hq, vx_Zq.kept h.2.1 hq, h.2.2⟩
theorem zX.narrow {A B : Nat → Prop} {U : State} {H : Heap} (h : zX A U H) (hAB : ∀ q, B q → A q) : zX B U H := ⟨h.1.narrow hAB, h.2.1.narrow hAB, h.2.2⟩
abbrev zty (cyI cyZ : ClassId) : List (ClassId × FieldType) := [(cyI, .int), (cyZ, .boolean)]
def zPre (D : va_G) (cyI cyZ : ClassId) (sz : Nat) (W0 : va_W) (U : State) : Prop :=
  U.heap.size = sz ∧ va_P D vwCl W0 U.heap ∧ va_K D vwCl (zty cyI cyZ) U ∧ va_D (fun _ => True) W0 ∧ zX (va_A W0 sz) U U.heap
def zEnd (D : va_G) (cyI cyZ : ClassId) (A : Nat → Prop) (W1 : va_W) (t : State) : Prop :=
  va_P D vwCl W1 t.heap ∧ va_K D vwCl (zty cyI cyZ) t ∧ va_D A W1
theorem zPre_blind {D : va_G} {cyI cyZ : ClassId} {sz : Nat} {W0 : va_W} {av : List Value} : FrameBlind (va_Pc av (zPre D cyI cyZ sz W0)) := fun a U g mk q => by
  obtain ⟨q0, q1, qP, qK, qD, qX⟩ := q
  exact ⟨q0, q1, qP, va_K.moved (u := U) (U := U.calling g mk a) (Vm.Alike.refl U.vm) qK, qD, zX.moved (u := U) (U := U.calling g mk a) (Vm.Alike.refl U.vm) qX⟩
def zQi (D : va_G) (cyI cyZ : ClassId) (sz : Nat) (W0 : va_W) (r : Int32) (W1 : va_W) : Array Value → State → Outcome → State → Prop := va_Qi (fun r2 (_ : Unit) => r2 = r) (fun _ t => zEnd D cyI cyZ (va_A W0 sz) W1 t) (va_A W0 sz)
def zQl (D : va_G) (cyI cyZ : ClassId) (sz : Nat) (W0 : va_W) (r : Int64) (W1 : va_W) : Array Value → State → Outcome → State → Prop := va_Ql (fun r2 (_ : Unit) => r2 = r) (fun _ t => zEnd D cyI cyZ (va_A W0 sz) W1 t) (va_A W0 sz)
def zQv (D : va_G) (cyI cyZ : ClassId) (sz : Nat) (W0 : va_W) (W1 : va_W) : Array Value → State → Outcome → State → Prop := va_Qv (fun (_ : Unit) => True) (fun _ t => zEnd D cyI cyZ (va_A W0 sz) W1 t) (va_A W0 sz)
def zMi (l : Launch) (y : MethodName) (b : ByteArray) (k : Nat) (rt : FieldType) (fr lo : Nat) (D : va_G) (cyI cyZ : ClassId) (sz : Nat) (av : List Value) (W0 : va_W) (r : Int32) (W1 : va_W) : Prop :=
  Met l y (zws y b k (some rt)) { frames := fr, cells := 0, slots := 0, locals := lo } (va_Pc av (zPre D cyI cyZ sz W0)) (zQi D cyI cyZ sz W0 r W1) 0 0 (va_A W0 sz)
def zMl (l : Launch) (y : MethodName) (b : ByteArray) (k : Nat) (rt : FieldType) (fr lo : Nat) (D : va_G) (cyI cyZ : ClassId) (sz : Nat) (av : List Value) (W0 : va_W) (r : Int64) (W1 : va_W) : Prop :=
  Met l y (zws y b k (some rt)) { frames := fr, cells := 0, slots := 0, locals := lo } (va_Pc av (zPre D cyI cyZ sz W0)) (zQl D cyI cyZ sz W0 r W1) 0 0 (va_A W0 sz)
def zMv (l : Launch) (y : MethodName) (b : ByteArray) (k : Nat) (fr lo : Nat) (D : va_G) (cyI cyZ : ClassId) (sz : Nat) (av : List Value) (W0 : va_W) (W1 : va_W) : Prop :=
  Met l y (zws y b k none) { frames := fr, cells := 0, slots := 0, locals := lo } (va_Pc av (zPre D cyI cyZ sz W0)) (zQv D cyI cyZ sz W0 W1) 0 0 (va_A W0 sz)
/-- a method that answers or throws, by what the pure reading says -/
abbrev zmc {α : Type} (z : Sum String α) : Nat := match z with | .inl _ => 1 | .inr _ => 0
abbrev zms {α : Type} (z : Sum String α) : Nat := match z with | .inl _ => 6 | .inr _ => 0
def zXC {α : Type} (D : va_G) (cyI cyZ : ClassId) (sz : Nat) (W0 : va_W) (z : Sum String α) (W1 : va_W) : String → State → State → Prop := vx_X (fun (_ : Unit) => True) (fun E _ t => z = .inl E ∧ zEnd D cyI cyZ (va_A W0 sz) W1 t) (va_A W0 sz)
def zQXi (D : va_G) (cyI cyZ : ClassId) (sz : Nat) (W0 : va_W) (z : Sum String Int32) (W1 : va_W) : Array Value → State → Outcome → State → Prop := va_Qi (fun r2 (_ : Unit) => z = .inr r2) (fun _ t => zEnd D cyI cyZ (va_A W0 sz) W1 t) (va_A W0 sz)
def zQXv (D : va_G) (cyI cyZ : ClassId) (sz : Nat) (W0 : va_W) (z : Sum String Unit) (W1 : va_W) : Array Value → State → Outcome → State → Prop := va_Qv (fun (_ : Unit) => z = .inr ()) (fun _ t => zEnd D cyI cyZ (va_A W0 sz) W1 t) (va_A W0 sz)
def zXi (l : Launch) (y : MethodName) (b : ByteArray) (k : Nat) (rt : FieldType) (fr lo : Nat) (D : va_G) (cyI cyZ : ClassId) (sz : Nat) (av : List Value) (W0 : va_W) (z : Sum String Int32) (W1 : va_W) : Prop :=
  vx_Met l y (zws y b k (some rt)) { frames := fr, cells := zmc z, slots := zms z, locals := lo } (va_Pc av (zPre D cyI cyZ sz W0)) (zQXi D cyI cyZ sz W0 z W1) (zXC D cyI cyZ sz W0 z W1) (zmc z) (zms z) (va_A W0 sz)
def zXv (l : Launch) (y : MethodName) (b : ByteArray) (k : Nat) (fr lo : Nat) (D : va_G) (cyI cyZ : ClassId) (sz : Nat) (av : List Value) (W0 : va_W) (z : Sum String Unit) (W1 : va_W) : Prop :=
  vx_Met l y (zws y b k none) { frames := fr, cells := zmc z, slots := zms z, locals := lo } (va_Pc av (zPre D cyI cyZ sz W0)) (zQXv D cyI cyZ sz W0 z W1) (zXC D cyI cyZ sz W0 z W1) (zmc z) (zms z) (va_A W0 sz)
theorem zXi_ret {l : Launch} {y : MethodName} {b : ByteArray} {k : Nat} {rt : FieldType} {fr lo : Nat} {D : va_G} {cyI cyZ : ClassId} {sz : Nat} {av : List Value} {W0 W1 : va_W} {r : Int32} (h : zXi l y b k rt fr lo D cyI cyZ sz av W0 (.inr r) W1) : zMi l y b k rt fr lo D cyI cyZ sz av W0 r W1 := by
  unfold zMi Met
  unfold zXi vx_Met at h
  refine MetFree.mono h (fun a s h => h) (fun _ _ _ _ _ h => h) (fun a s o t _ hq => ?_)
  rcases hq with ⟨⟨⟨r2, u, h1, h2, h3⟩, h4⟩, h5⟩ | ⟨q, -, E, ce, L, ⟨u, -, ⟨hE, -⟩, -⟩, -⟩
  · exact ⟨⟨⟨r2, u, h1, (Sum.inr.inj h2).symm, h3⟩, h4⟩, h5⟩
  · exact nomatch hE
theorem zXv_ret {l : Launch} {y : MethodName} {b : ByteArray} {k : Nat} {fr lo : Nat} {D : va_G} {cyI cyZ : ClassId} {sz : Nat} {av : List Value} {W0 W1 : va_W} (h : zXv l y b k fr lo D cyI cyZ sz av W0 (.inr ()) W1) : zMv l y b k fr lo D cyI cyZ sz av W0 W1 := by
  unfold zMv Met
  unfold zXv vx_Met at h
  refine MetFree.mono h (fun a s h => h) (fun _ _ _ _ _ h => h) (fun a s o t _ hq => ?_)
  rcases hq with ⟨⟨⟨u, h1, h2, h3⟩, h4⟩, h5⟩ | ⟨q, -, E, ce, L, ⟨u, -, ⟨hE, -⟩, -⟩, -⟩
  · exact ⟨⟨⟨u, h1, trivial, h3⟩, h4⟩, h5⟩
  · exact nomatch hE
/-! ===== the judgement ===== -/
def zG (p : Program) (s : State) (m : MethodId) (args : Array Value) (c : Code) (cc : ByteArray) (nL : Nat) (own : String) (D : va_G) (cyI cyZ : ClassId) (A : Nat → Prop) : Prop :=
  p.tables.exec = Jvm.exec ∧ c.code = cc ∧ c.maxLocals = nL ∧ s.vm.findClass own = some m.cls ∧ (∀ w ∈ zB, w.before args s = true) ∧ va_K D vwCl (zty cyI cyZ) s ∧ (∀ q : Nat, s.heap.size ≤ q → A q) ∧ zX A s s.heap
def zW (p : Program) (l : Launch) (e : Env) (R : Room) (s : State) (m : MethodId) (args : Array Value) (below : List Frame) (meth : Method) (c : Code) (D : va_G) (A : Nat → Prop) (nL : Nat) (cells slots : Nat) (Q : State → Prop) (pc : Nat) (lv : List (Nat × Value)) (st : List Value) (ws : va_W) : Prop :=
  ∀ (H : Heap) (locs : List Loc) (ls : Array Slot), va_P D vwCl ws H → va_D A ws → va_S A s.heap H locs → lv_has ls nL lv → W p l e R s m args below meth c H locs cells slots Q (F0 m pc ls st)
section ZQ
variable {p : Program} {l : Launch} {e : Env} {R : Room} {s : State} {m : MethodId} {args : Array Value} {below : List Frame} {meth : Method} {c : Code} {cells slots : Nat} {Q : State → Prop}
variable {cc : ByteArray} {nL : Nat} {own : String} {D : va_G} {cyI cyZ : ClassId} {A : Nat → Prop} {pc q : Nat} {lv : List (Nat × Value)} {st rest : List Value} {ws : va_W}

theorem zq_iconst (G : zG p s m args c cc nL own D cyI cyZ A) {n : Int} {v : Int32} (hdg : decode cc pc = .ok (.iconst n, 1)) (hv : Int32.ofInt n = v) (hq : pc + 1 = q) (k : zW p l e R s m args below meth c D A nL cells slots Q q lv (.int v :: st) ws) : zW p l e R s m args below meth c D A nL cells slots Q pc lv (st) ws := by
  subst hq
  exact fun H locs ls hP hD hS hl => lv_iconst G.1 G.2.1 hdg hv (k H locs ls hP hD hS hl)
theorem zq_bipush (G : zG p s m args c cc nL own D cyI cyZ A) {n : Int} {v : Int32} (hdg : decode cc pc = .ok (.bipush n, 2)) (hv : (Int8.ofInt n).toInt32 = v) (hq : pc + 2 = q) (k : zW p l e R s m args below meth c D A nL cells slots Q q lv (.int v :: st) ws) : zW p l e R s m args below meth c D A nL cells slots Q pc lv (st) ws := by
  subst hq
  exact fun H locs ls hP hD hS hl => lv_bipush G.1 G.2.1 hdg hv (k H locs ls hP hD hS hl)
theorem zq_sipush (G : zG p s m args c cc nL own D cyI cyZ A) {n : Int} {v : Int32} (hdg : decode cc pc = .ok (.sipush n, 3)) (hv : (Int16.ofInt n).toInt32 = v) (hq : pc + 3 = q) (k : zW p l e R s m args below meth c D A nL cells slots Q q lv (.int v :: st) ws) : zW p l e R s m args below meth c D A nL cells slots Q pc lv (st) ws := by
  subst hq
  exact fun H locs ls hP hD hS hl => lv_sipush G.1 G.2.1 hdg hv (k H locs ls hP hD hS hl)
theorem zq_lconst (G : zG p s m args c cc nL own D cyI cyZ A) {n : Fin 2} {v : Int64} (hdg : decode cc pc = .ok (.lconst n, 1)) (hv : Int64.ofNat (n : Nat) = v) (hq : pc + 1 = q) (k : zW p l e R s m args below meth c D A nL cells slots Q q lv (.long v :: st) ws) : zW p l e R s m args below meth c D A nL cells slots Q pc lv (st) ws := by
  subst hq
  exact fun H locs ls hP hD hS hl => lv_lconst G.1 G.2.1 hdg hv (k H locs ls hP hD hS hl)
theorem zq_ldc (G : zG p s m args c cc nL own D cyI cyZ A) {index : Nat} {v : Int32} (hc : Cond.constant own index v ∈ zB) (hdg : decode cc pc = .ok (.ldc index, 2)) (hq : pc + 2 = q) (k : zW p l e R s m args below meth c D A nL cells slots Q q lv (.int v :: st) ws) : zW p l e R s m args below meth c D A nL cells slots Q pc lv (st) ws := by
  subst hq
  exact fun H locs ls hP hD hS hl => lv_ldc G.1 G.2.1 G.2.2.2.1 (G.2.2.2.2.1 _ hc) hdg (k H locs ls hP hD hS hl)
theorem zq_ldc2 (G : zG p s m args c cc nL own D cyI cyZ A) {index : Nat} {v : Int64} (hc : Cond.constantLong own index v ∈ zB) (hdg : decode cc pc = .ok (.ldc2_w index, 3)) (hq : pc + 3 = q) (k : zW p l e R s m args below meth c D A nL cells slots Q q lv (.long v :: st) ws) : zW p l e R s m args below meth c D A nL cells slots Q pc lv (st) ws := by
  subst hq
  exact fun H locs ls hP hD hS hl => lv_ldc2 G.1 G.2.1 G.2.2.2.1 (G.2.2.2.2.1 _ hc) hdg (k H locs ls hP hD hS hl)
theorem zq_iload_n (G : zG p s m args c cc nL own D cyI cyZ A) {k0 : Fin 4} {i : Nat} {x : Int32} (hdg : decode cc pc = .ok (.iload_n k0, 1)) (j : Nat) (hi : (k0 : Nat) = i) (hj : lv[j]? = some (i, .int x)) (hq : pc + 1 = q) (k : zW p l e R s m args below meth c D A nL cells slots Q q lv (.int x :: st) ws) : zW p l e R s m args below meth c D A nL cells slots Q pc lv st ws := by
  subst hq
  exact fun H locs ls hP hD hS hl => lv_iload_n G.1 G.2.1 hdg hi (lv_at hl j hj) (k H locs ls hP hD hS hl)
theorem zq_iload (G : zG p s m args c cc nL own D cyI cyZ A) {i : Nat} {x : Int32} (hdg : decode cc pc = .ok (.iload i, 2)) (j : Nat) (hj : lv[j]? = some (i, .int x)) (hq : pc + 2 = q) (k : zW p l e R s m args below meth c D A nL cells slots Q q lv (.int x :: st) ws) : zW p l e R s m args below meth c D A nL cells slots Q pc lv st ws := by
  subst hq
  exact fun H locs ls hP hD hS hl => lv_iload G.1 G.2.1 hdg (lv_at hl j hj) (k H locs ls hP hD hS hl)
theorem zq_lload_n (G : zG p s m args c cc nL own D cyI cyZ A) {k0 : Fin 4} {i : Nat} {x : Int64} (hdg : decode cc pc = .ok (.lload_n k0, 1)) (j : Nat) (hi : (k0 : Nat) = i) (hj : lv[j]? = some (i, .long x)) (hq : pc + 1 = q) (k : zW p l e R s m args below meth c D A nL cells slots Q q lv (.long x :: st) ws) : zW p l e R s m args below meth c D A nL cells slots Q pc lv st ws := by
  subst hq
  exact fun H locs ls hP hD hS hl => lv_lload_n G.1 G.2.1 hdg hi (lv_at hl j hj) (k H locs ls hP hD hS hl)
theorem zq_lload (G : zG p s m args c cc nL own D cyI cyZ A) {i : Nat} {x : Int64} (hdg : decode cc pc = .ok (.lload i, 2)) (j : Nat) (hj : lv[j]? = some (i, .long x)) (hq : pc + 2 = q) (k : zW p l e R s m args below meth c D A nL cells slots Q q lv (.long x :: st) ws) : zW p l e R s m args below meth c D A nL cells slots Q pc lv st ws := by
  subst hq
  exact fun H locs ls hP hD hS hl => lv_lload G.1 G.2.1 hdg (lv_at hl j hj) (k H locs ls hP hD hS hl)
theorem zq_aload_n (G : zG p s m args c cc nL own D cyI cyZ A) {k0 : Fin 4} {i : Nat} {x : Nat} (hdg : decode cc pc = .ok (.aload_n k0, 1)) (j : Nat) (hi : (k0 : Nat) = i) (hj : lv[j]? = some (i, .ref x)) (hq : pc + 1 = q) (k : zW p l e R s m args below meth c D A nL cells slots Q q lv (.ref x :: st) ws) : zW p l e R s m args below meth c D A nL cells slots Q pc lv st ws := by
  subst hq
  exact fun H locs ls hP hD hS hl => lv_aload_n G.1 G.2.1 hdg hi (lv_at hl j hj) (k H locs ls hP hD hS hl)
theorem zq_aload (G : zG p s m args c cc nL own D cyI cyZ A) {i : Nat} {x : Nat} (hdg : decode cc pc = .ok (.aload i, 2)) (j : Nat) (hj : lv[j]? = some (i, .ref x)) (hq : pc + 2 = q) (k : zW p l e R s m args below meth c D A nL cells slots Q q lv (.ref x :: st) ws) : zW p l e R s m args below meth c D A nL cells slots Q pc lv st ws := by
  subst hq
  exact fun H locs ls hP hD hS hl => lv_aload G.1 G.2.1 hdg (lv_at hl j hj) (k H locs ls hP hD hS hl)
theorem zq_istore_n (G : zG p s m args c cc nL own D cyI cyZ A) {k0 : Fin 4} {i : Nat} {x : Int32} {lv2 : List (Nat × Value)} (hdg : decode cc pc = .ok (.istore_n k0, 1)) (hi : (k0 : Nat) = i) (hn : i < nL) (hl2 : (i, Value.int x) :: lv.filter (fun q => !(q.1 == i) && !(q.1 + 1 == i && q.2.category == 2)) = lv2) (hq : pc + 1 = q) (k : zW p l e R s m args below meth c D A nL cells slots Q q lv2 st ws) : zW p l e R s m args below meth c D A nL cells slots Q pc lv (Value.int x :: st) ws := by
  subst hq
  exact fun H locs ls hP hD hS hl => lv_istore_n G.1 G.2.1 hdg hi hl hn hl2 (fun ls2 hl3 => k H locs ls2 hP hD hS hl3)
theorem zq_istore (G : zG p s m args c cc nL own D cyI cyZ A) {i : Nat} {x : Int32} {lv2 : List (Nat × Value)} (hdg : decode cc pc = .ok (.istore i, 2)) (hn : i < nL) (hl2 : (i, Value.int x) :: lv.filter (fun q => !(q.1 == i) && !(q.1 + 1 == i && q.2.category == 2)) = lv2) (hq : pc + 2 = q) (k : zW p l e R s m args below meth c D A nL cells slots Q q lv2 st ws) : zW p l e R s m args below meth c D A nL cells slots Q pc lv (Value.int x :: st) ws := by
  subst hq
  exact fun H locs ls hP hD hS hl => lv_istore G.1 G.2.1 hdg hl hn hl2 (fun ls2 hl3 => k H locs ls2 hP hD hS hl3)
theorem zq_astore_n (G : zG p s m args c cc nL own D cyI cyZ A) {k0 : Fin 4} {i : Nat} {x : Nat} {lv2 : List (Nat × Value)} (hdg : decode cc pc = .ok (.astore_n k0, 1)) (hi : (k0 : Nat) = i) (hn : i < nL) (hl2 : (i, Value.ref x) :: lv.filter (fun q => !(q.1 == i) && !(q.1 + 1 == i && q.2.category == 2)) = lv2) (hq : pc + 1 = q) (k : zW p l e R s m args below meth c D A nL cells slots Q q lv2 st ws) : zW p l e R s m args below meth c D A nL cells slots Q pc lv (Value.ref x :: st) ws := by
  subst hq
  exact fun H locs ls hP hD hS hl => lv_astore_n G.1 G.2.1 hdg hi hl hn hl2 (fun ls2 hl3 => k H locs ls2 hP hD hS hl3)
theorem zq_astore (G : zG p s m args c cc nL own D cyI cyZ A) {i : Nat} {x : Nat} {lv2 : List (Nat × Value)} (hdg : decode cc pc = .ok (.astore i, 2)) (hn : i < nL) (hl2 : (i, Value.ref x) :: lv.filter (fun q => !(q.1 == i) && !(q.1 + 1 == i && q.2.category == 2)) = lv2) (hq : pc + 2 = q) (k : zW p l e R s m args below meth c D A nL cells slots Q q lv2 st ws) : zW p l e R s m args below meth c D A nL cells slots Q pc lv (Value.ref x :: st) ws := by
  subst hq
  exact fun H locs ls hP hD hS hl => lv_astore G.1 G.2.1 hdg hl hn hl2 (fun ls2 hl3 => k H locs ls2 hP hD hS hl3)
theorem zq_lstore_n (G : zG p s m args c cc nL own D cyI cyZ A) {k0 : Fin 4} {i : Nat} {x : Int64} {lv2 : List (Nat × Value)} (hdg : decode cc pc = .ok (.lstore_n k0, 1)) (hi : (k0 : Nat) = i) (hn : i + 1 < nL) (hl2 : (i, Value.long x) :: lv.filter (fun q => !(q.1 == i) && (!(q.1 == i + 1) && !(q.1 + 1 == i && q.2.category == 2))) = lv2) (hq : pc + 1 = q) (k : zW p l e R s m args below meth c D A nL cells slots Q q lv2 st ws) : zW p l e R s m args below meth c D A nL cells slots Q pc lv (Value.long x :: st) ws := by
  subst hq
  exact fun H locs ls hP hD hS hl => lv_lstore_n G.1 G.2.1 hdg hi hl hn hl2 (fun ls2 hl3 => k H locs ls2 hP hD hS hl3)
theorem zq_lstore (G : zG p s m args c cc nL own D cyI cyZ A) {i : Nat} {x : Int64} {lv2 : List (Nat × Value)} (hdg : decode cc pc = .ok (.lstore i, 2)) (hn : i + 1 < nL) (hl2 : (i, Value.long x) :: lv.filter (fun q => !(q.1 == i) && (!(q.1 == i + 1) && !(q.1 + 1 == i && q.2.category == 2))) = lv2) (hq : pc + 2 = q) (k : zW p l e R s m args below meth c D A nL cells slots Q q lv2 st ws) : zW p l e R s m args below meth c D A nL cells slots Q pc lv (Value.long x :: st) ws := by
  subst hq
  exact fun H locs ls hP hD hS hl => lv_lstore G.1 G.2.1 hdg hl hn hl2 (fun ls2 hl3 => k H locs ls2 hP hD hS hl3)
theorem zq_iinc (G : zG p s m args c cc nL own D cyI cyZ A) {i : Nat} {n : Int} {x v : Int32} {lv2 : List (Nat × Value)} (hdg : decode cc pc = .ok (.iinc i n, 3)) (j : Nat) (hj : lv[j]? = some (i, .int x)) (hv : x + Int32.ofInt n = v) (hn : i < nL) (hl2 : (i, Value.int v) :: lv.filter (fun q => !(q.1 == i) && !(q.1 + 1 == i && q.2.category == 2)) = lv2) (hq : pc + 3 = q) (k : zW p l e R s m args below meth c D A nL cells slots Q q lv2 st ws) : zW p l e R s m args below meth c D A nL cells slots Q pc lv st ws := by
  subst hq
  exact fun H locs ls hP hD hS hl => lv_iinc G.1 G.2.1 hdg hl hj hv hn hl2 (fun ls2 hl3 => k H locs ls2 hP hD hS hl3)
theorem zq_iadd (G : zG p s m args c cc nL own D cyI cyZ A) {x y : Int32} (hdg : decode cc pc = .ok (.iadd, 1)) (hq : pc + 1 = q) (k : zW p l e R s m args below meth c D A nL cells slots Q q lv (.int (x + y) :: st) ws) : zW p l e R s m args below meth c D A nL cells slots Q pc lv (.int y :: .int x :: st) ws := by
  subst hq
  exact fun H locs ls hP hD hS hl => lv_iadd G.1 G.2.1 hdg (k H locs ls hP hD hS hl)
theorem zq_isub (G : zG p s m args c cc nL own D cyI cyZ A) {x y : Int32} (hdg : decode cc pc = .ok (.isub, 1)) (hq : pc + 1 = q) (k : zW p l e R s m args below meth c D A nL cells slots Q q lv (.int (x - y) :: st) ws) : zW p l e R s m args below meth c D A nL cells slots Q pc lv (.int y :: .int x :: st) ws := by
  subst hq
  exact fun H locs ls hP hD hS hl => lv_isub G.1 G.2.1 hdg (k H locs ls hP hD hS hl)
theorem zq_imul (G : zG p s m args c cc nL own D cyI cyZ A) {x y : Int32} (hdg : decode cc pc = .ok (.imul, 1)) (hq : pc + 1 = q) (k : zW p l e R s m args below meth c D A nL cells slots Q q lv (.int (x * y) :: st) ws) : zW p l e R s m args below meth c D A nL cells slots Q pc lv (.int y :: .int x :: st) ws := by
  subst hq
  exact fun H locs ls hP hD hS hl => lv_imul G.1 G.2.1 hdg (k H locs ls hP hD hS hl)
theorem zq_iand (G : zG p s m args c cc nL own D cyI cyZ A) {x y : Int32} (hdg : decode cc pc = .ok (.iand, 1)) (hq : pc + 1 = q) (k : zW p l e R s m args below meth c D A nL cells slots Q q lv (.int (x &&& y) :: st) ws) : zW p l e R s m args below meth c D A nL cells slots Q pc lv (.int y :: .int x :: st) ws := by
  subst hq
  exact fun H locs ls hP hD hS hl => lv_iand G.1 G.2.1 hdg (k H locs ls hP hD hS hl)
theorem zq_ior (G : zG p s m args c cc nL own D cyI cyZ A) {x y : Int32} (hdg : decode cc pc = .ok (.ior, 1)) (hq : pc + 1 = q) (k : zW p l e R s m args below meth c D A nL cells slots Q q lv (.int (x ||| y) :: st) ws) : zW p l e R s m args below meth c D A nL cells slots Q pc lv (.int y :: .int x :: st) ws := by
  subst hq
  exact fun H locs ls hP hD hS hl => lv_ior G.1 G.2.1 hdg (k H locs ls hP hD hS hl)
theorem zq_ishl (G : zG p s m args c cc nL own D cyI cyZ A) {x y : Int32} (hdg : decode cc pc = .ok (.ishl, 1)) (hq : pc + 1 = q) (k : zW p l e R s m args below meth c D A nL cells slots Q q lv (.int (x <<< (y &&& 31)) :: st) ws) : zW p l e R s m args below meth c D A nL cells slots Q pc lv (.int y :: .int x :: st) ws := by
  subst hq
  exact fun H locs ls hP hD hS hl => lv_ishl G.1 G.2.1 hdg (k H locs ls hP hD hS hl)
theorem zq_ishr (G : zG p s m args c cc nL own D cyI cyZ A) {x y : Int32} (hdg : decode cc pc = .ok (.ishr, 1)) (hq : pc + 1 = q) (k : zW p l e R s m args below meth c D A nL cells slots Q q lv (.int (x >>> (y &&& 31)) :: st) ws) : zW p l e R s m args below meth c D A nL cells slots Q pc lv (.int y :: .int x :: st) ws := by
  subst hq
  exact fun H locs ls hP hD hS hl => lv_ishr G.1 G.2.1 hdg (k H locs ls hP hD hS hl)
theorem zq_iushr (G : zG p s m args c cc nL own D cyI cyZ A) {x y : Int32} (hdg : decode cc pc = .ok (.iushr, 1)) (hq : pc + 1 = q) (k : zW p l e R s m args below meth c D A nL cells slots Q q lv (.int ((x.toUInt32 >>> (y.toUInt32 &&& Int32.toUInt32 31)).toInt32) :: st) ws) : zW p l e R s m args below meth c D A nL cells slots Q pc lv (.int y :: .int x :: st) ws := by
  subst hq
  exact fun H locs ls hP hD hS hl => lv_iushr G.1 G.2.1 hdg rfl (k H locs ls hP hD hS hl)
theorem zq_ldcw (G : zG p s m args c cc nL own D cyI cyZ A) {index : Nat} {v : Int32} (hc : Cond.constant own index v ∈ zB) (hdg : decode cc pc = .ok (.ldc_w index, 3)) (hq : pc + 3 = q) (k : zW p l e R s m args below meth c D A nL cells slots Q q lv (.int v :: st) ws) : zW p l e R s m args below meth c D A nL cells slots Q pc lv (st) ws := by
  subst hq
  exact fun H locs ls hP hD hS hl => lv_ldcw G.1 G.2.1 G.2.2.2.1 (G.2.2.2.2.1 _ hc) hdg (k H locs ls hP hD hS hl)
theorem zq_idiv (G : zG p s m args c cc nL own D cyI cyZ A) {x y : Int32} (hdg : decode cc pc = .ok (.idiv, 1)) (hne : ¬ y = 0) (hq : pc + 1 = q) (k : zW p l e R s m args below meth c D A nL cells slots Q q lv (.int (x / y) :: st) ws) : zW p l e R s m args below meth c D A nL cells slots Q pc lv (.int y :: .int x :: st) ws := by
  subst hq
  exact fun H locs ls hP hD hS hl => lv_idiv G.1 G.2.1 hdg hne (k H locs ls hP hD hS hl)
theorem zq_irem (G : zG p s m args c cc nL own D cyI cyZ A) {x y : Int32} (hdg : decode cc pc = .ok (.irem, 1)) (hne : ¬ y = 0) (hq : pc + 1 = q) (k : zW p l e R s m args below meth c D A nL cells slots Q q lv (.int (x - x / y * y) :: st) ws) : zW p l e R s m args below meth c D A nL cells slots Q pc lv (.int y :: .int x :: st) ws := by
  subst hq
  exact fun H locs ls hP hD hS hl => lv_irem G.1 G.2.1 hdg hne (k H locs ls hP hD hS hl)
theorem zq_ineg (G : zG p s m args c cc nL own D cyI cyZ A) {x : Int32} (hdg : decode cc pc = .ok (.ineg, 1)) (hq : pc + 1 = q) (k : zW p l e R s m args below meth c D A nL cells slots Q q lv (.int (-x) :: st) ws) : zW p l e R s m args below meth c D A nL cells slots Q pc lv (.int x :: st) ws := by
  subst hq
  exact fun H locs ls hP hD hS hl => lv_ineg G.1 G.2.1 hdg (k H locs ls hP hD hS hl)
theorem zq_ladd (G : zG p s m args c cc nL own D cyI cyZ A) {x y : Int64} (hdg : decode cc pc = .ok (.ladd, 1)) (hq : pc + 1 = q) (k : zW p l e R s m args below meth c D A nL cells slots Q q lv (.long (x + y) :: st) ws) : zW p l e R s m args below meth c D A nL cells slots Q pc lv (.long y :: .long x :: st) ws := by
  subst hq
  exact fun H locs ls hP hD hS hl => lv_ladd G.1 G.2.1 hdg (k H locs ls hP hD hS hl)
theorem zq_lmul (G : zG p s m args c cc nL own D cyI cyZ A) {x y : Int64} (hdg : decode cc pc = .ok (.lmul, 1)) (hq : pc + 1 = q) (k : zW p l e R s m args below meth c D A nL cells slots Q q lv (.long (x * y) :: st) ws) : zW p l e R s m args below meth c D A nL cells slots Q pc lv (.long y :: .long x :: st) ws := by
  subst hq
  exact fun H locs ls hP hD hS hl => lv_lmul G.1 G.2.1 hdg (k H locs ls hP hD hS hl)
theorem zq_ldiv (G : zG p s m args c cc nL own D cyI cyZ A) {x y : Int64} (hdg : decode cc pc = .ok (.ldiv, 1)) (hne : ¬ y = 0) (hq : pc + 1 = q) (k : zW p l e R s m args below meth c D A nL cells slots Q q lv (.long (x / y) :: st) ws) : zW p l e R s m args below meth c D A nL cells slots Q pc lv (.long y :: .long x :: st) ws := by
  subst hq
  exact fun H locs ls hP hD hS hl => lv_ldiv G.1 G.2.1 hdg hne (k H locs ls hP hD hS hl)
theorem zq_lrem (G : zG p s m args c cc nL own D cyI cyZ A) {x y : Int64} (hdg : decode cc pc = .ok (.lrem, 1)) (hne : ¬ y = 0) (hq : pc + 1 = q) (k : zW p l e R s m args below meth c D A nL cells slots Q q lv (.long (x - x / y * y) :: st) ws) : zW p l e R s m args below meth c D A nL cells slots Q pc lv (.long y :: .long x :: st) ws := by
  subst hq
  exact fun H locs ls hP hD hS hl => lv_lrem G.1 G.2.1 hdg hne (k H locs ls hP hD hS hl)
theorem zq_lcmp (G : zG p s m args c cc nL own D cyI cyZ A) {x y : Int64} (hdg : decode cc pc = .ok (.lcmp, 1)) (hq : pc + 1 = q) (k : zW p l e R s m args below meth c D A nL cells slots Q q lv (.int (lg_cmp x y) :: st) ws) : zW p l e R s m args below meth c D A nL cells slots Q pc lv (.long y :: .long x :: st) ws := by
  subst hq
  exact fun H locs ls hP hD hS hl => W.lcmp G.1 G.2.1 hdg (k H locs ls hP hD hS hl)
theorem zq_i2l (G : zG p s m args c cc nL own D cyI cyZ A) {x : Int32} (hdg : decode cc pc = .ok (.i2l, 1)) (hq : pc + 1 = q) (k : zW p l e R s m args below meth c D A nL cells slots Q q lv (.long x.toInt64 :: st) ws) : zW p l e R s m args below meth c D A nL cells slots Q pc lv (.int x :: st) ws := by
  subst hq
  exact fun H locs ls hP hD hS hl => lv_i2l G.1 G.2.1 hdg rfl (k H locs ls hP hD hS hl)
theorem zq_l2i (G : zG p s m args c cc nL own D cyI cyZ A) {x : Int64} (hdg : decode cc pc = .ok (.l2i, 1)) (hq : pc + 1 = q) (k : zW p l e R s m args below meth c D A nL cells slots Q q lv (.int x.toInt32 :: st) ws) : zW p l e R s m args below meth c D A nL cells slots Q pc lv (.long x :: st) ws := by
  subst hq
  exact fun H locs ls hP hD hS hl => lv_l2i G.1 G.2.1 hdg rfl (k H locs ls hP hD hS hl)
theorem zq_dup (G : zG p s m args c cc nL own D cyI cyZ A) {va : Value} (hdg : decode cc pc = .ok (.dup, 1)) (hva : va.category = 1) (hq : pc + 1 = q) (k : zW p l e R s m args below meth c D A nL cells slots Q q lv (va :: va :: st) ws) : zW p l e R s m args below meth c D A nL cells slots Q pc lv (va :: st) ws := by
  subst hq
  exact fun H locs ls hP hD hS hl => lv_dup G.1 G.2.1 hdg hva (k H locs ls hP hD hS hl)
theorem zq_dup2 (G : zG p s m args c cc nL own D cyI cyZ A) {va vb : Value} (hdg : decode cc pc = .ok (.dup2, 1)) (hva : va.category = 1) (hvb : vb.category = 1) (hq : pc + 1 = q) (k : zW p l e R s m args below meth c D A nL cells slots Q q lv (va :: vb :: va :: vb :: st) ws) : zW p l e R s m args below meth c D A nL cells slots Q pc lv (va :: vb :: st) ws := by
  subst hq
  exact fun H locs ls hP hD hS hl => lv_dup2_11 G.1 G.2.1 hdg hva hvb (k H locs ls hP hD hS hl)
theorem zq_pop (G : zG p s m args c cc nL own D cyI cyZ A) {va : Value} (hdg : decode cc pc = .ok (.pop, 1)) (hva : va.category = 1) (hq : pc + 1 = q) (k : zW p l e R s m args below meth c D A nL cells slots Q q lv (st) ws) : zW p l e R s m args below meth c D A nL cells slots Q pc lv (va :: st) ws := by
  subst hq
  exact fun H locs ls hP hD hS hl => lv_pop G.1 G.2.1 hdg hva (k H locs ls hP hD hS hl)
theorem zq_goto (G : zG p s m args c cc nL own D cyI cyZ A) {off : Int} (hdg : decode cc pc = .ok (.goto off, 3)) (ht : (pc : Int) + off = (q : Int)) (k : zW p l e R s m args below meth c D A nL cells slots Q q lv st ws) : zW p l e R s m args below meth c D A nL cells slots Q pc lv st ws := fun H locs ls hP hD hS hl => lv_goto G.1 G.2.1 hdg ht (k H locs ls hP hD hS hl)
theorem zq_icmp_eq (G : zG p s m args c cc nL own D cyI cyZ A) {x y : Int32} {off : Int} {tgt : Nat} (hdg : decode cc pc = .ok (.if_icmp .eq off, 3)) (ht : (pc : Int) + off = (tgt : Int)) (hq : pc + 3 = q) (kt : x = y → zW p l e R s m args below meth c D A nL cells slots Q tgt lv st ws) (kf : ¬ x = y → zW p l e R s m args below meth c D A nL cells slots Q q lv st ws) : zW p l e R s m args below meth c D A nL cells slots Q pc lv (.int y :: .int x :: st) ws := by
  subst hq
  exact fun H locs ls hP hD hS hl => lv_icmp_eq G.1 G.2.1 hdg ht (fun c9 => kt c9 H locs ls hP hD hS hl) (fun c9 => kf c9 H locs ls hP hD hS hl)
theorem zq_icmp_ne (G : zG p s m args c cc nL own D cyI cyZ A) {x y : Int32} {off : Int} {tgt : Nat} (hdg : decode cc pc = .ok (.if_icmp .ne off, 3)) (ht : (pc : Int) + off = (tgt : Int)) (hq : pc + 3 = q) (kt : ¬ x = y → zW p l e R s m args below meth c D A nL cells slots Q tgt lv st ws) (kf : x = y → zW p l e R s m args below meth c D A nL cells slots Q q lv st ws) : zW p l e R s m args below meth c D A nL cells slots Q pc lv (.int y :: .int x :: st) ws := by
  subst hq
  exact fun H locs ls hP hD hS hl => lv_icmp_ne G.1 G.2.1 hdg ht (fun c9 => kt c9 H locs ls hP hD hS hl) (fun c9 => kf c9 H locs ls hP hD hS hl)
theorem zq_icmp_lt (G : zG p s m args c cc nL own D cyI cyZ A) {x y : Int32} {off : Int} {tgt : Nat} (hdg : decode cc pc = .ok (.if_icmp .lt off, 3)) (ht : (pc : Int) + off = (tgt : Int)) (hq : pc + 3 = q) (kt : x < y → zW p l e R s m args below meth c D A nL cells slots Q tgt lv st ws) (kf : ¬ x < y → zW p l e R s m args below meth c D A nL cells slots Q q lv st ws) : zW p l e R s m args below meth c D A nL cells slots Q pc lv (.int y :: .int x :: st) ws := by
  subst hq
  exact fun H locs ls hP hD hS hl => lv_icmp_lt G.1 G.2.1 hdg ht (fun c9 => kt c9 H locs ls hP hD hS hl) (fun c9 => kf c9 H locs ls hP hD hS hl)
theorem zq_icmp_ge (G : zG p s m args c cc nL own D cyI cyZ A) {x y : Int32} {off : Int} {tgt : Nat} (hdg : decode cc pc = .ok (.if_icmp .ge off, 3)) (ht : (pc : Int) + off = (tgt : Int)) (hq : pc + 3 = q) (kt : y ≤ x → zW p l e R s m args below meth c D A nL cells slots Q tgt lv st ws) (kf : ¬ y ≤ x → zW p l e R s m args below meth c D A nL cells slots Q q lv st ws) : zW p l e R s m args below meth c D A nL cells slots Q pc lv (.int y :: .int x :: st) ws := by
  subst hq
  exact fun H locs ls hP hD hS hl => lv_icmp_ge G.1 G.2.1 hdg ht (fun c9 => kt c9 H locs ls hP hD hS hl) (fun c9 => kf c9 H locs ls hP hD hS hl)
theorem zq_icmp_gt (G : zG p s m args c cc nL own D cyI cyZ A) {x y : Int32} {off : Int} {tgt : Nat} (hdg : decode cc pc = .ok (.if_icmp .gt off, 3)) (ht : (pc : Int) + off = (tgt : Int)) (hq : pc + 3 = q) (kt : y < x → zW p l e R s m args below meth c D A nL cells slots Q tgt lv st ws) (kf : ¬ y < x → zW p l e R s m args below meth c D A nL cells slots Q q lv st ws) : zW p l e R s m args below meth c D A nL cells slots Q pc lv (.int y :: .int x :: st) ws := by
  subst hq
  exact fun H locs ls hP hD hS hl => lv_icmp_gt G.1 G.2.1 hdg ht (fun c9 => kt c9 H locs ls hP hD hS hl) (fun c9 => kf c9 H locs ls hP hD hS hl)
theorem zq_icmp_le (G : zG p s m args c cc nL own D cyI cyZ A) {x y : Int32} {off : Int} {tgt : Nat} (hdg : decode cc pc = .ok (.if_icmp .le off, 3)) (ht : (pc : Int) + off = (tgt : Int)) (hq : pc + 3 = q) (kt : x ≤ y → zW p l e R s m args below meth c D A nL cells slots Q tgt lv st ws) (kf : ¬ x ≤ y → zW p l e R s m args below meth c D A nL cells slots Q q lv st ws) : zW p l e R s m args below meth c D A nL cells slots Q pc lv (.int y :: .int x :: st) ws := by
  subst hq
  exact fun H locs ls hP hD hS hl => lv_icmp_le G.1 G.2.1 hdg ht (fun c9 => kt c9 H locs ls hP hD hS hl) (fun c9 => kf c9 H locs ls hP hD hS hl)
theorem zq_if_eq (G : zG p s m args c cc nL own D cyI cyZ A) {x : Int32} {off : Int} {tgt : Nat} (hdg : decode cc pc = .ok (.ifCond .eq off, 3)) (ht : (pc : Int) + off = (tgt : Int)) (hq : pc + 3 = q) (kt : x = 0 → zW p l e R s m args below meth c D A nL cells slots Q tgt lv st ws) (kf : ¬ x = 0 → zW p l e R s m args below meth c D A nL cells slots Q q lv st ws) : zW p l e R s m args below meth c D A nL cells slots Q pc lv (.int x :: st) ws := by
  subst hq
  exact fun H locs ls hP hD hS hl => lv_if_eq G.1 G.2.1 hdg ht (fun c9 => kt c9 H locs ls hP hD hS hl) (fun c9 => kf c9 H locs ls hP hD hS hl)
theorem zq_if_ne (G : zG p s m args c cc nL own D cyI cyZ A) {x : Int32} {off : Int} {tgt : Nat} (hdg : decode cc pc = .ok (.ifCond .ne off, 3)) (ht : (pc : Int) + off = (tgt : Int)) (hq : pc + 3 = q) (kt : ¬ x = 0 → zW p l e R s m args below meth c D A nL cells slots Q tgt lv st ws) (kf : x = 0 → zW p l e R s m args below meth c D A nL cells slots Q q lv st ws) : zW p l e R s m args below meth c D A nL cells slots Q pc lv (.int x :: st) ws := by
  subst hq
  exact fun H locs ls hP hD hS hl => lv_if_ne G.1 G.2.1 hdg ht (fun c9 => kt c9 H locs ls hP hD hS hl) (fun c9 => kf c9 H locs ls hP hD hS hl)
theorem zq_if_lt (G : zG p s m args c cc nL own D cyI cyZ A) {x : Int32} {off : Int} {tgt : Nat} (hdg : decode cc pc = .ok (.ifCond .lt off, 3)) (ht : (pc : Int) + off = (tgt : Int)) (hq : pc + 3 = q) (kt : x < 0 → zW p l e R s m args below meth c D A nL cells slots Q tgt lv st ws) (kf : ¬ x < 0 → zW p l e R s m args below meth c D A nL cells slots Q q lv st ws) : zW p l e R s m args below meth c D A nL cells slots Q pc lv (.int x :: st) ws := by
  subst hq
  exact fun H locs ls hP hD hS hl => lv_if_lt G.1 G.2.1 hdg ht (fun c9 => kt c9 H locs ls hP hD hS hl) (fun c9 => kf c9 H locs ls hP hD hS hl)
theorem zq_if_ge (G : zG p s m args c cc nL own D cyI cyZ A) {x : Int32} {off : Int} {tgt : Nat} (hdg : decode cc pc = .ok (.ifCond .ge off, 3)) (ht : (pc : Int) + off = (tgt : Int)) (hq : pc + 3 = q) (kt : 0 ≤ x → zW p l e R s m args below meth c D A nL cells slots Q tgt lv st ws) (kf : ¬ 0 ≤ x → zW p l e R s m args below meth c D A nL cells slots Q q lv st ws) : zW p l e R s m args below meth c D A nL cells slots Q pc lv (.int x :: st) ws := by
  subst hq
  exact fun H locs ls hP hD hS hl => lv_if_ge G.1 G.2.1 hdg ht (fun c9 => kt c9 H locs ls hP hD hS hl) (fun c9 => kf c9 H locs ls hP hD hS hl)
theorem zq_if_gt (G : zG p s m args c cc nL own D cyI cyZ A) {x : Int32} {off : Int} {tgt : Nat} (hdg : decode cc pc = .ok (.ifCond .gt off, 3)) (ht : (pc : Int) + off = (tgt : Int)) (hq : pc + 3 = q) (kt : 0 < x → zW p l e R s m args below meth c D A nL cells slots Q tgt lv st ws) (kf : ¬ 0 < x → zW p l e R s m args below meth c D A nL cells slots Q q lv st ws) : zW p l e R s m args below meth c D A nL cells slots Q pc lv (.int x :: st) ws := by
  subst hq
  exact fun H locs ls hP hD hS hl => lv_if_gt G.1 G.2.1 hdg ht (fun c9 => kt c9 H locs ls hP hD hS hl) (fun c9 => kf c9 H locs ls hP hD hS hl)
theorem zq_if_le (G : zG p s m args c cc nL own D cyI cyZ A) {x : Int32} {off : Int} {tgt : Nat} (hdg : decode cc pc = .ok (.ifCond .le off, 3)) (ht : (pc : Int) + off = (tgt : Int)) (hq : pc + 3 = q) (kt : x ≤ 0 → zW p l e R s m args below meth c D A nL cells slots Q tgt lv st ws) (kf : ¬ x ≤ 0 → zW p l e R s m args below meth c D A nL cells slots Q q lv st ws) : zW p l e R s m args below meth c D A nL cells slots Q pc lv (.int x :: st) ws := by
  subst hq
  exact fun H locs ls hP hD hS hl => lv_if_le G.1 G.2.1 hdg ht (fun c9 => kt c9 H locs ls hP hD hS hl) (fun c9 => kf c9 H locs ls hP hD hS hl)
theorem zq_sub (lv2 : List (Nat × Value)) (ks : List Nat) (hl2 : lv_pick lv ks = lv2) (k : zW p l e R s m args below meth c D A nL cells slots Q pc lv2 st ws) : zW p l e R s m args below meth c D A nL cells slots Q pc lv st ws := fun H locs ls hP hD hS hl => k H locs ls hP hD hS (lv_sub hl ks hl2)
theorem zq_show (q : Nat) (hq : pc = q) (k : zW p l e R s m args below meth c D A nL cells slots Q q lv st ws) : zW p l e R s m args below meth c D A nL cells slots Q pc lv st ws := by subst hq; exact k
theorem zq_get (G : zG p s m args c cc nL own D cyI cyZ A) {C ref nm ds : String} {T : u_T} {N ci idx a : Nat} {fs : List Value} {v : Value} (hin : ∀ w ∈ u_ws C T N, w ∈ zB) (hc : vwCl[ci]? = some (C, T, N)) (hlink : Cond.fieldLink own idx ref nm ds ∈ zB) (hdg : decode cc pc = .ok (.getfield idx, 3)) (q0 k : Nat) (he : ws[q0]? = some (a, .inr (ci, fs))) (hk : k < N) (hT : ((T k).1 = ref ∧ (T k).2.1 = nm) ∧ (T k).2.2.1 = ds) (hv : fs[k]? = some v) (hq : pc + 3 = q) (kk : zW p l e R s m args below meth c D A nL cells slots Q q lv (v :: st) ws) : zW p l e R s m args below meth c D A nL cells slots Q pc lv (.ref a :: st) ws := by
  obtain ⟨⟨h1, h2⟩, h3⟩ := hT
  subst h1 h2 h3 hq
  exact fun H locs ls hP hD hS hl => va_get G.1 G.2.1 G.2.2.2.2.1 hin G.2.2.2.1 G.2.2.2.2.2.1 hP q0 he hc k hk (G.2.2.2.2.1 _ hlink) (fun _ h9 => h9) hv hdg (kk H locs ls hP hD hS hl)
theorem zq_getN (G : zG p s m args c cc nL own D cyI cyZ A) {C ref nm ds host : String} {T : u_T} {N ci idx a : Nat} {fs : List Value} {v : Value} (hin : ∀ w ∈ u_ws C T N, w ∈ zB) (hc : vwCl[ci]? = some (C, T, N)) (hlink : Cond.fieldLinkNest own idx ref nm ds host ∈ zB) (hdg : decode cc pc = .ok (.getfield idx, 3)) (q0 k : Nat) (he : ws[q0]? = some (a, .inr (ci, fs))) (hk : k < N) (hT : ((T k).1 = ref ∧ (T k).2.1 = nm) ∧ (T k).2.2.1 = ds) (hv : fs[k]? = some v) (hq : pc + 3 = q) (kk : zW p l e R s m args below meth c D A nL cells slots Q q lv (v :: st) ws) : zW p l e R s m args below meth c D A nL cells slots Q pc lv (.ref a :: st) ws := by
  obtain ⟨⟨h1, h2⟩, h3⟩ := hT
  subst h1 h2 h3 hq
  exact fun H locs ls hP hD hS hl => va_getN G.1 G.2.1 G.2.2.2.2.1 hin G.2.2.2.1 G.2.2.2.2.2.1 hP q0 he hc k hk (G.2.2.2.2.1 _ hlink) (fun _ h9 => h9) hv hdg (kk H locs ls hP hD hS hl)
theorem zq_put (G : zG p s m args c cc nL own D cyI cyZ A) {C ref nm ds : String} {T : u_T} {N ci idx a : Nat} {fs : List Value} {v : Value} {ws2 : va_W} {ty0 : Nat → FieldType} (hin : ∀ w ∈ u_ws C T N, w ∈ zB) (hc : vwCl[ci]? = some (C, T, N)) (hty : ∀ k, k < N → parseFieldDescriptor (T k).2.2.1 = some (ty0 k)) (hnm : ∀ a, a < N → ∀ b, b < N → a ≠ b → (T a).2.1 ≠ (T b).2.1) (hlink : Cond.fieldLink own idx ref nm ds ∈ zB) (hdg : decode cc pc = .ok (.putfield idx, 3)) (q0 k : Nat) (he : ws[q0]? = some (a, .inr (ci, fs))) (hk : k < N) (hT : ((T k).1 = ref ∧ (T k).2.1 = nm) ∧ (T k).2.2.1 = ds) (hfin : (T k).2.2.2 = false) (hn : narrow (ty0 k) v = v) (hfit : fits (ty0 k) v = true) (hl9 : k < fs.length) (hw : ws.set q0 (a, .inr (ci, fs.set k v)) = ws2) (hq : pc + 3 = q) (kk : zW p l e R s m args below meth c D A nL cells slots Q q lv st ws2) : zW p l e R s m args below meth c D A nL cells slots Q pc lv (v :: .ref a :: st) ws := by
  obtain ⟨⟨h1, h2⟩, h3⟩ := hT
  subst h1 h2 h3 hq hw
  exact fun H locs ls hP hD hS hl => va_put G.1 G.2.1 G.2.2.2.2.1 hin ty0 hty hnm G.2.2.2.1 G.2.2.2.2.2.1 hP hD hS q0 he hc k hk (G.2.2.2.2.1 _ hlink) (fun _ h9 => h9) hfin (hty k hk) hn hfit hl9 hdg (fun H1 locs1 hP1 hD1 hS1 => kk H1 locs1 ls hP1 hD1 hS1 hl)
theorem zq_putN (G : zG p s m args c cc nL own D cyI cyZ A) {C ref nm ds host : String} {T : u_T} {N ci idx a : Nat} {fs : List Value} {v : Value} {ws2 : va_W} {ty0 : Nat → FieldType} (hin : ∀ w ∈ u_ws C T N, w ∈ zB) (hc : vwCl[ci]? = some (C, T, N)) (hty : ∀ k, k < N → parseFieldDescriptor (T k).2.2.1 = some (ty0 k)) (hnm : ∀ a, a < N → ∀ b, b < N → a ≠ b → (T a).2.1 ≠ (T b).2.1) (hlink : Cond.fieldLinkNest own idx ref nm ds host ∈ zB) (hdg : decode cc pc = .ok (.putfield idx, 3)) (q0 k : Nat) (he : ws[q0]? = some (a, .inr (ci, fs))) (hk : k < N) (hT : ((T k).1 = ref ∧ (T k).2.1 = nm) ∧ (T k).2.2.1 = ds) (hfin : (T k).2.2.2 = false) (hn : narrow (ty0 k) v = v) (hfit : fits (ty0 k) v = true) (hl9 : k < fs.length) (hw : ws.set q0 (a, .inr (ci, fs.set k v)) = ws2) (hq : pc + 3 = q) (kk : zW p l e R s m args below meth c D A nL cells slots Q q lv st ws2) : zW p l e R s m args below meth c D A nL cells slots Q pc lv (v :: .ref a :: st) ws := by
  obtain ⟨⟨h1, h2⟩, h3⟩ := hT
  subst h1 h2 h3 hq hw
  exact fun H locs ls hP hD hS hl => va_putN G.1 G.2.1 G.2.2.2.2.1 hin ty0 hty hnm G.2.2.2.1 G.2.2.2.2.2.1 hP hD hS q0 he hc k hk (G.2.2.2.2.1 _ hlink) (fun _ h9 => h9) hfin (hty k hk) hn hfit hl9 hdg (fun H1 locs1 hP1 hD1 hS1 => kk H1 locs1 ls hP1 hD1 hS1 hl)
theorem zq_putF (G : zG p s m args c cc nL own D cyI cyZ A) {C ref nm ds : String} {T : u_T} {N ci idx a : Nat} {fs : List Value} {v : Value} {ws2 : va_W} {ty0 : Nat → FieldType} (hin : ∀ w ∈ u_ws C T N, w ∈ zB) (hc : vwCl[ci]? = some (C, T, N)) (hty : ∀ k, k < N → parseFieldDescriptor (T k).2.2.1 = some (ty0 k)) (hnm : ∀ a, a < N → ∀ b, b < N → a ≠ b → (T a).2.1 ≠ (T b).2.1) (hlink : Cond.fieldLink own idx ref nm ds ∈ zB) (hdg : decode cc pc = .ok (.putfield idx, 3)) (q0 k : Nat) (he : ws[q0]? = some (a, .inr (ci, fs))) (hk : k < N) (hT : ((T k).1 = ref ∧ (T k).2.1 = nm) ∧ (T k).2.2.1 = ds) (hfin : (T k).2.2.2 = true) (hin2 : meth.name = "<init>") (hdecl : (T k).1 = own) (hn : narrow (ty0 k) v = v) (hfit : fits (ty0 k) v = true) (hl9 : k < fs.length) (hw : ws.set q0 (a, .inr (ci, fs.set k v)) = ws2) (hq : pc + 3 = q) (kk : zW p l e R s m args below meth c D A nL cells slots Q q lv st ws2) : zW p l e R s m args below meth c D A nL cells slots Q pc lv (v :: .ref a :: st) ws := by
  obtain ⟨⟨h1, h2⟩, h3⟩ := hT
  subst h1 h2 h3 hq hw
  exact fun H locs ls hP hD hS hl => va_putF G.1 G.2.1 G.2.2.2.2.1 hin ty0 hty hnm G.2.2.2.1 G.2.2.2.2.2.1 hP hD hS q0 he hc k hk (G.2.2.2.2.1 _ hlink) (fun _ h9 => h9) hfin hin2 hdecl (hty k hk) hn hfit hl9 hdg (fun H1 locs1 hP1 hD1 hS1 => kk H1 locs1 ls hP1 hD1 hS1 hl)
/-- an index within -/
def ib (i : Int32) (n : Nat) : Bool := decide (0 ≤ i.toInt ∧ i.toInt < n)
theorem ib_in {i : Int32} {n : Nat} (h : ib i n = true) : vp_in i n := vp_in_iff.mpr (of_decide_eq_true h)
theorem zq_iald (G : zG p s m args c cc nL own D cyI cyZ A) {a n : Nat} {f : Nat → Int32} {i : Int32} (hdg : decode cc pc = .ok (.iaload, 1)) (q0 : Nat) (ha : ws[q0]? = some (a, .inl (cyI, n, .inl f))) (hi : ib i n = true) (hq : pc + 1 = q) (kk : zW p l e R s m args below meth c D A nL cells slots Q q lv (.int (f i.toNatClampNeg) :: st) ws) : zW p l e R s m args below meth c D A nL cells slots Q pc lv (.int i :: .ref a :: st) ws := by
  subst hq
  exact fun H locs ls hP hD hS hl => va_iald G.1 G.2.1 G.2.2.2.2.2.1 hP q0 0 ha rfl (ib_in hi) hdg (kk H locs ls hP hD hS hl)
theorem zq_zald (G : zG p s m args c cc nL own D cyI cyZ A) {a n : Nat} {f : Nat → Int32} {i : Int32} (hdg : decode cc pc = .ok (.baload, 1)) (q0 : Nat) (ha : ws[q0]? = some (a, .inl (cyZ, n, .inl f))) (hi : ib i n = true) (hq : pc + 1 = q) (kk : zW p l e R s m args below meth c D A nL cells slots Q q lv (.int (f i.toNatClampNeg) :: st) ws) : zW p l e R s m args below meth c D A nL cells slots Q pc lv (.int i :: .ref a :: st) ws := by
  subst hq
  exact fun H locs ls hP hD hS hl => va_zald G.1 G.2.1 G.2.2.2.2.2.1 hP q0 1 ha rfl (ib_in hi) hdg (kk H locs ls hP hD hS hl)
theorem zq_iast (G : zG p s m args c cc nL own D cyI cyZ A) {a n : Nat} {f : Nat → Int32} {i x : Int32} {ws2 : va_W} (hdg : decode cc pc = .ok (.iastore, 1)) (q0 : Nat) (ha : ws[q0]? = some (a, .inl (cyI, n, .inl f))) (hi : ib i n = true) (hw : ws.set q0 (a, .inl (cyI, n, .inl (upd f i.toNatClampNeg x))) = ws2) (hq : pc + 1 = q) (kk : zW p l e R s m args below meth c D A nL cells slots Q q lv st ws2) : zW p l e R s m args below meth c D A nL cells slots Q pc lv (.int x :: .int i :: .ref a :: st) ws := by
  subst hq hw
  exact fun H locs ls hP hD hS hl => va_iast G.1 G.2.1 G.2.2.2.2.2.1 hP hD hS q0 0 ha rfl (ib_in hi) hdg (fun H1 locs1 hP1 hD1 hS1 => kk H1 locs1 ls hP1 hD1 hS1 hl)
theorem zq_zast (G : zG p s m args c cc nL own D cyI cyZ A) {a n : Nat} {f : Nat → Int32} {i x : Int32} {ws2 : va_W} (hdg : decode cc pc = .ok (.bastore, 1)) (q0 : Nat) (ha : ws[q0]? = some (a, .inl (cyZ, n, .inl f))) (hi : ib i n = true) (hw : ws.set q0 (a, .inl (cyZ, n, .inl (upd f i.toNatClampNeg (x &&& 1)))) = ws2) (hq : pc + 1 = q) (kk : zW p l e R s m args below meth c D A nL cells slots Q q lv st ws2) : zW p l e R s m args below meth c D A nL cells slots Q pc lv (.int x :: .int i :: .ref a :: st) ws := by
  subst hq hw
  exact fun H locs ls hP hD hS hl => va_zast G.1 G.2.1 G.2.2.2.2.2.1 hP hD hS q0 1 ha rfl (ib_in hi) hdg (fun H1 locs1 hP1 hD1 hS1 => kk H1 locs1 ls hP1 hD1 hS1 hl)
theorem zq_mmax (G : zG p s m args c cc nL own D cyI cyZ A) {idx : Nat} {x y : Int32} (h1 : Cond.methodLink own idx Lib.Math.max.name ∈ zB) (h2 : Cond.static Lib.Math.max.name ∈ zB) (h3 : Cond.initialized "java/lang/Math" ∈ zB) (h4 : Cond.code Lib.Math.max.name Lib.Math.max.code 2 (some .int) ∈ zB) (hdg : decode cc pc = .ok (.invokestatic idx, 3)) (hR : 1 ≤ R.frames ∧ (st.map fun v => v.category).sum + 13 ≤ R.locals ∧ cells ≤ R.cells ∧ slots ≤ R.slots) (hq : pc + 3 = q) (kk : zW p l e R s m args below meth c D A nL cells slots Q q lv (.int (if x < y then y else x) :: st) ws) : zW p l e R s m args below meth c D A nL cells slots Q pc lv (.int y :: .int x :: st) ws := by
  subst hq
  exact fun H locs ls hP hD hS hl => va_mmax G.1 G.2.1 (by rw [G.2.2.1]; exact hl.1.symm) G.2.2.2.1 (G.2.2.2.2.1 _ h1) (G.2.2.2.2.1 _ h2) (G.2.2.2.2.1 _ h3) (G.2.2.2.2.1 _ h4) hR.1 hR.2.1 hR.2.2.1 hR.2.2.2 hdg (kk H locs ls hP hD hS hl)
theorem zq_mmin (G : zG p s m args c cc nL own D cyI cyZ A) {idx : Nat} {x y : Int32} (h1 : Cond.methodLink own idx Lib.Math.min.name ∈ zB) (h2 : Cond.static Lib.Math.min.name ∈ zB) (h3 : Cond.initialized "java/lang/Math" ∈ zB) (h4 : Cond.code Lib.Math.min.name Lib.Math.min.code 2 (some .int) ∈ zB) (hdg : decode cc pc = .ok (.invokestatic idx, 3)) (hR : 1 ≤ R.frames ∧ (st.map fun v => v.category).sum + 13 ≤ R.locals ∧ cells ≤ R.cells ∧ slots ≤ R.slots) (hq : pc + 3 = q) (kk : zW p l e R s m args below meth c D A nL cells slots Q q lv (.int (if y < x then y else x) :: st) ws) : zW p l e R s m args below meth c D A nL cells slots Q pc lv (.int y :: .int x :: st) ws := by
  subst hq
  exact fun H locs ls hP hD hS hl => va_mmin G.1 G.2.1 (by rw [G.2.2.1]; exact hl.1.symm) G.2.2.2.1 (G.2.2.2.2.1 _ h1) (G.2.2.2.2.1 _ h2) (G.2.2.2.2.1 _ h3) (G.2.2.2.2.1 _ h4) hR.1 hR.2.1 hR.2.2.1 hR.2.2.2 hdg (kk H locs ls hP hD hS hl)
theorem zq_mabs (G : zG p s m args c cc nL own D cyI cyZ A) {idx : Nat} {x : Int32} (h1 : Cond.methodLink own idx Lib.Math.abs.name ∈ zB) (h2 : Cond.static Lib.Math.abs.name ∈ zB) (h3 : Cond.initialized "java/lang/Math" ∈ zB) (h4 : Cond.code Lib.Math.abs.name Lib.Math.abs.code 1 (some .int) ∈ zB) (hdg : decode cc pc = .ok (.invokestatic idx, 3)) (hR : 1 ≤ R.frames ∧ (st.map fun v => v.category).sum + 13 ≤ R.locals ∧ cells ≤ R.cells ∧ slots ≤ R.slots) (hq : pc + 3 = q) (kk : zW p l e R s m args below meth c D A nL cells slots Q q lv (.int (if 0 ≤ x then x else 0 - x) :: st) ws) : zW p l e R s m args below meth c D A nL cells slots Q pc lv (.int x :: st) ws := by
  subst hq
  exact fun H locs ls hP hD hS hl => va_mabs G.1 G.2.1 (by rw [G.2.2.1]; exact hl.1.symm) G.2.2.2.1 (G.2.2.2.2.1 _ h1) (G.2.2.2.2.1 _ h2) (G.2.2.2.2.1 _ h3) (G.2.2.2.2.1 _ h4) hR.1 hR.2.1 hR.2.2.1 hR.2.2.2 hdg (kk H locs ls hP hD hS hl)
theorem zend_of {H : Heap} {locs : List Loc} {W1 : va_W} (G : zG p s m args c cc nL own D cyI cyZ A) (hP : va_P D vwCl W1 H) (hD : va_D A W1) {t : State} (ht : t.heap = H) (hW : s.WarmedH t.vm) : zEnd D cyI cyZ A W1 t := ⟨by rw [ht]; exact hP, va_K.moved hW.alike G.2.2.2.2.2.1, hD⟩
theorem zq_iret {sz : Nat} {W0 : va_W} {r v : Int32} {W1 : va_W} (G : zG p s m args c cc nL own D cyI cyZ (va_A W0 sz)) (hlocks : meth.locks = false) {ty : FieldType} (hr : meth.sig.returnType = some ty) (hn : narrow ty (.int v) = .int v) (hdg : decode cc pc = .ok (.ireturn, 1)) (e9 : v = r) : zW p l e R s m args below meth c D (va_A W0 sz) nL 0 0 (MQ below (zQi D cyI cyZ sz W0 r W1) args s 0 0 (va_A W0 sz)) pc lv [.int v] W1 := fun H locs ls hP hD hS hl => W.zret G.1 G.2.1 hr hn (fun t ht hW => ⟨⟨v, (), rfl, e9, zend_of (locs := locs) G hP hD ht hW⟩, hS.F ht⟩) hS.2.2 hdg hlocks
theorem zq_lret {sz : Nat} {W0 : va_W} {r v : Int64} {W1 : va_W} (G : zG p s m args c cc nL own D cyI cyZ (va_A W0 sz)) (hlocks : meth.locks = false) (hr : meth.sig.returnType = some .long) (hdg : decode cc pc = .ok (.lreturn, 1)) (e9 : v = r) : zW p l e R s m args below meth c D (va_A W0 sz) nL 0 0 (MQ below (zQl D cyI cyZ sz W0 r W1) args s 0 0 (va_A W0 sz)) pc lv [.long v] W1 := fun H locs ls hP hD hS hl => W.lret G.1 G.2.1 hr (fun t ht hW => ⟨⟨v, (), rfl, e9, zend_of (locs := locs) G hP hD ht hW⟩, hS.F ht⟩) hS.2.2 hdg hlocks
theorem zq_vret {sz : Nat} {W0 : va_W} {W1 : va_W} (G : zG p s m args c cc nL own D cyI cyZ (va_A W0 sz)) (hlocks : meth.locks = false) (hr : meth.sig.returnType = none) (hdg : decode cc pc = .ok (.return_, 1)) : zW p l e R s m args below meth c D (va_A W0 sz) nL 0 0 (MQ below (zQv D cyI cyZ sz W0 W1) args s 0 0 (va_A W0 sz)) pc lv [] W1 := fun H locs ls hP hD hS hl => W.vret G.1 G.2.1 hr (fun t ht hW => ⟨⟨(), rfl, trivial, zend_of (locs := locs) G hP hD ht hW⟩, hS.F ht⟩) hS.2.2 hdg hlocks
theorem zq_iretX {sz : Nat} {W0 : va_W} {v : Int32} {W1 : va_W} {z : Sum String Int32} (G : zG p s m args c cc nL own D cyI cyZ (va_A W0 sz)) (hlocks : meth.locks = false) {ty : FieldType} (hr : meth.sig.returnType = some ty) (hn : narrow ty (.int v) = .int v) (hdg : decode cc pc = .ok (.ireturn, 1)) (e9 : z = .inr v) : zW p l e R s m args below meth c D (va_A W0 sz) nL 0 0 (vx_MQ below (zQXi D cyI cyZ sz W0 z W1) (zXC D cyI cyZ sz W0 z W1) args s (zmc z) (zms z) (va_A W0 sz)) pc lv [.int v] W1 := by
  subst e9
  exact fun H locs ls hP hD hS hl => vx_ret (W.zret G.1 G.2.1 hr hn (fun t ht hW => ⟨⟨v, (), rfl, rfl, zend_of (locs := locs) G hP hD ht hW⟩, hS.F ht⟩) hS.2.2 hdg hlocks)
theorem zq_vretX {sz : Nat} {W0 : va_W} {W1 : va_W} {z : Sum String Unit} (G : zG p s m args c cc nL own D cyI cyZ (va_A W0 sz)) (hlocks : meth.locks = false) (hr : meth.sig.returnType = none) (hdg : decode cc pc = .ok (.return_, 1)) (e9 : z = .inr ()) : zW p l e R s m args below meth c D (va_A W0 sz) nL 0 0 (vx_MQ below (zQXv D cyI cyZ sz W0 z W1) (zXC D cyI cyZ sz W0 z W1) args s (zmc z) (zms z) (va_A W0 sz)) pc lv [] W1 := by
  subst e9
  exact fun H locs ls hP hD hS hl => vx_ret (W.vret G.1 G.2.1 hr (fun t ht hW => ⟨⟨(), rfl, rfl, zend_of (locs := locs) G hP hD ht hW⟩, hS.F ht⟩) hS.2.2 hdg hlocks)
theorem zfits : ∀ n ∈ ["java/lang/RuntimeException", "java/lang/Exception"], Bundle.fit n = true := by decide +kernel
theorem zq_throw {α : Type} {sz : Nat} {W0 : va_W} {W1 : va_W} {z : Sum String α} {Qc : Array Value → State → Outcome → State → Prop} (G : zG p s m args c cc nL own D cyI cyZ (va_A W0 sz)) (hlocks : meth.locks = false) (hst : l.stackTraces = false) (ht : ∀ x ∈ c.exceptionTable.toList, False) {ik ic : Nat} {cls : String} (hz : zThr own ik ic cls) (d0 : decode cc pc = .ok (.new ik, 3)) (d3 : decode cc (pc + 3) = .ok (.dup, 1)) (d4 : decode cc (pc + 4) = .ok (.invokespecial ic, 3)) (d7 : decode cc (pc + 7) = .ok (.athrow, 1)) (hR : 5 < R.frames ∧ (st.map fun v => v.category).sum + 81 ≤ R.locals) (hRc : R.cells = zmc z) (hRs : R.slots = zms z) (e9 : z = .inl cls) : zW p l e R s m args below meth c D (va_A W0 sz) nL 0 0 (vx_MQ below Qc (zXC D cyI cyZ sz W0 z W1) args s (zmc z) (zms z) (va_A W0 sz)) pc lv st W1 := by
  subst e9
  intro H locs ls hP hD hS hl
  obtain ⟨h1, h2, h3, h4⟩ := hz
  have hB := G.2.2.2.2.1
  refine vx_throw0 G.1 G.2.1 hst (names := ["java/lang/RuntimeException", "java/lang/Exception"]) (ik := ik) (ic := ic) (A := va_A W0 sz) G.2.2.2.1 h4 zfits (hB _ h1) (hB _ h2) (fun w hw => hB _ (h3 w hw)) ?_ G.2.2.2.2.2.2.2.1 G.2.2.2.2.2.2.2.2.1 hS (hl.1.trans G.2.2.1.symm) d0 d3 d4 d7 (fun x hx => (ht x hx).elim) hR.1 (by show _ + (13 * 3 + 42) ≤ _; exact hR.2) (by rw [hRc]; exact Nat.le_refl 1) (by rw [hRs]; exact Nat.le_refl 6) hlocks ?_ hS.2.2 (Nat.le_refl 1) (Nat.le_refl 6)
  · intro w hw
    rcases List.mem_cons.mp hw with rfl | hw
    · exact zot1 (zB_good h1)
    · rcases List.mem_cons.mp hw with rfl | hw
      · exact zot1 (zB_good h2)
      · exact zot1 (zB_good (h3 w hw))
  · intro t hvm hz1 hk1
    refine ⟨(), trivial, ⟨rfl, ?_, va_K.moved hvm G.2.2.2.2.2.1, hD⟩, Nat.le_trans hS.1 hz1, fun q h5 h6 => ?_⟩
    · exact hP.kept (fun k q hq => hk1 q.1 ((hP k q hq).lt))
    · rw [hk1 q (Nat.lt_of_lt_of_le h5 hS.1)]
      exact hS.2.1 q h5 h6

end ZQ
theorem zG_of {p : Program} {l : Launch} {y : MethodName} {ws : List Cond} {rm : Room} {cc : ByteArray} {nL : Nat} {rt : Option FieldType} {e : Env} {s s₁ : State} {m : MethodId} {args : Array Value} {below : List Frame} {meth : Method} {c : Code} {D : va_G} {cyI cyZ : ClassId} {sz : Nat} {W0 : va_W}
    (B : BodyLoose p l y (headSpec ws rm) cc nL rt e s m args below meth c s₁) (hml : c.maxLocals = nL) (hsub : ∀ w ∈ zB, w ∈ ws) (h : zPre D cyI cyZ sz W0 s) : zG p s m args c cc nL y.cls D cyI cyZ (va_A W0 sz) ∧ va_D (va_A W0 sz) W0 ∧ s.heap.size = sz := by
  obtain ⟨hsz, hP, hK, hD, hX⟩ := h
  exact ⟨⟨B.exec, B.bytes, hml, findClass_of_methodNamed B.named, fun w hw => atoms_spec (ws := ws) B.pre w (hsub w hw), hK, fun q h => Or.inr (by rw [← hsz]; exact h), hX⟩, hD.self, hsz⟩
theorem zws_sub {y : MethodName} {b : ByteArray} {k : Nat} {r : Option FieldType} : ∀ w ∈ zB, w ∈ zws y b k r := fun _ h => List.mem_cons_of_mem _ h
theorem zwh_sub {y : MethodName} {b : ByteArray} {k : Nat} {r : Option FieldType} {hh : List (Nat × Nat × Nat × Nat)} : ∀ w ∈ zB, w ∈ zwh y b k r hh := fun _ h => List.mem_cons_of_mem _ h

theorem zstartI {l : Launch} {y : MethodName} {b : ByteArray} {k : Nat} {rt : FieldType} {fr lo : Nat} {D : va_G} {cyI cyZ : ClassId} {sz : Nat} {av : List Value} {W0 : va_W} {r : Int32} {W1 : va_W} {lv0 : List (Nat × Value)} (hy : plainName y.cls = true) (hk : (lg_sl av).length ≤ k) (hlv : lv_args 0 av = lv0)
    (body : ∀ (p : Program) (e : Env) (s : State) (m : MethodId) (args : Array Value) (below : List Frame) (meth : Method) (c : Code), zG p s m args c b k y.cls D cyI cyZ (va_A W0 sz) → meth.sig.returnType = (some rt) → meth.locks = false →
      zW p l e { frames := fr, cells := 0, slots := 0, locals := lo } s m args below meth c D (va_A W0 sz) k 0 0 (MQ below (zQi D cyI cyZ sz W0 r W1) args s 0 0 (va_A W0 sz)) 0 lv0 [] W0) : zMi l y b k rt fr lo D cyI cyZ sz av W0 r W1 := by
  subst hlv
  refine Met.ofW (cc := b) (maxL := k) (ret := (some rt)) hy rfl ?_
  intro p e s m args below meth c s₁ B hml hv
  obtain ⟨rfl, hv⟩ := hv
  obtain ⟨G, hD, hsz⟩ := zG_of B hml zws_sub hv
  rw [lg_entry_eq]
  subst hsz
  exact body p e s m _ below meth c G B.returns B.notSynchronized s.heap [] _ hv.2.1 hD va_S.rf (lv_entry av hk)
theorem zstartL {l : Launch} {y : MethodName} {b : ByteArray} {k : Nat} {rt : FieldType} {fr lo : Nat} {D : va_G} {cyI cyZ : ClassId} {sz : Nat} {av : List Value} {W0 : va_W} {r : Int64} {W1 : va_W} {lv0 : List (Nat × Value)} (hy : plainName y.cls = true) (hk : (lg_sl av).length ≤ k) (hlv : lv_args 0 av = lv0)
    (body : ∀ (p : Program) (e : Env) (s : State) (m : MethodId) (args : Array Value) (below : List Frame) (meth : Method) (c : Code), zG p s m args c b k y.cls D cyI cyZ (va_A W0 sz) → meth.sig.returnType = (some rt) → meth.locks = false →
      zW p l e { frames := fr, cells := 0, slots := 0, locals := lo } s m args below meth c D (va_A W0 sz) k 0 0 (MQ below (zQl D cyI cyZ sz W0 r W1) args s 0 0 (va_A W0 sz)) 0 lv0 [] W0) : zMl l y b k rt fr lo D cyI cyZ sz av W0 r W1 := by
  subst hlv
  refine Met.ofW (cc := b) (maxL := k) (ret := (some rt)) hy rfl ?_
  intro p e s m args below meth c s₁ B hml hv
  obtain ⟨rfl, hv⟩ := hv
  obtain ⟨G, hD, hsz⟩ := zG_of B hml zws_sub hv
  rw [lg_entry_eq]
  subst hsz
  exact body p e s m _ below meth c G B.returns B.notSynchronized s.heap [] _ hv.2.1 hD va_S.rf (lv_entry av hk)
theorem zstartV {l : Launch} {y : MethodName} {b : ByteArray} {k : Nat} {fr lo : Nat} {D : va_G} {cyI cyZ : ClassId} {sz : Nat} {av : List Value} {W0 : va_W} {W1 : va_W} {lv0 : List (Nat × Value)} (hy : plainName y.cls = true) (hk : (lg_sl av).length ≤ k) (hlv : lv_args 0 av = lv0)
    (body : ∀ (p : Program) (e : Env) (s : State) (m : MethodId) (args : Array Value) (below : List Frame) (meth : Method) (c : Code), zG p s m args c b k y.cls D cyI cyZ (va_A W0 sz) → meth.sig.returnType = none → meth.locks = false →
      zW p l e { frames := fr, cells := 0, slots := 0, locals := lo } s m args below meth c D (va_A W0 sz) k 0 0 (MQ below (zQv D cyI cyZ sz W0 W1) args s 0 0 (va_A W0 sz)) 0 lv0 [] W0) : zMv l y b k fr lo D cyI cyZ sz av W0 W1 := by
  subst hlv
  refine Met.ofW (cc := b) (maxL := k) (ret := none) hy rfl ?_
  intro p e s m args below meth c s₁ B hml hv
  obtain ⟨rfl, hv⟩ := hv
  obtain ⟨G, hD, hsz⟩ := zG_of B hml zws_sub hv
  rw [lg_entry_eq]
  subst hsz
  exact body p e s m _ below meth c G B.returns B.notSynchronized s.heap [] _ hv.2.1 hD va_S.rf (lv_entry av hk)
theorem zstartXI {l : Launch} {y : MethodName} {b : ByteArray} {k : Nat} {rt : FieldType} {fr lo : Nat} {D : va_G} {cyI cyZ : ClassId} {sz : Nat} {av : List Value} {W0 : va_W} {z : Sum String Int32} {W1 : va_W} {lv0 : List (Nat × Value)} (hy : plainName y.cls = true) (hk : (lg_sl av).length ≤ k) (hlv : lv_args 0 av = lv0)
    (body : ∀ (p : Program) (e : Env) (s : State) (m : MethodId) (args : Array Value) (below : List Frame) (meth : Method) (c : Code), zG p s m args c b k y.cls D cyI cyZ (va_A W0 sz) → meth.sig.returnType = (some rt) → meth.locks = false → (∀ x ∈ c.exceptionTable.toList, False) →
      zW p l e { frames := fr, cells := zmc z, slots := zms z, locals := lo } s m args below meth c D (va_A W0 sz) k 0 0 (vx_MQ below (zQXi D cyI cyZ sz W0 z W1) (zXC D cyI cyZ sz W0 z W1) args s (zmc z) (zms z) (va_A W0 sz)) 0 lv0 [] W0) : zXi l y b k rt fr lo D cyI cyZ sz av W0 z W1 := by
  subst hlv
  refine vx_ofW (cc := b) (maxL := k) (ret := (some rt)) hy rfl ?_
  intro p e s m args below meth c s₁ B hml ht hv
  obtain ⟨rfl, hv⟩ := hv
  obtain ⟨G, hD, hsz⟩ := zG_of B hml zws_sub hv
  rw [lg_entry_eq]
  subst hsz
  exact body p e s m _ below meth c G B.returns B.notSynchronized ht s.heap [] _ hv.2.1 hD va_S.rf (lv_entry av hk)
theorem zstartXV {l : Launch} {y : MethodName} {b : ByteArray} {k : Nat} {fr lo : Nat} {D : va_G} {cyI cyZ : ClassId} {sz : Nat} {av : List Value} {W0 : va_W} {z : Sum String Unit} {W1 : va_W} {lv0 : List (Nat × Value)} (hy : plainName y.cls = true) (hk : (lg_sl av).length ≤ k) (hlv : lv_args 0 av = lv0)
    (body : ∀ (p : Program) (e : Env) (s : State) (m : MethodId) (args : Array Value) (below : List Frame) (meth : Method) (c : Code), zG p s m args c b k y.cls D cyI cyZ (va_A W0 sz) → meth.sig.returnType = none → meth.locks = false → (∀ x ∈ c.exceptionTable.toList, False) →
      zW p l e { frames := fr, cells := zmc z, slots := zms z, locals := lo } s m args below meth c D (va_A W0 sz) k 0 0 (vx_MQ below (zQXv D cyI cyZ sz W0 z W1) (zXC D cyI cyZ sz W0 z W1) args s (zmc z) (zms z) (va_A W0 sz)) 0 lv0 [] W0) : zXv l y b k fr lo D cyI cyZ sz av W0 z W1 := by
  subst hlv
  refine vx_ofW (cc := b) (maxL := k) (ret := none) hy rfl ?_
  intro p e s m args below meth c s₁ B hml ht hv
  obtain ⟨rfl, hv⟩ := hv
  obtain ⟨G, hD, hsz⟩ := zG_of B hml zws_sub hv
  rw [lg_entry_eq]
  subst hsz
  exact body p e s m _ below meth c G B.returns B.notSynchronized ht s.heap [] _ hv.2.1 hD va_S.rf (lv_entry av hk)
/-! ===== calls ===== -/
section ZC
variable {p : Program} {l : Launch} {e : Env} {R : Room} {s : State} {m : MethodId} {args : Array Value} {below : List Frame} {meth : Method} {c : Code} {cells slots : Nat} {Q : State → Prop}
variable {cc : ByteArray} {nL : Nat} {own : String} {D : va_G} {cyI cyZ : ClassId} {A : Nat → Prop} {pc q : Nat} {lv : List (Nat × Value)} {st rest : List Value} {ws : va_W}
theorem zfix (G : zG p s m args c cc nL own D cyI cyZ A) : CallFix p m c cc nL s args zB own := ⟨G.1, G.2.1, G.2.2.1, G.2.2.2.1, G.2.2.2.2.1⟩
theorem zlen {y : MethodName} {n : Nat} (h : (parseMethodDescriptor y.desc).map (fun d => d.parameters.length) = some n) : ∀ sig, parseMethodDescriptor y.desc = some sig → n = sig.parameters.length := fun sig h9 => by
  rw [h9] at h
  exact (Option.some.inj h).symm
theorem zpays (G : zG p s m args c cc nL own D cyI cyZ A) {y : MethodName} {b : ByteArray} {k : Nat} {r : Option FieldType} (hc : Cond.code y b k r ∈ zB) : ∀ w ∈ zws y b k r, ∀ (a' : Array Value) (U : State), s.WarmedH U.vm → w.before a' U = true := fun w hw a' U hW => by
  rcases List.mem_cons.mp hw with rfl | hw
  · exact zpay1 (zB_good hc) hW (G.2.2.2.2.1 _ hc)
  · exact zpay1 (zB_good hw) hW (G.2.2.2.2.1 _ hw)
theorem zpaysW (G : zG p s m args c cc nL own D cyI cyZ A) {y : MethodName} {b : ByteArray} {k : Nat} {r : Option FieldType} {hh : List (Nat × Nat × Nat × Nat)} (hc : Cond.codeWith y b k r hh ∈ zB) : ∀ w ∈ zwh y b k r hh, ∀ (a' : Array Value) (U : State), s.WarmedH U.vm → w.before a' U = true := fun w hw a' U hW => by
  rcases List.mem_cons.mp hw with rfl | hw
  · exact zpay1 (zB_good hc) hW (G.2.2.2.2.1 _ hc)
  · exact zpay1 (zB_good hw) hW (G.2.2.2.2.1 _ hw)
/-- the room that a call wants -/
abbrev zFit (R rm : Room) (k cells slots : Nat) : Prop := rm.frames + 1 ≤ R.frames ∧ 8 + (k + 11) + rm.locals ≤ R.locals ∧ cells + rm.cells ≤ R.cells ∧ slots + rm.slots ≤ R.slots
theorem zCW (G : zG p s m args c cc nL own D cyI cyZ A) {idx : Nat} {y : MethodName} {b : ByteArray} {k : Nat} {r : Option FieldType} {n : Nat} {rm : Room} (hs : zSV own idx y b k r n) (hR : zFit R rm k cells slots) : CallW R s args own y.cls idx y b k r (zws y b k r) rm rm.cells rm.slots n := by
  obtain ⟨h1, h2, h3, h4, h5, h6, h7⟩ := hs
  have hB := G.2.2.2.2.1
  exact ⟨⟨rfl, rfl, hR.1, hR.2.1, zpays G h5, List.mem_cons_self, hB _ h5, hB _ h4, h6, zlen h7, hB _ h1⟩, hB _ h2, hB _ h3⟩
theorem zCS (G : zG p s m args c cc nL own D cyI cyZ A) {idx : Nat} {y : MethodName} {b : ByteArray} {k : Nat} {r : Option FieldType} {n : Nat} {rm : Room} (hs : zSS own idx y b k r n) (hR : zFit R rm k cells slots) : CallB R s args own idx y b k r (zws y b k r) rm rm.cells rm.slots n ∧ (Cond.static y).before args s = true := by
  obtain ⟨h1, h2, h4, h5, h6, h7⟩ := hs
  have hB := G.2.2.2.2.1
  exact ⟨⟨rfl, rfl, hR.1, hR.2.1, zpays G h5, List.mem_cons_self, hB _ h5, hB _ h4, h6, zlen h7, hB _ h1⟩, hB _ h2⟩
theorem zCN (G : zG p s m args c cc nL own D cyI cyZ A) {idx : Nat} {y : MethodName} {host : String} {b : ByteArray} {k : Nat} {r : Option FieldType} {n : Nat} {rm : Room} (hs : zSN own idx y host b k r n) (hR : zFit R rm k cells slots) : va_CN R s args own idx y host b k r (zws y b k r) rm rm.cells rm.slots n ∧ (Cond.static y).before args s = true ∧ True := by
  obtain ⟨h1, h2, h4, h5, h6, h7⟩ := hs
  have hB := G.2.2.2.2.1
  exact ⟨⟨⟨rfl, rfl, hR.1, hR.2.1, zpays G h5, List.mem_cons_self⟩, hB _ h5, hB _ h4, h6, zlen h7, hB _ h1⟩, hB _ h2, trivial⟩
theorem zCSW (G : zG p s m args c cc nL own D cyI cyZ A) {idx : Nat} {y : MethodName} {b : ByteArray} {k : Nat} {r : Option FieldType} {hh : List (Nat × Nat × Nat × Nat)} {n : Nat} {rm : Room} (hs : zSW own idx y b k r hh n) (hR : zFit R rm k cells slots) : vx_CSW R s args own idx y b k r hh (zwh y b k r hh) rm rm.cells rm.slots n := by
  obtain ⟨h1, h2, h4, h5, h6, h7⟩ := hs
  have hB := G.2.2.2.2.1
  exact ⟨⟨rfl, rfl, hR.1, hR.2.1, zpaysW G h5, List.mem_cons_self⟩, hB _ h5, hB _ h4, h6, zlen h7, hB _ h1, hB _ h2⟩
/-- the callee's world is cut out at the places isC; what comes back stands beside the rest (places isR), in the order perm -/
abbrev zCut (ws W0 W1 ws2 : va_W) (isC isR perm : List Nat) : Prop := isC.map (fun i => ws[i]?) = W0.map some ∧ isR.map (fun i => ws[i]?) = (isR.filterMap (fun i => ws[i]?)).map some ∧ (va_nd isR && isR.all (fun i => !isC.contains i) && va_nd perm) = true ∧ perm.map (fun i => (isR.filterMap (fun i => ws[i]?) ++ W1)[i]?) = ws2.map some
theorem zfm {β : Type} {is : List Nat} {f : Nat → Option β} {l : List β} (h : is.map f = l.map some) : is.filterMap f = l := by
  have h2 : is.filterMap f = (is.map f).filterMap id := by rw [List.filterMap_map]; rfl
  rw [h2, h, List.filterMap_map]
  simp
theorem zjoin {ws W0 W1 ws2 : va_W} {isC isR perm : List Nat} {H H1 : Heap} (hcut : zCut ws W0 W1 ws2 isC isR perm) (hP : va_P D vwCl ws H) (hD : va_D A ws) (hk : ∀ q : Nat, q < H.size → ¬ va_A W0 H.size q → H1[q]? = H[q]?) (hF : ∀ q, va_A W0 H.size q → A q) (hP1 : va_P D vwCl W1 H1) (hD1 : va_D (va_A W0 H.size) W1) : va_P D vwCl ws2 H1 ∧ va_D A ws2 := by
  obtain ⟨h1, h2, h3, h4⟩ := hcut
  simp only [Bool.and_eq_true] at h3
  obtain ⟨⟨h5, h6⟩, h7⟩ := h3
  obtain ⟨hP2, hD2⟩ := va_join hP hD isC isR h1 h2 h5 (fun i hi => by
    have := List.all_eq_true.mp h6 i hi
    simpa using this) hk hF hP1 hD1
  exact ⟨hP2.sub perm (zfm h4), hD2.sub perm h7 h4⟩
theorem zcutP {ws W0 W1 ws2 : va_W} {isC isR perm : List Nat} {H : Heap} {locs : List Loc} (G : zG p s m args c cc nL own D cyI cyZ A) (hcut : zCut ws W0 W1 ws2 isC isR perm) (hC : va_nd isC = true) (hP : va_P D vwCl ws H) (hD : va_D A ws) (hS : va_S A s.heap H locs) : (∀ q, va_A W0 H.size q → A q) ∧ ∀ U : State, U.heap = H → s.WarmedH U.vm → zPre D cyI cyZ H.size W0 U := by
  have hF := va_free hD hS G.2.2.2.2.2.2.1 isC hcut.1
  refine ⟨hF, fun U hU hW => ⟨by rw [hU], by rw [hU]; exact hP.sub isC (zfm hcut.1), va_K.moved hW.alike G.2.2.2.2.2.1, (hD.sub isC hC hcut.1).weaken (fun _ _ _ _ => trivial), ?_⟩⟩
  rw [hU]
  exact zX.moved hW.alike ((G.2.2.2.2.2.2.2.kept hS.2.1).narrow hF)

theorem zq_callVi (G : zG p s m args c cc nL own D cyI cyZ A) {idx : Nat} {y : MethodName} {b : ByteArray} {k fr lo : Nat} {rt : FieldType} {a : Nat} {As : List Value} {W0 W1 ws2 : va_W} {r : Int32} {isC isR perm : List Nat} (hs : zSV own idx y b k (some rt) As.length) (hdg : decode cc pc = .ok (.invokevirtual idx, 3)) (hM : ∀ sz : Nat, zMi l y b k rt fr lo D cyI cyZ sz (.ref a :: As) W0 r W1) {ci : Nat} {fs : List Value} {cT : u_T} {cN : Nat} (q0 : Nat) (he : ws[q0]? = some (a, .inr (ci, fs))) (hc : vwCl[ci]? = some (y.cls, cT, cN)) (hst : st = As.reverse ++ .ref a :: rest) (hcut : zCut ws W0 W1 ws2 isC isR perm) (hC : va_nd isC = true) (hcat : (rest.map fun v => v.category).sum ≤ 8) (hR : zFit R { frames := fr, cells := 0, slots := 0, locals := lo } k cells slots) (hq : pc + 3 = q) (kk : zW p l e R s m args below meth c D A nL cells slots Q q lv (.int r :: rest) ws2) : zW p l e R s m args below meth c D A nL cells slots Q pc lv st ws := by
  subst hq hst
  intro H locs ls hP hD hS hl
  obtain ⟨hF, hpre⟩ := zcutP G hcut hC hP hD hS
  have hB1 : FrameBlind (va_Pc (.ref a :: As) (zPre D cyI cyZ H.size W0)) := zPre_blind
  refine va_calli (va_runV (As := As) (rest := rest) (zfix G) (hM H.size) (zCW G hs hR) ⟨hB1, va_recv G.2.2.2.2.2.1 hP hc he, fun U hU hW => ⟨rfl, hpre U hU hW⟩⟩ rfl rfl hl.1 rfl (lv_room hcat) hdg ⟨hR.2.2.1, hR.2.2.2⟩) hS (fun q _ h => hF q h) hF (fun r2 u t H1 locs1 ht hvm hw hB hz1 hk1 hS1 => ?_)
  obtain ⟨hP1, hK1, hD1⟩ := hB
  rw [ht] at hP1
  subst hw
  obtain ⟨hP2, hD2⟩ := zjoin hcut hP hD hk1 hF hP1 hD1
  exact kk H1 locs1 ls hP2 hD2 hS1 hl
theorem zq_callVl (G : zG p s m args c cc nL own D cyI cyZ A) {idx : Nat} {y : MethodName} {b : ByteArray} {k fr lo : Nat} {rt : FieldType} {a : Nat} {As : List Value} {W0 W1 ws2 : va_W} {r : Int64} {isC isR perm : List Nat} (hs : zSV own idx y b k (some rt) As.length) (hdg : decode cc pc = .ok (.invokevirtual idx, 3)) (hM : ∀ sz : Nat, zMl l y b k rt fr lo D cyI cyZ sz (.ref a :: As) W0 r W1) {ci : Nat} {fs : List Value} {cT : u_T} {cN : Nat} (q0 : Nat) (he : ws[q0]? = some (a, .inr (ci, fs))) (hc : vwCl[ci]? = some (y.cls, cT, cN)) (hst : st = As.reverse ++ .ref a :: rest) (hcut : zCut ws W0 W1 ws2 isC isR perm) (hC : va_nd isC = true) (hcat : (rest.map fun v => v.category).sum ≤ 8) (hR : zFit R { frames := fr, cells := 0, slots := 0, locals := lo } k cells slots) (hq : pc + 3 = q) (kk : zW p l e R s m args below meth c D A nL cells slots Q q lv (.long r :: rest) ws2) : zW p l e R s m args below meth c D A nL cells slots Q pc lv st ws := by
  subst hq hst
  intro H locs ls hP hD hS hl
  obtain ⟨hF, hpre⟩ := zcutP G hcut hC hP hD hS
  have hB1 : FrameBlind (va_Pc (.ref a :: As) (zPre D cyI cyZ H.size W0)) := zPre_blind
  refine va_calll (va_runV (As := As) (rest := rest) (zfix G) (hM H.size) (zCW G hs hR) ⟨hB1, va_recv G.2.2.2.2.2.1 hP hc he, fun U hU hW => ⟨rfl, hpre U hU hW⟩⟩ rfl rfl hl.1 rfl (lv_room hcat) hdg ⟨hR.2.2.1, hR.2.2.2⟩) hS (fun q _ h => hF q h) hF (fun r2 u t H1 locs1 ht hvm hw hB hz1 hk1 hS1 => ?_)
  obtain ⟨hP1, hK1, hD1⟩ := hB
  rw [ht] at hP1
  subst hw
  obtain ⟨hP2, hD2⟩ := zjoin hcut hP hD hk1 hF hP1 hD1
  exact kk H1 locs1 ls hP2 hD2 hS1 hl
theorem zq_callVv (G : zG p s m args c cc nL own D cyI cyZ A) {idx : Nat} {y : MethodName} {b : ByteArray} {k fr lo : Nat} {a : Nat} {As : List Value} {W0 W1 ws2 : va_W} {isC isR perm : List Nat} (hs : zSV own idx y b k none As.length) (hdg : decode cc pc = .ok (.invokevirtual idx, 3)) (hM : ∀ sz : Nat, zMv l y b k fr lo D cyI cyZ sz (.ref a :: As) W0 W1) {ci : Nat} {fs : List Value} {cT : u_T} {cN : Nat} (q0 : Nat) (he : ws[q0]? = some (a, .inr (ci, fs))) (hc : vwCl[ci]? = some (y.cls, cT, cN)) (hst : st = As.reverse ++ .ref a :: rest) (hcut : zCut ws W0 W1 ws2 isC isR perm) (hC : va_nd isC = true) (hcat : (rest.map fun v => v.category).sum ≤ 8) (hR : zFit R { frames := fr, cells := 0, slots := 0, locals := lo } k cells slots) (hq : pc + 3 = q) (kk : zW p l e R s m args below meth c D A nL cells slots Q q lv (rest) ws2) : zW p l e R s m args below meth c D A nL cells slots Q pc lv st ws := by
  subst hq hst
  intro H locs ls hP hD hS hl
  obtain ⟨hF, hpre⟩ := zcutP G hcut hC hP hD hS
  have hB1 : FrameBlind (va_Pc (.ref a :: As) (zPre D cyI cyZ H.size W0)) := zPre_blind
  refine va_callv (va_runV (As := As) (rest := rest) (zfix G) (hM H.size) (zCW G hs hR) ⟨hB1, va_recv G.2.2.2.2.2.1 hP hc he, fun U hU hW => ⟨rfl, hpre U hU hW⟩⟩ rfl rfl hl.1 rfl (lv_room hcat) hdg ⟨hR.2.2.1, hR.2.2.2⟩) hS (fun q _ h => hF q h) hF (fun u t H1 locs1 ht hvm hw hB hz1 hk1 hS1 => ?_)
  obtain ⟨hP1, hK1, hD1⟩ := hB
  rw [ht] at hP1
  obtain ⟨hP2, hD2⟩ := zjoin hcut hP hD hk1 hF hP1 hD1
  exact kk H1 locs1 ls hP2 hD2 hS1 hl
theorem zq_callSi (G : zG p s m args c cc nL own D cyI cyZ A) {idx : Nat} {y : MethodName} {b : ByteArray} {k fr lo : Nat} {rt : FieldType} {As : List Value} {W0 W1 ws2 : va_W} {r : Int32} {isC isR perm : List Nat} (hs : zSS own idx y b k (some rt) As.length) (hdg : decode cc pc = .ok (.invokestatic idx, 3)) (hM : ∀ sz : Nat, zMi l y b k rt fr lo D cyI cyZ sz (As) W0 r W1) (hst : st = As.reverse ++ rest) (hcut : zCut ws W0 W1 ws2 isC isR perm) (hC : va_nd isC = true) (hcat : (rest.map fun v => v.category).sum ≤ 8) (hR : zFit R { frames := fr, cells := 0, slots := 0, locals := lo } k cells slots) (hq : pc + 3 = q) (kk : zW p l e R s m args below meth c D A nL cells slots Q q lv (.int r :: rest) ws2) : zW p l e R s m args below meth c D A nL cells slots Q pc lv st ws := by
  subst hq hst
  intro H locs ls hP hD hS hl
  obtain ⟨hF, hpre⟩ := zcutP G hcut hC hP hD hS
  have hB1 : FrameBlind (va_Pc (As) (zPre D cyI cyZ H.size W0)) := zPre_blind
  refine va_calli (va_runS (As := As) (rest := rest) (zfix G) (hM H.size) (zCS G hs hR) ⟨hB1, fun U hU hW => ⟨rfl, hpre U hU hW⟩⟩ rfl rfl hl.1 rfl (lv_room hcat) hdg ⟨hR.2.2.1, hR.2.2.2⟩) hS (fun q _ h => hF q h) hF (fun r2 u t H1 locs1 ht hvm hw hB hz1 hk1 hS1 => ?_)
  obtain ⟨hP1, hK1, hD1⟩ := hB
  rw [ht] at hP1
  subst hw
  obtain ⟨hP2, hD2⟩ := zjoin hcut hP hD hk1 hF hP1 hD1
  exact kk H1 locs1 ls hP2 hD2 hS1 hl
theorem zq_callSl (G : zG p s m args c cc nL own D cyI cyZ A) {idx : Nat} {y : MethodName} {b : ByteArray} {k fr lo : Nat} {rt : FieldType} {As : List Value} {W0 W1 ws2 : va_W} {r : Int64} {isC isR perm : List Nat} (hs : zSS own idx y b k (some rt) As.length) (hdg : decode cc pc = .ok (.invokestatic idx, 3)) (hM : ∀ sz : Nat, zMl l y b k rt fr lo D cyI cyZ sz (As) W0 r W1) (hst : st = As.reverse ++ rest) (hcut : zCut ws W0 W1 ws2 isC isR perm) (hC : va_nd isC = true) (hcat : (rest.map fun v => v.category).sum ≤ 8) (hR : zFit R { frames := fr, cells := 0, slots := 0, locals := lo } k cells slots) (hq : pc + 3 = q) (kk : zW p l e R s m args below meth c D A nL cells slots Q q lv (.long r :: rest) ws2) : zW p l e R s m args below meth c D A nL cells slots Q pc lv st ws := by
  subst hq hst
  intro H locs ls hP hD hS hl
  obtain ⟨hF, hpre⟩ := zcutP G hcut hC hP hD hS
  have hB1 : FrameBlind (va_Pc (As) (zPre D cyI cyZ H.size W0)) := zPre_blind
  refine va_calll (va_runS (As := As) (rest := rest) (zfix G) (hM H.size) (zCS G hs hR) ⟨hB1, fun U hU hW => ⟨rfl, hpre U hU hW⟩⟩ rfl rfl hl.1 rfl (lv_room hcat) hdg ⟨hR.2.2.1, hR.2.2.2⟩) hS (fun q _ h => hF q h) hF (fun r2 u t H1 locs1 ht hvm hw hB hz1 hk1 hS1 => ?_)
  obtain ⟨hP1, hK1, hD1⟩ := hB
  rw [ht] at hP1
  subst hw
  obtain ⟨hP2, hD2⟩ := zjoin hcut hP hD hk1 hF hP1 hD1
  exact kk H1 locs1 ls hP2 hD2 hS1 hl
theorem zq_callSv (G : zG p s m args c cc nL own D cyI cyZ A) {idx : Nat} {y : MethodName} {b : ByteArray} {k fr lo : Nat} {As : List Value} {W0 W1 ws2 : va_W} {isC isR perm : List Nat} (hs : zSS own idx y b k none As.length) (hdg : decode cc pc = .ok (.invokestatic idx, 3)) (hM : ∀ sz : Nat, zMv l y b k fr lo D cyI cyZ sz (As) W0 W1) (hst : st = As.reverse ++ rest) (hcut : zCut ws W0 W1 ws2 isC isR perm) (hC : va_nd isC = true) (hcat : (rest.map fun v => v.category).sum ≤ 8) (hR : zFit R { frames := fr, cells := 0, slots := 0, locals := lo } k cells slots) (hq : pc + 3 = q) (kk : zW p l e R s m args below meth c D A nL cells slots Q q lv (rest) ws2) : zW p l e R s m args below meth c D A nL cells slots Q pc lv st ws := by
  subst hq hst
  intro H locs ls hP hD hS hl
  obtain ⟨hF, hpre⟩ := zcutP G hcut hC hP hD hS
  have hB1 : FrameBlind (va_Pc (As) (zPre D cyI cyZ H.size W0)) := zPre_blind
  refine va_callv (va_runS (As := As) (rest := rest) (zfix G) (hM H.size) (zCS G hs hR) ⟨hB1, fun U hU hW => ⟨rfl, hpre U hU hW⟩⟩ rfl rfl hl.1 rfl (lv_room hcat) hdg ⟨hR.2.2.1, hR.2.2.2⟩) hS (fun q _ h => hF q h) hF (fun u t H1 locs1 ht hvm hw hB hz1 hk1 hS1 => ?_)
  obtain ⟨hP1, hK1, hD1⟩ := hB
  rw [ht] at hP1
  obtain ⟨hP2, hD2⟩ := zjoin hcut hP hD hk1 hF hP1 hD1
  exact kk H1 locs1 ls hP2 hD2 hS1 hl
theorem zq_callNi (G : zG p s m args c cc nL own D cyI cyZ A) {idx : Nat} {y : MethodName} {host : String} {b : ByteArray} {k fr lo : Nat} {rt : FieldType} {As : List Value} {W0 W1 ws2 : va_W} {r : Int32} {isC isR perm : List Nat} (hs : zSN own idx y host b k (some rt) As.length) (hdg : decode cc pc = .ok (.invokestatic idx, 3)) (hM : ∀ sz : Nat, zMi l y b k rt fr lo D cyI cyZ sz (As) W0 r W1) (hst : st = As.reverse ++ rest) (hcut : zCut ws W0 W1 ws2 isC isR perm) (hC : va_nd isC = true) (hcat : (rest.map fun v => v.category).sum ≤ 8) (hR : zFit R { frames := fr, cells := 0, slots := 0, locals := lo } k cells slots) (hq : pc + 3 = q) (kk : zW p l e R s m args below meth c D A nL cells slots Q q lv (.int r :: rest) ws2) : zW p l e R s m args below meth c D A nL cells slots Q pc lv st ws := by
  subst hq hst
  intro H locs ls hP hD hS hl
  obtain ⟨hF, hpre⟩ := zcutP G hcut hC hP hD hS
  have hB1 : FrameBlind (va_Pc (As) (zPre D cyI cyZ H.size W0)) := zPre_blind
  refine va_calli (va_runSN (As := As) (rest := rest) (zfix G) (hM H.size) (zCN G hs hR) ⟨hB1, fun U hU hW => ⟨rfl, hpre U hU hW⟩⟩ rfl rfl hl.1 rfl (lv_room hcat) hdg ⟨hR.2.2.1, hR.2.2.2⟩) hS (fun q _ h => hF q h) hF (fun r2 u t H1 locs1 ht hvm hw hB hz1 hk1 hS1 => ?_)
  obtain ⟨hP1, hK1, hD1⟩ := hB
  rw [ht] at hP1
  subst hw
  obtain ⟨hP2, hD2⟩ := zjoin hcut hP hD hk1 hF hP1 hD1
  exact kk H1 locs1 ls hP2 hD2 hS1 hl
theorem zq_callNl (G : zG p s m args c cc nL own D cyI cyZ A) {idx : Nat} {y : MethodName} {host : String} {b : ByteArray} {k fr lo : Nat} {rt : FieldType} {As : List Value} {W0 W1 ws2 : va_W} {r : Int64} {isC isR perm : List Nat} (hs : zSN own idx y host b k (some rt) As.length) (hdg : decode cc pc = .ok (.invokestatic idx, 3)) (hM : ∀ sz : Nat, zMl l y b k rt fr lo D cyI cyZ sz (As) W0 r W1) (hst : st = As.reverse ++ rest) (hcut : zCut ws W0 W1 ws2 isC isR perm) (hC : va_nd isC = true) (hcat : (rest.map fun v => v.category).sum ≤ 8) (hR : zFit R { frames := fr, cells := 0, slots := 0, locals := lo } k cells slots) (hq : pc + 3 = q) (kk : zW p l e R s m args below meth c D A nL cells slots Q q lv (.long r :: rest) ws2) : zW p l e R s m args below meth c D A nL cells slots Q pc lv st ws := by
  subst hq hst
  intro H locs ls hP hD hS hl
  obtain ⟨hF, hpre⟩ := zcutP G hcut hC hP hD hS
  have hB1 : FrameBlind (va_Pc (As) (zPre D cyI cyZ H.size W0)) := zPre_blind
  refine va_calll (va_runSN (As := As) (rest := rest) (zfix G) (hM H.size) (zCN G hs hR) ⟨hB1, fun U hU hW => ⟨rfl, hpre U hU hW⟩⟩ rfl rfl hl.1 rfl (lv_room hcat) hdg ⟨hR.2.2.1, hR.2.2.2⟩) hS (fun q _ h => hF q h) hF (fun r2 u t H1 locs1 ht hvm hw hB hz1 hk1 hS1 => ?_)
  obtain ⟨hP1, hK1, hD1⟩ := hB
  rw [ht] at hP1
  subst hw
  obtain ⟨hP2, hD2⟩ := zjoin hcut hP hD hk1 hF hP1 hD1
  exact kk H1 locs1 ls hP2 hD2 hS1 hl
theorem zq_callNv (G : zG p s m args c cc nL own D cyI cyZ A) {idx : Nat} {y : MethodName} {host : String} {b : ByteArray} {k fr lo : Nat} {As : List Value} {W0 W1 ws2 : va_W} {isC isR perm : List Nat} (hs : zSN own idx y host b k none As.length) (hdg : decode cc pc = .ok (.invokestatic idx, 3)) (hM : ∀ sz : Nat, zMv l y b k fr lo D cyI cyZ sz (As) W0 W1) (hst : st = As.reverse ++ rest) (hcut : zCut ws W0 W1 ws2 isC isR perm) (hC : va_nd isC = true) (hcat : (rest.map fun v => v.category).sum ≤ 8) (hR : zFit R { frames := fr, cells := 0, slots := 0, locals := lo } k cells slots) (hq : pc + 3 = q) (kk : zW p l e R s m args below meth c D A nL cells slots Q q lv (rest) ws2) : zW p l e R s m args below meth c D A nL cells slots Q pc lv st ws := by
  subst hq hst
  intro H locs ls hP hD hS hl
  obtain ⟨hF, hpre⟩ := zcutP G hcut hC hP hD hS
  have hB1 : FrameBlind (va_Pc (As) (zPre D cyI cyZ H.size W0)) := zPre_blind
  refine va_callv (va_runSN (As := As) (rest := rest) (zfix G) (hM H.size) (zCN G hs hR) ⟨hB1, fun U hU hW => ⟨rfl, hpre U hU hW⟩⟩ rfl rfl hl.1 rfl (lv_room hcat) hdg ⟨hR.2.2.1, hR.2.2.2⟩) hS (fun q _ h => hF q h) hF (fun u t H1 locs1 ht hvm hw hB hz1 hk1 hS1 => ?_)
  obtain ⟨hP1, hK1, hD1⟩ := hB
  rw [ht] at hP1
  obtain ⟨hP2, hD2⟩ := zjoin hcut hP hD hk1 hF hP1 hD1
  exact kk H1 locs1 ls hP2 hD2 hS1 hl
theorem zq_outVi {α : Type} {sz : Nat} {V0 : va_W} {z : Sum String α} {Qc : Array Value → State → Outcome → State → Prop} (G : zG p s m args c cc nL own D cyI cyZ (va_A V0 sz)) (hlocks : meth.locks = false) (htab : ∀ x ∈ c.exceptionTable.toList, False) {idx : Nat} {y : MethodName} {b : ByteArray} {k fr lo : Nat} {rt : FieldType} {a : Nat} {As : List Value} {W0 W1 ws2 wsF : va_W} {E0 : String} {isC isR perm : List Nat} (hs : zSV own idx y b k (some rt) As.length) (hdg : decode cc pc = .ok (.invokevirtual idx, 3)) (hM : ∀ sz : Nat, zXi l y b k rt fr lo D cyI cyZ sz (.ref a :: As) W0 (.inl E0) W1) {ci : Nat} {fs : List Value} {cT : u_T} {cN : Nat} (q0 : Nat) (he : ws[q0]? = some (a, .inr (ci, fs))) (hc : vwCl[ci]? = some (y.cls, cT, cN)) (hst : st = As.reverse ++ .ref a :: rest) (hcut : zCut ws W0 W1 ws2 isC isR perm) (hC : va_nd isC = true) (hcat : (rest.map fun v => v.category).sum ≤ 8) (hR : fr + 1 ≤ R.frames ∧ 8 + (k + 11) + lo ≤ R.locals) (hRc : R.cells = zmc z) (hRs : R.slots = zms z) (e9 : z = .inl E0) (e8 : ws2 = wsF) : zW p l e R s m args below meth c D (va_A V0 sz) nL 0 0 (vx_MQ below Qc (zXC D cyI cyZ sz V0 z wsF) args s (zmc z) (zms z) (va_A V0 sz)) pc lv st ws := by
  subst hst e9 e8
  have hR : zFit R { frames := fr, cells := 1, slots := 6, locals := lo } k 0 0 := ⟨hR.1, hR.2, by rw [hRc]; exact Nat.le_refl 1, by rw [hRs]; exact Nat.le_refl 6⟩
  intro H locs ls hP hD hS hl
  obtain ⟨hF, hpre⟩ := zcutP G hcut hC hP hD hS
  have hB1 : FrameBlind (va_Pc (.ref a :: As) (zPre D cyI cyZ H.size W0)) := zPre_blind
  refine vx_calli (vx_runV (As := As) (rest := rest) (zfix G) (hM H.size) (zCW (rm := { frames := fr, cells := 1, slots := 6, locals := lo }) G hs hR) ⟨hB1, va_recv G.2.2.2.2.2.1 hP hc he, fun U hU hW => ⟨rfl, hpre U hU hW⟩⟩ rfl rfl hl.1 rfl (lv_room hcat) hdg ⟨hR.2.2.1, hR.2.2.2⟩) hS (fun q _ h => hF q h) hF (fun q _ h => hF q h) (fun E ce q9 u t H1 locs1 ht hvm hp hB hz1 hk1 hS1 hce hcv hcl => ?_) (fun r2 u t H1 locs1 ht hvm hw => nomatch hw)
  obtain ⟨hE, hP1, hK1, hD1⟩ := hB
  rw [ht] at hP1
  cases hE
  obtain ⟨hP2, hD2⟩ := zjoin hcut hP hD hk1 hF hP1 hD1
  exact vx_out (fun x hx => (htab x hx).elim) hlocks hce hcv hcl (fun t2 ht2 hvm2 => ⟨(), trivial, ⟨rfl, by rw [ht2]; exact hP2, va_K.moved hvm2 G.2.2.2.2.2.1, hD2⟩, hS1.F ht2⟩) hS1.2.2 (Nat.le_refl _) (Nat.le_refl _)
theorem zq_outVv {α : Type} {sz : Nat} {V0 : va_W} {z : Sum String α} {Qc : Array Value → State → Outcome → State → Prop} (G : zG p s m args c cc nL own D cyI cyZ (va_A V0 sz)) (hlocks : meth.locks = false) (htab : ∀ x ∈ c.exceptionTable.toList, False) {idx : Nat} {y : MethodName} {b : ByteArray} {k fr lo : Nat} {a : Nat} {As : List Value} {W0 W1 ws2 wsF : va_W} {E0 : String} {isC isR perm : List Nat} (hs : zSV own idx y b k none As.length) (hdg : decode cc pc = .ok (.invokevirtual idx, 3)) (hM : ∀ sz : Nat, zXv l y b k fr lo D cyI cyZ sz (.ref a :: As) W0 (.inl E0) W1) {ci : Nat} {fs : List Value} {cT : u_T} {cN : Nat} (q0 : Nat) (he : ws[q0]? = some (a, .inr (ci, fs))) (hc : vwCl[ci]? = some (y.cls, cT, cN)) (hst : st = As.reverse ++ .ref a :: rest) (hcut : zCut ws W0 W1 ws2 isC isR perm) (hC : va_nd isC = true) (hcat : (rest.map fun v => v.category).sum ≤ 8) (hR : fr + 1 ≤ R.frames ∧ 8 + (k + 11) + lo ≤ R.locals) (hRc : R.cells = zmc z) (hRs : R.slots = zms z) (e9 : z = .inl E0) (e8 : ws2 = wsF) : zW p l e R s m args below meth c D (va_A V0 sz) nL 0 0 (vx_MQ below Qc (zXC D cyI cyZ sz V0 z wsF) args s (zmc z) (zms z) (va_A V0 sz)) pc lv st ws := by
  subst hst e9 e8
  have hR : zFit R { frames := fr, cells := 1, slots := 6, locals := lo } k 0 0 := ⟨hR.1, hR.2, by rw [hRc]; exact Nat.le_refl 1, by rw [hRs]; exact Nat.le_refl 6⟩
  intro H locs ls hP hD hS hl
  obtain ⟨hF, hpre⟩ := zcutP G hcut hC hP hD hS
  have hB1 : FrameBlind (va_Pc (.ref a :: As) (zPre D cyI cyZ H.size W0)) := zPre_blind
  refine vx_callv (vx_runV (As := As) (rest := rest) (zfix G) (hM H.size) (zCW (rm := { frames := fr, cells := 1, slots := 6, locals := lo }) G hs hR) ⟨hB1, va_recv G.2.2.2.2.2.1 hP hc he, fun U hU hW => ⟨rfl, hpre U hU hW⟩⟩ rfl rfl hl.1 rfl (lv_room hcat) hdg ⟨hR.2.2.1, hR.2.2.2⟩) hS (fun q _ h => hF q h) hF (fun q _ h => hF q h) (fun E ce q9 u t H1 locs1 ht hvm hp hB hz1 hk1 hS1 hce hcv hcl => ?_) (fun u t H1 locs1 ht hvm hw => nomatch hw)
  obtain ⟨hE, hP1, hK1, hD1⟩ := hB
  rw [ht] at hP1
  cases hE
  obtain ⟨hP2, hD2⟩ := zjoin hcut hP hD hk1 hF hP1 hD1
  exact vx_out (fun x hx => (htab x hx).elim) hlocks hce hcv hcl (fun t2 ht2 hvm2 => ⟨(), trivial, ⟨rfl, by rw [ht2]; exact hP2, va_K.moved hvm2 G.2.2.2.2.2.1, hD2⟩, hS1.F ht2⟩) hS1.2.2 (Nat.le_refl _) (Nat.le_refl _)
end ZC
/-! ===== reading the pure side ===== -/
theorem zif {α : Type} {c : Prop} [Decidable c] {x : Option α} {r : α} (h : (if c then x else none) = some r) : c ∧ x = some r := by
  by_cases hc : c
  · rw [if_pos hc] at h; exact ⟨hc, h⟩
  · rw [if_neg hc] at h; exact nomatch h
theorem zit {α : Type} {c : Prop} [Decidable c] {x y : Option α} {r : α} (h : (if c then x else y) = some r) (hc : c) : x = some r := by rwa [if_pos hc] at h
theorem zie {α : Type} {c : Prop} [Decidable c] {x y : Option α} {r : α} (h : (if c then x else y) = some r) (hc : ¬ c) : y = some r := by rwa [if_neg hc] at h
theorem zbd {α β : Type} {o : Option α} {f : α → Option β} {r : β} (h : o.bind f = some r) : ∃ z, o = some z ∧ f z = some r := Option.bind_eq_some_iff.mp h
theorem zsome {α : Type} {a b : α} (h : some a = some b) : a = b := Option.some.inj h
def zsel {α β : Type} (z : Sum String α) (f : String → β) (g : α → β) : β := match z with
  | .inl E => f E
  | .inr r => g r
theorem zselL2 {α β : Type} {z : Sum String α} {E : String} {f : String → Option β} {g : α → Option β} {r : β} (h : zsel z f g = some r) (e : z = .inl E) : f E = some r := by subst e; exact h
theorem zselR2 {α β : Type} {z : Sum String α} {v : α} {f : String → Option β} {g : α → Option β} {r : β} (h : zsel z f g = some r) (e : z = .inr v) : g v = some r := by subst e; exact h
theorem zsum {α : Type} (z : Sum String α) : (∃ E, z = .inl E) ∨ (∃ r, z = .inr r) := by
  rcases z with E | r
  · exact Or.inl ⟨E, rfl⟩
  · exact Or.inr ⟨r, rfl⟩
theorem zpair {α β : Type} {o : Option (α × β)} {z : α × β} {a : α} (h : o = some z) (e : z.1 = a) : o = some (a, z.2) := by rw [h, ← e]
theorem zselL {α β : Type} {E : String} {f : String → Option β} {g : α → Option β} {r : β} (h : zsel (.inl E) f g = some r) : f E = some r := h
theorem zselR {α β : Type} {v : α} {f : String → Option β} {g : α → Option β} {r : β} (h : zsel (.inr v) f g = some r) : g v = some r := h
theorem znar {v : Int32} (h : v &&& 1 = v) : narrow .boolean (.int v) = .int v := by
  show Value.int (v &&& 1) = .int v
  rw [h]
theorem zuws {C : String} {T : u_T} {N : Nat} (f : ∀ k, k < N → u_lay C T k ∈ zB) : ∀ w ∈ u_ws C T N, w ∈ zB := fun w h => by
  obtain ⟨k, hk, rfl⟩ := List.mem_map.mp h
  exact f k (List.mem_range.mp hk)
theorem zq_ws {p : Program} {l : Launch} {e : Env} {R : Room} {s : State} {m : MethodId} {args : Array Value} {below : List Frame} {meth : Method} {c : Code} {cells slots : Nat} {Q : State → Prop} {nL : Nat} {D : va_G} {A : Nat → Prop} {pc : Nat} {lv : List (Nat × Value)} {st : List Value} {ws ws2 : va_W} (h : ws = ws2) (k : zW p l e R s m args below meth c D A nL cells slots Q pc lv st ws2) : zW p l e R s m args below meth c D A nL cells slots Q pc lv st ws := by subst h; exact k
/-- fuel of the pure loops -/
def FU : Nat := 100000
/-! ===== the pictures of the objects ===== -/
abbrev zF : Type := Nat → Int32
abbrev zT : Type := Int32 × Int32 × zF × zF
abbrev zS : Type := Int32 × zF × zF × zF × zF
abbrev zK : Type := Int32 × Int32 × Int32 × Int32 × zF
abbrev zC : Type := zT × zT × zS × zF × zF × zF × zK
abbrev zL : Type := zF × zF × zF × zF × Int32 × Int32 × Int32 × Int32 × Int32 × zF × zF
abbrev zE : Type := Int32 × Int32 × Int32 × zF
abbrev zM : Type := zT × zT × zL × zE × Int32
abbrev w_F (cyI : ClassId) (n h0 : Nat) (f : zF) : va_W := [(h0, .inl (cyI, n, .inl f))]
abbrev w_T (cyI cyZ : ClassId) (h0 h1 h2 : Nat) (t : zT) : va_W := [(h0, .inr (1, [.int t.1, .int t.2.1, .ref h1, .ref h2])), (h1, .inl (cyI, 49, .inl t.2.2.1)), (h2, .inl (cyZ, 49, .inl t.2.2.2))]
abbrev w_S (cyI : ClassId) (h0 h1 h2 h3 h4 : Nat) (t : zS) : va_W := [(h0, .inr (0, [.int t.1, .ref h1, .ref h2, .ref h3, .ref h4])), (h1, .inl (cyI, 49, .inl t.2.1)), (h2, .inl (cyI, 128, .inl t.2.2.1)), (h3, .inl (cyI, 128, .inl t.2.2.2.1)), (h4, .inl (cyI, 128, .inl t.2.2.2.2))]
abbrev w_K (cyI : ClassId) (h0 h1 : Nat) (t : zK) : va_W := [(h0, .inr (2, [.int t.1, .int t.2.1, .int t.2.2.1, .int t.2.2.2.1, .ref h1])), (h1, .inl (cyI, 720, .inl t.2.2.2.2))]
abbrev w_C (cyI cyZ : ClassId) (x0 t0 t1 t2 v0 v1 v2 s0 s1 s2 s3 s4 rp cp fo k0 k1 : Nat) (t : zC) : va_W := [(x0, .inr (3, [.ref t0, .ref v0, .ref s0, .ref rp, .ref cp, .ref fo, .ref k0])),
  (t0, .inr (1, [.int t.1.1, .int t.1.2.1, .ref t1, .ref t2])), (t1, .inl (cyI, 49, .inl t.1.2.2.1)), (t2, .inl (cyZ, 49, .inl t.1.2.2.2)),
  (v0, .inr (1, [.int t.2.1.1, .int t.2.1.2.1, .ref v1, .ref v2])), (v1, .inl (cyI, 49, .inl t.2.1.2.2.1)), (v2, .inl (cyZ, 49, .inl t.2.1.2.2.2)),
  (s0, .inr (0, [.int t.2.2.1.1, .ref s1, .ref s2, .ref s3, .ref s4])), (s1, .inl (cyI, 49, .inl t.2.2.1.2.1)), (s2, .inl (cyI, 128, .inl t.2.2.1.2.2.1)), (s3, .inl (cyI, 128, .inl t.2.2.1.2.2.2.1)), (s4, .inl (cyI, 128, .inl t.2.2.1.2.2.2.2)),
  (rp, .inl (cyI, 7, .inl t.2.2.2.1)), (cp, .inl (cyI, 7, .inl t.2.2.2.2.1)), (fo, .inl (cyI, 7, .inl t.2.2.2.2.2.1)),
  (k0, .inr (2, [.int t.2.2.2.2.2.2.1, .int t.2.2.2.2.2.2.2.1, .int t.2.2.2.2.2.2.2.2.1, .int t.2.2.2.2.2.2.2.2.2.1, .ref k1])), (k1, .inl (cyI, 720, .inl t.2.2.2.2.2.2.2.2.2.2))]
abbrev w_M (cyI cyZ : ClassId) (m0 m1 m2 m3 m4 m5 m6 m7 m8 m9 m10 m11 : Nat) (t : zM) : va_W := [(m0, .inr (4, [.int t.1.1, .int t.1.2.1, .int t.2.1.1, .int t.2.1.2.1, .int t.2.2.2.2, .ref m1, .ref m2, .ref m3, .ref m4, .ref m5, .ref m6, .ref m7, .ref m8, .int t.2.2.1.2.2.2.2.1, .int t.2.2.1.2.2.2.2.2.1, .int t.2.2.1.2.2.2.2.2.2.1, .int t.2.2.1.2.2.2.2.2.2.2.1, .int t.2.2.1.2.2.2.2.2.2.2.2.1, .int t.2.2.2.1.1, .int t.2.2.2.1.2.1, .int t.2.2.2.1.2.2.1, .ref m9, .ref m10, .ref m11])),
  (m1, .inl (cyI, 49, .inl t.1.2.2.1)), (m2, .inl (cyI, 49, .inl t.2.1.2.2.1)), (m3, .inl (cyZ, 49, .inl t.1.2.2.2)), (m4, .inl (cyZ, 49, .inl t.2.1.2.2.2)), (m5, .inl (cyI, 49, .inl t.2.2.1.1)), (m6, .inl (cyI, 49, .inl t.2.2.1.2.1)), (m7, .inl (cyI, 7, .inl t.2.2.1.2.2.1)), (m8, .inl (cyI, 7, .inl t.2.2.1.2.2.2.1)), (m9, .inl (cyI, 7, .inl t.2.2.2.1.2.2.2)), (m10, .inl (cyI, 7, .inl t.2.2.1.2.2.2.2.2.2.2.2.2.1)), (m11, .inl (cyI, 7, .inl t.2.2.1.2.2.2.2.2.2.2.2.2.2))]

