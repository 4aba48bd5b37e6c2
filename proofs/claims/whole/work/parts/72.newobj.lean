/-! ===== making objects and calling their constructors ===== -/
section ZO
variable {p : Program} {l : Launch} {e : Env} {R : Room} {s : State} {m : MethodId} {args : Array Value} {below : List Frame} {meth : Method} {c : Code} {cells slots : Nat} {Q : State → Prop}
variable {cc : ByteArray} {nL : Nat} {own : String} {D : va_G} {cyI cyZ : ClassId} {A : Nat → Prop} {pc q : Nat} {lv : List (Nat × Value)} {st rest : List Value} {ws : va_W}
theorem zCIN (G : zG p s m args c cc nL own D cyI cyZ A) {idx : Nat} {y : MethodName} {host : String} {b : ByteArray} {k n : Nat} {rm : Room} (hs : zSIN own idx y host b k n) (hR : zFit R rm k cells slots) : va_CN R s args own idx y host b k none (zws y b k none) rm rm.cells rm.slots n ∧ y.name = "<init>" ∧ (Cond.instanceMethod y).before args s = true := by
  obtain ⟨h1, h2, h4, h5, h8, h6, h7⟩ := hs
  have hB := G.2.2.2.2.1
  exact ⟨⟨⟨rfl, rfl, hR.1, hR.2.1, zpays G h5, List.mem_cons_self⟩, hB _ h5, hB _ h4, h6, zlen h7, hB _ h1⟩, h8, hB _ h2⟩
theorem zq_newO (G : zG p s m args c cc nL own D cyI cyZ A) {C : String} {T : u_T} {N ci idx : Nat} {fs : List Value} {ty0 : Nat → FieldType} (hin : ∀ w ∈ u_ws C T N, w ∈ zB) (hc : vwCl[ci]? = some (C, T, N)) (hty : ∀ k, k < N → parseFieldDescriptor (T k).2.2.1 = some (ty0 k)) (hcl : Cond.classLink own idx C ∈ zB) (hinst : Cond.instantiable C N ∈ zB) (hini : Cond.initialized C ∈ zB) (hfs : ∀ j, j < N → defaultValue (ty0 j) = vp_V fs j) (hcs : cells + 1 ≤ R.cells) (hsl : slots + N ≤ R.slots) (hdg : decode cc pc = .ok (.new idx, 3)) (hq : pc + 3 = q) (k : ∀ a : Nat, zW p l e R s m args below meth c D A nL (cells + 1) (slots + N) Q q lv (.ref a :: st) (ws ++ [(a, .inr (ci, fs))])) : zW p l e R s m args below meth c D A nL cells slots Q pc lv st ws := by
  subst hq
  intro H locs ls hP hD hS hl
  exact va_new (D := D) (ci := ci) (fs := fs) (C := C) (T := T) (N := N) G.1 G.2.1 G.2.2.2.2.1 hin ty0 hty G.2.2.2.1 (G.2.2.2.2.1 _ hcl) (G.2.2.2.2.1 _ hinst) (G.2.2.2.2.1 _ hini) G.2.2.2.2.2.1 hP hD hS G.2.2.2.2.2.2.1 hc hfs hcs hsl hdg (fun a H1 hP1 hD1 hS1 => k a H1 locs ls hP1 hD1 hS1 hl)
theorem zq_callC (G : zG p s m args c cc nL own D cyI cyZ A) {idx : Nat} {y : MethodName} {host : String} {b : ByteArray} {k fr lo cs sl : Nat} {a : Nat} {W0 : va_W} {P : va_W → Prop} {isC isR perm : List Nat} (hs : zSIN own idx y host b k 0) (hdg : decode cc pc = .ok (.invokespecial idx, 3)) (hM : ∀ sz : Nat, zMc l y b k fr lo cs sl D cyI cyZ sz [.ref a] W0 P) (hcut0 : isC.map (fun i => ws[i]?) = W0.map some) (hC : va_nd isC = true) (hcat : (rest.map fun v => v.category).sum ≤ 8) (hR : zFit R { frames := fr, cells := cs, slots := sl, locals := lo } k cells slots) (hq : pc + 3 = q) (kk : ∀ W1, P W1 → ∃ ws2, zCut ws W0 W1 ws2 isC isR perm ∧ zW p l e R s m args below meth c D A nL (cells + cs) (slots + sl) Q q lv rest ws2) : zW p l e R s m args below meth c D A nL cells slots Q pc lv (.ref a :: rest) ws := by
  subst hq
  intro H locs ls hP hD hS hl
  obtain ⟨hF, hpre⟩ := zcutP (W1 := []) (ws2 := []) (isR := []) (perm := []) G ⟨hcut0, rfl, rfl, rfl⟩ hC hP hD hS
  have hB1 : FrameBlind (va_Pc [.ref a] (zPre D cyI cyZ H.size W0)) := zPre_blind
  refine va_callv (va_runIN (As := []) (rest := rest) (zfix G) (hM H.size) (zCIN G hs hR) ⟨hB1, fun U hU hW => ⟨rfl, hpre U hU hW⟩⟩ rfl rfl hl.1 rfl (lv_room hcat) hdg ⟨hR.2.2.1, hR.2.2.2⟩) hS (fun q _ h => hF q h) hF (fun u t H1 locs1 ht hvm hw hB hz1 hk1 hS1 => ?_)
  obtain ⟨W1, hPW, hP1, hK1, hD1⟩ := hB
  rw [ht] at hP1
  obtain ⟨ws2, hcut, kk2⟩ := kk W1 hPW
  obtain ⟨hP2, hD2⟩ := zjoin hcut hP hD hk1 hF hP1 hD1
  exact kk2 H1 locs1 ls hP2 hD2 hS1 hl
end ZO
