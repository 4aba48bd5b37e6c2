/-! ===== cases of the switch ===== -/
set_option maxHeartbeats 4000000 in
set_option maxRecDepth 100000 in
theorem L_8 {p : Program} {l : Launch} {e : Env} {s : State} {m : MethodId} {args : Array Value} {below : List Frame} {meth : Method} {c : Code} {D : va_G} {cyI cyZ cyJ cyD : ClassId} {A : Nat → Prop} {b L : Nat} {xs : Nat → Int32} {Q : State → Prop} {cells slots : Nat} {h : Nat → Nat} {i x1 x2 x3 : Int32} {σ : zC} {μ : zM} {g : Nat → Int64} {d : Nat → UInt64} (hst : l.stackTraces = false) (LW : zLaw p s m args c D cyI cyZ cyJ cyD A b L xs) (hI : zArgs L xs i x1 x2 x3) (hc : cells + 1 ≤ 601024) (hs : slots + 6 ≤ 7293034) (Rl : Rel σ μ) (K : ∀ (σ2 : zC) (μ2 : zM) (g2 : Nat → Int64) (d2 : Nat → UInt64), Rel σ2 μ2 → zW p l e room_1 s m args below meth c D A 10 (cells + 1) (slots + 6) Q 2123 (zlv b h i) [] (w_L cyI cyZ cyJ cyD h σ2 μ2 g2 d2)) : zW p l e room_1 s m args below meth c D A 10 cells slots Q 844 (zlv b h i) [] (w_L cyI cyZ cyJ cyD h σ μ g d) := by
  have G := LW.1
  obtain ⟨z, σ2, b9, μ2, e1, e2, hR2, hT⟩ := o_swapRows Rl x1 x2
  refine zq_aload_n (q := 845) G dL_law_844 1 rfl rfl rfl ?_
  refine zq_arg (q := 851) (v := 1) LW hI.1 0 5 dL_law_845 dL_law_846 dL_law_848 dL_law_849 dL_law_850 rfl rfl rfl rfl ?_
  refine zq_arg (q := 857) (v := 2) LW hI.2.1 0 5 dL_law_851 dL_law_852 dL_law_854 dL_law_855 dL_law_856 rfl rfl rfl rfl ?_
  refine zq_aload_n (q := 858) G dL_law_857 3 rfl rfl rfl ?_
  refine zq_callH (q := 861) (isC := [0, 1, 2, 3, 4, 5, 6, 7, 8, 9, 10, 11, 12, 13, 14, 15, 16, 29]) (isR := [17, 18, 19, 20, 21, 22, 23, 24, 25, 26, 27, 28, 30]) (perm := [13, 14, 15, 16, 17, 18, 19, 20, 21, 22, 23, 24, 25, 26, 27, 28, 29, 0, 1, 2, 3, 4, 5, 6, 7, 8, 9, 10, 11, 30, 12]) (rest := []) (As := [.ref (h 0), .int x1, .int x2, .ref (h 29)]) G LW.2.1 zs_L_139 dL_law_858 (fun sz9 => h_swapRows l hst D cyI cyZ cyJ cyD h (h 29) σ σ2 g x1 x2 z b9 μ2.2.2.2.2 e1 hT sz9) rfl rfl rfl (Nat.le_of_ble_eq_true rfl) ⟨(Nat.le_of_ble_eq_true rfl), (Nat.le_of_ble_eq_true rfl), hc, hs⟩ rfl (fun W9 hW9 => ?_)
  obtain ⟨g2, hg2, rfl⟩ := hW9
  refine ⟨(w_L cyI cyZ cyJ cyD h σ2 μ g2 d), ⟨rfl, rfl, rfl, rfl⟩, ?_⟩
  refine zq_istore (q := 863) (lv2 := [(6, .int μ2.2.2.2.2), (0, .ref b), (1, .ref (h 0)), (2, .ref (h 17)), (3, .ref (h 29)), (4, .ref (h 30)), (5, .int i)]) G dL_law_861 (by decide) rfl rfl ?_
  refine zq_aload_n (q := 864) G dL_law_863 3 rfl rfl rfl ?_
  refine zq_arg (q := 870) (v := 1) LW hI.1 1 6 dL_law_864 dL_law_865 dL_law_867 dL_law_868 dL_law_869 rfl rfl rfl rfl ?_
  refine zq_arg (q := 876) (v := 2) LW hI.2.1 1 6 dL_law_870 dL_law_871 dL_law_873 dL_law_874 dL_law_875 rfl rfl rfl rfl ?_
  refine zq_callVi (q := 879) (ws2 := (w_L cyI cyZ cyJ cyD h σ2 μ2 g2 d)) (isC := [17, 18, 19, 20, 21, 22, 23, 24, 25, 26, 27, 28]) (isR := [0, 1, 2, 3, 4, 5, 6, 7, 8, 9, 10, 11, 12, 13, 14, 15, 16, 29, 30]) (perm := [0, 1, 2, 3, 4, 5, 6, 7, 8, 9, 10, 11, 12, 13, 14, 15, 16, 19, 20, 21, 22, 23, 24, 25, 26, 27, 28, 29, 30, 17, 18]) (rest := []) (As := [.int x1, .int x2]) G zs_L_141 dL_law_876 (fun sz9 => c_X4_swapRows l D cyI cyZ (h 17) (h 18) (h 19) (h 20) (h 21) (h 22) (h 23) (h 24) (h 25) (h 26) (h 27) (h 28) μ x1 x2 b9 μ2 e2 sz9) 17 rfl rfl rfl ⟨rfl, rfl, rfl, rfl⟩ rfl (Nat.le_of_ble_eq_true rfl) ⟨(Nat.le_of_ble_eq_true rfl), (Nat.le_of_ble_eq_true rfl), hc, hs⟩ rfl ?_
  refine zq_istore (q := 881) (lv2 := [(7, .int b9), (6, .int μ2.2.2.2.2), (0, .ref b), (1, .ref (h 0)), (2, .ref (h 17)), (3, .ref (h 29)), (4, .ref (h 30)), (5, .int i)]) G dL_law_879 (by decide) rfl rfl ?_
  refine zq_aload_n (q := 882) G dL_law_881 4 rfl rfl rfl ?_
  refine zq_callVi (q := 885) (ws2 := (w_L cyI cyZ cyJ cyD h σ2 μ2 g2 d)) (isC := [17, 18, 19, 20, 21, 22, 23, 24, 25, 26, 27, 28]) (isR := [0, 1, 2, 3, 4, 5, 6, 7, 8, 9, 10, 11, 12, 13, 14, 15, 16, 29, 30]) (perm := [0, 1, 2, 3, 4, 5, 6, 7, 8, 9, 10, 11, 12, 13, 14, 15, 16, 19, 20, 21, 22, 23, 24, 25, 26, 27, 28, 29, 30, 17, 18]) (rest := []) (As := []) G zs_L_110 dL_law_882 (fun sz9 => c_X4_thrown l D cyI cyZ (h 17) (h 18) (h 19) (h 20) (h 21) (h 22) (h 23) (h 24) (h 25) (h 26) (h 27) (h 28) μ2 μ2.2.2.2.2 (s_thrown μ2) sz9) 17 rfl rfl rfl ⟨rfl, rfl, rfl, rfl⟩ rfl (Nat.le_of_ble_eq_true rfl) ⟨(Nat.le_of_ble_eq_true rfl), (Nat.le_of_ble_eq_true rfl), hc, hs⟩ rfl ?_
  refine zq_iload (q := 887) G dL_law_885 1 rfl rfl ?_
  refine zq_icmp_eq (tgt := 892) (q := 890) G dL_law_887 (by decide) rfl (fun _ => ?_) (fun c9 => absurd rfl c9)
  refine zq_iload (q := 894) G dL_law_892 1 rfl rfl ?_
  refine zq_if_ne (tgt := 909) (q := 897) G dL_law_894 (by decide) rfl (fun _ => ?_) (fun h9 => ?_)
  · exact zq_goto (q := 2123) G dL_law_909 (by decide) (zq_sub (zlv b h i) [2, 3, 4, 5, 6, 7] rfl (K _ _ _ _ hR2))
  · refine zq_aload_n (q := 898) G dL_law_897 5 rfl rfl rfl ?_
    refine zq_iconst (q := 899) (v := 0) G dL_law_898 rfl rfl ?_
    refine zq_lald (q := 900) G LW.2.1 dL_law_899 29 rfl rfl rfl ?_
    refine zq_iload (q := 902) G dL_law_900 0 rfl rfl ?_
    refine zq_i2l (q := 903) G dL_law_902 rfl ?_
    refine zq_lcmp (q := 904) G dL_law_903 rfl ?_
    refine zq_if_eq (tgt := 909) (q := 907) G dL_law_904 (by decide) rfl (fun _ => ?_) (fun c9 => absurd (zeqL (hg2 h9)) c9)
    exact zq_goto (q := 2123) G dL_law_909 (by decide) (zq_sub (zlv b h i) [2, 3, 4, 5, 6, 7] rfl (K _ _ _ _ hR2))
set_option maxHeartbeats 4000000 in
set_option maxRecDepth 100000 in
theorem L_9 {p : Program} {l : Launch} {e : Env} {s : State} {m : MethodId} {args : Array Value} {below : List Frame} {meth : Method} {c : Code} {D : va_G} {cyI cyZ cyJ cyD : ClassId} {A : Nat → Prop} {b L : Nat} {xs : Nat → Int32} {Q : State → Prop} {cells slots : Nat} {h : Nat → Nat} {i x1 x2 x3 : Int32} {σ : zC} {μ : zM} {g : Nat → Int64} {d : Nat → UInt64} (hst : l.stackTraces = false) (LW : zLaw p s m args c D cyI cyZ cyJ cyD A b L xs) (hI : zArgs L xs i x1 x2 x3) (hc : cells + 1 ≤ 601024) (hs : slots + 6 ≤ 7293034) (Rl : Rel σ μ) (K : ∀ (σ2 : zC) (μ2 : zM) (g2 : Nat → Int64) (d2 : Nat → UInt64), Rel σ2 μ2 → zW p l e room_1 s m args below meth c D A 10 (cells + 1) (slots + 6) Q 2123 (zlv b h i) [] (w_L cyI cyZ cyJ cyD h σ2 μ2 g2 d2)) : zW p l e room_1 s m args below meth c D A 10 cells slots Q 912 (zlv b h i) [] (w_L cyI cyZ cyJ cyD h σ μ g d) := by
  have G := LW.1
  obtain ⟨z, σ2, b9, μ2, e1, e2, hR2, hT⟩ := o_swapColumns Rl x1 x2
  refine zq_aload_n (q := 913) G dL_law_912 1 rfl rfl rfl ?_
  refine zq_arg (q := 919) (v := 1) LW hI.1 0 5 dL_law_913 dL_law_914 dL_law_916 dL_law_917 dL_law_918 rfl rfl rfl rfl ?_
  refine zq_arg (q := 925) (v := 2) LW hI.2.1 0 5 dL_law_919 dL_law_920 dL_law_922 dL_law_923 dL_law_924 rfl rfl rfl rfl ?_
  refine zq_aload_n (q := 926) G dL_law_925 3 rfl rfl rfl ?_
  refine zq_callH (q := 929) (isC := [0, 1, 2, 3, 4, 5, 6, 7, 8, 9, 10, 11, 12, 13, 14, 15, 16, 29]) (isR := [17, 18, 19, 20, 21, 22, 23, 24, 25, 26, 27, 28, 30]) (perm := [13, 14, 15, 16, 17, 18, 19, 20, 21, 22, 23, 24, 25, 26, 27, 28, 29, 0, 1, 2, 3, 4, 5, 6, 7, 8, 9, 10, 11, 30, 12]) (rest := []) (As := [.ref (h 0), .int x1, .int x2, .ref (h 29)]) G LW.2.1 zs_L_142 dL_law_926 (fun sz9 => h_swapColumns l hst D cyI cyZ cyJ cyD h (h 29) σ σ2 g x1 x2 z b9 μ2.2.2.2.2 e1 hT sz9) rfl rfl rfl (Nat.le_of_ble_eq_true rfl) ⟨(Nat.le_of_ble_eq_true rfl), (Nat.le_of_ble_eq_true rfl), hc, hs⟩ rfl (fun W9 hW9 => ?_)
  obtain ⟨g2, hg2, rfl⟩ := hW9
  refine ⟨(w_L cyI cyZ cyJ cyD h σ2 μ g2 d), ⟨rfl, rfl, rfl, rfl⟩, ?_⟩
  refine zq_istore (q := 931) (lv2 := [(6, .int μ2.2.2.2.2), (0, .ref b), (1, .ref (h 0)), (2, .ref (h 17)), (3, .ref (h 29)), (4, .ref (h 30)), (5, .int i)]) G dL_law_929 (by decide) rfl rfl ?_
  refine zq_aload_n (q := 932) G dL_law_931 3 rfl rfl rfl ?_
  refine zq_arg (q := 938) (v := 1) LW hI.1 1 6 dL_law_932 dL_law_933 dL_law_935 dL_law_936 dL_law_937 rfl rfl rfl rfl ?_
  refine zq_arg (q := 944) (v := 2) LW hI.2.1 1 6 dL_law_938 dL_law_939 dL_law_941 dL_law_942 dL_law_943 rfl rfl rfl rfl ?_
  refine zq_callVi (q := 947) (ws2 := (w_L cyI cyZ cyJ cyD h σ2 μ2 g2 d)) (isC := [17, 18, 19, 20, 21, 22, 23, 24, 25, 26, 27, 28]) (isR := [0, 1, 2, 3, 4, 5, 6, 7, 8, 9, 10, 11, 12, 13, 14, 15, 16, 29, 30]) (perm := [0, 1, 2, 3, 4, 5, 6, 7, 8, 9, 10, 11, 12, 13, 14, 15, 16, 19, 20, 21, 22, 23, 24, 25, 26, 27, 28, 29, 30, 17, 18]) (rest := []) (As := [.int x1, .int x2]) G zs_L_144 dL_law_944 (fun sz9 => c_X4_swapColumns l D cyI cyZ (h 17) (h 18) (h 19) (h 20) (h 21) (h 22) (h 23) (h 24) (h 25) (h 26) (h 27) (h 28) μ x1 x2 b9 μ2 e2 sz9) 17 rfl rfl rfl ⟨rfl, rfl, rfl, rfl⟩ rfl (Nat.le_of_ble_eq_true rfl) ⟨(Nat.le_of_ble_eq_true rfl), (Nat.le_of_ble_eq_true rfl), hc, hs⟩ rfl ?_
  refine zq_istore (q := 949) (lv2 := [(7, .int b9), (6, .int μ2.2.2.2.2), (0, .ref b), (1, .ref (h 0)), (2, .ref (h 17)), (3, .ref (h 29)), (4, .ref (h 30)), (5, .int i)]) G dL_law_947 (by decide) rfl rfl ?_
  refine zq_aload_n (q := 950) G dL_law_949 4 rfl rfl rfl ?_
  refine zq_callVi (q := 953) (ws2 := (w_L cyI cyZ cyJ cyD h σ2 μ2 g2 d)) (isC := [17, 18, 19, 20, 21, 22, 23, 24, 25, 26, 27, 28]) (isR := [0, 1, 2, 3, 4, 5, 6, 7, 8, 9, 10, 11, 12, 13, 14, 15, 16, 29, 30]) (perm := [0, 1, 2, 3, 4, 5, 6, 7, 8, 9, 10, 11, 12, 13, 14, 15, 16, 19, 20, 21, 22, 23, 24, 25, 26, 27, 28, 29, 30, 17, 18]) (rest := []) (As := []) G zs_L_110 dL_law_950 (fun sz9 => c_X4_thrown l D cyI cyZ (h 17) (h 18) (h 19) (h 20) (h 21) (h 22) (h 23) (h 24) (h 25) (h 26) (h 27) (h 28) μ2 μ2.2.2.2.2 (s_thrown μ2) sz9) 17 rfl rfl rfl ⟨rfl, rfl, rfl, rfl⟩ rfl (Nat.le_of_ble_eq_true rfl) ⟨(Nat.le_of_ble_eq_true rfl), (Nat.le_of_ble_eq_true rfl), hc, hs⟩ rfl ?_
  refine zq_iload (q := 955) G dL_law_953 1 rfl rfl ?_
  refine zq_icmp_eq (tgt := 960) (q := 958) G dL_law_955 (by decide) rfl (fun _ => ?_) (fun c9 => absurd rfl c9)
  refine zq_iload (q := 962) G dL_law_960 1 rfl rfl ?_
  refine zq_if_ne (tgt := 977) (q := 965) G dL_law_962 (by decide) rfl (fun _ => ?_) (fun h9 => ?_)
  · exact zq_goto (q := 2123) G dL_law_977 (by decide) (zq_sub (zlv b h i) [2, 3, 4, 5, 6, 7] rfl (K _ _ _ _ hR2))
  · refine zq_aload_n (q := 966) G dL_law_965 5 rfl rfl rfl ?_
    refine zq_iconst (q := 967) (v := 0) G dL_law_966 rfl rfl ?_
    refine zq_lald (q := 968) G LW.2.1 dL_law_967 29 rfl rfl rfl ?_
    refine zq_iload (q := 970) G dL_law_968 0 rfl rfl ?_
    refine zq_i2l (q := 971) G dL_law_970 rfl ?_
    refine zq_lcmp (q := 972) G dL_law_971 rfl ?_
    refine zq_if_eq (tgt := 977) (q := 975) G dL_law_972 (by decide) rfl (fun _ => ?_) (fun c9 => absurd (zeqL (hg2 h9)) c9)
    exact zq_goto (q := 2123) G dL_law_977 (by decide) (zq_sub (zlv b h i) [2, 3, 4, 5, 6, 7] rfl (K _ _ _ _ hR2))
set_option maxHeartbeats 4000000 in
set_option maxRecDepth 100000 in
theorem L_20 {p : Program} {l : Launch} {e : Env} {s : State} {m : MethodId} {args : Array Value} {below : List Frame} {meth : Method} {c : Code} {D : va_G} {cyI cyZ cyJ cyD : ClassId} {A : Nat → Prop} {b L : Nat} {xs : Nat → Int32} {Q : State → Prop} {cells slots : Nat} {h : Nat → Nat} {i x1 x2 x3 : Int32} {σ : zC} {μ : zM} {g : Nat → Int64} {d : Nat → UInt64} (hst : l.stackTraces = false) (LW : zLaw p s m args c D cyI cyZ cyJ cyD A b L xs) (hI : zArgs L xs i x1 x2 x3) (hc : cells + 1 ≤ 601024) (hs : slots + 6 ≤ 7293034) (Rl : Rel σ μ) (K : ∀ (σ2 : zC) (μ2 : zM) (g2 : Nat → Int64) (d2 : Nat → UInt64), Rel σ2 μ2 → zW p l e room_1 s m args below meth c D A 10 (cells + 1) (slots + 6) Q 2123 (zlv b h i) [] (w_L cyI cyZ cyJ cyD h σ2 μ2 g2 d2)) : zW p l e room_1 s m args below meth c D A 10 cells slots Q 1141 (zlv b h i) [] (w_L cyI cyZ cyJ cyD h σ μ g d) := by
  have G := LW.1
  obtain ⟨z, σ2, b9, μ2, e1, e2, hR2, hT⟩ := o_assigned Rl x1
  refine zq_aload_n (q := 1142) G dL_law_1141 1 rfl rfl rfl ?_
  refine zq_arg (q := 1148) (v := 1) LW hI.1 0 5 dL_law_1142 dL_law_1143 dL_law_1145 dL_law_1146 dL_law_1147 rfl rfl rfl rfl ?_
  refine zq_aload_n (q := 1149) G dL_law_1148 3 rfl rfl rfl ?_
  refine zq_callH (q := 1152) (isC := [0, 1, 2, 3, 4, 5, 6, 7, 8, 9, 10, 11, 12, 13, 14, 15, 16, 29]) (isR := [17, 18, 19, 20, 21, 22, 23, 24, 25, 26, 27, 28, 30]) (perm := [13, 14, 15, 16, 17, 18, 19, 20, 21, 22, 23, 24, 25, 26, 27, 28, 29, 0, 1, 2, 3, 4, 5, 6, 7, 8, 9, 10, 11, 30, 12]) (rest := []) (As := [.ref (h 0), .int x1, .ref (h 29)]) G LW.2.1 zs_L_185 dL_law_1149 (fun sz9 => h_assigned l hst D cyI cyZ cyJ cyD h (h 29) σ σ2 g x1 z b9 μ2.2.2.2.2 e1 hT sz9) rfl rfl rfl (Nat.le_of_ble_eq_true rfl) ⟨(Nat.le_of_ble_eq_true rfl), (Nat.le_of_ble_eq_true rfl), hc, hs⟩ rfl (fun W9 hW9 => ?_)
  obtain ⟨g2, hg2, rfl⟩ := hW9
  refine ⟨(w_L cyI cyZ cyJ cyD h σ2 μ g2 d), ⟨rfl, rfl, rfl, rfl⟩, ?_⟩
  refine zq_istore (q := 1154) (lv2 := [(6, .int μ2.2.2.2.2), (0, .ref b), (1, .ref (h 0)), (2, .ref (h 17)), (3, .ref (h 29)), (4, .ref (h 30)), (5, .int i)]) G dL_law_1152 (by decide) rfl rfl ?_
  refine zq_aload_n (q := 1155) G dL_law_1154 3 rfl rfl rfl ?_
  refine zq_arg (q := 1161) (v := 1) LW hI.1 1 6 dL_law_1155 dL_law_1156 dL_law_1158 dL_law_1159 dL_law_1160 rfl rfl rfl rfl ?_
  refine zq_callVi (q := 1164) (ws2 := (w_L cyI cyZ cyJ cyD h σ2 μ2 g2 d)) (isC := [17, 18, 19, 20, 21, 22, 23, 24, 25, 26, 27, 28]) (isR := [0, 1, 2, 3, 4, 5, 6, 7, 8, 9, 10, 11, 12, 13, 14, 15, 16, 29, 30]) (perm := [0, 1, 2, 3, 4, 5, 6, 7, 8, 9, 10, 11, 12, 13, 14, 15, 16, 19, 20, 21, 22, 23, 24, 25, 26, 27, 28, 29, 30, 17, 18]) (rest := []) (As := [.int x1]) G zs_L_188 dL_law_1161 (fun sz9 => c_X4_assigned l D cyI cyZ (h 17) (h 18) (h 19) (h 20) (h 21) (h 22) (h 23) (h 24) (h 25) (h 26) (h 27) (h 28) μ x1 b9 μ2 e2 sz9) 17 rfl rfl rfl ⟨rfl, rfl, rfl, rfl⟩ rfl (Nat.le_of_ble_eq_true rfl) ⟨(Nat.le_of_ble_eq_true rfl), (Nat.le_of_ble_eq_true rfl), hc, hs⟩ rfl ?_
  refine zq_istore (q := 1166) (lv2 := [(7, .int b9), (6, .int μ2.2.2.2.2), (0, .ref b), (1, .ref (h 0)), (2, .ref (h 17)), (3, .ref (h 29)), (4, .ref (h 30)), (5, .int i)]) G dL_law_1164 (by decide) rfl rfl ?_
  refine zq_aload_n (q := 1167) G dL_law_1166 4 rfl rfl rfl ?_
  refine zq_callVi (q := 1170) (ws2 := (w_L cyI cyZ cyJ cyD h σ2 μ2 g2 d)) (isC := [17, 18, 19, 20, 21, 22, 23, 24, 25, 26, 27, 28]) (isR := [0, 1, 2, 3, 4, 5, 6, 7, 8, 9, 10, 11, 12, 13, 14, 15, 16, 29, 30]) (perm := [0, 1, 2, 3, 4, 5, 6, 7, 8, 9, 10, 11, 12, 13, 14, 15, 16, 19, 20, 21, 22, 23, 24, 25, 26, 27, 28, 29, 30, 17, 18]) (rest := []) (As := []) G zs_L_110 dL_law_1167 (fun sz9 => c_X4_thrown l D cyI cyZ (h 17) (h 18) (h 19) (h 20) (h 21) (h 22) (h 23) (h 24) (h 25) (h 26) (h 27) (h 28) μ2 μ2.2.2.2.2 (s_thrown μ2) sz9) 17 rfl rfl rfl ⟨rfl, rfl, rfl, rfl⟩ rfl (Nat.le_of_ble_eq_true rfl) ⟨(Nat.le_of_ble_eq_true rfl), (Nat.le_of_ble_eq_true rfl), hc, hs⟩ rfl ?_
  refine zq_iload (q := 1172) G dL_law_1170 1 rfl rfl ?_
  refine zq_icmp_eq (tgt := 1177) (q := 1175) G dL_law_1172 (by decide) rfl (fun _ => ?_) (fun c9 => absurd rfl c9)
  refine zq_iload (q := 1179) G dL_law_1177 1 rfl rfl ?_
  refine zq_if_ne (tgt := 1194) (q := 1182) G dL_law_1179 (by decide) rfl (fun _ => ?_) (fun h9 => ?_)
  · exact zq_goto (q := 2123) G dL_law_1194 (by decide) (zq_sub (zlv b h i) [2, 3, 4, 5, 6, 7] rfl (K _ _ _ _ hR2))
  · refine zq_aload_n (q := 1183) G dL_law_1182 5 rfl rfl rfl ?_
    refine zq_iconst (q := 1184) (v := 0) G dL_law_1183 rfl rfl ?_
    refine zq_lald (q := 1185) G LW.2.1 dL_law_1184 29 rfl rfl rfl ?_
    refine zq_iload (q := 1187) G dL_law_1185 0 rfl rfl ?_
    refine zq_i2l (q := 1188) G dL_law_1187 rfl ?_
    refine zq_lcmp (q := 1189) G dL_law_1188 rfl ?_
    refine zq_if_eq (tgt := 1194) (q := 1192) G dL_law_1189 (by decide) rfl (fun _ => ?_) (fun c9 => absurd (zeqL (hg2 h9)) c9)
    exact zq_goto (q := 2123) G dL_law_1194 (by decide) (zq_sub (zlv b h i) [2, 3, 4, 5, 6, 7] rfl (K _ _ _ _ hR2))
set_option maxHeartbeats 4000000 in
set_option maxRecDepth 100000 in
theorem L_22 {p : Program} {l : Launch} {e : Env} {s : State} {m : MethodId} {args : Array Value} {below : List Frame} {meth : Method} {c : Code} {D : va_G} {cyI cyZ cyJ cyD : ClassId} {A : Nat → Prop} {b L : Nat} {xs : Nat → Int32} {Q : State → Prop} {cells slots : Nat} {h : Nat → Nat} {i x1 x2 x3 : Int32} {σ : zC} {μ : zM} {g : Nat → Int64} {d : Nat → UInt64} (hst : l.stackTraces = false) (LW : zLaw p s m args c D cyI cyZ cyJ cyD A b L xs) (hI : zArgs L xs i x1 x2 x3) (hc : cells + 1 ≤ 601024) (hs : slots + 6 ≤ 7293034) (Rl : Rel σ μ) (K : ∀ (σ2 : zC) (μ2 : zM) (g2 : Nat → Int64) (d2 : Nat → UInt64), Rel σ2 μ2 → zW p l e room_1 s m args below meth c D A 10 (cells + 1) (slots + 6) Q 2123 (zlv b h i) [] (w_L cyI cyZ cyJ cyD h σ2 μ2 g2 d2)) : zW p l e room_1 s m args below meth c D A 10 cells slots Q 1210 (zlv b h i) [] (w_L cyI cyZ cyJ cyD h σ μ g d) := by
  have G := LW.1
  obtain ⟨z, σ2, b9, μ2, e1, e2, hR2, hT⟩ := o_rowPotential Rl x1
  refine zq_aload_n (q := 1211) G dL_law_1210 1 rfl rfl rfl ?_
  refine zq_arg (q := 1217) (v := 1) LW hI.1 0 5 dL_law_1211 dL_law_1212 dL_law_1214 dL_law_1215 dL_law_1216 rfl rfl rfl rfl ?_
  refine zq_aload_n (q := 1218) G dL_law_1217 3 rfl rfl rfl ?_
  refine zq_callH (q := 1221) (isC := [0, 1, 2, 3, 4, 5, 6, 7, 8, 9, 10, 11, 12, 13, 14, 15, 16, 29]) (isR := [17, 18, 19, 20, 21, 22, 23, 24, 25, 26, 27, 28, 30]) (perm := [13, 14, 15, 16, 17, 18, 19, 20, 21, 22, 23, 24, 25, 26, 27, 28, 29, 0, 1, 2, 3, 4, 5, 6, 7, 8, 9, 10, 11, 30, 12]) (rest := []) (As := [.ref (h 0), .int x1, .ref (h 29)]) G LW.2.1 zs_L_193 dL_law_1218 (fun sz9 => h_rowPotential l hst D cyI cyZ cyJ cyD h (h 29) σ σ2 g x1 z b9 μ2.2.2.2.2 e1 hT sz9) rfl rfl rfl (Nat.le_of_ble_eq_true rfl) ⟨(Nat.le_of_ble_eq_true rfl), (Nat.le_of_ble_eq_true rfl), hc, hs⟩ rfl (fun W9 hW9 => ?_)
  obtain ⟨g2, hg2, rfl⟩ := hW9
  refine ⟨(w_L cyI cyZ cyJ cyD h σ2 μ g2 d), ⟨rfl, rfl, rfl, rfl⟩, ?_⟩
  refine zq_istore (q := 1223) (lv2 := [(6, .int μ2.2.2.2.2), (0, .ref b), (1, .ref (h 0)), (2, .ref (h 17)), (3, .ref (h 29)), (4, .ref (h 30)), (5, .int i)]) G dL_law_1221 (by decide) rfl rfl ?_
  refine zq_aload_n (q := 1224) G dL_law_1223 3 rfl rfl rfl ?_
  refine zq_arg (q := 1230) (v := 1) LW hI.1 1 6 dL_law_1224 dL_law_1225 dL_law_1227 dL_law_1228 dL_law_1229 rfl rfl rfl rfl ?_
  refine zq_callVi (q := 1233) (ws2 := (w_L cyI cyZ cyJ cyD h σ2 μ2 g2 d)) (isC := [17, 18, 19, 20, 21, 22, 23, 24, 25, 26, 27, 28]) (isR := [0, 1, 2, 3, 4, 5, 6, 7, 8, 9, 10, 11, 12, 13, 14, 15, 16, 29, 30]) (perm := [0, 1, 2, 3, 4, 5, 6, 7, 8, 9, 10, 11, 12, 13, 14, 15, 16, 19, 20, 21, 22, 23, 24, 25, 26, 27, 28, 29, 30, 17, 18]) (rest := []) (As := [.int x1]) G zs_L_195 dL_law_1230 (fun sz9 => c_X4_rowPotential l D cyI cyZ (h 17) (h 18) (h 19) (h 20) (h 21) (h 22) (h 23) (h 24) (h 25) (h 26) (h 27) (h 28) μ x1 b9 μ2 e2 sz9) 17 rfl rfl rfl ⟨rfl, rfl, rfl, rfl⟩ rfl (Nat.le_of_ble_eq_true rfl) ⟨(Nat.le_of_ble_eq_true rfl), (Nat.le_of_ble_eq_true rfl), hc, hs⟩ rfl ?_
  refine zq_istore (q := 1235) (lv2 := [(7, .int b9), (6, .int μ2.2.2.2.2), (0, .ref b), (1, .ref (h 0)), (2, .ref (h 17)), (3, .ref (h 29)), (4, .ref (h 30)), (5, .int i)]) G dL_law_1233 (by decide) rfl rfl ?_
  refine zq_aload_n (q := 1236) G dL_law_1235 4 rfl rfl rfl ?_
  refine zq_callVi (q := 1239) (ws2 := (w_L cyI cyZ cyJ cyD h σ2 μ2 g2 d)) (isC := [17, 18, 19, 20, 21, 22, 23, 24, 25, 26, 27, 28]) (isR := [0, 1, 2, 3, 4, 5, 6, 7, 8, 9, 10, 11, 12, 13, 14, 15, 16, 29, 30]) (perm := [0, 1, 2, 3, 4, 5, 6, 7, 8, 9, 10, 11, 12, 13, 14, 15, 16, 19, 20, 21, 22, 23, 24, 25, 26, 27, 28, 29, 30, 17, 18]) (rest := []) (As := []) G zs_L_110 dL_law_1236 (fun sz9 => c_X4_thrown l D cyI cyZ (h 17) (h 18) (h 19) (h 20) (h 21) (h 22) (h 23) (h 24) (h 25) (h 26) (h 27) (h 28) μ2 μ2.2.2.2.2 (s_thrown μ2) sz9) 17 rfl rfl rfl ⟨rfl, rfl, rfl, rfl⟩ rfl (Nat.le_of_ble_eq_true rfl) ⟨(Nat.le_of_ble_eq_true rfl), (Nat.le_of_ble_eq_true rfl), hc, hs⟩ rfl ?_
  refine zq_iload (q := 1241) G dL_law_1239 1 rfl rfl ?_
  refine zq_icmp_eq (tgt := 1246) (q := 1244) G dL_law_1241 (by decide) rfl (fun _ => ?_) (fun c9 => absurd rfl c9)
  refine zq_iload (q := 1248) G dL_law_1246 1 rfl rfl ?_
  refine zq_if_ne (tgt := 1263) (q := 1251) G dL_law_1248 (by decide) rfl (fun _ => ?_) (fun h9 => ?_)
  · exact zq_goto (q := 2123) G dL_law_1263 (by decide) (zq_sub (zlv b h i) [2, 3, 4, 5, 6, 7] rfl (K _ _ _ _ hR2))
  · refine zq_aload_n (q := 1252) G dL_law_1251 5 rfl rfl rfl ?_
    refine zq_iconst (q := 1253) (v := 0) G dL_law_1252 rfl rfl ?_
    refine zq_lald (q := 1254) G LW.2.1 dL_law_1253 29 rfl rfl rfl ?_
    refine zq_iload (q := 1256) G dL_law_1254 0 rfl rfl ?_
    refine zq_i2l (q := 1257) G dL_law_1256 rfl ?_
    refine zq_lcmp (q := 1258) G dL_law_1257 rfl ?_
    refine zq_if_eq (tgt := 1263) (q := 1261) G dL_law_1258 (by decide) rfl (fun _ => ?_) (fun c9 => absurd (zeqL (hg2 h9)) c9)
    exact zq_goto (q := 2123) G dL_law_1263 (by decide) (zq_sub (zlv b h i) [2, 3, 4, 5, 6, 7] rfl (K _ _ _ _ hR2))
set_option maxHeartbeats 4000000 in
set_option maxRecDepth 100000 in
theorem L_23 {p : Program} {l : Launch} {e : Env} {s : State} {m : MethodId} {args : Array Value} {below : List Frame} {meth : Method} {c : Code} {D : va_G} {cyI cyZ cyJ cyD : ClassId} {A : Nat → Prop} {b L : Nat} {xs : Nat → Int32} {Q : State → Prop} {cells slots : Nat} {h : Nat → Nat} {i x1 x2 x3 : Int32} {σ : zC} {μ : zM} {g : Nat → Int64} {d : Nat → UInt64} (hst : l.stackTraces = false) (LW : zLaw p s m args c D cyI cyZ cyJ cyD A b L xs) (hI : zArgs L xs i x1 x2 x3) (hc : cells + 1 ≤ 601024) (hs : slots + 6 ≤ 7293034) (Rl : Rel σ μ) (K : ∀ (σ2 : zC) (μ2 : zM) (g2 : Nat → Int64) (d2 : Nat → UInt64), Rel σ2 μ2 → zW p l e room_1 s m args below meth c D A 10 (cells + 1) (slots + 6) Q 2123 (zlv b h i) [] (w_L cyI cyZ cyJ cyD h σ2 μ2 g2 d2)) : zW p l e room_1 s m args below meth c D A 10 cells slots Q 1266 (zlv b h i) [] (w_L cyI cyZ cyJ cyD h σ μ g d) := by
  have G := LW.1
  obtain ⟨z, σ2, b9, μ2, e1, e2, hR2, hT⟩ := o_columnPotential Rl x1
  refine zq_aload_n (q := 1267) G dL_law_1266 1 rfl rfl rfl ?_
  refine zq_arg (q := 1273) (v := 1) LW hI.1 0 5 dL_law_1267 dL_law_1268 dL_law_1270 dL_law_1271 dL_law_1272 rfl rfl rfl rfl ?_
  refine zq_aload_n (q := 1274) G dL_law_1273 3 rfl rfl rfl ?_
  refine zq_callH (q := 1277) (isC := [0, 1, 2, 3, 4, 5, 6, 7, 8, 9, 10, 11, 12, 13, 14, 15, 16, 29]) (isR := [17, 18, 19, 20, 21, 22, 23, 24, 25, 26, 27, 28, 30]) (perm := [13, 14, 15, 16, 17, 18, 19, 20, 21, 22, 23, 24, 25, 26, 27, 28, 29, 0, 1, 2, 3, 4, 5, 6, 7, 8, 9, 10, 11, 30, 12]) (rest := []) (As := [.ref (h 0), .int x1, .ref (h 29)]) G LW.2.1 zs_L_196 dL_law_1274 (fun sz9 => h_columnPotential l hst D cyI cyZ cyJ cyD h (h 29) σ σ2 g x1 z b9 μ2.2.2.2.2 e1 hT sz9) rfl rfl rfl (Nat.le_of_ble_eq_true rfl) ⟨(Nat.le_of_ble_eq_true rfl), (Nat.le_of_ble_eq_true rfl), hc, hs⟩ rfl (fun W9 hW9 => ?_)
  obtain ⟨g2, hg2, rfl⟩ := hW9
  refine ⟨(w_L cyI cyZ cyJ cyD h σ2 μ g2 d), ⟨rfl, rfl, rfl, rfl⟩, ?_⟩
  refine zq_istore (q := 1279) (lv2 := [(6, .int μ2.2.2.2.2), (0, .ref b), (1, .ref (h 0)), (2, .ref (h 17)), (3, .ref (h 29)), (4, .ref (h 30)), (5, .int i)]) G dL_law_1277 (by decide) rfl rfl ?_
  refine zq_aload_n (q := 1280) G dL_law_1279 3 rfl rfl rfl ?_
  refine zq_arg (q := 1286) (v := 1) LW hI.1 1 6 dL_law_1280 dL_law_1281 dL_law_1283 dL_law_1284 dL_law_1285 rfl rfl rfl rfl ?_
  refine zq_callVi (q := 1289) (ws2 := (w_L cyI cyZ cyJ cyD h σ2 μ2 g2 d)) (isC := [17, 18, 19, 20, 21, 22, 23, 24, 25, 26, 27, 28]) (isR := [0, 1, 2, 3, 4, 5, 6, 7, 8, 9, 10, 11, 12, 13, 14, 15, 16, 29, 30]) (perm := [0, 1, 2, 3, 4, 5, 6, 7, 8, 9, 10, 11, 12, 13, 14, 15, 16, 19, 20, 21, 22, 23, 24, 25, 26, 27, 28, 29, 30, 17, 18]) (rest := []) (As := [.int x1]) G zs_L_198 dL_law_1286 (fun sz9 => c_X4_columnPotential l D cyI cyZ (h 17) (h 18) (h 19) (h 20) (h 21) (h 22) (h 23) (h 24) (h 25) (h 26) (h 27) (h 28) μ x1 b9 μ2 e2 sz9) 17 rfl rfl rfl ⟨rfl, rfl, rfl, rfl⟩ rfl (Nat.le_of_ble_eq_true rfl) ⟨(Nat.le_of_ble_eq_true rfl), (Nat.le_of_ble_eq_true rfl), hc, hs⟩ rfl ?_
  refine zq_istore (q := 1291) (lv2 := [(7, .int b9), (6, .int μ2.2.2.2.2), (0, .ref b), (1, .ref (h 0)), (2, .ref (h 17)), (3, .ref (h 29)), (4, .ref (h 30)), (5, .int i)]) G dL_law_1289 (by decide) rfl rfl ?_
  refine zq_aload_n (q := 1292) G dL_law_1291 4 rfl rfl rfl ?_
  refine zq_callVi (q := 1295) (ws2 := (w_L cyI cyZ cyJ cyD h σ2 μ2 g2 d)) (isC := [17, 18, 19, 20, 21, 22, 23, 24, 25, 26, 27, 28]) (isR := [0, 1, 2, 3, 4, 5, 6, 7, 8, 9, 10, 11, 12, 13, 14, 15, 16, 29, 30]) (perm := [0, 1, 2, 3, 4, 5, 6, 7, 8, 9, 10, 11, 12, 13, 14, 15, 16, 19, 20, 21, 22, 23, 24, 25, 26, 27, 28, 29, 30, 17, 18]) (rest := []) (As := []) G zs_L_110 dL_law_1292 (fun sz9 => c_X4_thrown l D cyI cyZ (h 17) (h 18) (h 19) (h 20) (h 21) (h 22) (h 23) (h 24) (h 25) (h 26) (h 27) (h 28) μ2 μ2.2.2.2.2 (s_thrown μ2) sz9) 17 rfl rfl rfl ⟨rfl, rfl, rfl, rfl⟩ rfl (Nat.le_of_ble_eq_true rfl) ⟨(Nat.le_of_ble_eq_true rfl), (Nat.le_of_ble_eq_true rfl), hc, hs⟩ rfl ?_
  refine zq_iload (q := 1297) G dL_law_1295 1 rfl rfl ?_
  refine zq_icmp_eq (tgt := 1302) (q := 1300) G dL_law_1297 (by decide) rfl (fun _ => ?_) (fun c9 => absurd rfl c9)
  refine zq_iload (q := 1304) G dL_law_1302 1 rfl rfl ?_
  refine zq_if_ne (tgt := 1319) (q := 1307) G dL_law_1304 (by decide) rfl (fun _ => ?_) (fun h9 => ?_)
  · exact zq_goto (q := 2123) G dL_law_1319 (by decide) (zq_sub (zlv b h i) [2, 3, 4, 5, 6, 7] rfl (K _ _ _ _ hR2))
  · refine zq_aload_n (q := 1308) G dL_law_1307 5 rfl rfl rfl ?_
    refine zq_iconst (q := 1309) (v := 0) G dL_law_1308 rfl rfl ?_
    refine zq_lald (q := 1310) G LW.2.1 dL_law_1309 29 rfl rfl rfl ?_
    refine zq_iload (q := 1312) G dL_law_1310 0 rfl rfl ?_
    refine zq_i2l (q := 1313) G dL_law_1312 rfl ?_
    refine zq_lcmp (q := 1314) G dL_law_1313 rfl ?_
    refine zq_if_eq (tgt := 1319) (q := 1317) G dL_law_1314 (by decide) rfl (fun _ => ?_) (fun c9 => absurd (zeqL (hg2 h9)) c9)
    exact zq_goto (q := 2123) G dL_law_1319 (by decide) (zq_sub (zlv b h i) [2, 3, 4, 5, 6, 7] rfl (K _ _ _ _ hR2))
set_option maxHeartbeats 4000000 in
set_option maxRecDepth 100000 in
theorem L_24 {p : Program} {l : Launch} {e : Env} {s : State} {m : MethodId} {args : Array Value} {below : List Frame} {meth : Method} {c : Code} {D : va_G} {cyI cyZ cyJ cyD : ClassId} {A : Nat → Prop} {b L : Nat} {xs : Nat → Int32} {Q : State → Prop} {cells slots : Nat} {h : Nat → Nat} {i x1 x2 x3 : Int32} {σ : zC} {μ : zM} {g : Nat → Int64} {d : Nat → UInt64} (hst : l.stackTraces = false) (LW : zLaw p s m args c D cyI cyZ cyJ cyD A b L xs) (hI : zArgs L xs i x1 x2 x3) (hc : cells + 1 ≤ 601024) (hs : slots + 6 ≤ 7293034) (Rl : Rel σ μ) (K : ∀ (σ2 : zC) (μ2 : zM) (g2 : Nat → Int64) (d2 : Nat → UInt64), Rel σ2 μ2 → zW p l e room_1 s m args below meth c D A 10 (cells + 1) (slots + 6) Q 2123 (zlv b h i) [] (w_L cyI cyZ cyJ cyD h σ2 μ2 g2 d2)) : zW p l e room_1 s m args below meth c D A 10 cells slots Q 1322 (zlv b h i) [] (w_L cyI cyZ cyJ cyD h σ μ g d) := by
  have G := LW.1
  obtain ⟨z, σ2, b9, μ2, e1, e2, hR2, hT⟩ := o_reducedCost Rl x1 x2
  refine zq_aload_n (q := 1323) G dL_law_1322 1 rfl rfl rfl ?_
  refine zq_arg (q := 1329) (v := 1) LW hI.1 0 5 dL_law_1323 dL_law_1324 dL_law_1326 dL_law_1327 dL_law_1328 rfl rfl rfl rfl ?_
  refine zq_arg (q := 1335) (v := 2) LW hI.2.1 0 5 dL_law_1329 dL_law_1330 dL_law_1332 dL_law_1333 dL_law_1334 rfl rfl rfl rfl ?_
  refine zq_aload_n (q := 1336) G dL_law_1335 3 rfl rfl rfl ?_
  refine zq_callH (q := 1339) (isC := [0, 1, 2, 3, 4, 5, 6, 7, 8, 9, 10, 11, 12, 13, 14, 15, 16, 29]) (isR := [17, 18, 19, 20, 21, 22, 23, 24, 25, 26, 27, 28, 30]) (perm := [13, 14, 15, 16, 17, 18, 19, 20, 21, 22, 23, 24, 25, 26, 27, 28, 29, 0, 1, 2, 3, 4, 5, 6, 7, 8, 9, 10, 11, 30, 12]) (rest := []) (As := [.ref (h 0), .int x1, .int x2, .ref (h 29)]) G LW.2.1 zs_L_199 dL_law_1336 (fun sz9 => h_reducedCost l hst D cyI cyZ cyJ cyD h (h 29) σ σ2 g x1 x2 z b9 μ2.2.2.2.2 e1 hT sz9) rfl rfl rfl (Nat.le_of_ble_eq_true rfl) ⟨(Nat.le_of_ble_eq_true rfl), (Nat.le_of_ble_eq_true rfl), hc, hs⟩ rfl (fun W9 hW9 => ?_)
  obtain ⟨g2, hg2, rfl⟩ := hW9
  refine ⟨(w_L cyI cyZ cyJ cyD h σ2 μ g2 d), ⟨rfl, rfl, rfl, rfl⟩, ?_⟩
  refine zq_istore (q := 1341) (lv2 := [(6, .int μ2.2.2.2.2), (0, .ref b), (1, .ref (h 0)), (2, .ref (h 17)), (3, .ref (h 29)), (4, .ref (h 30)), (5, .int i)]) G dL_law_1339 (by decide) rfl rfl ?_
  refine zq_aload_n (q := 1342) G dL_law_1341 3 rfl rfl rfl ?_
  refine zq_arg (q := 1348) (v := 1) LW hI.1 1 6 dL_law_1342 dL_law_1343 dL_law_1345 dL_law_1346 dL_law_1347 rfl rfl rfl rfl ?_
  refine zq_arg (q := 1354) (v := 2) LW hI.2.1 1 6 dL_law_1348 dL_law_1349 dL_law_1351 dL_law_1352 dL_law_1353 rfl rfl rfl rfl ?_
  refine zq_callVi (q := 1357) (ws2 := (w_L cyI cyZ cyJ cyD h σ2 μ2 g2 d)) (isC := [17, 18, 19, 20, 21, 22, 23, 24, 25, 26, 27, 28]) (isR := [0, 1, 2, 3, 4, 5, 6, 7, 8, 9, 10, 11, 12, 13, 14, 15, 16, 29, 30]) (perm := [0, 1, 2, 3, 4, 5, 6, 7, 8, 9, 10, 11, 12, 13, 14, 15, 16, 19, 20, 21, 22, 23, 24, 25, 26, 27, 28, 29, 30, 17, 18]) (rest := []) (As := [.int x1, .int x2]) G zs_L_201 dL_law_1354 (fun sz9 => c_X4_reducedCost l D cyI cyZ (h 17) (h 18) (h 19) (h 20) (h 21) (h 22) (h 23) (h 24) (h 25) (h 26) (h 27) (h 28) μ x1 x2 b9 μ2 e2 sz9) 17 rfl rfl rfl ⟨rfl, rfl, rfl, rfl⟩ rfl (Nat.le_of_ble_eq_true rfl) ⟨(Nat.le_of_ble_eq_true rfl), (Nat.le_of_ble_eq_true rfl), hc, hs⟩ rfl ?_
  refine zq_istore (q := 1359) (lv2 := [(7, .int b9), (6, .int μ2.2.2.2.2), (0, .ref b), (1, .ref (h 0)), (2, .ref (h 17)), (3, .ref (h 29)), (4, .ref (h 30)), (5, .int i)]) G dL_law_1357 (by decide) rfl rfl ?_
  refine zq_aload_n (q := 1360) G dL_law_1359 4 rfl rfl rfl ?_
  refine zq_callVi (q := 1363) (ws2 := (w_L cyI cyZ cyJ cyD h σ2 μ2 g2 d)) (isC := [17, 18, 19, 20, 21, 22, 23, 24, 25, 26, 27, 28]) (isR := [0, 1, 2, 3, 4, 5, 6, 7, 8, 9, 10, 11, 12, 13, 14, 15, 16, 29, 30]) (perm := [0, 1, 2, 3, 4, 5, 6, 7, 8, 9, 10, 11, 12, 13, 14, 15, 16, 19, 20, 21, 22, 23, 24, 25, 26, 27, 28, 29, 30, 17, 18]) (rest := []) (As := []) G zs_L_110 dL_law_1360 (fun sz9 => c_X4_thrown l D cyI cyZ (h 17) (h 18) (h 19) (h 20) (h 21) (h 22) (h 23) (h 24) (h 25) (h 26) (h 27) (h 28) μ2 μ2.2.2.2.2 (s_thrown μ2) sz9) 17 rfl rfl rfl ⟨rfl, rfl, rfl, rfl⟩ rfl (Nat.le_of_ble_eq_true rfl) ⟨(Nat.le_of_ble_eq_true rfl), (Nat.le_of_ble_eq_true rfl), hc, hs⟩ rfl ?_
  refine zq_iload (q := 1365) G dL_law_1363 1 rfl rfl ?_
  refine zq_icmp_eq (tgt := 1370) (q := 1368) G dL_law_1365 (by decide) rfl (fun _ => ?_) (fun c9 => absurd rfl c9)
  refine zq_iload (q := 1372) G dL_law_1370 1 rfl rfl ?_
  refine zq_if_ne (tgt := 1387) (q := 1375) G dL_law_1372 (by decide) rfl (fun _ => ?_) (fun h9 => ?_)
  · exact zq_goto (q := 2123) G dL_law_1387 (by decide) (zq_sub (zlv b h i) [2, 3, 4, 5, 6, 7] rfl (K _ _ _ _ hR2))
  · refine zq_aload_n (q := 1376) G dL_law_1375 5 rfl rfl rfl ?_
    refine zq_iconst (q := 1377) (v := 0) G dL_law_1376 rfl rfl ?_
    refine zq_lald (q := 1378) G LW.2.1 dL_law_1377 29 rfl rfl rfl ?_
    refine zq_iload (q := 1380) G dL_law_1378 0 rfl rfl ?_
    refine zq_i2l (q := 1381) G dL_law_1380 rfl ?_
    refine zq_lcmp (q := 1382) G dL_law_1381 rfl ?_
    refine zq_if_eq (tgt := 1387) (q := 1385) G dL_law_1382 (by decide) rfl (fun _ => ?_) (fun c9 => absurd (zeqL (hg2 h9)) c9)
    exact zq_goto (q := 2123) G dL_law_1387 (by decide) (zq_sub (zlv b h i) [2, 3, 4, 5, 6, 7] rfl (K _ _ _ _ hR2))
set_option maxHeartbeats 4000000 in
set_option maxRecDepth 100000 in
theorem L_25 {p : Program} {l : Launch} {e : Env} {s : State} {m : MethodId} {args : Array Value} {below : List Frame} {meth : Method} {c : Code} {D : va_G} {cyI cyZ cyJ cyD : ClassId} {A : Nat → Prop} {b L : Nat} {xs : Nat → Int32} {Q : State → Prop} {cells slots : Nat} {h : Nat → Nat} {i x1 x2 x3 : Int32} {σ : zC} {μ : zM} {g : Nat → Int64} {d : Nat → UInt64} (hst : l.stackTraces = false) (LW : zLaw p s m args c D cyI cyZ cyJ cyD A b L xs) (hI : zArgs L xs i x1 x2 x3) (hc : cells + 1 ≤ 601024) (hs : slots + 6 ≤ 7293034) (Rl : Rel σ μ) (K : ∀ (σ2 : zC) (μ2 : zM) (g2 : Nat → Int64) (d2 : Nat → UInt64), Rel σ2 μ2 → zW p l e room_1 s m args below meth c D A 10 (cells + 1) (slots + 6) Q 2123 (zlv b h i) [] (w_L cyI cyZ cyJ cyD h σ2 μ2 g2 d2)) : zW p l e room_1 s m args below meth c D A 10 cells slots Q 1390 (zlv b h i) [] (w_L cyI cyZ cyJ cyD h σ μ g d) := by
  have G := LW.1
  obtain ⟨z, σ2, b9, μ2, e1, e2, hR2, hT⟩ := o_minimumWith Rl x1 x2
  refine zq_aload_n (q := 1391) G dL_law_1390 1 rfl rfl rfl ?_
  refine zq_arg (q := 1397) (v := 1) LW hI.1 0 5 dL_law_1391 dL_law_1392 dL_law_1394 dL_law_1395 dL_law_1396 rfl rfl rfl rfl ?_
  refine zq_arg (q := 1403) (v := 2) LW hI.2.1 0 5 dL_law_1397 dL_law_1398 dL_law_1400 dL_law_1401 dL_law_1402 rfl rfl rfl rfl ?_
  refine zq_aload_n (q := 1404) G dL_law_1403 3 rfl rfl rfl ?_
  refine zq_callH (q := 1407) (isC := [0, 1, 2, 3, 4, 5, 6, 7, 8, 9, 10, 11, 12, 13, 14, 15, 16, 29]) (isR := [17, 18, 19, 20, 21, 22, 23, 24, 25, 26, 27, 28, 30]) (perm := [13, 14, 15, 16, 17, 18, 19, 20, 21, 22, 23, 24, 25, 26, 27, 28, 29, 0, 1, 2, 3, 4, 5, 6, 7, 8, 9, 10, 11, 30, 12]) (rest := []) (As := [.ref (h 0), .int x1, .int x2, .ref (h 29)]) G LW.2.1 zs_L_202 dL_law_1404 (fun sz9 => h_minimumWith l hst D cyI cyZ cyJ cyD h (h 29) σ σ2 g x1 x2 z b9 μ2.2.2.2.2 e1 hT sz9) rfl rfl rfl (Nat.le_of_ble_eq_true rfl) ⟨(Nat.le_of_ble_eq_true rfl), (Nat.le_of_ble_eq_true rfl), hc, hs⟩ rfl (fun W9 hW9 => ?_)
  obtain ⟨g2, hg2, rfl⟩ := hW9
  refine ⟨(w_L cyI cyZ cyJ cyD h σ2 μ g2 d), ⟨rfl, rfl, rfl, rfl⟩, ?_⟩
  refine zq_istore (q := 1409) (lv2 := [(6, .int μ2.2.2.2.2), (0, .ref b), (1, .ref (h 0)), (2, .ref (h 17)), (3, .ref (h 29)), (4, .ref (h 30)), (5, .int i)]) G dL_law_1407 (by decide) rfl rfl ?_
  refine zq_aload_n (q := 1410) G dL_law_1409 3 rfl rfl rfl ?_
  refine zq_arg (q := 1416) (v := 1) LW hI.1 1 6 dL_law_1410 dL_law_1411 dL_law_1413 dL_law_1414 dL_law_1415 rfl rfl rfl rfl ?_
  refine zq_arg (q := 1422) (v := 2) LW hI.2.1 1 6 dL_law_1416 dL_law_1417 dL_law_1419 dL_law_1420 dL_law_1421 rfl rfl rfl rfl ?_
  refine zq_callVi (q := 1425) (ws2 := (w_L cyI cyZ cyJ cyD h σ2 μ2 g2 d)) (isC := [17, 18, 19, 20, 21, 22, 23, 24, 25, 26, 27, 28]) (isR := [0, 1, 2, 3, 4, 5, 6, 7, 8, 9, 10, 11, 12, 13, 14, 15, 16, 29, 30]) (perm := [0, 1, 2, 3, 4, 5, 6, 7, 8, 9, 10, 11, 12, 13, 14, 15, 16, 19, 20, 21, 22, 23, 24, 25, 26, 27, 28, 29, 30, 17, 18]) (rest := []) (As := [.int x1, .int x2]) G zs_L_204 dL_law_1422 (fun sz9 => c_X4_minimumWith l D cyI cyZ (h 17) (h 18) (h 19) (h 20) (h 21) (h 22) (h 23) (h 24) (h 25) (h 26) (h 27) (h 28) μ x1 x2 b9 μ2 e2 sz9) 17 rfl rfl rfl ⟨rfl, rfl, rfl, rfl⟩ rfl (Nat.le_of_ble_eq_true rfl) ⟨(Nat.le_of_ble_eq_true rfl), (Nat.le_of_ble_eq_true rfl), hc, hs⟩ rfl ?_
  refine zq_istore (q := 1427) (lv2 := [(7, .int b9), (6, .int μ2.2.2.2.2), (0, .ref b), (1, .ref (h 0)), (2, .ref (h 17)), (3, .ref (h 29)), (4, .ref (h 30)), (5, .int i)]) G dL_law_1425 (by decide) rfl rfl ?_
  refine zq_aload_n (q := 1428) G dL_law_1427 4 rfl rfl rfl ?_
  refine zq_callVi (q := 1431) (ws2 := (w_L cyI cyZ cyJ cyD h σ2 μ2 g2 d)) (isC := [17, 18, 19, 20, 21, 22, 23, 24, 25, 26, 27, 28]) (isR := [0, 1, 2, 3, 4, 5, 6, 7, 8, 9, 10, 11, 12, 13, 14, 15, 16, 29, 30]) (perm := [0, 1, 2, 3, 4, 5, 6, 7, 8, 9, 10, 11, 12, 13, 14, 15, 16, 19, 20, 21, 22, 23, 24, 25, 26, 27, 28, 29, 30, 17, 18]) (rest := []) (As := []) G zs_L_110 dL_law_1428 (fun sz9 => c_X4_thrown l D cyI cyZ (h 17) (h 18) (h 19) (h 20) (h 21) (h 22) (h 23) (h 24) (h 25) (h 26) (h 27) (h 28) μ2 μ2.2.2.2.2 (s_thrown μ2) sz9) 17 rfl rfl rfl ⟨rfl, rfl, rfl, rfl⟩ rfl (Nat.le_of_ble_eq_true rfl) ⟨(Nat.le_of_ble_eq_true rfl), (Nat.le_of_ble_eq_true rfl), hc, hs⟩ rfl ?_
  refine zq_iload (q := 1433) G dL_law_1431 1 rfl rfl ?_
  refine zq_icmp_eq (tgt := 1438) (q := 1436) G dL_law_1433 (by decide) rfl (fun _ => ?_) (fun c9 => absurd rfl c9)
  refine zq_iload (q := 1440) G dL_law_1438 1 rfl rfl ?_
  refine zq_if_ne (tgt := 1455) (q := 1443) G dL_law_1440 (by decide) rfl (fun _ => ?_) (fun h9 => ?_)
  · exact zq_goto (q := 2123) G dL_law_1455 (by decide) (zq_sub (zlv b h i) [2, 3, 4, 5, 6, 7] rfl (K _ _ _ _ hR2))
  · refine zq_aload_n (q := 1444) G dL_law_1443 5 rfl rfl rfl ?_
    refine zq_iconst (q := 1445) (v := 0) G dL_law_1444 rfl rfl ?_
    refine zq_lald (q := 1446) G LW.2.1 dL_law_1445 29 rfl rfl rfl ?_
    refine zq_iload (q := 1448) G dL_law_1446 0 rfl rfl ?_
    refine zq_i2l (q := 1449) G dL_law_1448 rfl ?_
    refine zq_lcmp (q := 1450) G dL_law_1449 rfl ?_
    refine zq_if_eq (tgt := 1455) (q := 1453) G dL_law_1450 (by decide) rfl (fun _ => ?_) (fun c9 => absurd (zeqL (hg2 h9)) c9)
    exact zq_goto (q := 2123) G dL_law_1455 (by decide) (zq_sub (zlv b h i) [2, 3, 4, 5, 6, 7] rfl (K _ _ _ _ hR2))
set_option maxHeartbeats 4000000 in
set_option maxRecDepth 100000 in
theorem L_26 {p : Program} {l : Launch} {e : Env} {s : State} {m : MethodId} {args : Array Value} {below : List Frame} {meth : Method} {c : Code} {D : va_G} {cyI cyZ cyJ cyD : ClassId} {A : Nat → Prop} {b L : Nat} {xs : Nat → Int32} {Q : State → Prop} {cells slots : Nat} {h : Nat → Nat} {i x1 x2 x3 : Int32} {σ : zC} {μ : zM} {g : Nat → Int64} {d : Nat → UInt64} (hst : l.stackTraces = false) (LW : zLaw p s m args c D cyI cyZ cyJ cyD A b L xs) (hI : zArgs L xs i x1 x2 x3) (hc : cells + 1 ≤ 601024) (hs : slots + 6 ≤ 7293034) (Rl : Rel σ μ) (K : ∀ (σ2 : zC) (μ2 : zM) (g2 : Nat → Int64) (d2 : Nat → UInt64), Rel σ2 μ2 → zW p l e room_1 s m args below meth c D A 10 (cells + 1) (slots + 6) Q 2123 (zlv b h i) [] (w_L cyI cyZ cyJ cyD h σ2 μ2 g2 d2)) : zW p l e room_1 s m args below meth c D A 10 cells slots Q 1458 (zlv b h i) [] (w_L cyI cyZ cyJ cyD h σ μ g d) := by
  have G := LW.1
  obtain ⟨z, σ2, b9, μ2, e1, e2, hR2, hT⟩ := o_minimumWithout Rl x1 x2
  refine zq_aload_n (q := 1459) G dL_law_1458 1 rfl rfl rfl ?_
  refine zq_arg (q := 1465) (v := 1) LW hI.1 0 5 dL_law_1459 dL_law_1460 dL_law_1462 dL_law_1463 dL_law_1464 rfl rfl rfl rfl ?_
  refine zq_arg (q := 1471) (v := 2) LW hI.2.1 0 5 dL_law_1465 dL_law_1466 dL_law_1468 dL_law_1469 dL_law_1470 rfl rfl rfl rfl ?_
  refine zq_aload_n (q := 1472) G dL_law_1471 3 rfl rfl rfl ?_
  refine zq_callH (q := 1475) (isC := [0, 1, 2, 3, 4, 5, 6, 7, 8, 9, 10, 11, 12, 13, 14, 15, 16, 29]) (isR := [17, 18, 19, 20, 21, 22, 23, 24, 25, 26, 27, 28, 30]) (perm := [13, 14, 15, 16, 17, 18, 19, 20, 21, 22, 23, 24, 25, 26, 27, 28, 29, 0, 1, 2, 3, 4, 5, 6, 7, 8, 9, 10, 11, 30, 12]) (rest := []) (As := [.ref (h 0), .int x1, .int x2, .ref (h 29)]) G LW.2.1 zs_L_205 dL_law_1472 (fun sz9 => h_minimumWithout l hst D cyI cyZ cyJ cyD h (h 29) σ σ2 g x1 x2 z b9 μ2.2.2.2.2 e1 hT sz9) rfl rfl rfl (Nat.le_of_ble_eq_true rfl) ⟨(Nat.le_of_ble_eq_true rfl), (Nat.le_of_ble_eq_true rfl), hc, hs⟩ rfl (fun W9 hW9 => ?_)
  obtain ⟨g2, hg2, rfl⟩ := hW9
  refine ⟨(w_L cyI cyZ cyJ cyD h σ2 μ g2 d), ⟨rfl, rfl, rfl, rfl⟩, ?_⟩
  refine zq_istore (q := 1477) (lv2 := [(6, .int μ2.2.2.2.2), (0, .ref b), (1, .ref (h 0)), (2, .ref (h 17)), (3, .ref (h 29)), (4, .ref (h 30)), (5, .int i)]) G dL_law_1475 (by decide) rfl rfl ?_
  refine zq_aload_n (q := 1478) G dL_law_1477 3 rfl rfl rfl ?_
  refine zq_arg (q := 1484) (v := 1) LW hI.1 1 6 dL_law_1478 dL_law_1479 dL_law_1481 dL_law_1482 dL_law_1483 rfl rfl rfl rfl ?_
  refine zq_arg (q := 1490) (v := 2) LW hI.2.1 1 6 dL_law_1484 dL_law_1485 dL_law_1487 dL_law_1488 dL_law_1489 rfl rfl rfl rfl ?_
  refine zq_callVi (q := 1493) (ws2 := (w_L cyI cyZ cyJ cyD h σ2 μ2 g2 d)) (isC := [17, 18, 19, 20, 21, 22, 23, 24, 25, 26, 27, 28]) (isR := [0, 1, 2, 3, 4, 5, 6, 7, 8, 9, 10, 11, 12, 13, 14, 15, 16, 29, 30]) (perm := [0, 1, 2, 3, 4, 5, 6, 7, 8, 9, 10, 11, 12, 13, 14, 15, 16, 19, 20, 21, 22, 23, 24, 25, 26, 27, 28, 29, 30, 17, 18]) (rest := []) (As := [.int x1, .int x2]) G zs_L_207 dL_law_1490 (fun sz9 => c_X4_minimumWithout l D cyI cyZ (h 17) (h 18) (h 19) (h 20) (h 21) (h 22) (h 23) (h 24) (h 25) (h 26) (h 27) (h 28) μ x1 x2 b9 μ2 e2 sz9) 17 rfl rfl rfl ⟨rfl, rfl, rfl, rfl⟩ rfl (Nat.le_of_ble_eq_true rfl) ⟨(Nat.le_of_ble_eq_true rfl), (Nat.le_of_ble_eq_true rfl), hc, hs⟩ rfl ?_
  refine zq_istore (q := 1495) (lv2 := [(7, .int b9), (6, .int μ2.2.2.2.2), (0, .ref b), (1, .ref (h 0)), (2, .ref (h 17)), (3, .ref (h 29)), (4, .ref (h 30)), (5, .int i)]) G dL_law_1493 (by decide) rfl rfl ?_
  refine zq_aload_n (q := 1496) G dL_law_1495 4 rfl rfl rfl ?_
  refine zq_callVi (q := 1499) (ws2 := (w_L cyI cyZ cyJ cyD h σ2 μ2 g2 d)) (isC := [17, 18, 19, 20, 21, 22, 23, 24, 25, 26, 27, 28]) (isR := [0, 1, 2, 3, 4, 5, 6, 7, 8, 9, 10, 11, 12, 13, 14, 15, 16, 29, 30]) (perm := [0, 1, 2, 3, 4, 5, 6, 7, 8, 9, 10, 11, 12, 13, 14, 15, 16, 19, 20, 21, 22, 23, 24, 25, 26, 27, 28, 29, 30, 17, 18]) (rest := []) (As := []) G zs_L_110 dL_law_1496 (fun sz9 => c_X4_thrown l D cyI cyZ (h 17) (h 18) (h 19) (h 20) (h 21) (h 22) (h 23) (h 24) (h 25) (h 26) (h 27) (h 28) μ2 μ2.2.2.2.2 (s_thrown μ2) sz9) 17 rfl rfl rfl ⟨rfl, rfl, rfl, rfl⟩ rfl (Nat.le_of_ble_eq_true rfl) ⟨(Nat.le_of_ble_eq_true rfl), (Nat.le_of_ble_eq_true rfl), hc, hs⟩ rfl ?_
  refine zq_iload (q := 1501) G dL_law_1499 1 rfl rfl ?_
  refine zq_icmp_eq (tgt := 1506) (q := 1504) G dL_law_1501 (by decide) rfl (fun _ => ?_) (fun c9 => absurd rfl c9)
  refine zq_iload (q := 1508) G dL_law_1506 1 rfl rfl ?_
  refine zq_if_ne (tgt := 1523) (q := 1511) G dL_law_1508 (by decide) rfl (fun _ => ?_) (fun h9 => ?_)
  · exact zq_goto (q := 2123) G dL_law_1523 (by decide) (zq_sub (zlv b h i) [2, 3, 4, 5, 6, 7] rfl (K _ _ _ _ hR2))
  · refine zq_aload_n (q := 1512) G dL_law_1511 5 rfl rfl rfl ?_
    refine zq_iconst (q := 1513) (v := 0) G dL_law_1512 rfl rfl ?_
    refine zq_lald (q := 1514) G LW.2.1 dL_law_1513 29 rfl rfl rfl ?_
    refine zq_iload (q := 1516) G dL_law_1514 0 rfl rfl ?_
    refine zq_i2l (q := 1517) G dL_law_1516 rfl ?_
    refine zq_lcmp (q := 1518) G dL_law_1517 rfl ?_
    refine zq_if_eq (tgt := 1523) (q := 1521) G dL_law_1518 (by decide) rfl (fun _ => ?_) (fun c9 => absurd (zeqL (hg2 h9)) c9)
    exact zq_goto (q := 2123) G dL_law_1523 (by decide) (zq_sub (zlv b h i) [2, 3, 4, 5, 6, 7] rfl (K _ _ _ _ hR2))
set_option maxHeartbeats 4000000 in
set_option maxRecDepth 100000 in
theorem L_27 {p : Program} {l : Launch} {e : Env} {s : State} {m : MethodId} {args : Array Value} {below : List Frame} {meth : Method} {c : Code} {D : va_G} {cyI cyZ cyJ cyD : ClassId} {A : Nat → Prop} {b L : Nat} {xs : Nat → Int32} {Q : State → Prop} {cells slots : Nat} {h : Nat → Nat} {i x1 x2 x3 : Int32} {σ : zC} {μ : zM} {g : Nat → Int64} {d : Nat → UInt64} (hst : l.stackTraces = false) (LW : zLaw p s m args c D cyI cyZ cyJ cyD A b L xs) (hI : zArgs L xs i x1 x2 x3) (hc : cells + 1 ≤ 601024) (hs : slots + 6 ≤ 7293034) (Rl : Rel σ μ) (K : ∀ (σ2 : zC) (μ2 : zM) (g2 : Nat → Int64) (d2 : Nat → UInt64), Rel σ2 μ2 → zW p l e room_1 s m args below meth c D A 10 (cells + 1) (slots + 6) Q 2123 (zlv b h i) [] (w_L cyI cyZ cyJ cyD h σ2 μ2 g2 d2)) : zW p l e room_1 s m args below meth c D A 10 cells slots Q 1526 (zlv b h i) [] (w_L cyI cyZ cyJ cyD h σ μ g d) := by
  have G := LW.1
  obtain ⟨z, σ2, b9, μ2, e1, e2, hR2, hT⟩ := o_minimumIfCost Rl x1 x2 x3
  refine zq_aload_n (q := 1527) G dL_law_1526 1 rfl rfl rfl ?_
  refine zq_arg (q := 1533) (v := 1) LW hI.1 0 5 dL_law_1527 dL_law_1528 dL_law_1530 dL_law_1531 dL_law_1532 rfl rfl rfl rfl ?_
  refine zq_arg (q := 1539) (v := 2) LW hI.2.1 0 5 dL_law_1533 dL_law_1534 dL_law_1536 dL_law_1537 dL_law_1538 rfl rfl rfl rfl ?_
  refine zq_arg (q := 1545) (v := 3) LW hI.2.2 0 5 dL_law_1539 dL_law_1540 dL_law_1542 dL_law_1543 dL_law_1544 rfl rfl rfl rfl ?_
  refine zq_aload_n (q := 1546) G dL_law_1545 3 rfl rfl rfl ?_
  refine zq_callH (q := 1549) (isC := [0, 1, 2, 3, 4, 5, 6, 7, 8, 9, 10, 11, 12, 13, 14, 15, 16, 29]) (isR := [17, 18, 19, 20, 21, 22, 23, 24, 25, 26, 27, 28, 30]) (perm := [13, 14, 15, 16, 17, 18, 19, 20, 21, 22, 23, 24, 25, 26, 27, 28, 29, 0, 1, 2, 3, 4, 5, 6, 7, 8, 9, 10, 11, 30, 12]) (rest := []) (As := [.ref (h 0), .int x1, .int x2, .int x3, .ref (h 29)]) G LW.2.1 zs_L_208 dL_law_1546 (fun sz9 => h_minimumIfCost l hst D cyI cyZ cyJ cyD h (h 29) σ σ2 g x1 x2 x3 z b9 μ2.2.2.2.2 e1 hT sz9) rfl rfl rfl (Nat.le_of_ble_eq_true rfl) ⟨(Nat.le_of_ble_eq_true rfl), (Nat.le_of_ble_eq_true rfl), hc, hs⟩ rfl (fun W9 hW9 => ?_)
  obtain ⟨g2, hg2, rfl⟩ := hW9
  refine ⟨(w_L cyI cyZ cyJ cyD h σ2 μ g2 d), ⟨rfl, rfl, rfl, rfl⟩, ?_⟩
  refine zq_istore (q := 1551) (lv2 := [(6, .int μ2.2.2.2.2), (0, .ref b), (1, .ref (h 0)), (2, .ref (h 17)), (3, .ref (h 29)), (4, .ref (h 30)), (5, .int i)]) G dL_law_1549 (by decide) rfl rfl ?_
  refine zq_aload_n (q := 1552) G dL_law_1551 3 rfl rfl rfl ?_
  refine zq_arg (q := 1558) (v := 1) LW hI.1 1 6 dL_law_1552 dL_law_1553 dL_law_1555 dL_law_1556 dL_law_1557 rfl rfl rfl rfl ?_
  refine zq_arg (q := 1564) (v := 2) LW hI.2.1 1 6 dL_law_1558 dL_law_1559 dL_law_1561 dL_law_1562 dL_law_1563 rfl rfl rfl rfl ?_
  refine zq_arg (q := 1570) (v := 3) LW hI.2.2 1 6 dL_law_1564 dL_law_1565 dL_law_1567 dL_law_1568 dL_law_1569 rfl rfl rfl rfl ?_
  refine zq_callVi (q := 1573) (ws2 := (w_L cyI cyZ cyJ cyD h σ2 μ2 g2 d)) (isC := [17, 18, 19, 20, 21, 22, 23, 24, 25, 26, 27, 28]) (isR := [0, 1, 2, 3, 4, 5, 6, 7, 8, 9, 10, 11, 12, 13, 14, 15, 16, 29, 30]) (perm := [0, 1, 2, 3, 4, 5, 6, 7, 8, 9, 10, 11, 12, 13, 14, 15, 16, 19, 20, 21, 22, 23, 24, 25, 26, 27, 28, 29, 30, 17, 18]) (rest := []) (As := [.int x1, .int x2, .int x3]) G zs_L_210 dL_law_1570 (fun sz9 => c_X4_minimumIfCost l D cyI cyZ (h 17) (h 18) (h 19) (h 20) (h 21) (h 22) (h 23) (h 24) (h 25) (h 26) (h 27) (h 28) μ x1 x2 x3 b9 μ2 e2 sz9) 17 rfl rfl rfl ⟨rfl, rfl, rfl, rfl⟩ rfl (Nat.le_of_ble_eq_true rfl) ⟨(Nat.le_of_ble_eq_true rfl), (Nat.le_of_ble_eq_true rfl), hc, hs⟩ rfl ?_
  refine zq_istore (q := 1575) (lv2 := [(7, .int b9), (6, .int μ2.2.2.2.2), (0, .ref b), (1, .ref (h 0)), (2, .ref (h 17)), (3, .ref (h 29)), (4, .ref (h 30)), (5, .int i)]) G dL_law_1573 (by decide) rfl rfl ?_
  refine zq_aload_n (q := 1576) G dL_law_1575 4 rfl rfl rfl ?_
  refine zq_callVi (q := 1579) (ws2 := (w_L cyI cyZ cyJ cyD h σ2 μ2 g2 d)) (isC := [17, 18, 19, 20, 21, 22, 23, 24, 25, 26, 27, 28]) (isR := [0, 1, 2, 3, 4, 5, 6, 7, 8, 9, 10, 11, 12, 13, 14, 15, 16, 29, 30]) (perm := [0, 1, 2, 3, 4, 5, 6, 7, 8, 9, 10, 11, 12, 13, 14, 15, 16, 19, 20, 21, 22, 23, 24, 25, 26, 27, 28, 29, 30, 17, 18]) (rest := []) (As := []) G zs_L_110 dL_law_1576 (fun sz9 => c_X4_thrown l D cyI cyZ (h 17) (h 18) (h 19) (h 20) (h 21) (h 22) (h 23) (h 24) (h 25) (h 26) (h 27) (h 28) μ2 μ2.2.2.2.2 (s_thrown μ2) sz9) 17 rfl rfl rfl ⟨rfl, rfl, rfl, rfl⟩ rfl (Nat.le_of_ble_eq_true rfl) ⟨(Nat.le_of_ble_eq_true rfl), (Nat.le_of_ble_eq_true rfl), hc, hs⟩ rfl ?_
  refine zq_iload (q := 1581) G dL_law_1579 1 rfl rfl ?_
  refine zq_icmp_eq (tgt := 1586) (q := 1584) G dL_law_1581 (by decide) rfl (fun _ => ?_) (fun c9 => absurd rfl c9)
  refine zq_iload (q := 1588) G dL_law_1586 1 rfl rfl ?_
  refine zq_if_ne (tgt := 1603) (q := 1591) G dL_law_1588 (by decide) rfl (fun _ => ?_) (fun h9 => ?_)
  · exact zq_goto (q := 2123) G dL_law_1603 (by decide) (zq_sub (zlv b h i) [2, 3, 4, 5, 6, 7] rfl (K _ _ _ _ hR2))
  · refine zq_aload_n (q := 1592) G dL_law_1591 5 rfl rfl rfl ?_
    refine zq_iconst (q := 1593) (v := 0) G dL_law_1592 rfl rfl ?_
    refine zq_lald (q := 1594) G LW.2.1 dL_law_1593 29 rfl rfl rfl ?_
    refine zq_iload (q := 1596) G dL_law_1594 0 rfl rfl ?_
    refine zq_i2l (q := 1597) G dL_law_1596 rfl ?_
    refine zq_lcmp (q := 1598) G dL_law_1597 rfl ?_
    refine zq_if_eq (tgt := 1603) (q := 1601) G dL_law_1598 (by decide) rfl (fun _ => ?_) (fun c9 => absurd (zeqL (hg2 h9)) c9)
    exact zq_goto (q := 2123) G dL_law_1603 (by decide) (zq_sub (zlv b h i) [2, 3, 4, 5, 6, 7] rfl (K _ _ _ _ hR2))
