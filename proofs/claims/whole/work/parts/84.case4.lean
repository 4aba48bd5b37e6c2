/-! ===== cases of the switch ===== -/
set_option maxHeartbeats 4000000 in
set_option maxRecDepth 100000 in
theorem L_31 {p : Program} {l : Launch} {e : Env} {s : State} {m : MethodId} {args : Array Value} {below : List Frame} {meth : Method} {c : Code} {D : va_G} {cyI cyZ cyJ cyD : ClassId} {A : Nat → Prop} {b L : Nat} {xs : Nat → Int32} {Q : State → Prop} {cells slots : Nat} {h : Nat → Nat} {i x1 x2 x3 : Int32} {σ : zC} {μ : zM} {g : Nat → Int64} {d : Nat → UInt64} (hst : l.stackTraces = false) (LW : zLaw p s m args c D cyI cyZ cyJ cyD A b L xs) (hI : zArgs L xs i x1 x2 x3) (hc : cells + 1 ≤ 601024) (hs : slots + 6 ≤ 7293034) (Rl : Rel σ μ) (K : ∀ (σ2 : zC) (μ2 : zM) (g2 : Nat → Int64) (d2 : Nat → UInt64), Rel σ2 μ2 → zW p l e room_1 s m args below meth c D A 10 (cells + 1) (slots + 6) Q 2123 (zlv b h i) [] (w_L cyI cyZ cyJ cyD h σ2 μ2 g2 d2)) : zW p l e room_1 s m args below meth c D A 10 cells slots Q 1645 (zlv b h i) [] (w_L cyI cyZ cyJ cyD h σ μ g d) := by
  have G := LW.1
  obtain ⟨z, σ2, b9, μ2, e1, e2, hR2, hT⟩ := o_fits Rl x1
  have hb := b_fits e2
  refine zq_aload_n (q := 1646) G dL_law_1645 1 rfl rfl rfl ?_
  refine zq_arg (q := 1652) (v := 1) LW hI.1 0 5 dL_law_1646 dL_law_1647 dL_law_1649 dL_law_1650 dL_law_1651 rfl rfl rfl rfl ?_
  refine zq_aload_n (q := 1653) G dL_law_1652 3 rfl rfl rfl ?_
  refine zq_callH (q := 1656) (isC := [0, 1, 2, 3, 4, 5, 6, 7, 8, 9, 10, 11, 12, 13, 14, 15, 16, 29]) (isR := [17, 18, 19, 20, 21, 22, 23, 24, 25, 26, 27, 28, 30]) (perm := [13, 14, 15, 16, 17, 18, 19, 20, 21, 22, 23, 24, 25, 26, 27, 28, 29, 0, 1, 2, 3, 4, 5, 6, 7, 8, 9, 10, 11, 30, 12]) (rest := []) (As := [.ref (h 0), .int x1, .ref (h 29)]) G LW.2.1 zs_L_223 dL_law_1653 (fun sz9 => h_fits l hst D cyI cyZ cyJ cyD h (h 29) σ σ2 g x1 z b9 μ2.2.2.2.2 e1 hT hb sz9) rfl rfl rfl (Nat.le_of_ble_eq_true rfl) ⟨(Nat.le_of_ble_eq_true rfl), (Nat.le_of_ble_eq_true rfl), hc, hs⟩ rfl (fun W9 hW9 => ?_)
  obtain ⟨g2, hg2, rfl⟩ := hW9
  refine ⟨(w_L cyI cyZ cyJ cyD h σ2 μ g2 d), ⟨rfl, rfl, rfl, rfl⟩, ?_⟩
  refine zq_istore (q := 1658) (lv2 := [(6, .int μ2.2.2.2.2), (0, .ref b), (1, .ref (h 0)), (2, .ref (h 17)), (3, .ref (h 29)), (4, .ref (h 30)), (5, .int i)]) G dL_law_1656 (by decide) rfl rfl ?_
  refine zq_aload_n (q := 1659) G dL_law_1658 3 rfl rfl rfl ?_
  refine zq_arg (q := 1665) (v := 1) LW hI.1 1 6 dL_law_1659 dL_law_1660 dL_law_1662 dL_law_1663 dL_law_1664 rfl rfl rfl rfl ?_
  refine zq_callVi (q := 1668) (ws2 := (w_L cyI cyZ cyJ cyD h σ2 μ2 g2 d)) (isC := [17, 18, 19, 20, 21, 22, 23, 24, 25, 26, 27, 28]) (isR := [0, 1, 2, 3, 4, 5, 6, 7, 8, 9, 10, 11, 12, 13, 14, 15, 16, 29, 30]) (perm := [0, 1, 2, 3, 4, 5, 6, 7, 8, 9, 10, 11, 12, 13, 14, 15, 16, 19, 20, 21, 22, 23, 24, 25, 26, 27, 28, 29, 30, 17, 18]) (rest := []) (As := [.int x1]) G zs_L_225 dL_law_1665 (fun sz9 => c_X4_fits l D cyI cyZ (h 17) (h 18) (h 19) (h 20) (h 21) (h 22) (h 23) (h 24) (h 25) (h 26) (h 27) (h 28) μ x1 b9 μ2 e2 sz9) 17 rfl rfl rfl ⟨rfl, rfl, rfl, rfl⟩ rfl (Nat.le_of_ble_eq_true rfl) ⟨(Nat.le_of_ble_eq_true rfl), (Nat.le_of_ble_eq_true rfl), hc, hs⟩ rfl ?_
  refine zq_istore (q := 1670) (lv2 := [(7, .int b9), (6, .int μ2.2.2.2.2), (0, .ref b), (1, .ref (h 0)), (2, .ref (h 17)), (3, .ref (h 29)), (4, .ref (h 30)), (5, .int i)]) G dL_law_1668 (by decide) rfl rfl ?_
  refine zq_aload_n (q := 1671) G dL_law_1670 4 rfl rfl rfl ?_
  refine zq_callVi (q := 1674) (ws2 := (w_L cyI cyZ cyJ cyD h σ2 μ2 g2 d)) (isC := [17, 18, 19, 20, 21, 22, 23, 24, 25, 26, 27, 28]) (isR := [0, 1, 2, 3, 4, 5, 6, 7, 8, 9, 10, 11, 12, 13, 14, 15, 16, 29, 30]) (perm := [0, 1, 2, 3, 4, 5, 6, 7, 8, 9, 10, 11, 12, 13, 14, 15, 16, 19, 20, 21, 22, 23, 24, 25, 26, 27, 28, 29, 30, 17, 18]) (rest := []) (As := []) G zs_L_110 dL_law_1671 (fun sz9 => c_X4_thrown l D cyI cyZ (h 17) (h 18) (h 19) (h 20) (h 21) (h 22) (h 23) (h 24) (h 25) (h 26) (h 27) (h 28) μ2 μ2.2.2.2.2 (s_thrown μ2) sz9) 17 rfl rfl rfl ⟨rfl, rfl, rfl, rfl⟩ rfl (Nat.le_of_ble_eq_true rfl) ⟨(Nat.le_of_ble_eq_true rfl), (Nat.le_of_ble_eq_true rfl), hc, hs⟩ rfl ?_
  refine zq_iload (q := 1676) G dL_law_1674 1 rfl rfl ?_
  refine zq_icmp_eq (tgt := 1681) (q := 1679) G dL_law_1676 (by decide) rfl (fun _ => ?_) (fun c9 => absurd rfl c9)
  refine zq_iload (q := 1683) G dL_law_1681 1 rfl rfl ?_
  refine zq_if_ne (tgt := 1705) (q := 1686) G dL_law_1683 (by decide) rfl (fun _ => ?_) (fun h9 => ?_)
  · exact zq_goto (q := 2123) G dL_law_1705 (by decide) (zq_sub (zlv b h i) [2, 3, 4, 5, 6, 7] rfl (K _ _ _ _ hR2))
  · refine zq_aload_n (q := 1687) G dL_law_1686 5 rfl rfl rfl ?_
    refine zq_iconst (q := 1688) (v := 0) G dL_law_1687 rfl rfl ?_
    refine zq_lald (q := 1689) G LW.2.1 dL_law_1688 29 rfl rfl rfl ?_
    refine zq_iload (q := 1691) G dL_law_1689 0 rfl rfl ?_
    rcases hb with rfl | rfl
    · refine zq_if_eq (tgt := 1698) (q := 1694) G dL_law_1691 (by decide) rfl (fun _ => ?_) (fun c9 => absurd rfl c9)
      refine zq_lconst (q := 1699) (v := 0) G dL_law_1698 rfl rfl ?_
      refine zq_lcmp (q := 1700) G dL_law_1699 rfl ?_
      refine zq_if_eq (tgt := 1705) (q := 1703) G dL_law_1700 (by decide) rfl (fun _ => ?_) (fun c9 => absurd (zeqL (hg2 h9)) c9)
      exact zq_goto (q := 2123) G dL_law_1705 (by decide) (zq_sub (zlv b h i) [2, 3, 4, 5, 6, 7] rfl (K _ _ _ _ hR2))
    · refine zq_if_eq (tgt := 1698) (q := 1694) G dL_law_1691 (by decide) rfl (fun c9 => absurd c9 (by decide)) (fun _ => ?_)
      refine zq_lconst (q := 1695) (v := 1) G dL_law_1694 rfl rfl ?_
      refine zq_goto (q := 1699) G dL_law_1695 (by decide) ?_
      refine zq_lcmp (q := 1700) G dL_law_1699 rfl ?_
      refine zq_if_eq (tgt := 1705) (q := 1703) G dL_law_1700 (by decide) rfl (fun _ => ?_) (fun c9 => absurd (zeqL (hg2 h9)) c9)
      exact zq_goto (q := 2123) G dL_law_1705 (by decide) (zq_sub (zlv b h i) [2, 3, 4, 5, 6, 7] rfl (K _ _ _ _ hR2))
set_option maxHeartbeats 4000000 in
set_option maxRecDepth 100000 in
theorem L_32 {p : Program} {l : Launch} {e : Env} {s : State} {m : MethodId} {args : Array Value} {below : List Frame} {meth : Method} {c : Code} {D : va_G} {cyI cyZ cyJ cyD : ClassId} {A : Nat → Prop} {b L : Nat} {xs : Nat → Int32} {Q : State → Prop} {cells slots : Nat} {h : Nat → Nat} {i x1 x2 x3 : Int32} {σ : zC} {μ : zM} {g : Nat → Int64} {d : Nat → UInt64} (hst : l.stackTraces = false) (LW : zLaw p s m args c D cyI cyZ cyJ cyD A b L xs) (hI : zArgs L xs i x1 x2 x3) (hc : cells + 1 ≤ 601024) (hs : slots + 6 ≤ 7293034) (Rl : Rel σ μ) (K : ∀ (σ2 : zC) (μ2 : zM) (g2 : Nat → Int64) (d2 : Nat → UInt64), Rel σ2 μ2 → zW p l e room_1 s m args below meth c D A 10 (cells + 1) (slots + 6) Q 2123 (zlv b h i) [] (w_L cyI cyZ cyJ cyD h σ2 μ2 g2 d2)) : zW p l e room_1 s m args below meth c D A 10 cells slots Q 1708 (zlv b h i) [] (w_L cyI cyZ cyJ cyD h σ μ g d) := by
  have G := LW.1
  obtain ⟨z, σ2, b9, μ2, e1, e2, hR2, hT⟩ := o_countWithin Rl x1
  refine zq_aload_n (q := 1709) G dL_law_1708 1 rfl rfl rfl ?_
  refine zq_arg (q := 1715) (v := 1) LW hI.1 0 5 dL_law_1709 dL_law_1710 dL_law_1712 dL_law_1713 dL_law_1714 rfl rfl rfl rfl ?_
  refine zq_aload_n (q := 1716) G dL_law_1715 3 rfl rfl rfl ?_
  refine zq_callH (q := 1719) (isC := [0, 1, 2, 3, 4, 5, 6, 7, 8, 9, 10, 11, 12, 13, 14, 15, 16, 29]) (isR := [17, 18, 19, 20, 21, 22, 23, 24, 25, 26, 27, 28, 30]) (perm := [13, 14, 15, 16, 17, 18, 19, 20, 21, 22, 23, 24, 25, 26, 27, 28, 29, 0, 1, 2, 3, 4, 5, 6, 7, 8, 9, 10, 11, 30, 12]) (rest := []) (As := [.ref (h 0), .int x1, .ref (h 29)]) G LW.2.1 zs_L_226 dL_law_1716 (fun sz9 => h_countWithin l hst D cyI cyZ cyJ cyD h (h 29) σ σ2 g x1 z b9 μ2.2.2.2.2 e1 hT sz9) rfl rfl rfl (Nat.le_of_ble_eq_true rfl) ⟨(Nat.le_of_ble_eq_true rfl), (Nat.le_of_ble_eq_true rfl), hc, hs⟩ rfl (fun W9 hW9 => ?_)
  obtain ⟨g2, hg2, rfl⟩ := hW9
  refine ⟨(w_L cyI cyZ cyJ cyD h σ2 μ g2 d), ⟨rfl, rfl, rfl, rfl⟩, ?_⟩
  refine zq_istore (q := 1721) (lv2 := [(6, .int μ2.2.2.2.2), (0, .ref b), (1, .ref (h 0)), (2, .ref (h 17)), (3, .ref (h 29)), (4, .ref (h 30)), (5, .int i)]) G dL_law_1719 (by decide) rfl rfl ?_
  refine zq_aload_n (q := 1722) G dL_law_1721 3 rfl rfl rfl ?_
  refine zq_arg (q := 1728) (v := 1) LW hI.1 1 6 dL_law_1722 dL_law_1723 dL_law_1725 dL_law_1726 dL_law_1727 rfl rfl rfl rfl ?_
  refine zq_callVi (q := 1731) (ws2 := (w_L cyI cyZ cyJ cyD h σ2 μ2 g2 d)) (isC := [17, 18, 19, 20, 21, 22, 23, 24, 25, 26, 27, 28]) (isR := [0, 1, 2, 3, 4, 5, 6, 7, 8, 9, 10, 11, 12, 13, 14, 15, 16, 29, 30]) (perm := [0, 1, 2, 3, 4, 5, 6, 7, 8, 9, 10, 11, 12, 13, 14, 15, 16, 19, 20, 21, 22, 23, 24, 25, 26, 27, 28, 29, 30, 17, 18]) (rest := []) (As := [.int x1]) G zs_L_228 dL_law_1728 (fun sz9 => c_X4_countWithin l D cyI cyZ (h 17) (h 18) (h 19) (h 20) (h 21) (h 22) (h 23) (h 24) (h 25) (h 26) (h 27) (h 28) μ x1 b9 μ2 e2 sz9) 17 rfl rfl rfl ⟨rfl, rfl, rfl, rfl⟩ rfl (Nat.le_of_ble_eq_true rfl) ⟨(Nat.le_of_ble_eq_true rfl), (Nat.le_of_ble_eq_true rfl), hc, hs⟩ rfl ?_
  refine zq_istore (q := 1733) (lv2 := [(7, .int b9), (6, .int μ2.2.2.2.2), (0, .ref b), (1, .ref (h 0)), (2, .ref (h 17)), (3, .ref (h 29)), (4, .ref (h 30)), (5, .int i)]) G dL_law_1731 (by decide) rfl rfl ?_
  refine zq_aload_n (q := 1734) G dL_law_1733 4 rfl rfl rfl ?_
  refine zq_callVi (q := 1737) (ws2 := (w_L cyI cyZ cyJ cyD h σ2 μ2 g2 d)) (isC := [17, 18, 19, 20, 21, 22, 23, 24, 25, 26, 27, 28]) (isR := [0, 1, 2, 3, 4, 5, 6, 7, 8, 9, 10, 11, 12, 13, 14, 15, 16, 29, 30]) (perm := [0, 1, 2, 3, 4, 5, 6, 7, 8, 9, 10, 11, 12, 13, 14, 15, 16, 19, 20, 21, 22, 23, 24, 25, 26, 27, 28, 29, 30, 17, 18]) (rest := []) (As := []) G zs_L_110 dL_law_1734 (fun sz9 => c_X4_thrown l D cyI cyZ (h 17) (h 18) (h 19) (h 20) (h 21) (h 22) (h 23) (h 24) (h 25) (h 26) (h 27) (h 28) μ2 μ2.2.2.2.2 (s_thrown μ2) sz9) 17 rfl rfl rfl ⟨rfl, rfl, rfl, rfl⟩ rfl (Nat.le_of_ble_eq_true rfl) ⟨(Nat.le_of_ble_eq_true rfl), (Nat.le_of_ble_eq_true rfl), hc, hs⟩ rfl ?_
  refine zq_iload (q := 1739) G dL_law_1737 1 rfl rfl ?_
  refine zq_icmp_eq (tgt := 1744) (q := 1742) G dL_law_1739 (by decide) rfl (fun _ => ?_) (fun c9 => absurd rfl c9)
  refine zq_iload (q := 1746) G dL_law_1744 1 rfl rfl ?_
  refine zq_if_ne (tgt := 1761) (q := 1749) G dL_law_1746 (by decide) rfl (fun _ => ?_) (fun h9 => ?_)
  · exact zq_goto (q := 2123) G dL_law_1761 (by decide) (zq_sub (zlv b h i) [2, 3, 4, 5, 6, 7] rfl (K _ _ _ _ hR2))
  · refine zq_aload_n (q := 1750) G dL_law_1749 5 rfl rfl rfl ?_
    refine zq_iconst (q := 1751) (v := 0) G dL_law_1750 rfl rfl ?_
    refine zq_lald (q := 1752) G LW.2.1 dL_law_1751 29 rfl rfl rfl ?_
    refine zq_iload (q := 1754) G dL_law_1752 0 rfl rfl ?_
    refine zq_i2l (q := 1755) G dL_law_1754 rfl ?_
    refine zq_lcmp (q := 1756) G dL_law_1755 rfl ?_
    refine zq_if_eq (tgt := 1761) (q := 1759) G dL_law_1756 (by decide) rfl (fun _ => ?_) (fun c9 => absurd (zeqL (hg2 h9)) c9)
    exact zq_goto (q := 2123) G dL_law_1761 (by decide) (zq_sub (zlv b h i) [2, 3, 4, 5, 6, 7] rfl (K _ _ _ _ hR2))
set_option maxHeartbeats 4000000 in
set_option maxRecDepth 100000 in
theorem L_33 {p : Program} {l : Launch} {e : Env} {s : State} {m : MethodId} {args : Array Value} {below : List Frame} {meth : Method} {c : Code} {D : va_G} {cyI cyZ cyJ cyD : ClassId} {A : Nat → Prop} {b L : Nat} {xs : Nat → Int32} {Q : State → Prop} {cells slots : Nat} {h : Nat → Nat} {i x1 x2 x3 : Int32} {σ : zC} {μ : zM} {g : Nat → Int64} {d : Nat → UInt64} (hst : l.stackTraces = false) (LW : zLaw p s m args c D cyI cyZ cyJ cyD A b L xs) (hI : zArgs L xs i x1 x2 x3) (hc : cells + 1 ≤ 601024) (hs : slots + 6 ≤ 7293034) (Rl : Rel σ μ) (K : ∀ (σ2 : zC) (μ2 : zM) (g2 : Nat → Int64) (d2 : Nat → UInt64), Rel σ2 μ2 → zW p l e room_1 s m args below meth c D A 10 (cells + 1) (slots + 6) Q 2123 (zlv b h i) [] (w_L cyI cyZ cyJ cyD h σ2 μ2 g2 d2)) : zW p l e room_1 s m args below meth c D A 10 cells slots Q 1764 (zlv b h i) [] (w_L cyI cyZ cyJ cyD h σ μ g d) := by
  have G := LW.1
  obtain ⟨z, b9, μ2, e1, e2, hR2, hT⟩ := o_sumOf Rl x1
  refine zq_aload_n (q := 1765) G dL_law_1764 1 rfl rfl rfl ?_
  refine zq_arg (q := 1771) (v := 1) LW hI.1 0 5 dL_law_1765 dL_law_1766 dL_law_1768 dL_law_1769 dL_law_1770 rfl rfl rfl rfl ?_
  refine zq_aload_n (q := 1772) G dL_law_1771 3 rfl rfl rfl ?_
  refine zq_callH (q := 1775) (isC := [0, 1, 2, 3, 4, 5, 6, 7, 8, 9, 10, 11, 12, 13, 14, 15, 16, 29]) (isR := [17, 18, 19, 20, 21, 22, 23, 24, 25, 26, 27, 28, 30]) (perm := [13, 14, 15, 16, 17, 18, 19, 20, 21, 22, 23, 24, 25, 26, 27, 28, 29, 0, 1, 2, 3, 4, 5, 6, 7, 8, 9, 10, 11, 30, 12]) (rest := []) (As := [.ref (h 0), .int x1, .ref (h 29)]) G LW.2.1 zs_L_229 dL_law_1772 (fun sz9 => h_sumOf l hst D cyI cyZ cyJ cyD h (h 29) σ g x1 z b9 μ2.2.2.2.2 e1 hT sz9) rfl rfl rfl (Nat.le_of_ble_eq_true rfl) ⟨(Nat.le_of_ble_eq_true rfl), (Nat.le_of_ble_eq_true rfl), hc, hs⟩ rfl (fun W9 hW9 => ?_)
  obtain ⟨g2, hg2, rfl⟩ := hW9
  refine ⟨(w_L cyI cyZ cyJ cyD h σ μ g2 d), ⟨rfl, rfl, rfl, rfl⟩, ?_⟩
  refine zq_istore (q := 1777) (lv2 := [(6, .int μ2.2.2.2.2), (0, .ref b), (1, .ref (h 0)), (2, .ref (h 17)), (3, .ref (h 29)), (4, .ref (h 30)), (5, .int i)]) G dL_law_1775 (by decide) rfl rfl ?_
  refine zq_aload_n (q := 1778) G dL_law_1777 3 rfl rfl rfl ?_
  refine zq_arg (q := 1784) (v := 1) LW hI.1 1 6 dL_law_1778 dL_law_1779 dL_law_1781 dL_law_1782 dL_law_1783 rfl rfl rfl rfl ?_
  refine zq_callVi (q := 1787) (ws2 := (w_L cyI cyZ cyJ cyD h σ μ2 g2 d)) (isC := [17, 18, 19, 20, 21, 22, 23, 24, 25, 26, 27, 28]) (isR := [0, 1, 2, 3, 4, 5, 6, 7, 8, 9, 10, 11, 12, 13, 14, 15, 16, 29, 30]) (perm := [0, 1, 2, 3, 4, 5, 6, 7, 8, 9, 10, 11, 12, 13, 14, 15, 16, 19, 20, 21, 22, 23, 24, 25, 26, 27, 28, 29, 30, 17, 18]) (rest := []) (As := [.int x1]) G zs_L_231 dL_law_1784 (fun sz9 => c_X4_sumOf l D cyI cyZ (h 17) (h 18) (h 19) (h 20) (h 21) (h 22) (h 23) (h 24) (h 25) (h 26) (h 27) (h 28) μ x1 b9 μ2 e2 sz9) 17 rfl rfl rfl ⟨rfl, rfl, rfl, rfl⟩ rfl (Nat.le_of_ble_eq_true rfl) ⟨(Nat.le_of_ble_eq_true rfl), (Nat.le_of_ble_eq_true rfl), hc, hs⟩ rfl ?_
  refine zq_istore (q := 1789) (lv2 := [(7, .int b9), (6, .int μ2.2.2.2.2), (0, .ref b), (1, .ref (h 0)), (2, .ref (h 17)), (3, .ref (h 29)), (4, .ref (h 30)), (5, .int i)]) G dL_law_1787 (by decide) rfl rfl ?_
  refine zq_aload_n (q := 1790) G dL_law_1789 4 rfl rfl rfl ?_
  refine zq_callVi (q := 1793) (ws2 := (w_L cyI cyZ cyJ cyD h σ μ2 g2 d)) (isC := [17, 18, 19, 20, 21, 22, 23, 24, 25, 26, 27, 28]) (isR := [0, 1, 2, 3, 4, 5, 6, 7, 8, 9, 10, 11, 12, 13, 14, 15, 16, 29, 30]) (perm := [0, 1, 2, 3, 4, 5, 6, 7, 8, 9, 10, 11, 12, 13, 14, 15, 16, 19, 20, 21, 22, 23, 24, 25, 26, 27, 28, 29, 30, 17, 18]) (rest := []) (As := []) G zs_L_110 dL_law_1790 (fun sz9 => c_X4_thrown l D cyI cyZ (h 17) (h 18) (h 19) (h 20) (h 21) (h 22) (h 23) (h 24) (h 25) (h 26) (h 27) (h 28) μ2 μ2.2.2.2.2 (s_thrown μ2) sz9) 17 rfl rfl rfl ⟨rfl, rfl, rfl, rfl⟩ rfl (Nat.le_of_ble_eq_true rfl) ⟨(Nat.le_of_ble_eq_true rfl), (Nat.le_of_ble_eq_true rfl), hc, hs⟩ rfl ?_
  refine zq_iload (q := 1795) G dL_law_1793 1 rfl rfl ?_
  refine zq_icmp_eq (tgt := 1800) (q := 1798) G dL_law_1795 (by decide) rfl (fun _ => ?_) (fun c9 => absurd rfl c9)
  refine zq_iload (q := 1802) G dL_law_1800 1 rfl rfl ?_
  refine zq_if_ne (tgt := 1817) (q := 1805) G dL_law_1802 (by decide) rfl (fun _ => ?_) (fun h9 => ?_)
  · exact zq_goto (q := 2123) G dL_law_1817 (by decide) (zq_sub (zlv b h i) [2, 3, 4, 5, 6, 7] rfl (K _ _ _ _ hR2))
  · refine zq_aload_n (q := 1806) G dL_law_1805 5 rfl rfl rfl ?_
    refine zq_iconst (q := 1807) (v := 0) G dL_law_1806 rfl rfl ?_
    refine zq_lald (q := 1808) G LW.2.1 dL_law_1807 29 rfl rfl rfl ?_
    refine zq_iload (q := 1810) G dL_law_1808 0 rfl rfl ?_
    refine zq_i2l (q := 1811) G dL_law_1810 rfl ?_
    refine zq_lcmp (q := 1812) G dL_law_1811 rfl ?_
    refine zq_if_eq (tgt := 1817) (q := 1815) G dL_law_1812 (by decide) rfl (fun _ => ?_) (fun c9 => absurd (zeqL (hg2 h9)) c9)
    exact zq_goto (q := 2123) G dL_law_1817 (by decide) (zq_sub (zlv b h i) [2, 3, 4, 5, 6, 7] rfl (K _ _ _ _ hR2))
set_option maxHeartbeats 4000000 in
set_option maxRecDepth 100000 in
theorem L_34 {p : Program} {l : Launch} {e : Env} {s : State} {m : MethodId} {args : Array Value} {below : List Frame} {meth : Method} {c : Code} {D : va_G} {cyI cyZ cyJ cyD : ClassId} {A : Nat → Prop} {b L : Nat} {xs : Nat → Int32} {Q : State → Prop} {cells slots : Nat} {h : Nat → Nat} {i x1 x2 x3 : Int32} {σ : zC} {μ : zM} {g : Nat → Int64} {d : Nat → UInt64} (hst : l.stackTraces = false) (LW : zLaw p s m args c D cyI cyZ cyJ cyD A b L xs) (hI : zArgs L xs i x1 x2 x3) (hc : cells + 1 ≤ 601024) (hs : slots + 6 ≤ 7293034) (Rl : Rel σ μ) (K : ∀ (σ2 : zC) (μ2 : zM) (g2 : Nat → Int64) (d2 : Nat → UInt64), Rel σ2 μ2 → zW p l e room_1 s m args below meth c D A 10 (cells + 1) (slots + 6) Q 2123 (zlv b h i) [] (w_L cyI cyZ cyJ cyD h σ2 μ2 g2 d2)) : zW p l e room_1 s m args below meth c D A 10 cells slots Q 1820 (zlv b h i) [] (w_L cyI cyZ cyJ cyD h σ μ g d) := by
  have G := LW.1
  obtain ⟨z, σ2, b9, μ2, e1, e2, hR2, hT⟩ := o_startEnumeration Rl 
  refine zq_aload_n (q := 1821) G dL_law_1820 1 rfl rfl rfl ?_
  refine zq_aload_n (q := 1822) G dL_law_1821 3 rfl rfl rfl ?_
  refine zq_callH (q := 1825) (isC := [0, 1, 2, 3, 4, 5, 6, 7, 8, 9, 10, 11, 12, 13, 14, 15, 16, 29]) (isR := [17, 18, 19, 20, 21, 22, 23, 24, 25, 26, 27, 28, 30]) (perm := [13, 14, 15, 16, 17, 18, 19, 20, 21, 22, 23, 24, 25, 26, 27, 28, 29, 0, 1, 2, 3, 4, 5, 6, 7, 8, 9, 10, 11, 30, 12]) (rest := []) (As := [.ref (h 0), .ref (h 29)]) G LW.2.1 zs_L_232 dL_law_1822 (fun sz9 => h_startEnumeration l hst D cyI cyZ cyJ cyD h (h 29) σ σ2 g  z b9 μ2.2.2.2.2 e1 hT sz9) rfl rfl rfl (Nat.le_of_ble_eq_true rfl) ⟨(Nat.le_of_ble_eq_true rfl), (Nat.le_of_ble_eq_true rfl), hc, hs⟩ rfl (fun W9 hW9 => ?_)
  obtain ⟨g2, hg2, rfl⟩ := hW9
  refine ⟨(w_L cyI cyZ cyJ cyD h σ2 μ g2 d), ⟨rfl, rfl, rfl, rfl⟩, ?_⟩
  refine zq_istore (q := 1827) (lv2 := [(6, .int μ2.2.2.2.2), (0, .ref b), (1, .ref (h 0)), (2, .ref (h 17)), (3, .ref (h 29)), (4, .ref (h 30)), (5, .int i)]) G dL_law_1825 (by decide) rfl rfl ?_
  refine zq_aload_n (q := 1828) G dL_law_1827 3 rfl rfl rfl ?_
  refine zq_callVi (q := 1831) (ws2 := (w_L cyI cyZ cyJ cyD h σ2 μ2 g2 d)) (isC := [17, 18, 19, 20, 21, 22, 23, 24, 25, 26, 27, 28]) (isR := [0, 1, 2, 3, 4, 5, 6, 7, 8, 9, 10, 11, 12, 13, 14, 15, 16, 29, 30]) (perm := [0, 1, 2, 3, 4, 5, 6, 7, 8, 9, 10, 11, 12, 13, 14, 15, 16, 19, 20, 21, 22, 23, 24, 25, 26, 27, 28, 29, 30, 17, 18]) (rest := []) (As := []) G zs_L_234 dL_law_1828 (fun sz9 => c_X4_startEnumeration l D cyI cyZ (h 17) (h 18) (h 19) (h 20) (h 21) (h 22) (h 23) (h 24) (h 25) (h 26) (h 27) (h 28) μ  b9 μ2 e2 sz9) 17 rfl rfl rfl ⟨rfl, rfl, rfl, rfl⟩ rfl (Nat.le_of_ble_eq_true rfl) ⟨(Nat.le_of_ble_eq_true rfl), (Nat.le_of_ble_eq_true rfl), hc, hs⟩ rfl ?_
  refine zq_istore (q := 1833) (lv2 := [(7, .int b9), (6, .int μ2.2.2.2.2), (0, .ref b), (1, .ref (h 0)), (2, .ref (h 17)), (3, .ref (h 29)), (4, .ref (h 30)), (5, .int i)]) G dL_law_1831 (by decide) rfl rfl ?_
  refine zq_aload_n (q := 1834) G dL_law_1833 4 rfl rfl rfl ?_
  refine zq_callVi (q := 1837) (ws2 := (w_L cyI cyZ cyJ cyD h σ2 μ2 g2 d)) (isC := [17, 18, 19, 20, 21, 22, 23, 24, 25, 26, 27, 28]) (isR := [0, 1, 2, 3, 4, 5, 6, 7, 8, 9, 10, 11, 12, 13, 14, 15, 16, 29, 30]) (perm := [0, 1, 2, 3, 4, 5, 6, 7, 8, 9, 10, 11, 12, 13, 14, 15, 16, 19, 20, 21, 22, 23, 24, 25, 26, 27, 28, 29, 30, 17, 18]) (rest := []) (As := []) G zs_L_110 dL_law_1834 (fun sz9 => c_X4_thrown l D cyI cyZ (h 17) (h 18) (h 19) (h 20) (h 21) (h 22) (h 23) (h 24) (h 25) (h 26) (h 27) (h 28) μ2 μ2.2.2.2.2 (s_thrown μ2) sz9) 17 rfl rfl rfl ⟨rfl, rfl, rfl, rfl⟩ rfl (Nat.le_of_ble_eq_true rfl) ⟨(Nat.le_of_ble_eq_true rfl), (Nat.le_of_ble_eq_true rfl), hc, hs⟩ rfl ?_
  refine zq_iload (q := 1839) G dL_law_1837 1 rfl rfl ?_
  refine zq_icmp_eq (tgt := 1844) (q := 1842) G dL_law_1839 (by decide) rfl (fun _ => ?_) (fun c9 => absurd rfl c9)
  refine zq_iload (q := 1846) G dL_law_1844 1 rfl rfl ?_
  refine zq_if_ne (tgt := 1861) (q := 1849) G dL_law_1846 (by decide) rfl (fun _ => ?_) (fun h9 => ?_)
  · exact zq_goto (q := 2123) G dL_law_1861 (by decide) (zq_sub (zlv b h i) [2, 3, 4, 5, 6, 7] rfl (K _ _ _ _ hR2))
  · refine zq_aload_n (q := 1850) G dL_law_1849 5 rfl rfl rfl ?_
    refine zq_iconst (q := 1851) (v := 0) G dL_law_1850 rfl rfl ?_
    refine zq_lald (q := 1852) G LW.2.1 dL_law_1851 29 rfl rfl rfl ?_
    refine zq_iload (q := 1854) G dL_law_1852 0 rfl rfl ?_
    refine zq_i2l (q := 1855) G dL_law_1854 rfl ?_
    refine zq_lcmp (q := 1856) G dL_law_1855 rfl ?_
    refine zq_if_eq (tgt := 1861) (q := 1859) G dL_law_1856 (by decide) rfl (fun _ => ?_) (fun c9 => absurd (zeqL (hg2 h9)) c9)
    exact zq_goto (q := 2123) G dL_law_1861 (by decide) (zq_sub (zlv b h i) [2, 3, 4, 5, 6, 7] rfl (K _ _ _ _ hR2))
set_option maxHeartbeats 4000000 in
set_option maxRecDepth 100000 in
theorem L_35 {p : Program} {l : Launch} {e : Env} {s : State} {m : MethodId} {args : Array Value} {below : List Frame} {meth : Method} {c : Code} {D : va_G} {cyI cyZ cyJ cyD : ClassId} {A : Nat → Prop} {b L : Nat} {xs : Nat → Int32} {Q : State → Prop} {cells slots : Nat} {h : Nat → Nat} {i x1 x2 x3 : Int32} {σ : zC} {μ : zM} {g : Nat → Int64} {d : Nat → UInt64} (hst : l.stackTraces = false) (LW : zLaw p s m args c D cyI cyZ cyJ cyD A b L xs) (hI : zArgs L xs i x1 x2 x3) (hc : cells + 1 ≤ 601024) (hs : slots + 6 ≤ 7293034) (Rl : Rel σ μ) (K : ∀ (σ2 : zC) (μ2 : zM) (g2 : Nat → Int64) (d2 : Nat → UInt64), Rel σ2 μ2 → zW p l e room_1 s m args below meth c D A 10 (cells + 1) (slots + 6) Q 2123 (zlv b h i) [] (w_L cyI cyZ cyJ cyD h σ2 μ2 g2 d2)) : zW p l e room_1 s m args below meth c D A 10 cells slots Q 1864 (zlv b h i) [] (w_L cyI cyZ cyJ cyD h σ μ g d) := by
  have G := LW.1
  obtain ⟨z, σ2, b9, μ2, e1, e2, hR2, hT⟩ := o_nextSum Rl 
  refine zq_aload_n (q := 1865) G dL_law_1864 1 rfl rfl rfl ?_
  refine zq_aload_n (q := 1866) G dL_law_1865 3 rfl rfl rfl ?_
  refine zq_callH (q := 1869) (isC := [0, 1, 2, 3, 4, 5, 6, 7, 8, 9, 10, 11, 12, 13, 14, 15, 16, 29]) (isR := [17, 18, 19, 20, 21, 22, 23, 24, 25, 26, 27, 28, 30]) (perm := [13, 14, 15, 16, 17, 18, 19, 20, 21, 22, 23, 24, 25, 26, 27, 28, 29, 0, 1, 2, 3, 4, 5, 6, 7, 8, 9, 10, 11, 30, 12]) (rest := []) (As := [.ref (h 0), .ref (h 29)]) G LW.2.1 zs_L_235 dL_law_1866 (fun sz9 => h_nextSum l hst D cyI cyZ cyJ cyD h (h 29) σ σ2 g  z b9 μ2.2.2.2.2 e1 hT sz9) rfl rfl rfl (Nat.le_of_ble_eq_true rfl) ⟨(Nat.le_of_ble_eq_true rfl), (Nat.le_of_ble_eq_true rfl), hc, hs⟩ rfl (fun W9 hW9 => ?_)
  obtain ⟨g2, hg2, rfl⟩ := hW9
  refine ⟨(w_L cyI cyZ cyJ cyD h σ2 μ g2 d), ⟨rfl, rfl, rfl, rfl⟩, ?_⟩
  refine zq_istore (q := 1871) (lv2 := [(6, .int μ2.2.2.2.2), (0, .ref b), (1, .ref (h 0)), (2, .ref (h 17)), (3, .ref (h 29)), (4, .ref (h 30)), (5, .int i)]) G dL_law_1869 (by decide) rfl rfl ?_
  refine zq_aload_n (q := 1872) G dL_law_1871 3 rfl rfl rfl ?_
  refine zq_callVi (q := 1875) (ws2 := (w_L cyI cyZ cyJ cyD h σ2 μ2 g2 d)) (isC := [17, 18, 19, 20, 21, 22, 23, 24, 25, 26, 27, 28]) (isR := [0, 1, 2, 3, 4, 5, 6, 7, 8, 9, 10, 11, 12, 13, 14, 15, 16, 29, 30]) (perm := [0, 1, 2, 3, 4, 5, 6, 7, 8, 9, 10, 11, 12, 13, 14, 15, 16, 19, 20, 21, 22, 23, 24, 25, 26, 27, 28, 29, 30, 17, 18]) (rest := []) (As := []) G zs_L_237 dL_law_1872 (fun sz9 => c_X4_nextSum l D cyI cyZ (h 17) (h 18) (h 19) (h 20) (h 21) (h 22) (h 23) (h 24) (h 25) (h 26) (h 27) (h 28) μ  b9 μ2 e2 sz9) 17 rfl rfl rfl ⟨rfl, rfl, rfl, rfl⟩ rfl (Nat.le_of_ble_eq_true rfl) ⟨(Nat.le_of_ble_eq_true rfl), (Nat.le_of_ble_eq_true rfl), hc, hs⟩ rfl ?_
  refine zq_istore (q := 1877) (lv2 := [(7, .int b9), (6, .int μ2.2.2.2.2), (0, .ref b), (1, .ref (h 0)), (2, .ref (h 17)), (3, .ref (h 29)), (4, .ref (h 30)), (5, .int i)]) G dL_law_1875 (by decide) rfl rfl ?_
  refine zq_aload_n (q := 1878) G dL_law_1877 4 rfl rfl rfl ?_
  refine zq_callVi (q := 1881) (ws2 := (w_L cyI cyZ cyJ cyD h σ2 μ2 g2 d)) (isC := [17, 18, 19, 20, 21, 22, 23, 24, 25, 26, 27, 28]) (isR := [0, 1, 2, 3, 4, 5, 6, 7, 8, 9, 10, 11, 12, 13, 14, 15, 16, 29, 30]) (perm := [0, 1, 2, 3, 4, 5, 6, 7, 8, 9, 10, 11, 12, 13, 14, 15, 16, 19, 20, 21, 22, 23, 24, 25, 26, 27, 28, 29, 30, 17, 18]) (rest := []) (As := []) G zs_L_110 dL_law_1878 (fun sz9 => c_X4_thrown l D cyI cyZ (h 17) (h 18) (h 19) (h 20) (h 21) (h 22) (h 23) (h 24) (h 25) (h 26) (h 27) (h 28) μ2 μ2.2.2.2.2 (s_thrown μ2) sz9) 17 rfl rfl rfl ⟨rfl, rfl, rfl, rfl⟩ rfl (Nat.le_of_ble_eq_true rfl) ⟨(Nat.le_of_ble_eq_true rfl), (Nat.le_of_ble_eq_true rfl), hc, hs⟩ rfl ?_
  refine zq_iload (q := 1883) G dL_law_1881 1 rfl rfl ?_
  refine zq_icmp_eq (tgt := 1888) (q := 1886) G dL_law_1883 (by decide) rfl (fun _ => ?_) (fun c9 => absurd rfl c9)
  refine zq_iload (q := 1890) G dL_law_1888 1 rfl rfl ?_
  refine zq_if_ne (tgt := 1905) (q := 1893) G dL_law_1890 (by decide) rfl (fun _ => ?_) (fun h9 => ?_)
  · exact zq_goto (q := 2123) G dL_law_1905 (by decide) (zq_sub (zlv b h i) [2, 3, 4, 5, 6, 7] rfl (K _ _ _ _ hR2))
  · refine zq_aload_n (q := 1894) G dL_law_1893 5 rfl rfl rfl ?_
    refine zq_iconst (q := 1895) (v := 0) G dL_law_1894 rfl rfl ?_
    refine zq_lald (q := 1896) G LW.2.1 dL_law_1895 29 rfl rfl rfl ?_
    refine zq_iload (q := 1898) G dL_law_1896 0 rfl rfl ?_
    refine zq_i2l (q := 1899) G dL_law_1898 rfl ?_
    refine zq_lcmp (q := 1900) G dL_law_1899 rfl ?_
    refine zq_if_eq (tgt := 1905) (q := 1903) G dL_law_1900 (by decide) rfl (fun _ => ?_) (fun c9 => absurd (zeqL (hg2 h9)) c9)
    exact zq_goto (q := 2123) G dL_law_1905 (by decide) (zq_sub (zlv b h i) [2, 3, 4, 5, 6, 7] rfl (K _ _ _ _ hR2))
set_option maxHeartbeats 4000000 in
set_option maxRecDepth 100000 in
theorem L_36 {p : Program} {l : Launch} {e : Env} {s : State} {m : MethodId} {args : Array Value} {below : List Frame} {meth : Method} {c : Code} {D : va_G} {cyI cyZ cyJ cyD : ClassId} {A : Nat → Prop} {b L : Nat} {xs : Nat → Int32} {Q : State → Prop} {cells slots : Nat} {h : Nat → Nat} {i x1 x2 x3 : Int32} {σ : zC} {μ : zM} {g : Nat → Int64} {d : Nat → UInt64} (hst : l.stackTraces = false) (LW : zLaw p s m args c D cyI cyZ cyJ cyD A b L xs) (hI : zArgs L xs i x1 x2 x3) (hc : cells + 1 ≤ 601024) (hs : slots + 6 ≤ 7293034) (Rl : Rel σ μ) (K : ∀ (σ2 : zC) (μ2 : zM) (g2 : Nat → Int64) (d2 : Nat → UInt64), Rel σ2 μ2 → zW p l e room_1 s m args below meth c D A 10 (cells + 1) (slots + 6) Q 2123 (zlv b h i) [] (w_L cyI cyZ cyJ cyD h σ2 μ2 g2 d2)) : zW p l e room_1 s m args below meth c D A 10 cells slots Q 1908 (zlv b h i) [] (w_L cyI cyZ cyJ cyD h σ μ g d) := by
  have G := LW.1
  obtain ⟨z, b9, μ2, e1, e2, hR2, hT⟩ := o_currentColumn Rl x1
  refine zq_aload_n (q := 1909) G dL_law_1908 1 rfl rfl rfl ?_
  refine zq_arg (q := 1915) (v := 1) LW hI.1 0 5 dL_law_1909 dL_law_1910 dL_law_1912 dL_law_1913 dL_law_1914 rfl rfl rfl rfl ?_
  refine zq_aload_n (q := 1916) G dL_law_1915 3 rfl rfl rfl ?_
  refine zq_callH (q := 1919) (isC := [0, 1, 2, 3, 4, 5, 6, 7, 8, 9, 10, 11, 12, 13, 14, 15, 16, 29]) (isR := [17, 18, 19, 20, 21, 22, 23, 24, 25, 26, 27, 28, 30]) (perm := [13, 14, 15, 16, 17, 18, 19, 20, 21, 22, 23, 24, 25, 26, 27, 28, 29, 0, 1, 2, 3, 4, 5, 6, 7, 8, 9, 10, 11, 30, 12]) (rest := []) (As := [.ref (h 0), .int x1, .ref (h 29)]) G LW.2.1 zs_L_238 dL_law_1916 (fun sz9 => h_currentColumn l hst D cyI cyZ cyJ cyD h (h 29) σ g x1 z b9 μ2.2.2.2.2 e1 hT sz9) rfl rfl rfl (Nat.le_of_ble_eq_true rfl) ⟨(Nat.le_of_ble_eq_true rfl), (Nat.le_of_ble_eq_true rfl), hc, hs⟩ rfl (fun W9 hW9 => ?_)
  obtain ⟨g2, hg2, rfl⟩ := hW9
  refine ⟨(w_L cyI cyZ cyJ cyD h σ μ g2 d), ⟨rfl, rfl, rfl, rfl⟩, ?_⟩
  refine zq_istore (q := 1921) (lv2 := [(6, .int μ2.2.2.2.2), (0, .ref b), (1, .ref (h 0)), (2, .ref (h 17)), (3, .ref (h 29)), (4, .ref (h 30)), (5, .int i)]) G dL_law_1919 (by decide) rfl rfl ?_
  refine zq_aload_n (q := 1922) G dL_law_1921 3 rfl rfl rfl ?_
  refine zq_arg (q := 1928) (v := 1) LW hI.1 1 6 dL_law_1922 dL_law_1923 dL_law_1925 dL_law_1926 dL_law_1927 rfl rfl rfl rfl ?_
  refine zq_callVi (q := 1931) (ws2 := (w_L cyI cyZ cyJ cyD h σ μ2 g2 d)) (isC := [17, 18, 19, 20, 21, 22, 23, 24, 25, 26, 27, 28]) (isR := [0, 1, 2, 3, 4, 5, 6, 7, 8, 9, 10, 11, 12, 13, 14, 15, 16, 29, 30]) (perm := [0, 1, 2, 3, 4, 5, 6, 7, 8, 9, 10, 11, 12, 13, 14, 15, 16, 19, 20, 21, 22, 23, 24, 25, 26, 27, 28, 29, 30, 17, 18]) (rest := []) (As := [.int x1]) G zs_L_240 dL_law_1928 (fun sz9 => c_X4_currentColumn l D cyI cyZ (h 17) (h 18) (h 19) (h 20) (h 21) (h 22) (h 23) (h 24) (h 25) (h 26) (h 27) (h 28) μ x1 b9 μ2 e2 sz9) 17 rfl rfl rfl ⟨rfl, rfl, rfl, rfl⟩ rfl (Nat.le_of_ble_eq_true rfl) ⟨(Nat.le_of_ble_eq_true rfl), (Nat.le_of_ble_eq_true rfl), hc, hs⟩ rfl ?_
  refine zq_istore (q := 1933) (lv2 := [(7, .int b9), (6, .int μ2.2.2.2.2), (0, .ref b), (1, .ref (h 0)), (2, .ref (h 17)), (3, .ref (h 29)), (4, .ref (h 30)), (5, .int i)]) G dL_law_1931 (by decide) rfl rfl ?_
  refine zq_aload_n (q := 1934) G dL_law_1933 4 rfl rfl rfl ?_
  refine zq_callVi (q := 1937) (ws2 := (w_L cyI cyZ cyJ cyD h σ μ2 g2 d)) (isC := [17, 18, 19, 20, 21, 22, 23, 24, 25, 26, 27, 28]) (isR := [0, 1, 2, 3, 4, 5, 6, 7, 8, 9, 10, 11, 12, 13, 14, 15, 16, 29, 30]) (perm := [0, 1, 2, 3, 4, 5, 6, 7, 8, 9, 10, 11, 12, 13, 14, 15, 16, 19, 20, 21, 22, 23, 24, 25, 26, 27, 28, 29, 30, 17, 18]) (rest := []) (As := []) G zs_L_110 dL_law_1934 (fun sz9 => c_X4_thrown l D cyI cyZ (h 17) (h 18) (h 19) (h 20) (h 21) (h 22) (h 23) (h 24) (h 25) (h 26) (h 27) (h 28) μ2 μ2.2.2.2.2 (s_thrown μ2) sz9) 17 rfl rfl rfl ⟨rfl, rfl, rfl, rfl⟩ rfl (Nat.le_of_ble_eq_true rfl) ⟨(Nat.le_of_ble_eq_true rfl), (Nat.le_of_ble_eq_true rfl), hc, hs⟩ rfl ?_
  refine zq_iload (q := 1939) G dL_law_1937 1 rfl rfl ?_
  refine zq_icmp_eq (tgt := 1944) (q := 1942) G dL_law_1939 (by decide) rfl (fun _ => ?_) (fun c9 => absurd rfl c9)
  refine zq_iload (q := 1946) G dL_law_1944 1 rfl rfl ?_
  refine zq_if_ne (tgt := 1961) (q := 1949) G dL_law_1946 (by decide) rfl (fun _ => ?_) (fun h9 => ?_)
  · exact zq_goto (q := 2123) G dL_law_1961 (by decide) (zq_sub (zlv b h i) [2, 3, 4, 5, 6, 7] rfl (K _ _ _ _ hR2))
  · refine zq_aload_n (q := 1950) G dL_law_1949 5 rfl rfl rfl ?_
    refine zq_iconst (q := 1951) (v := 0) G dL_law_1950 rfl rfl ?_
    refine zq_lald (q := 1952) G LW.2.1 dL_law_1951 29 rfl rfl rfl ?_
    refine zq_iload (q := 1954) G dL_law_1952 0 rfl rfl ?_
    refine zq_i2l (q := 1955) G dL_law_1954 rfl ?_
    refine zq_lcmp (q := 1956) G dL_law_1955 rfl ?_
    refine zq_if_eq (tgt := 1961) (q := 1959) G dL_law_1956 (by decide) rfl (fun _ => ?_) (fun c9 => absurd (zeqL (hg2 h9)) c9)
    exact zq_goto (q := 2123) G dL_law_1961 (by decide) (zq_sub (zlv b h i) [2, 3, 4, 5, 6, 7] rfl (K _ _ _ _ hR2))
