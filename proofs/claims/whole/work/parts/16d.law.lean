-- made by wip/whole/gen15.py: the law's cases
theorem dL_law_1728 : decode cL_law 1728 = .ok (.aload_n 1, 1) := by decide +kernel
theorem dL_law_1729 : decode cL_law 1729 = .ok (.aload_n 0, 1) := by decide +kernel
theorem dL_law_1730 : decode cL_law 1730 = .ok (.iload 4, 2) := by decide +kernel
theorem dL_law_1732 : decode cL_law 1732 = .ok (.iconst 1, 1) := by decide +kernel
theorem dL_law_1733 : decode cL_law 1733 = .ok (.iadd, 1) := by decide +kernel
theorem dL_law_1734 : decode cL_law 1734 = .ok (.iaload, 1) := by decide +kernel
theorem dL_law_1735 : decode cL_law 1735 = .ok (.aload_n 0, 1) := by decide +kernel
theorem dL_law_1736 : decode cL_law 1736 = .ok (.iload 4, 2) := by decide +kernel
theorem dL_law_1738 : decode cL_law 1738 = .ok (.iconst 2, 1) := by decide +kernel
theorem dL_law_1739 : decode cL_law 1739 = .ok (.iadd, 1) := by decide +kernel
theorem dL_law_1740 : decode cL_law 1740 = .ok (.iaload, 1) := by decide +kernel
theorem dL_law_1741 : decode cL_law 1741 = .ok (.aload_n 0, 1) := by decide +kernel
theorem dL_law_1742 : decode cL_law 1742 = .ok (.iload 4, 2) := by decide +kernel
theorem dL_law_1744 : decode cL_law 1744 = .ok (.iconst 3, 1) := by decide +kernel
theorem dL_law_1745 : decode cL_law 1745 = .ok (.iadd, 1) := by decide +kernel
theorem dL_law_1746 : decode cL_law 1746 = .ok (.iaload, 1) := by decide +kernel
theorem dL_law_1747 : decode cL_law 1747 = .ok (.invokevirtual 162, 3) := by decide +kernel
theorem dL_law_1750 : decode cL_law 1750 = .ok (.aload_n 2, 1) := by decide +kernel
theorem dL_law_1751 : decode cL_law 1751 = .ok (.aload_n 0, 1) := by decide +kernel
theorem dL_law_1752 : decode cL_law 1752 = .ok (.iload 4, 2) := by decide +kernel
theorem dL_law_1754 : decode cL_law 1754 = .ok (.iconst 1, 1) := by decide +kernel
theorem dL_law_1755 : decode cL_law 1755 = .ok (.iadd, 1) := by decide +kernel
theorem dL_law_1756 : decode cL_law 1756 = .ok (.iaload, 1) := by decide +kernel
theorem dL_law_1757 : decode cL_law 1757 = .ok (.aload_n 0, 1) := by decide +kernel
theorem dL_law_1758 : decode cL_law 1758 = .ok (.iload 4, 2) := by decide +kernel
theorem dL_law_1760 : decode cL_law 1760 = .ok (.iconst 2, 1) := by decide +kernel
theorem dL_law_1761 : decode cL_law 1761 = .ok (.iadd, 1) := by decide +kernel
theorem dL_law_1762 : decode cL_law 1762 = .ok (.iaload, 1) := by decide +kernel
theorem dL_law_1763 : decode cL_law 1763 = .ok (.aload_n 0, 1) := by decide +kernel
theorem dL_law_1764 : decode cL_law 1764 = .ok (.iload 4, 2) := by decide +kernel
theorem dL_law_1766 : decode cL_law 1766 = .ok (.iconst 3, 1) := by decide +kernel
theorem dL_law_1767 : decode cL_law 1767 = .ok (.iadd, 1) := by decide +kernel
theorem dL_law_1768 : decode cL_law 1768 = .ok (.iaload, 1) := by decide +kernel
theorem dL_law_1769 : decode cL_law 1769 = .ok (.invokevirtual 165, 3) := by decide +kernel
theorem dL_law_1772 : decode cL_law 1772 = .ok (.if_icmp .eq 178, 3) := by decide +kernel
set_option maxRecDepth 100000 in
set_option maxHeartbeats 4000000 in
theorem wl_row {p : Program} {l : Launch} {e : Env} {R : Room} {s : State} {m : MethodId} {args : Array Value} {below : List Frame} {meth : Method} {c : Code} {H : Heap} {locs : List Loc} {cells slots : Nat} {Q : State → Prop} {D : cG} {S S0 : cSt} {ls : Array Slot} {cM : ClassId} {iS : Nat → Nat} {cI cZ : ClassId} {mo : Nat} {ad : Nat → Nat} {oa : Nat} {cL : ClassId} {M : mSt} {o : Int64} {b L x0 : Nat} {xs : Nat → Int32} {i : Int32} {I I' : cSt → mSt → Prop} (C : cY p R s m args meth c RL cL_law 7 2048 600128 7301098 84000 (some .boolean)) (X : lX l D S0 cM iS cI cZ mo ad cL b L xs s) (hK : lC_k x0 I) (hI : lC_row x0 I I') (hJ : lJ D S0 cM iS cI cZ mo ad oa cL s S M o H locs) (hi : I S M) (hin : lIn i L) (hce : cells + 2201 ≤ 600128 ∧ slots + 101882 ≤ 7301098) (hl : lv_has ls 7 [(0, .ref b), (1, .ref x0), (2, .ref mo), (3, .ref oa), (4, .int i)]) (kk : ∀ (S1 : cSt) (M1 : mSt) (o1 : Int64) (H1 : Heap) (locs1 : List Loc) (ls1 : Array Slot), I' S1 M1 → lJ D S0 cM iS cI cZ mo ad oa cL s S1 M1 o1 H1 locs1 → lv_has ls1 7 [(0, .ref b), (1, .ref x0), (2, .ref mo), (3, .ref oa), (4, .int i)] → W p l e R s m args below meth c H1 locs1 (cells + 2201) (slots + 101882) Q (F0 m 1950 ls1 [])) : W p l e R s m args below meth c H locs cells slots Q (F0 m 1728 ls []) := by
  obtain ⟨r, M1, h1, h2, hi1⟩ := hI S M (xs (i + (1 : Int32)).toNatClampNeg) (xs (i + (2 : Int32)).toNatClampNeg) (xs (i + (3 : Int32)).toNatClampNeg) hi
  refine lv_aload_n C.1 C.2.1 dL_law_1728 rfl (lv_at hl 1 rfl) ?_
  refine lv_aload_n C.1 C.2.1 dL_law_1729 rfl (lv_at hl 0 rfl) ?_
  refine lv_iload C.1 C.2.1 dL_law_1730 (lv_at hl 4 rfl) ?_
  refine lv_iconst (v := 1) C.1 C.2.1 dL_law_1732 (by decide) ?_
  refine lv_iadd C.1 C.2.1 dL_law_1733 ?_
  refine l_sld C X hJ hin.2.1 dL_law_1734 ?_
  refine lv_aload_n C.1 C.2.1 dL_law_1735 rfl (lv_at hl 0 rfl) ?_
  refine lv_iload C.1 C.2.1 dL_law_1736 (lv_at hl 4 rfl) ?_
  refine lv_iconst (v := 2) C.1 C.2.1 dL_law_1738 (by decide) ?_
  refine lv_iadd C.1 C.2.1 dL_law_1739 ?_
  refine l_sld C X hJ hin.2.2.1 dL_law_1740 ?_
  refine lv_aload_n C.1 C.2.1 dL_law_1741 rfl (lv_at hl 0 rfl) ?_
  refine lv_iload C.1 C.2.1 dL_law_1742 (lv_at hl 4 rfl) ?_
  refine lv_iconst (v := 3) C.1 C.2.1 dL_law_1744 (by decide) ?_
  refine lv_iadd C.1 C.2.1 dL_law_1745 ?_
  refine l_sld C X hJ hin.2.2.2.1 dL_law_1746 ?_
  refine l_cR (rest := []) C X hJ hl.1 (hK S M hi) [.int (xs (i + (1 : Int32)).toNatClampNeg), .int (xs (i + (2 : Int32)).toNatClampNeg), .int (xs (i + (3 : Int32)).toNatClampNeg)] (tk_11_row l h1) cwL_162 ki_11_row kl_11_row rfl ⟨by decide, by decide⟩ ⟨by omega, by omega⟩ rfl (Nat.le_of_ble_eq_true rfl) dL_law_1747 ?_
  refine W.eq (g2 := F0 m 1750 ls [.int r]) rfl ?_
  refine lv_aload_n C.1 C.2.1 dL_law_1750 rfl (lv_at hl 2 rfl) ?_
  refine lv_aload_n C.1 C.2.1 dL_law_1751 rfl (lv_at hl 0 rfl) ?_
  refine lv_iload C.1 C.2.1 dL_law_1752 (lv_at hl 4 rfl) ?_
  refine lv_iconst (v := 1) C.1 C.2.1 dL_law_1754 (by decide) ?_
  refine lv_iadd C.1 C.2.1 dL_law_1755 ?_
  refine l_sld C X hJ hin.2.1 dL_law_1756 ?_
  refine lv_aload_n C.1 C.2.1 dL_law_1757 rfl (lv_at hl 0 rfl) ?_
  refine lv_iload C.1 C.2.1 dL_law_1758 (lv_at hl 4 rfl) ?_
  refine lv_iconst (v := 2) C.1 C.2.1 dL_law_1760 (by decide) ?_
  refine lv_iadd C.1 C.2.1 dL_law_1761 ?_
  refine l_sld C X hJ hin.2.2.1 dL_law_1762 ?_
  refine lv_aload_n C.1 C.2.1 dL_law_1763 rfl (lv_at hl 0 rfl) ?_
  refine lv_iload C.1 C.2.1 dL_law_1764 (lv_at hl 4 rfl) ?_
  refine lv_iconst (v := 3) C.1 C.2.1 dL_law_1766 (by decide) ?_
  refine lv_iadd C.1 C.2.1 dL_law_1767 ?_
  refine l_sld C X hJ hin.2.2.2.1 dL_law_1768 ?_
  refine l_mW (rest := [.int r]) C X hJ hl.1 [.int (xs (i + (1 : Int32)).toNatClampNeg), .int (xs (i + (2 : Int32)).toNatClampNeg), .int (xs (i + (3 : Int32)).toNatClampNeg)] (tm_row l h2) cwL_165 imL_row slL_row rfl ⟨by decide, by decide⟩ ⟨by omega, by omega⟩ rfl (Nat.le_of_ble_eq_true rfl) dL_law_1769 (fun H locs hJ => ?_)
  refine W.eq (g2 := F0 m 1772 ls [.int r, .int r]) rfl ?_
  refine lv_icmp_eq (tgt := 1950) C.1 C.2.1 dL_law_1772 (by decide) (fun _ => ?_) (fun h9 => absurd rfl h9)
  refine W.widen (k := cells + 2201) (n := slots + 101882) (by omega) (by omega) ?_
  exact kk S M1 o H locs ls hi1 hJ hl
theorem dL_law_1777 : decode cL_law 1777 = .ok (.aload_n 1, 1) := by decide +kernel
theorem dL_law_1778 : decode cL_law 1778 = .ok (.aload_n 0, 1) := by decide +kernel
theorem dL_law_1779 : decode cL_law 1779 = .ok (.iload 4, 2) := by decide +kernel
theorem dL_law_1781 : decode cL_law 1781 = .ok (.iconst 1, 1) := by decide +kernel
theorem dL_law_1782 : decode cL_law 1782 = .ok (.iadd, 1) := by decide +kernel
theorem dL_law_1783 : decode cL_law 1783 = .ok (.iaload, 1) := by decide +kernel
theorem dL_law_1784 : decode cL_law 1784 = .ok (.aload_n 0, 1) := by decide +kernel
theorem dL_law_1785 : decode cL_law 1785 = .ok (.iload 4, 2) := by decide +kernel
theorem dL_law_1787 : decode cL_law 1787 = .ok (.iconst 2, 1) := by decide +kernel
theorem dL_law_1788 : decode cL_law 1788 = .ok (.iadd, 1) := by decide +kernel
theorem dL_law_1789 : decode cL_law 1789 = .ok (.iaload, 1) := by decide +kernel
theorem dL_law_1790 : decode cL_law 1790 = .ok (.invokevirtual 166, 3) := by decide +kernel
theorem dL_law_1793 : decode cL_law 1793 = .ok (.aload_n 2, 1) := by decide +kernel
theorem dL_law_1794 : decode cL_law 1794 = .ok (.aload_n 0, 1) := by decide +kernel
theorem dL_law_1795 : decode cL_law 1795 = .ok (.iload 4, 2) := by decide +kernel
theorem dL_law_1797 : decode cL_law 1797 = .ok (.iconst 1, 1) := by decide +kernel
theorem dL_law_1798 : decode cL_law 1798 = .ok (.iadd, 1) := by decide +kernel
theorem dL_law_1799 : decode cL_law 1799 = .ok (.iaload, 1) := by decide +kernel
theorem dL_law_1800 : decode cL_law 1800 = .ok (.aload_n 0, 1) := by decide +kernel
theorem dL_law_1801 : decode cL_law 1801 = .ok (.iload 4, 2) := by decide +kernel
theorem dL_law_1803 : decode cL_law 1803 = .ok (.iconst 2, 1) := by decide +kernel
theorem dL_law_1804 : decode cL_law 1804 = .ok (.iadd, 1) := by decide +kernel
theorem dL_law_1805 : decode cL_law 1805 = .ok (.iaload, 1) := by decide +kernel
theorem dL_law_1806 : decode cL_law 1806 = .ok (.invokevirtual 169, 3) := by decide +kernel
theorem dL_law_1809 : decode cL_law 1809 = .ok (.if_icmp .eq 141, 3) := by decide +kernel
set_option maxRecDepth 100000 in
set_option maxHeartbeats 4000000 in
theorem wl_frame {p : Program} {l : Launch} {e : Env} {R : Room} {s : State} {m : MethodId} {args : Array Value} {below : List Frame} {meth : Method} {c : Code} {H : Heap} {locs : List Loc} {cells slots : Nat} {Q : State → Prop} {D : cG} {S S0 : cSt} {ls : Array Slot} {cM : ClassId} {iS : Nat → Nat} {cI cZ : ClassId} {mo : Nat} {ad : Nat → Nat} {oa : Nat} {cL : ClassId} {M : mSt} {o : Int64} {b L x0 : Nat} {xs : Nat → Int32} {i : Int32} {I I' : cSt → mSt → Prop} (C : cY p R s m args meth c RL cL_law 7 2048 600128 7301098 84000 (some .boolean)) (X : lX l D S0 cM iS cI cZ mo ad cL b L xs s) (hK : lC_k x0 I) (hI : lC_frame x0 I I') (hJ : lJ D S0 cM iS cI cZ mo ad oa cL s S M o H locs) (hi : I S M) (hin : lIn i L) (hce : cells + 2201 ≤ 600128 ∧ slots + 101882 ≤ 7301098) (hl : lv_has ls 7 [(0, .ref b), (1, .ref x0), (2, .ref mo), (3, .ref oa), (4, .int i)]) (kk : ∀ (S1 : cSt) (M1 : mSt) (o1 : Int64) (H1 : Heap) (locs1 : List Loc) (ls1 : Array Slot), I' S1 M1 → lJ D S0 cM iS cI cZ mo ad oa cL s S1 M1 o1 H1 locs1 → lv_has ls1 7 [(0, .ref b), (1, .ref x0), (2, .ref mo), (3, .ref oa), (4, .int i)] → W p l e R s m args below meth c H1 locs1 (cells + 2201) (slots + 101882) Q (F0 m 1950 ls1 [])) : W p l e R s m args below meth c H locs cells slots Q (F0 m 1777 ls []) := by
  obtain ⟨r, M1, h1, h2, hi1⟩ := hI S M (xs (i + (1 : Int32)).toNatClampNeg) (xs (i + (2 : Int32)).toNatClampNeg) hi
  refine lv_aload_n C.1 C.2.1 dL_law_1777 rfl (lv_at hl 1 rfl) ?_
  refine lv_aload_n C.1 C.2.1 dL_law_1778 rfl (lv_at hl 0 rfl) ?_
  refine lv_iload C.1 C.2.1 dL_law_1779 (lv_at hl 4 rfl) ?_
  refine lv_iconst (v := 1) C.1 C.2.1 dL_law_1781 (by decide) ?_
  refine lv_iadd C.1 C.2.1 dL_law_1782 ?_
  refine l_sld C X hJ hin.2.1 dL_law_1783 ?_
  refine lv_aload_n C.1 C.2.1 dL_law_1784 rfl (lv_at hl 0 rfl) ?_
  refine lv_iload C.1 C.2.1 dL_law_1785 (lv_at hl 4 rfl) ?_
  refine lv_iconst (v := 2) C.1 C.2.1 dL_law_1787 (by decide) ?_
  refine lv_iadd C.1 C.2.1 dL_law_1788 ?_
  refine l_sld C X hJ hin.2.2.1 dL_law_1789 ?_
  refine l_cR (rest := []) C X hJ hl.1 (hK S M hi) [.int (xs (i + (1 : Int32)).toNatClampNeg), .int (xs (i + (2 : Int32)).toNatClampNeg)] (tk_11_frame l h1) cwL_166 ki_11_frame kl_11_frame rfl ⟨by decide, by decide⟩ ⟨by omega, by omega⟩ rfl (Nat.le_of_ble_eq_true rfl) dL_law_1790 ?_
  refine W.eq (g2 := F0 m 1793 ls [.int r]) rfl ?_
  refine lv_aload_n C.1 C.2.1 dL_law_1793 rfl (lv_at hl 2 rfl) ?_
  refine lv_aload_n C.1 C.2.1 dL_law_1794 rfl (lv_at hl 0 rfl) ?_
  refine lv_iload C.1 C.2.1 dL_law_1795 (lv_at hl 4 rfl) ?_
  refine lv_iconst (v := 1) C.1 C.2.1 dL_law_1797 (by decide) ?_
  refine lv_iadd C.1 C.2.1 dL_law_1798 ?_
  refine l_sld C X hJ hin.2.1 dL_law_1799 ?_
  refine lv_aload_n C.1 C.2.1 dL_law_1800 rfl (lv_at hl 0 rfl) ?_
  refine lv_iload C.1 C.2.1 dL_law_1801 (lv_at hl 4 rfl) ?_
  refine lv_iconst (v := 2) C.1 C.2.1 dL_law_1803 (by decide) ?_
  refine lv_iadd C.1 C.2.1 dL_law_1804 ?_
  refine l_sld C X hJ hin.2.2.1 dL_law_1805 ?_
  refine l_mW (rest := [.int r]) C X hJ hl.1 [.int (xs (i + (1 : Int32)).toNatClampNeg), .int (xs (i + (2 : Int32)).toNatClampNeg)] (tm_frame l h2) cwL_169 imL_frame slL_frame rfl ⟨by decide, by decide⟩ ⟨by omega, by omega⟩ rfl (Nat.le_of_ble_eq_true rfl) dL_law_1806 (fun H locs hJ => ?_)
  refine W.eq (g2 := F0 m 1809 ls [.int r, .int r]) rfl ?_
  refine lv_icmp_eq (tgt := 1950) C.1 C.2.1 dL_law_1809 (by decide) (fun _ => ?_) (fun h9 => absurd rfl h9)
  refine W.widen (k := cells + 2201) (n := slots + 101882) (by omega) (by omega) ?_
  exact kk S M1 o H locs ls hi1 hJ hl
theorem dL_law_1814 : decode cL_law 1814 = .ok (.aload_n 1, 1) := by decide +kernel
theorem dL_law_1815 : decode cL_law 1815 = .ok (.aload_n 0, 1) := by decide +kernel
theorem dL_law_1816 : decode cL_law 1816 = .ok (.iload 4, 2) := by decide +kernel
theorem dL_law_1818 : decode cL_law 1818 = .ok (.iconst 1, 1) := by decide +kernel
theorem dL_law_1819 : decode cL_law 1819 = .ok (.iadd, 1) := by decide +kernel
theorem dL_law_1820 : decode cL_law 1820 = .ok (.iaload, 1) := by decide +kernel
theorem dL_law_1821 : decode cL_law 1821 = .ok (.aload_n 0, 1) := by decide +kernel
theorem dL_law_1822 : decode cL_law 1822 = .ok (.iload 4, 2) := by decide +kernel
theorem dL_law_1824 : decode cL_law 1824 = .ok (.iconst 2, 1) := by decide +kernel
theorem dL_law_1825 : decode cL_law 1825 = .ok (.iadd, 1) := by decide +kernel
theorem dL_law_1826 : decode cL_law 1826 = .ok (.iaload, 1) := by decide +kernel
theorem dL_law_1827 : decode cL_law 1827 = .ok (.aload_n 0, 1) := by decide +kernel
theorem dL_law_1828 : decode cL_law 1828 = .ok (.iload 4, 2) := by decide +kernel
theorem dL_law_1830 : decode cL_law 1830 = .ok (.iconst 3, 1) := by decide +kernel
theorem dL_law_1831 : decode cL_law 1831 = .ok (.iadd, 1) := by decide +kernel
theorem dL_law_1832 : decode cL_law 1832 = .ok (.iaload, 1) := by decide +kernel
theorem dL_law_1833 : decode cL_law 1833 = .ok (.invokevirtual 170, 3) := by decide +kernel
theorem dL_law_1836 : decode cL_law 1836 = .ok (.aload_n 2, 1) := by decide +kernel
theorem dL_law_1837 : decode cL_law 1837 = .ok (.aload_n 0, 1) := by decide +kernel
theorem dL_law_1838 : decode cL_law 1838 = .ok (.iload 4, 2) := by decide +kernel
theorem dL_law_1840 : decode cL_law 1840 = .ok (.iconst 1, 1) := by decide +kernel
theorem dL_law_1841 : decode cL_law 1841 = .ok (.iadd, 1) := by decide +kernel
theorem dL_law_1842 : decode cL_law 1842 = .ok (.iaload, 1) := by decide +kernel
theorem dL_law_1843 : decode cL_law 1843 = .ok (.aload_n 0, 1) := by decide +kernel
theorem dL_law_1844 : decode cL_law 1844 = .ok (.iload 4, 2) := by decide +kernel
theorem dL_law_1846 : decode cL_law 1846 = .ok (.iconst 2, 1) := by decide +kernel
theorem dL_law_1847 : decode cL_law 1847 = .ok (.iadd, 1) := by decide +kernel
theorem dL_law_1848 : decode cL_law 1848 = .ok (.iaload, 1) := by decide +kernel
theorem dL_law_1849 : decode cL_law 1849 = .ok (.aload_n 0, 1) := by decide +kernel
theorem dL_law_1850 : decode cL_law 1850 = .ok (.iload 4, 2) := by decide +kernel
theorem dL_law_1852 : decode cL_law 1852 = .ok (.iconst 3, 1) := by decide +kernel
theorem dL_law_1853 : decode cL_law 1853 = .ok (.iadd, 1) := by decide +kernel
theorem dL_law_1854 : decode cL_law 1854 = .ok (.iaload, 1) := by decide +kernel
theorem dL_law_1855 : decode cL_law 1855 = .ok (.invokevirtual 173, 3) := by decide +kernel
theorem dL_law_1858 : decode cL_law 1858 = .ok (.if_icmp .eq 92, 3) := by decide +kernel
set_option maxRecDepth 100000 in
set_option maxHeartbeats 4000000 in
theorem wl_news {p : Program} {l : Launch} {e : Env} {R : Room} {s : State} {m : MethodId} {args : Array Value} {below : List Frame} {meth : Method} {c : Code} {H : Heap} {locs : List Loc} {cells slots : Nat} {Q : State → Prop} {D : cG} {S S0 : cSt} {ls : Array Slot} {cM : ClassId} {iS : Nat → Nat} {cI cZ : ClassId} {mo : Nat} {ad : Nat → Nat} {oa : Nat} {cL : ClassId} {M : mSt} {o : Int64} {b L x0 : Nat} {xs : Nat → Int32} {i : Int32} {I I' : cSt → mSt → Prop} (C : cY p R s m args meth c RL cL_law 7 2048 600128 7301098 84000 (some .boolean)) (X : lX l D S0 cM iS cI cZ mo ad cL b L xs s) (hK : lC_k x0 I) (hI : lC_news x0 I I') (hJ : lJ D S0 cM iS cI cZ mo ad oa cL s S M o H locs) (hi : I S M) (hin : lIn i L) (hce : cells + 2201 ≤ 600128 ∧ slots + 101882 ≤ 7301098) (hl : lv_has ls 7 [(0, .ref b), (1, .ref x0), (2, .ref mo), (3, .ref oa), (4, .int i)]) (kk : ∀ (S1 : cSt) (M1 : mSt) (o1 : Int64) (H1 : Heap) (locs1 : List Loc) (ls1 : Array Slot), I' S1 M1 → lJ D S0 cM iS cI cZ mo ad oa cL s S1 M1 o1 H1 locs1 → lv_has ls1 7 [(0, .ref b), (1, .ref x0), (2, .ref mo), (3, .ref oa), (4, .int i)] → W p l e R s m args below meth c H1 locs1 (cells + 2201) (slots + 101882) Q (F0 m 1950 ls1 [])) : W p l e R s m args below meth c H locs cells slots Q (F0 m 1814 ls []) := by
  obtain ⟨r, M1, h1, h2, hi1⟩ := hI S M (xs (i + (1 : Int32)).toNatClampNeg) (xs (i + (2 : Int32)).toNatClampNeg) (xs (i + (3 : Int32)).toNatClampNeg) hi
  refine lv_aload_n C.1 C.2.1 dL_law_1814 rfl (lv_at hl 1 rfl) ?_
  refine lv_aload_n C.1 C.2.1 dL_law_1815 rfl (lv_at hl 0 rfl) ?_
  refine lv_iload C.1 C.2.1 dL_law_1816 (lv_at hl 4 rfl) ?_
  refine lv_iconst (v := 1) C.1 C.2.1 dL_law_1818 (by decide) ?_
  refine lv_iadd C.1 C.2.1 dL_law_1819 ?_
  refine l_sld C X hJ hin.2.1 dL_law_1820 ?_
  refine lv_aload_n C.1 C.2.1 dL_law_1821 rfl (lv_at hl 0 rfl) ?_
  refine lv_iload C.1 C.2.1 dL_law_1822 (lv_at hl 4 rfl) ?_
  refine lv_iconst (v := 2) C.1 C.2.1 dL_law_1824 (by decide) ?_
  refine lv_iadd C.1 C.2.1 dL_law_1825 ?_
  refine l_sld C X hJ hin.2.2.1 dL_law_1826 ?_
  refine lv_aload_n C.1 C.2.1 dL_law_1827 rfl (lv_at hl 0 rfl) ?_
  refine lv_iload C.1 C.2.1 dL_law_1828 (lv_at hl 4 rfl) ?_
  refine lv_iconst (v := 3) C.1 C.2.1 dL_law_1830 (by decide) ?_
  refine lv_iadd C.1 C.2.1 dL_law_1831 ?_
  refine l_sld C X hJ hin.2.2.2.1 dL_law_1832 ?_
  refine l_cR (rest := []) C X hJ hl.1 (hK S M hi) [.int (xs (i + (1 : Int32)).toNatClampNeg), .int (xs (i + (2 : Int32)).toNatClampNeg), .int (xs (i + (3 : Int32)).toNatClampNeg)] (tk_11_news l h1) cwL_170 ki_11_news kl_11_news rfl ⟨by decide, by decide⟩ ⟨by omega, by omega⟩ rfl (Nat.le_of_ble_eq_true rfl) dL_law_1833 ?_
  refine W.eq (g2 := F0 m 1836 ls [.int r]) rfl ?_
  refine lv_aload_n C.1 C.2.1 dL_law_1836 rfl (lv_at hl 2 rfl) ?_
  refine lv_aload_n C.1 C.2.1 dL_law_1837 rfl (lv_at hl 0 rfl) ?_
  refine lv_iload C.1 C.2.1 dL_law_1838 (lv_at hl 4 rfl) ?_
  refine lv_iconst (v := 1) C.1 C.2.1 dL_law_1840 (by decide) ?_
  refine lv_iadd C.1 C.2.1 dL_law_1841 ?_
  refine l_sld C X hJ hin.2.1 dL_law_1842 ?_
  refine lv_aload_n C.1 C.2.1 dL_law_1843 rfl (lv_at hl 0 rfl) ?_
  refine lv_iload C.1 C.2.1 dL_law_1844 (lv_at hl 4 rfl) ?_
  refine lv_iconst (v := 2) C.1 C.2.1 dL_law_1846 (by decide) ?_
  refine lv_iadd C.1 C.2.1 dL_law_1847 ?_
  refine l_sld C X hJ hin.2.2.1 dL_law_1848 ?_
  refine lv_aload_n C.1 C.2.1 dL_law_1849 rfl (lv_at hl 0 rfl) ?_
  refine lv_iload C.1 C.2.1 dL_law_1850 (lv_at hl 4 rfl) ?_
  refine lv_iconst (v := 3) C.1 C.2.1 dL_law_1852 (by decide) ?_
  refine lv_iadd C.1 C.2.1 dL_law_1853 ?_
  refine l_sld C X hJ hin.2.2.2.1 dL_law_1854 ?_
  refine l_mW (rest := [.int r]) C X hJ hl.1 [.int (xs (i + (1 : Int32)).toNatClampNeg), .int (xs (i + (2 : Int32)).toNatClampNeg), .int (xs (i + (3 : Int32)).toNatClampNeg)] (tm_news l h2) cwL_173 imL_news slL_news rfl ⟨by decide, by decide⟩ ⟨by omega, by omega⟩ rfl (Nat.le_of_ble_eq_true rfl) dL_law_1855 (fun H locs hJ => ?_)
  refine W.eq (g2 := F0 m 1858 ls [.int r, .int r]) rfl ?_
  refine lv_icmp_eq (tgt := 1950) C.1 C.2.1 dL_law_1858 (by decide) (fun _ => ?_) (fun h9 => absurd rfl h9)
  refine W.widen (k := cells + 2201) (n := slots + 101882) (by omega) (by omega) ?_
  exact kk S M1 o H locs ls hi1 hJ hl
theorem dL_law_1863 : decode cL_law 1863 = .ok (.aload_n 1, 1) := by decide +kernel
theorem dL_law_1864 : decode cL_law 1864 = .ok (.aload_n 0, 1) := by decide +kernel
theorem dL_law_1865 : decode cL_law 1865 = .ok (.iload 4, 2) := by decide +kernel
theorem dL_law_1867 : decode cL_law 1867 = .ok (.iconst 1, 1) := by decide +kernel
theorem dL_law_1868 : decode cL_law 1868 = .ok (.iadd, 1) := by decide +kernel
theorem dL_law_1869 : decode cL_law 1869 = .ok (.iaload, 1) := by decide +kernel
theorem dL_law_1870 : decode cL_law 1870 = .ok (.invokevirtual 174, 3) := by decide +kernel
theorem dL_law_1873 : decode cL_law 1873 = .ok (.aload_n 2, 1) := by decide +kernel
theorem dL_law_1874 : decode cL_law 1874 = .ok (.aload_n 0, 1) := by decide +kernel
theorem dL_law_1875 : decode cL_law 1875 = .ok (.iload 4, 2) := by decide +kernel
theorem dL_law_1877 : decode cL_law 1877 = .ok (.iconst 1, 1) := by decide +kernel
theorem dL_law_1878 : decode cL_law 1878 = .ok (.iadd, 1) := by decide +kernel
theorem dL_law_1879 : decode cL_law 1879 = .ok (.iaload, 1) := by decide +kernel
theorem dL_law_1880 : decode cL_law 1880 = .ok (.invokevirtual 177, 3) := by decide +kernel
theorem dL_law_1883 : decode cL_law 1883 = .ok (.if_icmp .eq 67, 3) := by decide +kernel
set_option maxRecDepth 100000 in
set_option maxHeartbeats 4000000 in
theorem wl_calm {p : Program} {l : Launch} {e : Env} {R : Room} {s : State} {m : MethodId} {args : Array Value} {below : List Frame} {meth : Method} {c : Code} {H : Heap} {locs : List Loc} {cells slots : Nat} {Q : State → Prop} {D : cG} {S S0 : cSt} {ls : Array Slot} {cM : ClassId} {iS : Nat → Nat} {cI cZ : ClassId} {mo : Nat} {ad : Nat → Nat} {oa : Nat} {cL : ClassId} {M : mSt} {o : Int64} {b L x0 : Nat} {xs : Nat → Int32} {i : Int32} {I I' : cSt → mSt → Prop} (C : cY p R s m args meth c RL cL_law 7 2048 600128 7301098 84000 (some .boolean)) (X : lX l D S0 cM iS cI cZ mo ad cL b L xs s) (hK : lC_k x0 I) (hI : lC_calm x0 I I') (hJ : lJ D S0 cM iS cI cZ mo ad oa cL s S M o H locs) (hi : I S M) (hin : lIn i L) (hce : cells + 2201 ≤ 600128 ∧ slots + 101882 ≤ 7301098) (hl : lv_has ls 7 [(0, .ref b), (1, .ref x0), (2, .ref mo), (3, .ref oa), (4, .int i)]) (kk : ∀ (S1 : cSt) (M1 : mSt) (o1 : Int64) (H1 : Heap) (locs1 : List Loc) (ls1 : Array Slot), I' S1 M1 → lJ D S0 cM iS cI cZ mo ad oa cL s S1 M1 o1 H1 locs1 → lv_has ls1 7 [(0, .ref b), (1, .ref x0), (2, .ref mo), (3, .ref oa), (4, .int i)] → W p l e R s m args below meth c H1 locs1 (cells + 2201) (slots + 101882) Q (F0 m 1950 ls1 [])) : W p l e R s m args below meth c H locs cells slots Q (F0 m 1863 ls []) := by
  obtain ⟨r, S1, M1, h1, h2, hi1⟩ := hI S M (xs (i + (1 : Int32)).toNatClampNeg) hi
  refine lv_aload_n C.1 C.2.1 dL_law_1863 rfl (lv_at hl 1 rfl) ?_
  refine lv_aload_n C.1 C.2.1 dL_law_1864 rfl (lv_at hl 0 rfl) ?_
  refine lv_iload C.1 C.2.1 dL_law_1865 (lv_at hl 4 rfl) ?_
  refine lv_iconst (v := 1) C.1 C.2.1 dL_law_1867 (by decide) ?_
  refine lv_iadd C.1 C.2.1 dL_law_1868 ?_
  refine l_sld C X hJ hin.2.1 dL_law_1869 ?_
  refine l_cW (rest := []) C X hJ hl.1 (hK S M hi) [.int (xs (i + (1 : Int32)).toNatClampNeg)] (tk_11_calm l h1) cwL_174 ki_11_calm kl_11_calm rfl ⟨by decide, by decide⟩ ⟨by omega, by omega⟩ rfl (Nat.le_of_ble_eq_true rfl) dL_law_1870 (fun H locs hJ => ?_)
  refine W.eq (g2 := F0 m 1873 ls [.int r]) rfl ?_
  refine lv_aload_n C.1 C.2.1 dL_law_1873 rfl (lv_at hl 2 rfl) ?_
  refine lv_aload_n C.1 C.2.1 dL_law_1874 rfl (lv_at hl 0 rfl) ?_
  refine lv_iload C.1 C.2.1 dL_law_1875 (lv_at hl 4 rfl) ?_
  refine lv_iconst (v := 1) C.1 C.2.1 dL_law_1877 (by decide) ?_
  refine lv_iadd C.1 C.2.1 dL_law_1878 ?_
  refine l_sld C X hJ hin.2.1 dL_law_1879 ?_
  refine l_mW (rest := [.int r]) C X hJ hl.1 [.int (xs (i + (1 : Int32)).toNatClampNeg)] (tm_calm l h2) cwL_177 imL_calm slL_calm rfl ⟨by decide, by decide⟩ ⟨by omega, by omega⟩ rfl (Nat.le_of_ble_eq_true rfl) dL_law_1880 (fun H locs hJ => ?_)
  refine W.eq (g2 := F0 m 1883 ls [.int r, .int r]) rfl ?_
  refine lv_icmp_eq (tgt := 1950) C.1 C.2.1 dL_law_1883 (by decide) (fun _ => ?_) (fun h9 => absurd rfl h9)
  refine W.widen (k := cells + 2201) (n := slots + 101882) (by omega) (by omega) ?_
  exact kk S1 M1 o H locs ls hi1 hJ hl
theorem dL_law_1888 : decode cL_law 1888 = .ok (.aload_n 1, 1) := by decide +kernel
theorem dL_law_1889 : decode cL_law 1889 = .ok (.aload_n 0, 1) := by decide +kernel
theorem dL_law_1890 : decode cL_law 1890 = .ok (.iload 4, 2) := by decide +kernel
theorem dL_law_1892 : decode cL_law 1892 = .ok (.iconst 1, 1) := by decide +kernel
theorem dL_law_1893 : decode cL_law 1893 = .ok (.iadd, 1) := by decide +kernel
theorem dL_law_1894 : decode cL_law 1894 = .ok (.iaload, 1) := by decide +kernel
theorem dL_law_1895 : decode cL_law 1895 = .ok (.aload_n 0, 1) := by decide +kernel
theorem dL_law_1896 : decode cL_law 1896 = .ok (.iload 4, 2) := by decide +kernel
theorem dL_law_1898 : decode cL_law 1898 = .ok (.iconst 2, 1) := by decide +kernel
theorem dL_law_1899 : decode cL_law 1899 = .ok (.iadd, 1) := by decide +kernel
theorem dL_law_1900 : decode cL_law 1900 = .ok (.iaload, 1) := by decide +kernel
theorem dL_law_1901 : decode cL_law 1901 = .ok (.invokevirtual 178, 3) := by decide +kernel
theorem dL_law_1904 : decode cL_law 1904 = .ok (.aload_n 2, 1) := by decide +kernel
theorem dL_law_1905 : decode cL_law 1905 = .ok (.aload_n 0, 1) := by decide +kernel
theorem dL_law_1906 : decode cL_law 1906 = .ok (.iload 4, 2) := by decide +kernel
theorem dL_law_1908 : decode cL_law 1908 = .ok (.iconst 1, 1) := by decide +kernel
theorem dL_law_1909 : decode cL_law 1909 = .ok (.iadd, 1) := by decide +kernel
theorem dL_law_1910 : decode cL_law 1910 = .ok (.iaload, 1) := by decide +kernel
theorem dL_law_1911 : decode cL_law 1911 = .ok (.aload_n 0, 1) := by decide +kernel
theorem dL_law_1912 : decode cL_law 1912 = .ok (.iload 4, 2) := by decide +kernel
theorem dL_law_1914 : decode cL_law 1914 = .ok (.iconst 2, 1) := by decide +kernel
theorem dL_law_1915 : decode cL_law 1915 = .ok (.iadd, 1) := by decide +kernel
theorem dL_law_1916 : decode cL_law 1916 = .ok (.iaload, 1) := by decide +kernel
theorem dL_law_1917 : decode cL_law 1917 = .ok (.invokevirtual 181, 3) := by decide +kernel
theorem dL_law_1920 : decode cL_law 1920 = .ok (.if_icmp .eq 30, 3) := by decide +kernel
set_option maxRecDepth 100000 in
set_option maxHeartbeats 4000000 in
theorem wl_node {p : Program} {l : Launch} {e : Env} {R : Room} {s : State} {m : MethodId} {args : Array Value} {below : List Frame} {meth : Method} {c : Code} {H : Heap} {locs : List Loc} {cells slots : Nat} {Q : State → Prop} {D : cG} {S S0 : cSt} {ls : Array Slot} {cM : ClassId} {iS : Nat → Nat} {cI cZ : ClassId} {mo : Nat} {ad : Nat → Nat} {oa : Nat} {cL : ClassId} {M : mSt} {o : Int64} {b L x0 : Nat} {xs : Nat → Int32} {i : Int32} {I I' : cSt → mSt → Prop} (C : cY p R s m args meth c RL cL_law 7 2048 600128 7301098 84000 (some .boolean)) (X : lX l D S0 cM iS cI cZ mo ad cL b L xs s) (hK : lC_k x0 I) (hI : lC_node x0 I I') (hJ : lJ D S0 cM iS cI cZ mo ad oa cL s S M o H locs) (hi : I S M) (hin : lIn i L) (hce : cells + 2201 ≤ 600128 ∧ slots + 101882 ≤ 7301098) (hl : lv_has ls 7 [(0, .ref b), (1, .ref x0), (2, .ref mo), (3, .ref oa), (4, .int i)]) (kk : ∀ (S1 : cSt) (M1 : mSt) (o1 : Int64) (H1 : Heap) (locs1 : List Loc) (ls1 : Array Slot), I' S1 M1 → lJ D S0 cM iS cI cZ mo ad oa cL s S1 M1 o1 H1 locs1 → lv_has ls1 7 [(0, .ref b), (1, .ref x0), (2, .ref mo), (3, .ref oa), (4, .int i)] → W p l e R s m args below meth c H1 locs1 (cells + 2201) (slots + 101882) Q (F0 m 1950 ls1 [])) : W p l e R s m args below meth c H locs cells slots Q (F0 m 1888 ls []) := by
  obtain ⟨r, M1, h1, h2, hi1⟩ := hI S M (xs (i + (1 : Int32)).toNatClampNeg) (xs (i + (2 : Int32)).toNatClampNeg) hi
  refine lv_aload_n C.1 C.2.1 dL_law_1888 rfl (lv_at hl 1 rfl) ?_
  refine lv_aload_n C.1 C.2.1 dL_law_1889 rfl (lv_at hl 0 rfl) ?_
  refine lv_iload C.1 C.2.1 dL_law_1890 (lv_at hl 4 rfl) ?_
  refine lv_iconst (v := 1) C.1 C.2.1 dL_law_1892 (by decide) ?_
  refine lv_iadd C.1 C.2.1 dL_law_1893 ?_
  refine l_sld C X hJ hin.2.1 dL_law_1894 ?_
  refine lv_aload_n C.1 C.2.1 dL_law_1895 rfl (lv_at hl 0 rfl) ?_
  refine lv_iload C.1 C.2.1 dL_law_1896 (lv_at hl 4 rfl) ?_
  refine lv_iconst (v := 2) C.1 C.2.1 dL_law_1898 (by decide) ?_
  refine lv_iadd C.1 C.2.1 dL_law_1899 ?_
  refine l_sld C X hJ hin.2.2.1 dL_law_1900 ?_
  refine l_cR (rest := []) C X hJ hl.1 (hK S M hi) [.int (xs (i + (1 : Int32)).toNatClampNeg), .int (xs (i + (2 : Int32)).toNatClampNeg)] (tk_11_node l h1) cwL_178 ki_11_node kl_11_node rfl ⟨by decide, by decide⟩ ⟨by omega, by omega⟩ rfl (Nat.le_of_ble_eq_true rfl) dL_law_1901 ?_
  refine W.eq (g2 := F0 m 1904 ls [.int r]) rfl ?_
  refine lv_aload_n C.1 C.2.1 dL_law_1904 rfl (lv_at hl 2 rfl) ?_
  refine lv_aload_n C.1 C.2.1 dL_law_1905 rfl (lv_at hl 0 rfl) ?_
  refine lv_iload C.1 C.2.1 dL_law_1906 (lv_at hl 4 rfl) ?_
  refine lv_iconst (v := 1) C.1 C.2.1 dL_law_1908 (by decide) ?_
  refine lv_iadd C.1 C.2.1 dL_law_1909 ?_
  refine l_sld C X hJ hin.2.1 dL_law_1910 ?_
  refine lv_aload_n C.1 C.2.1 dL_law_1911 rfl (lv_at hl 0 rfl) ?_
  refine lv_iload C.1 C.2.1 dL_law_1912 (lv_at hl 4 rfl) ?_
  refine lv_iconst (v := 2) C.1 C.2.1 dL_law_1914 (by decide) ?_
  refine lv_iadd C.1 C.2.1 dL_law_1915 ?_
  refine l_sld C X hJ hin.2.2.1 dL_law_1916 ?_
  refine l_mW (rest := [.int r]) C X hJ hl.1 [.int (xs (i + (1 : Int32)).toNatClampNeg), .int (xs (i + (2 : Int32)).toNatClampNeg)] (tm_node l h2) cwL_181 imL_node slL_node rfl ⟨by decide, by decide⟩ ⟨by omega, by omega⟩ rfl (Nat.le_of_ble_eq_true rfl) dL_law_1917 (fun H locs hJ => ?_)
  refine W.eq (g2 := F0 m 1920 ls [.int r, .int r]) rfl ?_
  refine lv_icmp_eq (tgt := 1950) C.1 C.2.1 dL_law_1920 (by decide) (fun _ => ?_) (fun h9 => absurd rfl h9)
  refine W.widen (k := cells + 2201) (n := slots + 101882) (by omega) (by omega) ?_
  exact kk S M1 o H locs ls hi1 hJ hl
theorem dL_law_1925 : decode cL_law 1925 = .ok (.aload_n 1, 1) := by decide +kernel
theorem dL_law_1926 : decode cL_law 1926 = .ok (.aload_n 0, 1) := by decide +kernel
theorem dL_law_1927 : decode cL_law 1927 = .ok (.iload 4, 2) := by decide +kernel
theorem dL_law_1929 : decode cL_law 1929 = .ok (.iconst 1, 1) := by decide +kernel
theorem dL_law_1930 : decode cL_law 1930 = .ok (.iadd, 1) := by decide +kernel
theorem dL_law_1931 : decode cL_law 1931 = .ok (.iaload, 1) := by decide +kernel
theorem dL_law_1932 : decode cL_law 1932 = .ok (.invokevirtual 182, 3) := by decide +kernel
theorem dL_law_1935 : decode cL_law 1935 = .ok (.aload_n 2, 1) := by decide +kernel
theorem dL_law_1936 : decode cL_law 1936 = .ok (.aload_n 0, 1) := by decide +kernel
theorem dL_law_1937 : decode cL_law 1937 = .ok (.iload 4, 2) := by decide +kernel
theorem dL_law_1939 : decode cL_law 1939 = .ok (.iconst 1, 1) := by decide +kernel
theorem dL_law_1940 : decode cL_law 1940 = .ok (.iadd, 1) := by decide +kernel
theorem dL_law_1941 : decode cL_law 1941 = .ok (.iaload, 1) := by decide +kernel
theorem dL_law_1942 : decode cL_law 1942 = .ok (.invokevirtual 185, 3) := by decide +kernel
theorem dL_law_1945 : decode cL_law 1945 = .ok (.if_icmp .eq 5, 3) := by decide +kernel
set_option maxRecDepth 100000 in
set_option maxHeartbeats 4000000 in
theorem wl_total {p : Program} {l : Launch} {e : Env} {R : Room} {s : State} {m : MethodId} {args : Array Value} {below : List Frame} {meth : Method} {c : Code} {H : Heap} {locs : List Loc} {cells slots : Nat} {Q : State → Prop} {D : cG} {S S0 : cSt} {ls : Array Slot} {cM : ClassId} {iS : Nat → Nat} {cI cZ : ClassId} {mo : Nat} {ad : Nat → Nat} {oa : Nat} {cL : ClassId} {M : mSt} {o : Int64} {b L x0 : Nat} {xs : Nat → Int32} {i : Int32} {I I' : cSt → mSt → Prop} (C : cY p R s m args meth c RL cL_law 7 2048 600128 7301098 84000 (some .boolean)) (X : lX l D S0 cM iS cI cZ mo ad cL b L xs s) (hK : lC_k x0 I) (hI : lC_total x0 I I') (hJ : lJ D S0 cM iS cI cZ mo ad oa cL s S M o H locs) (hi : I S M) (hin : lIn i L) (hce : cells + 2201 ≤ 600128 ∧ slots + 101882 ≤ 7301098) (hl : lv_has ls 7 [(0, .ref b), (1, .ref x0), (2, .ref mo), (3, .ref oa), (4, .int i)]) (kk : ∀ (S1 : cSt) (M1 : mSt) (o1 : Int64) (H1 : Heap) (locs1 : List Loc) (ls1 : Array Slot), I' S1 M1 → lJ D S0 cM iS cI cZ mo ad oa cL s S1 M1 o1 H1 locs1 → lv_has ls1 7 [(0, .ref b), (1, .ref x0), (2, .ref mo), (3, .ref oa), (4, .int i)] → W p l e R s m args below meth c H1 locs1 (cells + 2201) (slots + 101882) Q (F0 m 1950 ls1 [])) : W p l e R s m args below meth c H locs cells slots Q (F0 m 1925 ls []) := by
  obtain ⟨r, M1, h1, h2, hi1⟩ := hI S M (xs (i + (1 : Int32)).toNatClampNeg) hi
  refine lv_aload_n C.1 C.2.1 dL_law_1925 rfl (lv_at hl 1 rfl) ?_
  refine lv_aload_n C.1 C.2.1 dL_law_1926 rfl (lv_at hl 0 rfl) ?_
  refine lv_iload C.1 C.2.1 dL_law_1927 (lv_at hl 4 rfl) ?_
  refine lv_iconst (v := 1) C.1 C.2.1 dL_law_1929 (by decide) ?_
  refine lv_iadd C.1 C.2.1 dL_law_1930 ?_
  refine l_sld C X hJ hin.2.1 dL_law_1931 ?_
  refine l_cR (rest := []) C X hJ hl.1 (hK S M hi) [.int (xs (i + (1 : Int32)).toNatClampNeg)] (tk_11_total l h1) cwL_182 ki_11_total kl_11_total rfl ⟨by decide, by decide⟩ ⟨by omega, by omega⟩ rfl (Nat.le_of_ble_eq_true rfl) dL_law_1932 ?_
  refine W.eq (g2 := F0 m 1935 ls [.int r]) rfl ?_
  refine lv_aload_n C.1 C.2.1 dL_law_1935 rfl (lv_at hl 2 rfl) ?_
  refine lv_aload_n C.1 C.2.1 dL_law_1936 rfl (lv_at hl 0 rfl) ?_
  refine lv_iload C.1 C.2.1 dL_law_1937 (lv_at hl 4 rfl) ?_
  refine lv_iconst (v := 1) C.1 C.2.1 dL_law_1939 (by decide) ?_
  refine lv_iadd C.1 C.2.1 dL_law_1940 ?_
  refine l_sld C X hJ hin.2.1 dL_law_1941 ?_
  refine l_mW (rest := [.int r]) C X hJ hl.1 [.int (xs (i + (1 : Int32)).toNatClampNeg)] (tm_total l h2) cwL_185 imL_total slL_total rfl ⟨by decide, by decide⟩ ⟨by omega, by omega⟩ rfl (Nat.le_of_ble_eq_true rfl) dL_law_1942 (fun H locs hJ => ?_)
  refine W.eq (g2 := F0 m 1945 ls [.int r, .int r]) rfl ?_
  refine lv_icmp_eq (tgt := 1950) C.1 C.2.1 dL_law_1945 (by decide) (fun _ => ?_) (fun h9 => absurd rfl h9)
  refine W.widen (k := cells + 2201) (n := slots + 101882) (by omega) (by omega) ?_
  exact kk S M1 o H locs ls hi1 hJ hl
