-- made by wip/whole/gen15.py: the law's cases
theorem dL_law_688 : decode cL_law 688 = .ok (.aload_n 1, 1) := by decide +kernel
theorem dL_law_689 : decode cL_law 689 = .ok (.aload_n 0, 1) := by decide +kernel
theorem dL_law_690 : decode cL_law 690 = .ok (.iload 4, 2) := by decide +kernel
theorem dL_law_692 : decode cL_law 692 = .ok (.iconst 1, 1) := by decide +kernel
theorem dL_law_693 : decode cL_law 693 = .ok (.iadd, 1) := by decide +kernel
theorem dL_law_694 : decode cL_law 694 = .ok (.iaload, 1) := by decide +kernel
theorem dL_law_695 : decode cL_law 695 = .ok (.aload_n 0, 1) := by decide +kernel
theorem dL_law_696 : decode cL_law 696 = .ok (.iload 4, 2) := by decide +kernel
theorem dL_law_698 : decode cL_law 698 = .ok (.iconst 2, 1) := by decide +kernel
theorem dL_law_699 : decode cL_law 699 = .ok (.iadd, 1) := by decide +kernel
theorem dL_law_700 : decode cL_law 700 = .ok (.iaload, 1) := by decide +kernel
theorem dL_law_701 : decode cL_law 701 = .ok (.aload_n 0, 1) := by decide +kernel
theorem dL_law_702 : decode cL_law 702 = .ok (.iload 4, 2) := by decide +kernel
theorem dL_law_704 : decode cL_law 704 = .ok (.iconst 3, 1) := by decide +kernel
theorem dL_law_705 : decode cL_law 705 = .ok (.iadd, 1) := by decide +kernel
theorem dL_law_706 : decode cL_law 706 = .ok (.iaload, 1) := by decide +kernel
theorem dL_law_707 : decode cL_law 707 = .ok (.invokevirtual 82, 3) := by decide +kernel
theorem dL_law_710 : decode cL_law 710 = .ok (.aload_n 2, 1) := by decide +kernel
theorem dL_law_711 : decode cL_law 711 = .ok (.aload_n 0, 1) := by decide +kernel
theorem dL_law_712 : decode cL_law 712 = .ok (.iload 4, 2) := by decide +kernel
theorem dL_law_714 : decode cL_law 714 = .ok (.iconst 1, 1) := by decide +kernel
theorem dL_law_715 : decode cL_law 715 = .ok (.iadd, 1) := by decide +kernel
theorem dL_law_716 : decode cL_law 716 = .ok (.iaload, 1) := by decide +kernel
theorem dL_law_717 : decode cL_law 717 = .ok (.aload_n 0, 1) := by decide +kernel
theorem dL_law_718 : decode cL_law 718 = .ok (.iload 4, 2) := by decide +kernel
theorem dL_law_720 : decode cL_law 720 = .ok (.iconst 2, 1) := by decide +kernel
theorem dL_law_721 : decode cL_law 721 = .ok (.iadd, 1) := by decide +kernel
theorem dL_law_722 : decode cL_law 722 = .ok (.iaload, 1) := by decide +kernel
theorem dL_law_723 : decode cL_law 723 = .ok (.aload_n 0, 1) := by decide +kernel
theorem dL_law_724 : decode cL_law 724 = .ok (.iload 4, 2) := by decide +kernel
theorem dL_law_726 : decode cL_law 726 = .ok (.iconst 3, 1) := by decide +kernel
theorem dL_law_727 : decode cL_law 727 = .ok (.iadd, 1) := by decide +kernel
theorem dL_law_728 : decode cL_law 728 = .ok (.iaload, 1) := by decide +kernel
theorem dL_law_729 : decode cL_law 729 = .ok (.invokevirtual 85, 3) := by decide +kernel
theorem dL_law_732 : decode cL_law 732 = .ok (.if_icmp .eq 1218, 3) := by decide +kernel
set_option maxRecDepth 100000 in
set_option maxHeartbeats 4000000 in
theorem wl_listed {p : Program} {l : Launch} {e : Env} {R : Room} {s : State} {m : MethodId} {args : Array Value} {below : List Frame} {meth : Method} {c : Code} {H : Heap} {locs : List Loc} {cells slots : Nat} {Q : State → Prop} {D : cG} {S S0 : cSt} {ls : Array Slot} {cM : ClassId} {iS : Nat → Nat} {cI cZ : ClassId} {mo : Nat} {ad : Nat → Nat} {oa : Nat} {cL : ClassId} {M : mSt} {o : Int64} {b L x0 : Nat} {xs : Nat → Int32} {i : Int32} {I I' : cSt → mSt → Prop} (C : cY p R s m args meth c RL cL_law 7 2048 600128 7301098 84000 (some .boolean)) (X : lX l D S0 cM iS cI cZ mo ad cL b L xs s) (hK : lC_k x0 I) (hI : lC_listed x0 I I') (hJ : lJ D S0 cM iS cI cZ mo ad oa cL s S M o H locs) (hi : I S M) (hin : lIn i L) (hce : cells + 2201 ≤ 600128 ∧ slots + 101882 ≤ 7301098) (hl : lv_has ls 7 [(0, .ref b), (1, .ref x0), (2, .ref mo), (3, .ref oa), (4, .int i)]) (kk : ∀ (S1 : cSt) (M1 : mSt) (o1 : Int64) (H1 : Heap) (locs1 : List Loc) (ls1 : Array Slot), I' S1 M1 → lJ D S0 cM iS cI cZ mo ad oa cL s S1 M1 o1 H1 locs1 → lv_has ls1 7 [(0, .ref b), (1, .ref x0), (2, .ref mo), (3, .ref oa), (4, .int i)] → W p l e R s m args below meth c H1 locs1 (cells + 2201) (slots + 101882) Q (F0 m 1950 ls1 [])) : W p l e R s m args below meth c H locs cells slots Q (F0 m 688 ls []) := by
  obtain ⟨r, M1, h1, h2, hi1⟩ := hI S M (xs (i + (1 : Int32)).toNatClampNeg) (xs (i + (2 : Int32)).toNatClampNeg) (xs (i + (3 : Int32)).toNatClampNeg) hi
  refine lv_aload_n C.1 C.2.1 dL_law_688 rfl (lv_at hl 1 rfl) ?_
  refine lv_aload_n C.1 C.2.1 dL_law_689 rfl (lv_at hl 0 rfl) ?_
  refine lv_iload C.1 C.2.1 dL_law_690 (lv_at hl 4 rfl) ?_
  refine lv_iconst (v := 1) C.1 C.2.1 dL_law_692 (by decide) ?_
  refine lv_iadd C.1 C.2.1 dL_law_693 ?_
  refine l_sld C X hJ hin.2.1 dL_law_694 ?_
  refine lv_aload_n C.1 C.2.1 dL_law_695 rfl (lv_at hl 0 rfl) ?_
  refine lv_iload C.1 C.2.1 dL_law_696 (lv_at hl 4 rfl) ?_
  refine lv_iconst (v := 2) C.1 C.2.1 dL_law_698 (by decide) ?_
  refine lv_iadd C.1 C.2.1 dL_law_699 ?_
  refine l_sld C X hJ hin.2.2.1 dL_law_700 ?_
  refine lv_aload_n C.1 C.2.1 dL_law_701 rfl (lv_at hl 0 rfl) ?_
  refine lv_iload C.1 C.2.1 dL_law_702 (lv_at hl 4 rfl) ?_
  refine lv_iconst (v := 3) C.1 C.2.1 dL_law_704 (by decide) ?_
  refine lv_iadd C.1 C.2.1 dL_law_705 ?_
  refine l_sld C X hJ hin.2.2.2.1 dL_law_706 ?_
  refine l_cR (rest := []) C X hJ hl.1 (hK S M hi) [.int (xs (i + (1 : Int32)).toNatClampNeg), .int (xs (i + (2 : Int32)).toNatClampNeg), .int (xs (i + (3 : Int32)).toNatClampNeg)] (tk_11_listed l h1) cwL_82 ki_11_listed kl_11_listed rfl ⟨by decide, by decide⟩ ⟨by omega, by omega⟩ rfl (Nat.le_of_ble_eq_true rfl) dL_law_707 ?_
  refine W.eq (g2 := F0 m 710 ls [.int r]) rfl ?_
  refine lv_aload_n C.1 C.2.1 dL_law_710 rfl (lv_at hl 2 rfl) ?_
  refine lv_aload_n C.1 C.2.1 dL_law_711 rfl (lv_at hl 0 rfl) ?_
  refine lv_iload C.1 C.2.1 dL_law_712 (lv_at hl 4 rfl) ?_
  refine lv_iconst (v := 1) C.1 C.2.1 dL_law_714 (by decide) ?_
  refine lv_iadd C.1 C.2.1 dL_law_715 ?_
  refine l_sld C X hJ hin.2.1 dL_law_716 ?_
  refine lv_aload_n C.1 C.2.1 dL_law_717 rfl (lv_at hl 0 rfl) ?_
  refine lv_iload C.1 C.2.1 dL_law_718 (lv_at hl 4 rfl) ?_
  refine lv_iconst (v := 2) C.1 C.2.1 dL_law_720 (by decide) ?_
  refine lv_iadd C.1 C.2.1 dL_law_721 ?_
  refine l_sld C X hJ hin.2.2.1 dL_law_722 ?_
  refine lv_aload_n C.1 C.2.1 dL_law_723 rfl (lv_at hl 0 rfl) ?_
  refine lv_iload C.1 C.2.1 dL_law_724 (lv_at hl 4 rfl) ?_
  refine lv_iconst (v := 3) C.1 C.2.1 dL_law_726 (by decide) ?_
  refine lv_iadd C.1 C.2.1 dL_law_727 ?_
  refine l_sld C X hJ hin.2.2.2.1 dL_law_728 ?_
  refine l_mW (rest := [.int r]) C X hJ hl.1 [.int (xs (i + (1 : Int32)).toNatClampNeg), .int (xs (i + (2 : Int32)).toNatClampNeg), .int (xs (i + (3 : Int32)).toNatClampNeg)] (tm_listed l h2) cwL_85 imL_listed slL_listed rfl ⟨by decide, by decide⟩ ⟨by omega, by omega⟩ rfl (Nat.le_of_ble_eq_true rfl) dL_law_729 (fun H locs hJ => ?_)
  refine W.eq (g2 := F0 m 732 ls [.int r, .int r]) rfl ?_
  refine lv_icmp_eq (tgt := 1950) C.1 C.2.1 dL_law_732 (by decide) (fun _ => ?_) (fun h9 => absurd rfl h9)
  refine W.widen (k := cells + 2201) (n := slots + 101882) (by omega) (by omega) ?_
  exact kk S M1 o H locs ls hi1 hJ hl
theorem dL_law_737 : decode cL_law 737 = .ok (.aload_n 1, 1) := by decide +kernel
theorem dL_law_738 : decode cL_law 738 = .ok (.aload_n 0, 1) := by decide +kernel
theorem dL_law_739 : decode cL_law 739 = .ok (.iload 4, 2) := by decide +kernel
theorem dL_law_741 : decode cL_law 741 = .ok (.iconst 1, 1) := by decide +kernel
theorem dL_law_742 : decode cL_law 742 = .ok (.iadd, 1) := by decide +kernel
theorem dL_law_743 : decode cL_law 743 = .ok (.iaload, 1) := by decide +kernel
theorem dL_law_744 : decode cL_law 744 = .ok (.aload_n 0, 1) := by decide +kernel
theorem dL_law_745 : decode cL_law 745 = .ok (.iload 4, 2) := by decide +kernel
theorem dL_law_747 : decode cL_law 747 = .ok (.iconst 2, 1) := by decide +kernel
theorem dL_law_748 : decode cL_law 748 = .ok (.iadd, 1) := by decide +kernel
theorem dL_law_749 : decode cL_law 749 = .ok (.iaload, 1) := by decide +kernel
theorem dL_law_750 : decode cL_law 750 = .ok (.aload_n 0, 1) := by decide +kernel
theorem dL_law_751 : decode cL_law 751 = .ok (.iload 4, 2) := by decide +kernel
theorem dL_law_753 : decode cL_law 753 = .ok (.iconst 3, 1) := by decide +kernel
theorem dL_law_754 : decode cL_law 754 = .ok (.iadd, 1) := by decide +kernel
theorem dL_law_755 : decode cL_law 755 = .ok (.iaload, 1) := by decide +kernel
theorem dL_law_756 : decode cL_law 756 = .ok (.invokevirtual 86, 3) := by decide +kernel
theorem dL_law_759 : decode cL_law 759 = .ok (.aload_n 2, 1) := by decide +kernel
theorem dL_law_760 : decode cL_law 760 = .ok (.aload_n 0, 1) := by decide +kernel
theorem dL_law_761 : decode cL_law 761 = .ok (.iload 4, 2) := by decide +kernel
theorem dL_law_763 : decode cL_law 763 = .ok (.iconst 1, 1) := by decide +kernel
theorem dL_law_764 : decode cL_law 764 = .ok (.iadd, 1) := by decide +kernel
theorem dL_law_765 : decode cL_law 765 = .ok (.iaload, 1) := by decide +kernel
theorem dL_law_766 : decode cL_law 766 = .ok (.aload_n 0, 1) := by decide +kernel
theorem dL_law_767 : decode cL_law 767 = .ok (.iload 4, 2) := by decide +kernel
theorem dL_law_769 : decode cL_law 769 = .ok (.iconst 2, 1) := by decide +kernel
theorem dL_law_770 : decode cL_law 770 = .ok (.iadd, 1) := by decide +kernel
theorem dL_law_771 : decode cL_law 771 = .ok (.iaload, 1) := by decide +kernel
theorem dL_law_772 : decode cL_law 772 = .ok (.aload_n 0, 1) := by decide +kernel
theorem dL_law_773 : decode cL_law 773 = .ok (.iload 4, 2) := by decide +kernel
theorem dL_law_775 : decode cL_law 775 = .ok (.iconst 3, 1) := by decide +kernel
theorem dL_law_776 : decode cL_law 776 = .ok (.iadd, 1) := by decide +kernel
theorem dL_law_777 : decode cL_law 777 = .ok (.iaload, 1) := by decide +kernel
theorem dL_law_778 : decode cL_law 778 = .ok (.invokevirtual 89, 3) := by decide +kernel
theorem dL_law_781 : decode cL_law 781 = .ok (.if_icmp .eq 1169, 3) := by decide +kernel
set_option maxRecDepth 100000 in
set_option maxHeartbeats 4000000 in
theorem wl_turned {p : Program} {l : Launch} {e : Env} {R : Room} {s : State} {m : MethodId} {args : Array Value} {below : List Frame} {meth : Method} {c : Code} {H : Heap} {locs : List Loc} {cells slots : Nat} {Q : State → Prop} {D : cG} {S S0 : cSt} {ls : Array Slot} {cM : ClassId} {iS : Nat → Nat} {cI cZ : ClassId} {mo : Nat} {ad : Nat → Nat} {oa : Nat} {cL : ClassId} {M : mSt} {o : Int64} {b L x0 : Nat} {xs : Nat → Int32} {i : Int32} {I I' : cSt → mSt → Prop} (C : cY p R s m args meth c RL cL_law 7 2048 600128 7301098 84000 (some .boolean)) (X : lX l D S0 cM iS cI cZ mo ad cL b L xs s) (hK : lC_k x0 I) (hI : lC_turned x0 I I') (hJ : lJ D S0 cM iS cI cZ mo ad oa cL s S M o H locs) (hi : I S M) (hin : lIn i L) (hce : cells + 2201 ≤ 600128 ∧ slots + 101882 ≤ 7301098) (hl : lv_has ls 7 [(0, .ref b), (1, .ref x0), (2, .ref mo), (3, .ref oa), (4, .int i)]) (kk : ∀ (S1 : cSt) (M1 : mSt) (o1 : Int64) (H1 : Heap) (locs1 : List Loc) (ls1 : Array Slot), I' S1 M1 → lJ D S0 cM iS cI cZ mo ad oa cL s S1 M1 o1 H1 locs1 → lv_has ls1 7 [(0, .ref b), (1, .ref x0), (2, .ref mo), (3, .ref oa), (4, .int i)] → W p l e R s m args below meth c H1 locs1 (cells + 2201) (slots + 101882) Q (F0 m 1950 ls1 [])) : W p l e R s m args below meth c H locs cells slots Q (F0 m 737 ls []) := by
  obtain ⟨r, M1, h1, h2, hi1⟩ := hI S M (xs (i + (1 : Int32)).toNatClampNeg) (xs (i + (2 : Int32)).toNatClampNeg) (xs (i + (3 : Int32)).toNatClampNeg) hi
  refine lv_aload_n C.1 C.2.1 dL_law_737 rfl (lv_at hl 1 rfl) ?_
  refine lv_aload_n C.1 C.2.1 dL_law_738 rfl (lv_at hl 0 rfl) ?_
  refine lv_iload C.1 C.2.1 dL_law_739 (lv_at hl 4 rfl) ?_
  refine lv_iconst (v := 1) C.1 C.2.1 dL_law_741 (by decide) ?_
  refine lv_iadd C.1 C.2.1 dL_law_742 ?_
  refine l_sld C X hJ hin.2.1 dL_law_743 ?_
  refine lv_aload_n C.1 C.2.1 dL_law_744 rfl (lv_at hl 0 rfl) ?_
  refine lv_iload C.1 C.2.1 dL_law_745 (lv_at hl 4 rfl) ?_
  refine lv_iconst (v := 2) C.1 C.2.1 dL_law_747 (by decide) ?_
  refine lv_iadd C.1 C.2.1 dL_law_748 ?_
  refine l_sld C X hJ hin.2.2.1 dL_law_749 ?_
  refine lv_aload_n C.1 C.2.1 dL_law_750 rfl (lv_at hl 0 rfl) ?_
  refine lv_iload C.1 C.2.1 dL_law_751 (lv_at hl 4 rfl) ?_
  refine lv_iconst (v := 3) C.1 C.2.1 dL_law_753 (by decide) ?_
  refine lv_iadd C.1 C.2.1 dL_law_754 ?_
  refine l_sld C X hJ hin.2.2.2.1 dL_law_755 ?_
  refine l_cR (rest := []) C X hJ hl.1 (hK S M hi) [.int (xs (i + (1 : Int32)).toNatClampNeg), .int (xs (i + (2 : Int32)).toNatClampNeg), .int (xs (i + (3 : Int32)).toNatClampNeg)] (tk_11_turned l h1) cwL_86 ki_11_turned kl_11_turned rfl ⟨by decide, by decide⟩ ⟨by omega, by omega⟩ rfl (Nat.le_of_ble_eq_true rfl) dL_law_756 ?_
  refine W.eq (g2 := F0 m 759 ls [.int r]) rfl ?_
  refine lv_aload_n C.1 C.2.1 dL_law_759 rfl (lv_at hl 2 rfl) ?_
  refine lv_aload_n C.1 C.2.1 dL_law_760 rfl (lv_at hl 0 rfl) ?_
  refine lv_iload C.1 C.2.1 dL_law_761 (lv_at hl 4 rfl) ?_
  refine lv_iconst (v := 1) C.1 C.2.1 dL_law_763 (by decide) ?_
  refine lv_iadd C.1 C.2.1 dL_law_764 ?_
  refine l_sld C X hJ hin.2.1 dL_law_765 ?_
  refine lv_aload_n C.1 C.2.1 dL_law_766 rfl (lv_at hl 0 rfl) ?_
  refine lv_iload C.1 C.2.1 dL_law_767 (lv_at hl 4 rfl) ?_
  refine lv_iconst (v := 2) C.1 C.2.1 dL_law_769 (by decide) ?_
  refine lv_iadd C.1 C.2.1 dL_law_770 ?_
  refine l_sld C X hJ hin.2.2.1 dL_law_771 ?_
  refine lv_aload_n C.1 C.2.1 dL_law_772 rfl (lv_at hl 0 rfl) ?_
  refine lv_iload C.1 C.2.1 dL_law_773 (lv_at hl 4 rfl) ?_
  refine lv_iconst (v := 3) C.1 C.2.1 dL_law_775 (by decide) ?_
  refine lv_iadd C.1 C.2.1 dL_law_776 ?_
  refine l_sld C X hJ hin.2.2.2.1 dL_law_777 ?_
  refine l_mW (rest := [.int r]) C X hJ hl.1 [.int (xs (i + (1 : Int32)).toNatClampNeg), .int (xs (i + (2 : Int32)).toNatClampNeg), .int (xs (i + (3 : Int32)).toNatClampNeg)] (tm_turned l h2) cwL_89 imL_turned slL_turned rfl ⟨by decide, by decide⟩ ⟨by omega, by omega⟩ rfl (Nat.le_of_ble_eq_true rfl) dL_law_778 (fun H locs hJ => ?_)
  refine W.eq (g2 := F0 m 781 ls [.int r, .int r]) rfl ?_
  refine lv_icmp_eq (tgt := 1950) C.1 C.2.1 dL_law_781 (by decide) (fun _ => ?_) (fun h9 => absurd rfl h9)
  refine W.widen (k := cells + 2201) (n := slots + 101882) (by omega) (by omega) ?_
  exact kk S M1 o H locs ls hi1 hJ hl
theorem dL_law_786 : decode cL_law 786 = .ok (.aload_n 1, 1) := by decide +kernel
theorem dL_law_787 : decode cL_law 787 = .ok (.aload_n 0, 1) := by decide +kernel
theorem dL_law_788 : decode cL_law 788 = .ok (.iload 4, 2) := by decide +kernel
theorem dL_law_790 : decode cL_law 790 = .ok (.iconst 1, 1) := by decide +kernel
theorem dL_law_791 : decode cL_law 791 = .ok (.iadd, 1) := by decide +kernel
theorem dL_law_792 : decode cL_law 792 = .ok (.iaload, 1) := by decide +kernel
theorem dL_law_793 : decode cL_law 793 = .ok (.aload_n 0, 1) := by decide +kernel
theorem dL_law_794 : decode cL_law 794 = .ok (.iload 4, 2) := by decide +kernel
theorem dL_law_796 : decode cL_law 796 = .ok (.iconst 2, 1) := by decide +kernel
theorem dL_law_797 : decode cL_law 797 = .ok (.iadd, 1) := by decide +kernel
theorem dL_law_798 : decode cL_law 798 = .ok (.iaload, 1) := by decide +kernel
theorem dL_law_799 : decode cL_law 799 = .ok (.aload_n 0, 1) := by decide +kernel
theorem dL_law_800 : decode cL_law 800 = .ok (.iload 4, 2) := by decide +kernel
theorem dL_law_802 : decode cL_law 802 = .ok (.iconst 3, 1) := by decide +kernel
theorem dL_law_803 : decode cL_law 803 = .ok (.iadd, 1) := by decide +kernel
theorem dL_law_804 : decode cL_law 804 = .ok (.iaload, 1) := by decide +kernel
theorem dL_law_805 : decode cL_law 805 = .ok (.ifCond .eq 7, 3) := by decide +kernel
theorem dL_law_808 : decode cL_law 808 = .ok (.iconst 1, 1) := by decide +kernel
theorem dL_law_809 : decode cL_law 809 = .ok (.goto 4, 3) := by decide +kernel
theorem dL_law_812 : decode cL_law 812 = .ok (.iconst 0, 1) := by decide +kernel
theorem dL_law_813 : decode cL_law 813 = .ok (.invokevirtual 90, 3) := by decide +kernel
theorem dL_law_816 : decode cL_law 816 = .ok (.aload_n 2, 1) := by decide +kernel
theorem dL_law_817 : decode cL_law 817 = .ok (.aload_n 0, 1) := by decide +kernel
theorem dL_law_818 : decode cL_law 818 = .ok (.iload 4, 2) := by decide +kernel
theorem dL_law_820 : decode cL_law 820 = .ok (.iconst 1, 1) := by decide +kernel
theorem dL_law_821 : decode cL_law 821 = .ok (.iadd, 1) := by decide +kernel
theorem dL_law_822 : decode cL_law 822 = .ok (.iaload, 1) := by decide +kernel
theorem dL_law_823 : decode cL_law 823 = .ok (.aload_n 0, 1) := by decide +kernel
theorem dL_law_824 : decode cL_law 824 = .ok (.iload 4, 2) := by decide +kernel
theorem dL_law_826 : decode cL_law 826 = .ok (.iconst 2, 1) := by decide +kernel
theorem dL_law_827 : decode cL_law 827 = .ok (.iadd, 1) := by decide +kernel
theorem dL_law_828 : decode cL_law 828 = .ok (.iaload, 1) := by decide +kernel
theorem dL_law_829 : decode cL_law 829 = .ok (.aload_n 0, 1) := by decide +kernel
theorem dL_law_830 : decode cL_law 830 = .ok (.iload 4, 2) := by decide +kernel
theorem dL_law_832 : decode cL_law 832 = .ok (.iconst 3, 1) := by decide +kernel
theorem dL_law_833 : decode cL_law 833 = .ok (.iadd, 1) := by decide +kernel
theorem dL_law_834 : decode cL_law 834 = .ok (.iaload, 1) := by decide +kernel
theorem dL_law_835 : decode cL_law 835 = .ok (.ifCond .eq 7, 3) := by decide +kernel
theorem dL_law_838 : decode cL_law 838 = .ok (.iconst 1, 1) := by decide +kernel
theorem dL_law_839 : decode cL_law 839 = .ok (.goto 4, 3) := by decide +kernel
theorem dL_law_842 : decode cL_law 842 = .ok (.iconst 0, 1) := by decide +kernel
theorem dL_law_843 : decode cL_law 843 = .ok (.invokevirtual 94, 3) := by decide +kernel
theorem dL_law_846 : decode cL_law 846 = .ok (.if_icmp .eq 1104, 3) := by decide +kernel
set_option maxRecDepth 100000 in
set_option maxHeartbeats 4000000 in
theorem wl_send {p : Program} {l : Launch} {e : Env} {R : Room} {s : State} {m : MethodId} {args : Array Value} {below : List Frame} {meth : Method} {c : Code} {H : Heap} {locs : List Loc} {cells slots : Nat} {Q : State → Prop} {D : cG} {S S0 : cSt} {ls : Array Slot} {cM : ClassId} {iS : Nat → Nat} {cI cZ : ClassId} {mo : Nat} {ad : Nat → Nat} {oa : Nat} {cL : ClassId} {M : mSt} {o : Int64} {b L x0 : Nat} {xs : Nat → Int32} {i : Int32} {I I' : cSt → mSt → Prop} (C : cY p R s m args meth c RL cL_law 7 2048 600128 7301098 84000 (some .boolean)) (X : lX l D S0 cM iS cI cZ mo ad cL b L xs s) (hK : lC_k x0 I) (hI : lC_send x0 I I') (hJ : lJ D S0 cM iS cI cZ mo ad oa cL s S M o H locs) (hi : I S M) (hin : lIn i L) (hce : cells + 2201 ≤ 600128 ∧ slots + 101882 ≤ 7301098) (hl : lv_has ls 7 [(0, .ref b), (1, .ref x0), (2, .ref mo), (3, .ref oa), (4, .int i)]) (kk : ∀ (S1 : cSt) (M1 : mSt) (o1 : Int64) (H1 : Heap) (locs1 : List Loc) (ls1 : Array Slot), I' S1 M1 → lJ D S0 cM iS cI cZ mo ad oa cL s S1 M1 o1 H1 locs1 → lv_has ls1 7 [(0, .ref b), (1, .ref x0), (2, .ref mo), (3, .ref oa), (4, .int i)] → W p l e R s m args below meth c H1 locs1 (cells + 2201) (slots + 101882) Q (F0 m 1950 ls1 [])) : W p l e R s m args below meth c H locs cells slots Q (F0 m 786 ls []) := by
  have key : ∀ v3 : Int32, ((xs (i + (3 : Int32)).toNatClampNeg) = 0 → v3 = 0) → (¬ (xs (i + (3 : Int32)).toNatClampNeg) = 0 → v3 = 1) → W p l e R s m args below meth c H locs cells slots Q (F0 m 813 ls [.int v3, .int (xs (i + (2 : Int32)).toNatClampNeg), .int (xs (i + (1 : Int32)).toNatClampNeg), .ref x0]) := by
    intro v3 e0 e1
    have hv3 : v3 = 0 ∨ v3 = 1 := by by_cases q : (xs (i + (3 : Int32)).toNatClampNeg) = 0; exact Or.inl (e0 q); exact Or.inr (e1 q)
    obtain ⟨r, S1, M1, h1, h2, hi1⟩ := hI S M (xs (i + (1 : Int32)).toNatClampNeg) (xs (i + (2 : Int32)).toNatClampNeg) v3 hi hv3
    refine l_cW (rest := []) C X hJ hl.1 (hK S M hi) [.int (xs (i + (1 : Int32)).toNatClampNeg), .int (xs (i + (2 : Int32)).toNatClampNeg), .int v3] (tk_11_send l h1) cwL_90 ki_11_send kl_11_send rfl ⟨by decide, by decide⟩ ⟨by omega, by omega⟩ rfl (Nat.le_of_ble_eq_true rfl) dL_law_813 (fun H locs hJ => ?_)
    refine W.eq (g2 := F0 m 816 ls [.int r]) rfl ?_
    refine lv_aload_n C.1 C.2.1 dL_law_816 rfl (lv_at hl 2 rfl) ?_
    refine lv_aload_n C.1 C.2.1 dL_law_817 rfl (lv_at hl 0 rfl) ?_
    refine lv_iload C.1 C.2.1 dL_law_818 (lv_at hl 4 rfl) ?_
    refine lv_iconst (v := 1) C.1 C.2.1 dL_law_820 (by decide) ?_
    refine lv_iadd C.1 C.2.1 dL_law_821 ?_
    refine l_sld C X hJ hin.2.1 dL_law_822 ?_
    refine lv_aload_n C.1 C.2.1 dL_law_823 rfl (lv_at hl 0 rfl) ?_
    refine lv_iload C.1 C.2.1 dL_law_824 (lv_at hl 4 rfl) ?_
    refine lv_iconst (v := 2) C.1 C.2.1 dL_law_826 (by decide) ?_
    refine lv_iadd C.1 C.2.1 dL_law_827 ?_
    refine l_sld C X hJ hin.2.2.1 dL_law_828 ?_
    refine lv_aload_n C.1 C.2.1 dL_law_829 rfl (lv_at hl 0 rfl) ?_
    refine lv_iload C.1 C.2.1 dL_law_830 (lv_at hl 4 rfl) ?_
    refine lv_iconst (v := 3) C.1 C.2.1 dL_law_832 (by decide) ?_
    refine lv_iadd C.1 C.2.1 dL_law_833 ?_
    refine l_sld C X hJ hin.2.2.2.1 dL_law_834 ?_
    refine lv_if_eq (tgt := 842) C.1 C.2.1 dL_law_835 (by decide) (fun q => ?_) (fun q => ?_)
    · have e9 := e0 q; subst e9
      refine lv_iconst (v := 0) C.1 C.2.1 dL_law_842 (by decide) ?_
      refine W.eq (g2 := F0 m 843 ls [.int 0, .int (xs (i + (2 : Int32)).toNatClampNeg), .int (xs (i + (1 : Int32)).toNatClampNeg), .ref mo, .int r]) rfl ?_
      refine l_mW (rest := [.int r]) C X hJ hl.1 [.int (xs (i + (1 : Int32)).toNatClampNeg), .int (xs (i + (2 : Int32)).toNatClampNeg), .int 0] (tm_send l h2) cwL_94 imL_send slL_send rfl ⟨by decide, by decide⟩ ⟨by omega, by omega⟩ rfl (Nat.le_of_ble_eq_true rfl) dL_law_843 (fun H locs hJ => ?_)
      refine W.eq (g2 := F0 m 846 ls [.int r, .int r]) rfl ?_
      refine lv_icmp_eq (tgt := 1950) C.1 C.2.1 dL_law_846 (by decide) (fun _ => ?_) (fun h9 => absurd rfl h9)
      refine W.widen (k := cells + 2201) (n := slots + 101882) (by omega) (by omega) ?_
      exact kk S1 M1 o H locs ls hi1 hJ hl
    · have e9 := e1 q; subst e9
      refine lv_iconst (v := 1) C.1 C.2.1 dL_law_838 (by decide) ?_
      refine lv_goto (tgt := 843) C.1 C.2.1 dL_law_839 (by decide) ?_
      refine l_mW (rest := [.int r]) C X hJ hl.1 [.int (xs (i + (1 : Int32)).toNatClampNeg), .int (xs (i + (2 : Int32)).toNatClampNeg), .int 1] (tm_send l h2) cwL_94 imL_send slL_send rfl ⟨by decide, by decide⟩ ⟨by omega, by omega⟩ rfl (Nat.le_of_ble_eq_true rfl) dL_law_843 (fun H locs hJ => ?_)
      refine W.eq (g2 := F0 m 846 ls [.int r, .int r]) rfl ?_
      refine lv_icmp_eq (tgt := 1950) C.1 C.2.1 dL_law_846 (by decide) (fun _ => ?_) (fun h9 => absurd rfl h9)
      refine W.widen (k := cells + 2201) (n := slots + 101882) (by omega) (by omega) ?_
      exact kk S1 M1 o H locs ls hi1 hJ hl
  refine lv_aload_n C.1 C.2.1 dL_law_786 rfl (lv_at hl 1 rfl) ?_
  refine lv_aload_n C.1 C.2.1 dL_law_787 rfl (lv_at hl 0 rfl) ?_
  refine lv_iload C.1 C.2.1 dL_law_788 (lv_at hl 4 rfl) ?_
  refine lv_iconst (v := 1) C.1 C.2.1 dL_law_790 (by decide) ?_
  refine lv_iadd C.1 C.2.1 dL_law_791 ?_
  refine l_sld C X hJ hin.2.1 dL_law_792 ?_
  refine lv_aload_n C.1 C.2.1 dL_law_793 rfl (lv_at hl 0 rfl) ?_
  refine lv_iload C.1 C.2.1 dL_law_794 (lv_at hl 4 rfl) ?_
  refine lv_iconst (v := 2) C.1 C.2.1 dL_law_796 (by decide) ?_
  refine lv_iadd C.1 C.2.1 dL_law_797 ?_
  refine l_sld C X hJ hin.2.2.1 dL_law_798 ?_
  refine lv_aload_n C.1 C.2.1 dL_law_799 rfl (lv_at hl 0 rfl) ?_
  refine lv_iload C.1 C.2.1 dL_law_800 (lv_at hl 4 rfl) ?_
  refine lv_iconst (v := 3) C.1 C.2.1 dL_law_802 (by decide) ?_
  refine lv_iadd C.1 C.2.1 dL_law_803 ?_
  refine l_sld C X hJ hin.2.2.2.1 dL_law_804 ?_
  refine lv_if_eq (tgt := 812) C.1 C.2.1 dL_law_805 (by decide) (fun q => ?_) (fun q => ?_)
  · refine lv_iconst (v := 0) C.1 C.2.1 dL_law_812 (by decide) ?_
    refine W.eq (g2 := F0 m 813 ls [.int 0, .int (xs (i + (2 : Int32)).toNatClampNeg), .int (xs (i + (1 : Int32)).toNatClampNeg), .ref x0]) rfl ?_
    exact key 0 (fun _ => rfl) (fun h => absurd q h)
  · refine lv_iconst (v := 1) C.1 C.2.1 dL_law_808 (by decide) ?_
    refine lv_goto (tgt := 813) C.1 C.2.1 dL_law_809 (by decide) ?_
    exact key 1 (fun h => absurd h q) (fun _ => rfl)
theorem dL_law_851 : decode cL_law 851 = .ok (.aload_n 1, 1) := by decide +kernel
theorem dL_law_852 : decode cL_law 852 = .ok (.aload_n 0, 1) := by decide +kernel
theorem dL_law_853 : decode cL_law 853 = .ok (.iload 4, 2) := by decide +kernel
theorem dL_law_855 : decode cL_law 855 = .ok (.iconst 1, 1) := by decide +kernel
theorem dL_law_856 : decode cL_law 856 = .ok (.iadd, 1) := by decide +kernel
theorem dL_law_857 : decode cL_law 857 = .ok (.iaload, 1) := by decide +kernel
theorem dL_law_858 : decode cL_law 858 = .ok (.invokevirtual 95, 3) := by decide +kernel
theorem dL_law_861 : decode cL_law 861 = .ok (.aload_n 2, 1) := by decide +kernel
theorem dL_law_862 : decode cL_law 862 = .ok (.aload_n 0, 1) := by decide +kernel
theorem dL_law_863 : decode cL_law 863 = .ok (.iload 4, 2) := by decide +kernel
theorem dL_law_865 : decode cL_law 865 = .ok (.iconst 1, 1) := by decide +kernel
theorem dL_law_866 : decode cL_law 866 = .ok (.iadd, 1) := by decide +kernel
theorem dL_law_867 : decode cL_law 867 = .ok (.iaload, 1) := by decide +kernel
theorem dL_law_868 : decode cL_law 868 = .ok (.invokevirtual 99, 3) := by decide +kernel
theorem dL_law_871 : decode cL_law 871 = .ok (.if_icmp .eq 1079, 3) := by decide +kernel
set_option maxRecDepth 100000 in
set_option maxHeartbeats 4000000 in
theorem wl_deliver {p : Program} {l : Launch} {e : Env} {R : Room} {s : State} {m : MethodId} {args : Array Value} {below : List Frame} {meth : Method} {c : Code} {H : Heap} {locs : List Loc} {cells slots : Nat} {Q : State → Prop} {D : cG} {S S0 : cSt} {ls : Array Slot} {cM : ClassId} {iS : Nat → Nat} {cI cZ : ClassId} {mo : Nat} {ad : Nat → Nat} {oa : Nat} {cL : ClassId} {M : mSt} {o : Int64} {b L x0 : Nat} {xs : Nat → Int32} {i : Int32} {I I' : cSt → mSt → Prop} (C : cY p R s m args meth c RL cL_law 7 2048 600128 7301098 84000 (some .boolean)) (X : lX l D S0 cM iS cI cZ mo ad cL b L xs s) (hK : lC_k x0 I) (hI : lC_deliver x0 I I') (hJ : lJ D S0 cM iS cI cZ mo ad oa cL s S M o H locs) (hi : I S M) (hin : lIn i L) (hce : cells + 2201 ≤ 600128 ∧ slots + 101882 ≤ 7301098) (hl : lv_has ls 7 [(0, .ref b), (1, .ref x0), (2, .ref mo), (3, .ref oa), (4, .int i)]) (kk : ∀ (S1 : cSt) (M1 : mSt) (o1 : Int64) (H1 : Heap) (locs1 : List Loc) (ls1 : Array Slot), I' S1 M1 → lJ D S0 cM iS cI cZ mo ad oa cL s S1 M1 o1 H1 locs1 → lv_has ls1 7 [(0, .ref b), (1, .ref x0), (2, .ref mo), (3, .ref oa), (4, .int i)] → W p l e R s m args below meth c H1 locs1 (cells + 2201) (slots + 101882) Q (F0 m 1950 ls1 [])) : W p l e R s m args below meth c H locs cells slots Q (F0 m 851 ls []) := by
  obtain ⟨r, S1, M1, h1, h2, hi1⟩ := hI S M (xs (i + (1 : Int32)).toNatClampNeg) hi
  refine lv_aload_n C.1 C.2.1 dL_law_851 rfl (lv_at hl 1 rfl) ?_
  refine lv_aload_n C.1 C.2.1 dL_law_852 rfl (lv_at hl 0 rfl) ?_
  refine lv_iload C.1 C.2.1 dL_law_853 (lv_at hl 4 rfl) ?_
  refine lv_iconst (v := 1) C.1 C.2.1 dL_law_855 (by decide) ?_
  refine lv_iadd C.1 C.2.1 dL_law_856 ?_
  refine l_sld C X hJ hin.2.1 dL_law_857 ?_
  refine l_cW (rest := []) C X hJ hl.1 (hK S M hi) [.int (xs (i + (1 : Int32)).toNatClampNeg)] (tk_11_deliver l h1) cwL_95 ki_11_deliver kl_11_deliver rfl ⟨by decide, by decide⟩ ⟨by omega, by omega⟩ rfl (Nat.le_of_ble_eq_true rfl) dL_law_858 (fun H locs hJ => ?_)
  refine W.eq (g2 := F0 m 861 ls [.int r]) rfl ?_
  refine lv_aload_n C.1 C.2.1 dL_law_861 rfl (lv_at hl 2 rfl) ?_
  refine lv_aload_n C.1 C.2.1 dL_law_862 rfl (lv_at hl 0 rfl) ?_
  refine lv_iload C.1 C.2.1 dL_law_863 (lv_at hl 4 rfl) ?_
  refine lv_iconst (v := 1) C.1 C.2.1 dL_law_865 (by decide) ?_
  refine lv_iadd C.1 C.2.1 dL_law_866 ?_
  refine l_sld C X hJ hin.2.1 dL_law_867 ?_
  refine l_mW (rest := [.int r]) C X hJ hl.1 [.int (xs (i + (1 : Int32)).toNatClampNeg)] (tm_deliver l h2) cwL_99 imL_deliver slL_deliver rfl ⟨by decide, by decide⟩ ⟨by omega, by omega⟩ rfl (Nat.le_of_ble_eq_true rfl) dL_law_868 (fun H locs hJ => ?_)
  refine W.eq (g2 := F0 m 871 ls [.int r, .int r]) rfl ?_
  refine lv_icmp_eq (tgt := 1950) C.1 C.2.1 dL_law_871 (by decide) (fun _ => ?_) (fun h9 => absurd rfl h9)
  refine W.widen (k := cells + 2201) (n := slots + 101882) (by omega) (by omega) ?_
  exact kk S1 M1 o H locs ls hi1 hJ hl
theorem dL_law_876 : decode cL_law 876 = .ok (.aload_n 1, 1) := by decide +kernel
theorem dL_law_877 : decode cL_law 877 = .ok (.aload_n 0, 1) := by decide +kernel
theorem dL_law_878 : decode cL_law 878 = .ok (.iload 4, 2) := by decide +kernel
theorem dL_law_880 : decode cL_law 880 = .ok (.iconst 1, 1) := by decide +kernel
theorem dL_law_881 : decode cL_law 881 = .ok (.iadd, 1) := by decide +kernel
theorem dL_law_882 : decode cL_law 882 = .ok (.iaload, 1) := by decide +kernel
theorem dL_law_883 : decode cL_law 883 = .ok (.invokevirtual 100, 3) := by decide +kernel
theorem dL_law_886 : decode cL_law 886 = .ok (.aload_n 2, 1) := by decide +kernel
theorem dL_law_887 : decode cL_law 887 = .ok (.aload_n 0, 1) := by decide +kernel
theorem dL_law_888 : decode cL_law 888 = .ok (.iload 4, 2) := by decide +kernel
theorem dL_law_890 : decode cL_law 890 = .ok (.iconst 1, 1) := by decide +kernel
theorem dL_law_891 : decode cL_law 891 = .ok (.iadd, 1) := by decide +kernel
theorem dL_law_892 : decode cL_law 892 = .ok (.iaload, 1) := by decide +kernel
theorem dL_law_893 : decode cL_law 893 = .ok (.invokevirtual 104, 3) := by decide +kernel
theorem dL_law_896 : decode cL_law 896 = .ok (.if_icmp .eq 1054, 3) := by decide +kernel
set_option maxRecDepth 100000 in
set_option maxHeartbeats 4000000 in
theorem wl_lose {p : Program} {l : Launch} {e : Env} {R : Room} {s : State} {m : MethodId} {args : Array Value} {below : List Frame} {meth : Method} {c : Code} {H : Heap} {locs : List Loc} {cells slots : Nat} {Q : State → Prop} {D : cG} {S S0 : cSt} {ls : Array Slot} {cM : ClassId} {iS : Nat → Nat} {cI cZ : ClassId} {mo : Nat} {ad : Nat → Nat} {oa : Nat} {cL : ClassId} {M : mSt} {o : Int64} {b L x0 : Nat} {xs : Nat → Int32} {i : Int32} {I I' : cSt → mSt → Prop} (C : cY p R s m args meth c RL cL_law 7 2048 600128 7301098 84000 (some .boolean)) (X : lX l D S0 cM iS cI cZ mo ad cL b L xs s) (hK : lC_k x0 I) (hI : lC_lose x0 I I') (hJ : lJ D S0 cM iS cI cZ mo ad oa cL s S M o H locs) (hi : I S M) (hin : lIn i L) (hce : cells + 2201 ≤ 600128 ∧ slots + 101882 ≤ 7301098) (hl : lv_has ls 7 [(0, .ref b), (1, .ref x0), (2, .ref mo), (3, .ref oa), (4, .int i)]) (kk : ∀ (S1 : cSt) (M1 : mSt) (o1 : Int64) (H1 : Heap) (locs1 : List Loc) (ls1 : Array Slot), I' S1 M1 → lJ D S0 cM iS cI cZ mo ad oa cL s S1 M1 o1 H1 locs1 → lv_has ls1 7 [(0, .ref b), (1, .ref x0), (2, .ref mo), (3, .ref oa), (4, .int i)] → W p l e R s m args below meth c H1 locs1 (cells + 2201) (slots + 101882) Q (F0 m 1950 ls1 [])) : W p l e R s m args below meth c H locs cells slots Q (F0 m 876 ls []) := by
  obtain ⟨r, S1, M1, h1, h2, hi1⟩ := hI S M (xs (i + (1 : Int32)).toNatClampNeg) hi
  refine lv_aload_n C.1 C.2.1 dL_law_876 rfl (lv_at hl 1 rfl) ?_
  refine lv_aload_n C.1 C.2.1 dL_law_877 rfl (lv_at hl 0 rfl) ?_
  refine lv_iload C.1 C.2.1 dL_law_878 (lv_at hl 4 rfl) ?_
  refine lv_iconst (v := 1) C.1 C.2.1 dL_law_880 (by decide) ?_
  refine lv_iadd C.1 C.2.1 dL_law_881 ?_
  refine l_sld C X hJ hin.2.1 dL_law_882 ?_
  refine l_cW (rest := []) C X hJ hl.1 (hK S M hi) [.int (xs (i + (1 : Int32)).toNatClampNeg)] (tk_11_lose l h1) cwL_100 ki_11_lose kl_11_lose rfl ⟨by decide, by decide⟩ ⟨by omega, by omega⟩ rfl (Nat.le_of_ble_eq_true rfl) dL_law_883 (fun H locs hJ => ?_)
  refine W.eq (g2 := F0 m 886 ls [.int r]) rfl ?_
  refine lv_aload_n C.1 C.2.1 dL_law_886 rfl (lv_at hl 2 rfl) ?_
  refine lv_aload_n C.1 C.2.1 dL_law_887 rfl (lv_at hl 0 rfl) ?_
  refine lv_iload C.1 C.2.1 dL_law_888 (lv_at hl 4 rfl) ?_
  refine lv_iconst (v := 1) C.1 C.2.1 dL_law_890 (by decide) ?_
  refine lv_iadd C.1 C.2.1 dL_law_891 ?_
  refine l_sld C X hJ hin.2.1 dL_law_892 ?_
  refine l_mW (rest := [.int r]) C X hJ hl.1 [.int (xs (i + (1 : Int32)).toNatClampNeg)] (tm_lose l h2) cwL_104 imL_lose slL_lose rfl ⟨by decide, by decide⟩ ⟨by omega, by omega⟩ rfl (Nat.le_of_ble_eq_true rfl) dL_law_893 (fun H locs hJ => ?_)
  refine W.eq (g2 := F0 m 896 ls [.int r, .int r]) rfl ?_
  refine lv_icmp_eq (tgt := 1950) C.1 C.2.1 dL_law_896 (by decide) (fun _ => ?_) (fun h9 => absurd rfl h9)
  refine W.widen (k := cells + 2201) (n := slots + 101882) (by omega) (by omega) ?_
  exact kk S1 M1 o H locs ls hi1 hJ hl
theorem dL_law_901 : decode cL_law 901 = .ok (.aload_n 1, 1) := by decide +kernel
theorem dL_law_902 : decode cL_law 902 = .ok (.aload_n 0, 1) := by decide +kernel
theorem dL_law_903 : decode cL_law 903 = .ok (.iload 4, 2) := by decide +kernel
theorem dL_law_905 : decode cL_law 905 = .ok (.iconst 1, 1) := by decide +kernel
theorem dL_law_906 : decode cL_law 906 = .ok (.iadd, 1) := by decide +kernel
theorem dL_law_907 : decode cL_law 907 = .ok (.iaload, 1) := by decide +kernel
theorem dL_law_908 : decode cL_law 908 = .ok (.invokevirtual 105, 3) := by decide +kernel
theorem dL_law_911 : decode cL_law 911 = .ok (.aload_n 2, 1) := by decide +kernel
theorem dL_law_912 : decode cL_law 912 = .ok (.aload_n 0, 1) := by decide +kernel
theorem dL_law_913 : decode cL_law 913 = .ok (.iload 4, 2) := by decide +kernel
theorem dL_law_915 : decode cL_law 915 = .ok (.iconst 1, 1) := by decide +kernel
theorem dL_law_916 : decode cL_law 916 = .ok (.iadd, 1) := by decide +kernel
theorem dL_law_917 : decode cL_law 917 = .ok (.iaload, 1) := by decide +kernel
theorem dL_law_918 : decode cL_law 918 = .ok (.invokevirtual 108, 3) := by decide +kernel
theorem dL_law_921 : decode cL_law 921 = .ok (.if_icmp .eq 1029, 3) := by decide +kernel
set_option maxRecDepth 100000 in
set_option maxHeartbeats 4000000 in
theorem wl_twice {p : Program} {l : Launch} {e : Env} {R : Room} {s : State} {m : MethodId} {args : Array Value} {below : List Frame} {meth : Method} {c : Code} {H : Heap} {locs : List Loc} {cells slots : Nat} {Q : State → Prop} {D : cG} {S S0 : cSt} {ls : Array Slot} {cM : ClassId} {iS : Nat → Nat} {cI cZ : ClassId} {mo : Nat} {ad : Nat → Nat} {oa : Nat} {cL : ClassId} {M : mSt} {o : Int64} {b L x0 : Nat} {xs : Nat → Int32} {i : Int32} {I I' : cSt → mSt → Prop} (C : cY p R s m args meth c RL cL_law 7 2048 600128 7301098 84000 (some .boolean)) (X : lX l D S0 cM iS cI cZ mo ad cL b L xs s) (hK : lC_k x0 I) (hI : lC_twice x0 I I') (hJ : lJ D S0 cM iS cI cZ mo ad oa cL s S M o H locs) (hi : I S M) (hin : lIn i L) (hce : cells + 2201 ≤ 600128 ∧ slots + 101882 ≤ 7301098) (hl : lv_has ls 7 [(0, .ref b), (1, .ref x0), (2, .ref mo), (3, .ref oa), (4, .int i)]) (kk : ∀ (S1 : cSt) (M1 : mSt) (o1 : Int64) (H1 : Heap) (locs1 : List Loc) (ls1 : Array Slot), I' S1 M1 → lJ D S0 cM iS cI cZ mo ad oa cL s S1 M1 o1 H1 locs1 → lv_has ls1 7 [(0, .ref b), (1, .ref x0), (2, .ref mo), (3, .ref oa), (4, .int i)] → W p l e R s m args below meth c H1 locs1 (cells + 2201) (slots + 101882) Q (F0 m 1950 ls1 [])) : W p l e R s m args below meth c H locs cells slots Q (F0 m 901 ls []) := by
  obtain ⟨r, S1, M1, h1, h2, hi1⟩ := hI S M (xs (i + (1 : Int32)).toNatClampNeg) hi
  refine lv_aload_n C.1 C.2.1 dL_law_901 rfl (lv_at hl 1 rfl) ?_
  refine lv_aload_n C.1 C.2.1 dL_law_902 rfl (lv_at hl 0 rfl) ?_
  refine lv_iload C.1 C.2.1 dL_law_903 (lv_at hl 4 rfl) ?_
  refine lv_iconst (v := 1) C.1 C.2.1 dL_law_905 (by decide) ?_
  refine lv_iadd C.1 C.2.1 dL_law_906 ?_
  refine l_sld C X hJ hin.2.1 dL_law_907 ?_
  refine l_cW (rest := []) C X hJ hl.1 (hK S M hi) [.int (xs (i + (1 : Int32)).toNatClampNeg)] (tk_11_twice l h1) cwL_105 ki_11_twice kl_11_twice rfl ⟨by decide, by decide⟩ ⟨by omega, by omega⟩ rfl (Nat.le_of_ble_eq_true rfl) dL_law_908 (fun H locs hJ => ?_)
  refine W.eq (g2 := F0 m 911 ls [.int r]) rfl ?_
  refine lv_aload_n C.1 C.2.1 dL_law_911 rfl (lv_at hl 2 rfl) ?_
  refine lv_aload_n C.1 C.2.1 dL_law_912 rfl (lv_at hl 0 rfl) ?_
  refine lv_iload C.1 C.2.1 dL_law_913 (lv_at hl 4 rfl) ?_
  refine lv_iconst (v := 1) C.1 C.2.1 dL_law_915 (by decide) ?_
  refine lv_iadd C.1 C.2.1 dL_law_916 ?_
  refine l_sld C X hJ hin.2.1 dL_law_917 ?_
  refine l_mW (rest := [.int r]) C X hJ hl.1 [.int (xs (i + (1 : Int32)).toNatClampNeg)] (tm_twice l h2) cwL_108 imL_twice slL_twice rfl ⟨by decide, by decide⟩ ⟨by omega, by omega⟩ rfl (Nat.le_of_ble_eq_true rfl) dL_law_918 (fun H locs hJ => ?_)
  refine W.eq (g2 := F0 m 921 ls [.int r, .int r]) rfl ?_
  refine lv_icmp_eq (tgt := 1950) C.1 C.2.1 dL_law_921 (by decide) (fun _ => ?_) (fun h9 => absurd rfl h9)
  refine W.widen (k := cells + 2201) (n := slots + 101882) (by omega) (by omega) ?_
  exact kk S1 M1 o H locs ls hi1 hJ hl
theorem dL_law_926 : decode cL_law 926 = .ok (.aload_n 1, 1) := by decide +kernel
theorem dL_law_927 : decode cL_law 927 = .ok (.aload_n 0, 1) := by decide +kernel
theorem dL_law_928 : decode cL_law 928 = .ok (.iload 4, 2) := by decide +kernel
theorem dL_law_930 : decode cL_law 930 = .ok (.iconst 1, 1) := by decide +kernel
theorem dL_law_931 : decode cL_law 931 = .ok (.iadd, 1) := by decide +kernel
theorem dL_law_932 : decode cL_law 932 = .ok (.iaload, 1) := by decide +kernel
theorem dL_law_933 : decode cL_law 933 = .ok (.aload_n 0, 1) := by decide +kernel
theorem dL_law_934 : decode cL_law 934 = .ok (.iload 4, 2) := by decide +kernel
theorem dL_law_936 : decode cL_law 936 = .ok (.iconst 2, 1) := by decide +kernel
theorem dL_law_937 : decode cL_law 937 = .ok (.iadd, 1) := by decide +kernel
theorem dL_law_938 : decode cL_law 938 = .ok (.iaload, 1) := by decide +kernel
theorem dL_law_939 : decode cL_law 939 = .ok (.invokevirtual 109, 3) := by decide +kernel
theorem dL_law_942 : decode cL_law 942 = .ok (.aload_n 2, 1) := by decide +kernel
theorem dL_law_943 : decode cL_law 943 = .ok (.aload_n 0, 1) := by decide +kernel
theorem dL_law_944 : decode cL_law 944 = .ok (.iload 4, 2) := by decide +kernel
theorem dL_law_946 : decode cL_law 946 = .ok (.iconst 1, 1) := by decide +kernel
theorem dL_law_947 : decode cL_law 947 = .ok (.iadd, 1) := by decide +kernel
theorem dL_law_948 : decode cL_law 948 = .ok (.iaload, 1) := by decide +kernel
theorem dL_law_949 : decode cL_law 949 = .ok (.aload_n 0, 1) := by decide +kernel
theorem dL_law_950 : decode cL_law 950 = .ok (.iload 4, 2) := by decide +kernel
theorem dL_law_952 : decode cL_law 952 = .ok (.iconst 2, 1) := by decide +kernel
theorem dL_law_953 : decode cL_law 953 = .ok (.iadd, 1) := by decide +kernel
theorem dL_law_954 : decode cL_law 954 = .ok (.iaload, 1) := by decide +kernel
theorem dL_law_955 : decode cL_law 955 = .ok (.invokevirtual 112, 3) := by decide +kernel
theorem dL_law_958 : decode cL_law 958 = .ok (.if_icmp .eq 992, 3) := by decide +kernel
set_option maxRecDepth 100000 in
set_option maxHeartbeats 4000000 in
theorem wl_octet {p : Program} {l : Launch} {e : Env} {R : Room} {s : State} {m : MethodId} {args : Array Value} {below : List Frame} {meth : Method} {c : Code} {H : Heap} {locs : List Loc} {cells slots : Nat} {Q : State → Prop} {D : cG} {S S0 : cSt} {ls : Array Slot} {cM : ClassId} {iS : Nat → Nat} {cI cZ : ClassId} {mo : Nat} {ad : Nat → Nat} {oa : Nat} {cL : ClassId} {M : mSt} {o : Int64} {b L x0 : Nat} {xs : Nat → Int32} {i : Int32} {I I' : cSt → mSt → Prop} (C : cY p R s m args meth c RL cL_law 7 2048 600128 7301098 84000 (some .boolean)) (X : lX l D S0 cM iS cI cZ mo ad cL b L xs s) (hK : lC_k x0 I) (hI : lC_octet x0 I I') (hJ : lJ D S0 cM iS cI cZ mo ad oa cL s S M o H locs) (hi : I S M) (hin : lIn i L) (hce : cells + 2201 ≤ 600128 ∧ slots + 101882 ≤ 7301098) (hl : lv_has ls 7 [(0, .ref b), (1, .ref x0), (2, .ref mo), (3, .ref oa), (4, .int i)]) (kk : ∀ (S1 : cSt) (M1 : mSt) (o1 : Int64) (H1 : Heap) (locs1 : List Loc) (ls1 : Array Slot), I' S1 M1 → lJ D S0 cM iS cI cZ mo ad oa cL s S1 M1 o1 H1 locs1 → lv_has ls1 7 [(0, .ref b), (1, .ref x0), (2, .ref mo), (3, .ref oa), (4, .int i)] → W p l e R s m args below meth c H1 locs1 (cells + 2201) (slots + 101882) Q (F0 m 1950 ls1 [])) : W p l e R s m args below meth c H locs cells slots Q (F0 m 926 ls []) := by
  obtain ⟨r, S1, M1, h1, h2, hi1⟩ := hI S M (xs (i + (1 : Int32)).toNatClampNeg) (xs (i + (2 : Int32)).toNatClampNeg) hi
  refine lv_aload_n C.1 C.2.1 dL_law_926 rfl (lv_at hl 1 rfl) ?_
  refine lv_aload_n C.1 C.2.1 dL_law_927 rfl (lv_at hl 0 rfl) ?_
  refine lv_iload C.1 C.2.1 dL_law_928 (lv_at hl 4 rfl) ?_
  refine lv_iconst (v := 1) C.1 C.2.1 dL_law_930 (by decide) ?_
  refine lv_iadd C.1 C.2.1 dL_law_931 ?_
  refine l_sld C X hJ hin.2.1 dL_law_932 ?_
  refine lv_aload_n C.1 C.2.1 dL_law_933 rfl (lv_at hl 0 rfl) ?_
  refine lv_iload C.1 C.2.1 dL_law_934 (lv_at hl 4 rfl) ?_
  refine lv_iconst (v := 2) C.1 C.2.1 dL_law_936 (by decide) ?_
  refine lv_iadd C.1 C.2.1 dL_law_937 ?_
  refine l_sld C X hJ hin.2.2.1 dL_law_938 ?_
  refine l_cW (rest := []) C X hJ hl.1 (hK S M hi) [.int (xs (i + (1 : Int32)).toNatClampNeg), .int (xs (i + (2 : Int32)).toNatClampNeg)] (tk_11_octet l h1) cwL_109 ki_11_octet kl_11_octet rfl ⟨by decide, by decide⟩ ⟨by omega, by omega⟩ rfl (Nat.le_of_ble_eq_true rfl) dL_law_939 (fun H locs hJ => ?_)
  refine W.eq (g2 := F0 m 942 ls [.int r]) rfl ?_
  refine lv_aload_n C.1 C.2.1 dL_law_942 rfl (lv_at hl 2 rfl) ?_
  refine lv_aload_n C.1 C.2.1 dL_law_943 rfl (lv_at hl 0 rfl) ?_
  refine lv_iload C.1 C.2.1 dL_law_944 (lv_at hl 4 rfl) ?_
  refine lv_iconst (v := 1) C.1 C.2.1 dL_law_946 (by decide) ?_
  refine lv_iadd C.1 C.2.1 dL_law_947 ?_
  refine l_sld C X hJ hin.2.1 dL_law_948 ?_
  refine lv_aload_n C.1 C.2.1 dL_law_949 rfl (lv_at hl 0 rfl) ?_
  refine lv_iload C.1 C.2.1 dL_law_950 (lv_at hl 4 rfl) ?_
  refine lv_iconst (v := 2) C.1 C.2.1 dL_law_952 (by decide) ?_
  refine lv_iadd C.1 C.2.1 dL_law_953 ?_
  refine l_sld C X hJ hin.2.2.1 dL_law_954 ?_
  refine l_mW (rest := [.int r]) C X hJ hl.1 [.int (xs (i + (1 : Int32)).toNatClampNeg), .int (xs (i + (2 : Int32)).toNatClampNeg)] (tm_octet l h2) cwL_112 imL_octet slL_octet rfl ⟨by decide, by decide⟩ ⟨by omega, by omega⟩ rfl (Nat.le_of_ble_eq_true rfl) dL_law_955 (fun H locs hJ => ?_)
  refine W.eq (g2 := F0 m 958 ls [.int r, .int r]) rfl ?_
  refine lv_icmp_eq (tgt := 1950) C.1 C.2.1 dL_law_958 (by decide) (fun _ => ?_) (fun h9 => absurd rfl h9)
  refine W.widen (k := cells + 2201) (n := slots + 101882) (by omega) (by omega) ?_
  exact kk S1 M1 o H locs ls hi1 hJ hl
theorem dL_law_963 : decode cL_law 963 = .ok (.aload_n 1, 1) := by decide +kernel
theorem dL_law_964 : decode cL_law 964 = .ok (.aload_n 0, 1) := by decide +kernel
theorem dL_law_965 : decode cL_law 965 = .ok (.iload 4, 2) := by decide +kernel
theorem dL_law_967 : decode cL_law 967 = .ok (.iconst 1, 1) := by decide +kernel
theorem dL_law_968 : decode cL_law 968 = .ok (.iadd, 1) := by decide +kernel
theorem dL_law_969 : decode cL_law 969 = .ok (.iaload, 1) := by decide +kernel
theorem dL_law_970 : decode cL_law 970 = .ok (.aload_n 0, 1) := by decide +kernel
theorem dL_law_971 : decode cL_law 971 = .ok (.iload 4, 2) := by decide +kernel
theorem dL_law_973 : decode cL_law 973 = .ok (.iconst 2, 1) := by decide +kernel
theorem dL_law_974 : decode cL_law 974 = .ok (.iadd, 1) := by decide +kernel
theorem dL_law_975 : decode cL_law 975 = .ok (.iaload, 1) := by decide +kernel
theorem dL_law_976 : decode cL_law 976 = .ok (.aload_n 0, 1) := by decide +kernel
theorem dL_law_977 : decode cL_law 977 = .ok (.iload 4, 2) := by decide +kernel
theorem dL_law_979 : decode cL_law 979 = .ok (.iconst 3, 1) := by decide +kernel
theorem dL_law_980 : decode cL_law 980 = .ok (.iadd, 1) := by decide +kernel
theorem dL_law_981 : decode cL_law 981 = .ok (.iaload, 1) := by decide +kernel
theorem dL_law_982 : decode cL_law 982 = .ok (.invokevirtual 113, 3) := by decide +kernel
theorem dL_law_985 : decode cL_law 985 = .ok (.aload_n 2, 1) := by decide +kernel
theorem dL_law_986 : decode cL_law 986 = .ok (.aload_n 0, 1) := by decide +kernel
theorem dL_law_987 : decode cL_law 987 = .ok (.iload 4, 2) := by decide +kernel
theorem dL_law_989 : decode cL_law 989 = .ok (.iconst 1, 1) := by decide +kernel
theorem dL_law_990 : decode cL_law 990 = .ok (.iadd, 1) := by decide +kernel
theorem dL_law_991 : decode cL_law 991 = .ok (.iaload, 1) := by decide +kernel
theorem dL_law_992 : decode cL_law 992 = .ok (.aload_n 0, 1) := by decide +kernel
theorem dL_law_993 : decode cL_law 993 = .ok (.iload 4, 2) := by decide +kernel
theorem dL_law_995 : decode cL_law 995 = .ok (.iconst 2, 1) := by decide +kernel
theorem dL_law_996 : decode cL_law 996 = .ok (.iadd, 1) := by decide +kernel
theorem dL_law_997 : decode cL_law 997 = .ok (.iaload, 1) := by decide +kernel
theorem dL_law_998 : decode cL_law 998 = .ok (.aload_n 0, 1) := by decide +kernel
theorem dL_law_999 : decode cL_law 999 = .ok (.iload 4, 2) := by decide +kernel
theorem dL_law_1001 : decode cL_law 1001 = .ok (.iconst 3, 1) := by decide +kernel
theorem dL_law_1002 : decode cL_law 1002 = .ok (.iadd, 1) := by decide +kernel
theorem dL_law_1003 : decode cL_law 1003 = .ok (.iaload, 1) := by decide +kernel
theorem dL_law_1004 : decode cL_law 1004 = .ok (.invokevirtual 117, 3) := by decide +kernel
theorem dL_law_1007 : decode cL_law 1007 = .ok (.if_icmp .eq 943, 3) := by decide +kernel
set_option maxRecDepth 100000 in
set_option maxHeartbeats 4000000 in
theorem wl_bend {p : Program} {l : Launch} {e : Env} {R : Room} {s : State} {m : MethodId} {args : Array Value} {below : List Frame} {meth : Method} {c : Code} {H : Heap} {locs : List Loc} {cells slots : Nat} {Q : State → Prop} {D : cG} {S S0 : cSt} {ls : Array Slot} {cM : ClassId} {iS : Nat → Nat} {cI cZ : ClassId} {mo : Nat} {ad : Nat → Nat} {oa : Nat} {cL : ClassId} {M : mSt} {o : Int64} {b L x0 : Nat} {xs : Nat → Int32} {i : Int32} {I I' : cSt → mSt → Prop} (C : cY p R s m args meth c RL cL_law 7 2048 600128 7301098 84000 (some .boolean)) (X : lX l D S0 cM iS cI cZ mo ad cL b L xs s) (hK : lC_k x0 I) (hI : lC_bend x0 I I') (hJ : lJ D S0 cM iS cI cZ mo ad oa cL s S M o H locs) (hi : I S M) (hin : lIn i L) (hce : cells + 2201 ≤ 600128 ∧ slots + 101882 ≤ 7301098) (hl : lv_has ls 7 [(0, .ref b), (1, .ref x0), (2, .ref mo), (3, .ref oa), (4, .int i)]) (kk : ∀ (S1 : cSt) (M1 : mSt) (o1 : Int64) (H1 : Heap) (locs1 : List Loc) (ls1 : Array Slot), I' S1 M1 → lJ D S0 cM iS cI cZ mo ad oa cL s S1 M1 o1 H1 locs1 → lv_has ls1 7 [(0, .ref b), (1, .ref x0), (2, .ref mo), (3, .ref oa), (4, .int i)] → W p l e R s m args below meth c H1 locs1 (cells + 2201) (slots + 101882) Q (F0 m 1950 ls1 [])) : W p l e R s m args below meth c H locs cells slots Q (F0 m 963 ls []) := by
  obtain ⟨r, S1, M1, h1, h2, hi1⟩ := hI S M (xs (i + (1 : Int32)).toNatClampNeg) (xs (i + (2 : Int32)).toNatClampNeg) (xs (i + (3 : Int32)).toNatClampNeg) hi
  refine lv_aload_n C.1 C.2.1 dL_law_963 rfl (lv_at hl 1 rfl) ?_
  refine lv_aload_n C.1 C.2.1 dL_law_964 rfl (lv_at hl 0 rfl) ?_
  refine lv_iload C.1 C.2.1 dL_law_965 (lv_at hl 4 rfl) ?_
  refine lv_iconst (v := 1) C.1 C.2.1 dL_law_967 (by decide) ?_
  refine lv_iadd C.1 C.2.1 dL_law_968 ?_
  refine l_sld C X hJ hin.2.1 dL_law_969 ?_
  refine lv_aload_n C.1 C.2.1 dL_law_970 rfl (lv_at hl 0 rfl) ?_
  refine lv_iload C.1 C.2.1 dL_law_971 (lv_at hl 4 rfl) ?_
  refine lv_iconst (v := 2) C.1 C.2.1 dL_law_973 (by decide) ?_
  refine lv_iadd C.1 C.2.1 dL_law_974 ?_
  refine l_sld C X hJ hin.2.2.1 dL_law_975 ?_
  refine lv_aload_n C.1 C.2.1 dL_law_976 rfl (lv_at hl 0 rfl) ?_
  refine lv_iload C.1 C.2.1 dL_law_977 (lv_at hl 4 rfl) ?_
  refine lv_iconst (v := 3) C.1 C.2.1 dL_law_979 (by decide) ?_
  refine lv_iadd C.1 C.2.1 dL_law_980 ?_
  refine l_sld C X hJ hin.2.2.2.1 dL_law_981 ?_
  refine l_cW (rest := []) C X hJ hl.1 (hK S M hi) [.int (xs (i + (1 : Int32)).toNatClampNeg), .int (xs (i + (2 : Int32)).toNatClampNeg), .int (xs (i + (3 : Int32)).toNatClampNeg)] (tk_11_bend l h1) cwL_113 ki_11_bend kl_11_bend rfl ⟨by decide, by decide⟩ ⟨by omega, by omega⟩ rfl (Nat.le_of_ble_eq_true rfl) dL_law_982 (fun H locs hJ => ?_)
  refine W.eq (g2 := F0 m 985 ls [.int r]) rfl ?_
  refine lv_aload_n C.1 C.2.1 dL_law_985 rfl (lv_at hl 2 rfl) ?_
  refine lv_aload_n C.1 C.2.1 dL_law_986 rfl (lv_at hl 0 rfl) ?_
  refine lv_iload C.1 C.2.1 dL_law_987 (lv_at hl 4 rfl) ?_
  refine lv_iconst (v := 1) C.1 C.2.1 dL_law_989 (by decide) ?_
  refine lv_iadd C.1 C.2.1 dL_law_990 ?_
  refine l_sld C X hJ hin.2.1 dL_law_991 ?_
  refine lv_aload_n C.1 C.2.1 dL_law_992 rfl (lv_at hl 0 rfl) ?_
  refine lv_iload C.1 C.2.1 dL_law_993 (lv_at hl 4 rfl) ?_
  refine lv_iconst (v := 2) C.1 C.2.1 dL_law_995 (by decide) ?_
  refine lv_iadd C.1 C.2.1 dL_law_996 ?_
  refine l_sld C X hJ hin.2.2.1 dL_law_997 ?_
  refine lv_aload_n C.1 C.2.1 dL_law_998 rfl (lv_at hl 0 rfl) ?_
  refine lv_iload C.1 C.2.1 dL_law_999 (lv_at hl 4 rfl) ?_
  refine lv_iconst (v := 3) C.1 C.2.1 dL_law_1001 (by decide) ?_
  refine lv_iadd C.1 C.2.1 dL_law_1002 ?_
  refine l_sld C X hJ hin.2.2.2.1 dL_law_1003 ?_
  refine l_mW (rest := [.int r]) C X hJ hl.1 [.int (xs (i + (1 : Int32)).toNatClampNeg), .int (xs (i + (2 : Int32)).toNatClampNeg), .int (xs (i + (3 : Int32)).toNatClampNeg)] (tm_bend l h2) cwL_117 imL_bend slL_bend rfl ⟨by decide, by decide⟩ ⟨by omega, by omega⟩ rfl (Nat.le_of_ble_eq_true rfl) dL_law_1004 (fun H locs hJ => ?_)
  refine W.eq (g2 := F0 m 1007 ls [.int r, .int r]) rfl ?_
  refine lv_icmp_eq (tgt := 1950) C.1 C.2.1 dL_law_1007 (by decide) (fun _ => ?_) (fun h9 => absurd rfl h9)
  refine W.widen (k := cells + 2201) (n := slots + 101882) (by omega) (by omega) ?_
  exact kk S1 M1 o H locs ls hi1 hJ hl
theorem dL_law_1012 : decode cL_law 1012 = .ok (.aload_n 1, 1) := by decide +kernel
theorem dL_law_1013 : decode cL_law 1013 = .ok (.aload_n 0, 1) := by decide +kernel
theorem dL_law_1014 : decode cL_law 1014 = .ok (.iload 4, 2) := by decide +kernel
theorem dL_law_1016 : decode cL_law 1016 = .ok (.iconst 1, 1) := by decide +kernel
theorem dL_law_1017 : decode cL_law 1017 = .ok (.iadd, 1) := by decide +kernel
theorem dL_law_1018 : decode cL_law 1018 = .ok (.iaload, 1) := by decide +kernel
theorem dL_law_1019 : decode cL_law 1019 = .ok (.aload_n 0, 1) := by decide +kernel
theorem dL_law_1020 : decode cL_law 1020 = .ok (.iload 4, 2) := by decide +kernel
theorem dL_law_1022 : decode cL_law 1022 = .ok (.iconst 2, 1) := by decide +kernel
theorem dL_law_1023 : decode cL_law 1023 = .ok (.iadd, 1) := by decide +kernel
theorem dL_law_1024 : decode cL_law 1024 = .ok (.iaload, 1) := by decide +kernel
theorem dL_law_1025 : decode cL_law 1025 = .ok (.invokevirtual 118, 3) := by decide +kernel
theorem dL_law_1028 : decode cL_law 1028 = .ok (.aload_n 2, 1) := by decide +kernel
theorem dL_law_1029 : decode cL_law 1029 = .ok (.aload_n 0, 1) := by decide +kernel
theorem dL_law_1030 : decode cL_law 1030 = .ok (.iload 4, 2) := by decide +kernel
theorem dL_law_1032 : decode cL_law 1032 = .ok (.iconst 1, 1) := by decide +kernel
theorem dL_law_1033 : decode cL_law 1033 = .ok (.iadd, 1) := by decide +kernel
theorem dL_law_1034 : decode cL_law 1034 = .ok (.iaload, 1) := by decide +kernel
theorem dL_law_1035 : decode cL_law 1035 = .ok (.aload_n 0, 1) := by decide +kernel
theorem dL_law_1036 : decode cL_law 1036 = .ok (.iload 4, 2) := by decide +kernel
theorem dL_law_1038 : decode cL_law 1038 = .ok (.iconst 2, 1) := by decide +kernel
theorem dL_law_1039 : decode cL_law 1039 = .ok (.iadd, 1) := by decide +kernel
theorem dL_law_1040 : decode cL_law 1040 = .ok (.iaload, 1) := by decide +kernel
theorem dL_law_1041 : decode cL_law 1041 = .ok (.invokevirtual 122, 3) := by decide +kernel
theorem dL_law_1044 : decode cL_law 1044 = .ok (.if_icmp .eq 906, 3) := by decide +kernel
set_option maxRecDepth 100000 in
set_option maxHeartbeats 4000000 in
theorem wl_join {p : Program} {l : Launch} {e : Env} {R : Room} {s : State} {m : MethodId} {args : Array Value} {below : List Frame} {meth : Method} {c : Code} {H : Heap} {locs : List Loc} {cells slots : Nat} {Q : State → Prop} {D : cG} {S S0 : cSt} {ls : Array Slot} {cM : ClassId} {iS : Nat → Nat} {cI cZ : ClassId} {mo : Nat} {ad : Nat → Nat} {oa : Nat} {cL : ClassId} {M : mSt} {o : Int64} {b L x0 : Nat} {xs : Nat → Int32} {i : Int32} {I I' : cSt → mSt → Prop} (C : cY p R s m args meth c RL cL_law 7 2048 600128 7301098 84000 (some .boolean)) (X : lX l D S0 cM iS cI cZ mo ad cL b L xs s) (hK : lC_k x0 I) (hI : lC_join x0 I I') (hJ : lJ D S0 cM iS cI cZ mo ad oa cL s S M o H locs) (hi : I S M) (hin : lIn i L) (hce : cells + 2201 ≤ 600128 ∧ slots + 101882 ≤ 7301098) (hl : lv_has ls 7 [(0, .ref b), (1, .ref x0), (2, .ref mo), (3, .ref oa), (4, .int i)]) (kk : ∀ (S1 : cSt) (M1 : mSt) (o1 : Int64) (H1 : Heap) (locs1 : List Loc) (ls1 : Array Slot), I' S1 M1 → lJ D S0 cM iS cI cZ mo ad oa cL s S1 M1 o1 H1 locs1 → lv_has ls1 7 [(0, .ref b), (1, .ref x0), (2, .ref mo), (3, .ref oa), (4, .int i)] → W p l e R s m args below meth c H1 locs1 (cells + 2201) (slots + 101882) Q (F0 m 1950 ls1 [])) : W p l e R s m args below meth c H locs cells slots Q (F0 m 1012 ls []) := by
  obtain ⟨r, S1, M1, h1, h2, hi1⟩ := hI S M (xs (i + (1 : Int32)).toNatClampNeg) (xs (i + (2 : Int32)).toNatClampNeg) hi
  refine lv_aload_n C.1 C.2.1 dL_law_1012 rfl (lv_at hl 1 rfl) ?_
  refine lv_aload_n C.1 C.2.1 dL_law_1013 rfl (lv_at hl 0 rfl) ?_
  refine lv_iload C.1 C.2.1 dL_law_1014 (lv_at hl 4 rfl) ?_
  refine lv_iconst (v := 1) C.1 C.2.1 dL_law_1016 (by decide) ?_
  refine lv_iadd C.1 C.2.1 dL_law_1017 ?_
  refine l_sld C X hJ hin.2.1 dL_law_1018 ?_
  refine lv_aload_n C.1 C.2.1 dL_law_1019 rfl (lv_at hl 0 rfl) ?_
  refine lv_iload C.1 C.2.1 dL_law_1020 (lv_at hl 4 rfl) ?_
  refine lv_iconst (v := 2) C.1 C.2.1 dL_law_1022 (by decide) ?_
  refine lv_iadd C.1 C.2.1 dL_law_1023 ?_
  refine l_sld C X hJ hin.2.2.1 dL_law_1024 ?_
  refine l_cW (rest := []) C X hJ hl.1 (hK S M hi) [.int (xs (i + (1 : Int32)).toNatClampNeg), .int (xs (i + (2 : Int32)).toNatClampNeg)] (tk_11_join l h1) cwL_118 ki_11_join kl_11_join rfl ⟨by decide, by decide⟩ ⟨by omega, by omega⟩ rfl (Nat.le_of_ble_eq_true rfl) dL_law_1025 (fun H locs hJ => ?_)
  refine W.eq (g2 := F0 m 1028 ls [.int r]) rfl ?_
  refine lv_aload_n C.1 C.2.1 dL_law_1028 rfl (lv_at hl 2 rfl) ?_
  refine lv_aload_n C.1 C.2.1 dL_law_1029 rfl (lv_at hl 0 rfl) ?_
  refine lv_iload C.1 C.2.1 dL_law_1030 (lv_at hl 4 rfl) ?_
  refine lv_iconst (v := 1) C.1 C.2.1 dL_law_1032 (by decide) ?_
  refine lv_iadd C.1 C.2.1 dL_law_1033 ?_
  refine l_sld C X hJ hin.2.1 dL_law_1034 ?_
  refine lv_aload_n C.1 C.2.1 dL_law_1035 rfl (lv_at hl 0 rfl) ?_
  refine lv_iload C.1 C.2.1 dL_law_1036 (lv_at hl 4 rfl) ?_
  refine lv_iconst (v := 2) C.1 C.2.1 dL_law_1038 (by decide) ?_
  refine lv_iadd C.1 C.2.1 dL_law_1039 ?_
  refine l_sld C X hJ hin.2.2.1 dL_law_1040 ?_
  refine l_mW (rest := [.int r]) C X hJ hl.1 [.int (xs (i + (1 : Int32)).toNatClampNeg), .int (xs (i + (2 : Int32)).toNatClampNeg)] (tm_join l h2) cwL_122 imL_join slL_join rfl ⟨by decide, by decide⟩ ⟨by omega, by omega⟩ rfl (Nat.le_of_ble_eq_true rfl) dL_law_1041 (fun H locs hJ => ?_)
  refine W.eq (g2 := F0 m 1044 ls [.int r, .int r]) rfl ?_
  refine lv_icmp_eq (tgt := 1950) C.1 C.2.1 dL_law_1044 (by decide) (fun _ => ?_) (fun h9 => absurd rfl h9)
  refine W.widen (k := cells + 2201) (n := slots + 101882) (by omega) (by omega) ?_
  exact kk S1 M1 o H locs ls hi1 hJ hl
theorem dL_law_1049 : decode cL_law 1049 = .ok (.aload_n 1, 1) := by decide +kernel
theorem dL_law_1050 : decode cL_law 1050 = .ok (.aload_n 0, 1) := by decide +kernel
theorem dL_law_1051 : decode cL_law 1051 = .ok (.iload 4, 2) := by decide +kernel
theorem dL_law_1053 : decode cL_law 1053 = .ok (.iconst 1, 1) := by decide +kernel
theorem dL_law_1054 : decode cL_law 1054 = .ok (.iadd, 1) := by decide +kernel
theorem dL_law_1055 : decode cL_law 1055 = .ok (.iaload, 1) := by decide +kernel
theorem dL_law_1056 : decode cL_law 1056 = .ok (.aload_n 0, 1) := by decide +kernel
theorem dL_law_1057 : decode cL_law 1057 = .ok (.iload 4, 2) := by decide +kernel
theorem dL_law_1059 : decode cL_law 1059 = .ok (.iconst 2, 1) := by decide +kernel
theorem dL_law_1060 : decode cL_law 1060 = .ok (.iadd, 1) := by decide +kernel
theorem dL_law_1061 : decode cL_law 1061 = .ok (.iaload, 1) := by decide +kernel
theorem dL_law_1062 : decode cL_law 1062 = .ok (.aload_n 0, 1) := by decide +kernel
theorem dL_law_1063 : decode cL_law 1063 = .ok (.iload 4, 2) := by decide +kernel
theorem dL_law_1065 : decode cL_law 1065 = .ok (.iconst 3, 1) := by decide +kernel
theorem dL_law_1066 : decode cL_law 1066 = .ok (.iadd, 1) := by decide +kernel
theorem dL_law_1067 : decode cL_law 1067 = .ok (.iaload, 1) := by decide +kernel
theorem dL_law_1068 : decode cL_law 1068 = .ok (.invokevirtual 123, 3) := by decide +kernel
theorem dL_law_1071 : decode cL_law 1071 = .ok (.aload_n 2, 1) := by decide +kernel
theorem dL_law_1072 : decode cL_law 1072 = .ok (.aload_n 0, 1) := by decide +kernel
theorem dL_law_1073 : decode cL_law 1073 = .ok (.iload 4, 2) := by decide +kernel
theorem dL_law_1075 : decode cL_law 1075 = .ok (.iconst 1, 1) := by decide +kernel
theorem dL_law_1076 : decode cL_law 1076 = .ok (.iadd, 1) := by decide +kernel
theorem dL_law_1077 : decode cL_law 1077 = .ok (.iaload, 1) := by decide +kernel
theorem dL_law_1078 : decode cL_law 1078 = .ok (.aload_n 0, 1) := by decide +kernel
theorem dL_law_1079 : decode cL_law 1079 = .ok (.iload 4, 2) := by decide +kernel
theorem dL_law_1081 : decode cL_law 1081 = .ok (.iconst 2, 1) := by decide +kernel
theorem dL_law_1082 : decode cL_law 1082 = .ok (.iadd, 1) := by decide +kernel
theorem dL_law_1083 : decode cL_law 1083 = .ok (.iaload, 1) := by decide +kernel
theorem dL_law_1084 : decode cL_law 1084 = .ok (.aload_n 0, 1) := by decide +kernel
theorem dL_law_1085 : decode cL_law 1085 = .ok (.iload 4, 2) := by decide +kernel
theorem dL_law_1087 : decode cL_law 1087 = .ok (.iconst 3, 1) := by decide +kernel
theorem dL_law_1088 : decode cL_law 1088 = .ok (.iadd, 1) := by decide +kernel
theorem dL_law_1089 : decode cL_law 1089 = .ok (.iaload, 1) := by decide +kernel
theorem dL_law_1090 : decode cL_law 1090 = .ok (.invokevirtual 126, 3) := by decide +kernel
theorem dL_law_1093 : decode cL_law 1093 = .ok (.if_icmp .eq 857, 3) := by decide +kernel
set_option maxRecDepth 100000 in
set_option maxHeartbeats 4000000 in
theorem wl_object {p : Program} {l : Launch} {e : Env} {R : Room} {s : State} {m : MethodId} {args : Array Value} {below : List Frame} {meth : Method} {c : Code} {H : Heap} {locs : List Loc} {cells slots : Nat} {Q : State → Prop} {D : cG} {S S0 : cSt} {ls : Array Slot} {cM : ClassId} {iS : Nat → Nat} {cI cZ : ClassId} {mo : Nat} {ad : Nat → Nat} {oa : Nat} {cL : ClassId} {M : mSt} {o : Int64} {b L x0 : Nat} {xs : Nat → Int32} {i : Int32} {I I' : cSt → mSt → Prop} (C : cY p R s m args meth c RL cL_law 7 2048 600128 7301098 84000 (some .boolean)) (X : lX l D S0 cM iS cI cZ mo ad cL b L xs s) (hK : lC_k x0 I) (hI : lC_object x0 I I') (hJ : lJ D S0 cM iS cI cZ mo ad oa cL s S M o H locs) (hi : I S M) (hin : lIn i L) (hce : cells + 2201 ≤ 600128 ∧ slots + 101882 ≤ 7301098) (hl : lv_has ls 7 [(0, .ref b), (1, .ref x0), (2, .ref mo), (3, .ref oa), (4, .int i)]) (kk : ∀ (S1 : cSt) (M1 : mSt) (o1 : Int64) (H1 : Heap) (locs1 : List Loc) (ls1 : Array Slot), I' S1 M1 → lJ D S0 cM iS cI cZ mo ad oa cL s S1 M1 o1 H1 locs1 → lv_has ls1 7 [(0, .ref b), (1, .ref x0), (2, .ref mo), (3, .ref oa), (4, .int i)] → W p l e R s m args below meth c H1 locs1 (cells + 2201) (slots + 101882) Q (F0 m 1950 ls1 [])) : W p l e R s m args below meth c H locs cells slots Q (F0 m 1049 ls []) := by
  obtain ⟨r, S1, M1, h1, h2, hi1⟩ := hI S M (xs (i + (1 : Int32)).toNatClampNeg) (xs (i + (2 : Int32)).toNatClampNeg) (xs (i + (3 : Int32)).toNatClampNeg) hi
  refine lv_aload_n C.1 C.2.1 dL_law_1049 rfl (lv_at hl 1 rfl) ?_
  refine lv_aload_n C.1 C.2.1 dL_law_1050 rfl (lv_at hl 0 rfl) ?_
  refine lv_iload C.1 C.2.1 dL_law_1051 (lv_at hl 4 rfl) ?_
  refine lv_iconst (v := 1) C.1 C.2.1 dL_law_1053 (by decide) ?_
  refine lv_iadd C.1 C.2.1 dL_law_1054 ?_
  refine l_sld C X hJ hin.2.1 dL_law_1055 ?_
  refine lv_aload_n C.1 C.2.1 dL_law_1056 rfl (lv_at hl 0 rfl) ?_
  refine lv_iload C.1 C.2.1 dL_law_1057 (lv_at hl 4 rfl) ?_
  refine lv_iconst (v := 2) C.1 C.2.1 dL_law_1059 (by decide) ?_
  refine lv_iadd C.1 C.2.1 dL_law_1060 ?_
  refine l_sld C X hJ hin.2.2.1 dL_law_1061 ?_
  refine lv_aload_n C.1 C.2.1 dL_law_1062 rfl (lv_at hl 0 rfl) ?_
  refine lv_iload C.1 C.2.1 dL_law_1063 (lv_at hl 4 rfl) ?_
  refine lv_iconst (v := 3) C.1 C.2.1 dL_law_1065 (by decide) ?_
  refine lv_iadd C.1 C.2.1 dL_law_1066 ?_
  refine l_sld C X hJ hin.2.2.2.1 dL_law_1067 ?_
  refine l_cW (rest := []) C X hJ hl.1 (hK S M hi) [.int (xs (i + (1 : Int32)).toNatClampNeg), .int (xs (i + (2 : Int32)).toNatClampNeg), .int (xs (i + (3 : Int32)).toNatClampNeg)] (tk_11_object l h1) cwL_123 ki_11_object kl_11_object rfl ⟨by decide, by decide⟩ ⟨by omega, by omega⟩ rfl (Nat.le_of_ble_eq_true rfl) dL_law_1068 (fun H locs hJ => ?_)
  refine W.eq (g2 := F0 m 1071 ls [.int r]) rfl ?_
  refine lv_aload_n C.1 C.2.1 dL_law_1071 rfl (lv_at hl 2 rfl) ?_
  refine lv_aload_n C.1 C.2.1 dL_law_1072 rfl (lv_at hl 0 rfl) ?_
  refine lv_iload C.1 C.2.1 dL_law_1073 (lv_at hl 4 rfl) ?_
  refine lv_iconst (v := 1) C.1 C.2.1 dL_law_1075 (by decide) ?_
  refine lv_iadd C.1 C.2.1 dL_law_1076 ?_
  refine l_sld C X hJ hin.2.1 dL_law_1077 ?_
  refine lv_aload_n C.1 C.2.1 dL_law_1078 rfl (lv_at hl 0 rfl) ?_
  refine lv_iload C.1 C.2.1 dL_law_1079 (lv_at hl 4 rfl) ?_
  refine lv_iconst (v := 2) C.1 C.2.1 dL_law_1081 (by decide) ?_
  refine lv_iadd C.1 C.2.1 dL_law_1082 ?_
  refine l_sld C X hJ hin.2.2.1 dL_law_1083 ?_
  refine lv_aload_n C.1 C.2.1 dL_law_1084 rfl (lv_at hl 0 rfl) ?_
  refine lv_iload C.1 C.2.1 dL_law_1085 (lv_at hl 4 rfl) ?_
  refine lv_iconst (v := 3) C.1 C.2.1 dL_law_1087 (by decide) ?_
  refine lv_iadd C.1 C.2.1 dL_law_1088 ?_
  refine l_sld C X hJ hin.2.2.2.1 dL_law_1089 ?_
  refine l_mW (rest := [.int r]) C X hJ hl.1 [.int (xs (i + (1 : Int32)).toNatClampNeg), .int (xs (i + (2 : Int32)).toNatClampNeg), .int (xs (i + (3 : Int32)).toNatClampNeg)] (tm_object l h2) cwL_126 imL_object slL_object rfl ⟨by decide, by decide⟩ ⟨by omega, by omega⟩ rfl (Nat.le_of_ble_eq_true rfl) dL_law_1090 (fun H locs hJ => ?_)
  refine W.eq (g2 := F0 m 1093 ls [.int r, .int r]) rfl ?_
  refine lv_icmp_eq (tgt := 1950) C.1 C.2.1 dL_law_1093 (by decide) (fun _ => ?_) (fun h9 => absurd rfl h9)
  refine W.widen (k := cells + 2201) (n := slots + 101882) (by omega) (by omega) ?_
  exact kk S1 M1 o H locs ls hi1 hJ hl
theorem dL_law_1098 : decode cL_law 1098 = .ok (.aload_n 1, 1) := by decide +kernel
theorem dL_law_1099 : decode cL_law 1099 = .ok (.aload_n 0, 1) := by decide +kernel
theorem dL_law_1100 : decode cL_law 1100 = .ok (.iload 4, 2) := by decide +kernel
theorem dL_law_1102 : decode cL_law 1102 = .ok (.iconst 1, 1) := by decide +kernel
theorem dL_law_1103 : decode cL_law 1103 = .ok (.iadd, 1) := by decide +kernel
theorem dL_law_1104 : decode cL_law 1104 = .ok (.iaload, 1) := by decide +kernel
theorem dL_law_1105 : decode cL_law 1105 = .ok (.aload_n 0, 1) := by decide +kernel
theorem dL_law_1106 : decode cL_law 1106 = .ok (.iload 4, 2) := by decide +kernel
theorem dL_law_1108 : decode cL_law 1108 = .ok (.iconst 2, 1) := by decide +kernel
theorem dL_law_1109 : decode cL_law 1109 = .ok (.iadd, 1) := by decide +kernel
theorem dL_law_1110 : decode cL_law 1110 = .ok (.iaload, 1) := by decide +kernel
theorem dL_law_1111 : decode cL_law 1111 = .ok (.aload_n 0, 1) := by decide +kernel
theorem dL_law_1112 : decode cL_law 1112 = .ok (.iload 4, 2) := by decide +kernel
theorem dL_law_1114 : decode cL_law 1114 = .ok (.iconst 3, 1) := by decide +kernel
theorem dL_law_1115 : decode cL_law 1115 = .ok (.iadd, 1) := by decide +kernel
theorem dL_law_1116 : decode cL_law 1116 = .ok (.iaload, 1) := by decide +kernel
theorem dL_law_1117 : decode cL_law 1117 = .ok (.invokevirtual 127, 3) := by decide +kernel
theorem dL_law_1120 : decode cL_law 1120 = .ok (.aload_n 2, 1) := by decide +kernel
theorem dL_law_1121 : decode cL_law 1121 = .ok (.aload_n 0, 1) := by decide +kernel
theorem dL_law_1122 : decode cL_law 1122 = .ok (.iload 4, 2) := by decide +kernel
theorem dL_law_1124 : decode cL_law 1124 = .ok (.iconst 1, 1) := by decide +kernel
theorem dL_law_1125 : decode cL_law 1125 = .ok (.iadd, 1) := by decide +kernel
theorem dL_law_1126 : decode cL_law 1126 = .ok (.iaload, 1) := by decide +kernel
theorem dL_law_1127 : decode cL_law 1127 = .ok (.aload_n 0, 1) := by decide +kernel
theorem dL_law_1128 : decode cL_law 1128 = .ok (.iload 4, 2) := by decide +kernel
theorem dL_law_1130 : decode cL_law 1130 = .ok (.iconst 2, 1) := by decide +kernel
theorem dL_law_1131 : decode cL_law 1131 = .ok (.iadd, 1) := by decide +kernel
theorem dL_law_1132 : decode cL_law 1132 = .ok (.iaload, 1) := by decide +kernel
theorem dL_law_1133 : decode cL_law 1133 = .ok (.aload_n 0, 1) := by decide +kernel
theorem dL_law_1134 : decode cL_law 1134 = .ok (.iload 4, 2) := by decide +kernel
theorem dL_law_1136 : decode cL_law 1136 = .ok (.iconst 3, 1) := by decide +kernel
theorem dL_law_1137 : decode cL_law 1137 = .ok (.iadd, 1) := by decide +kernel
theorem dL_law_1138 : decode cL_law 1138 = .ok (.iaload, 1) := by decide +kernel
theorem dL_law_1139 : decode cL_law 1139 = .ok (.invokevirtual 130, 3) := by decide +kernel
theorem dL_law_1142 : decode cL_law 1142 = .ok (.if_icmp .eq 808, 3) := by decide +kernel
set_option maxRecDepth 100000 in
set_option maxHeartbeats 4000000 in
theorem wl_size {p : Program} {l : Launch} {e : Env} {R : Room} {s : State} {m : MethodId} {args : Array Value} {below : List Frame} {meth : Method} {c : Code} {H : Heap} {locs : List Loc} {cells slots : Nat} {Q : State → Prop} {D : cG} {S S0 : cSt} {ls : Array Slot} {cM : ClassId} {iS : Nat → Nat} {cI cZ : ClassId} {mo : Nat} {ad : Nat → Nat} {oa : Nat} {cL : ClassId} {M : mSt} {o : Int64} {b L x0 : Nat} {xs : Nat → Int32} {i : Int32} {I I' : cSt → mSt → Prop} (C : cY p R s m args meth c RL cL_law 7 2048 600128 7301098 84000 (some .boolean)) (X : lX l D S0 cM iS cI cZ mo ad cL b L xs s) (hK : lC_k x0 I) (hI : lC_size x0 I I') (hJ : lJ D S0 cM iS cI cZ mo ad oa cL s S M o H locs) (hi : I S M) (hin : lIn i L) (hce : cells + 2201 ≤ 600128 ∧ slots + 101882 ≤ 7301098) (hl : lv_has ls 7 [(0, .ref b), (1, .ref x0), (2, .ref mo), (3, .ref oa), (4, .int i)]) (kk : ∀ (S1 : cSt) (M1 : mSt) (o1 : Int64) (H1 : Heap) (locs1 : List Loc) (ls1 : Array Slot), I' S1 M1 → lJ D S0 cM iS cI cZ mo ad oa cL s S1 M1 o1 H1 locs1 → lv_has ls1 7 [(0, .ref b), (1, .ref x0), (2, .ref mo), (3, .ref oa), (4, .int i)] → W p l e R s m args below meth c H1 locs1 (cells + 2201) (slots + 101882) Q (F0 m 1950 ls1 [])) : W p l e R s m args below meth c H locs cells slots Q (F0 m 1098 ls []) := by
  obtain ⟨r, S1, M1, h1, h2, hi1⟩ := hI S M (xs (i + (1 : Int32)).toNatClampNeg) (xs (i + (2 : Int32)).toNatClampNeg) (xs (i + (3 : Int32)).toNatClampNeg) hi
  refine lv_aload_n C.1 C.2.1 dL_law_1098 rfl (lv_at hl 1 rfl) ?_
  refine lv_aload_n C.1 C.2.1 dL_law_1099 rfl (lv_at hl 0 rfl) ?_
  refine lv_iload C.1 C.2.1 dL_law_1100 (lv_at hl 4 rfl) ?_
  refine lv_iconst (v := 1) C.1 C.2.1 dL_law_1102 (by decide) ?_
  refine lv_iadd C.1 C.2.1 dL_law_1103 ?_
  refine l_sld C X hJ hin.2.1 dL_law_1104 ?_
  refine lv_aload_n C.1 C.2.1 dL_law_1105 rfl (lv_at hl 0 rfl) ?_
  refine lv_iload C.1 C.2.1 dL_law_1106 (lv_at hl 4 rfl) ?_
  refine lv_iconst (v := 2) C.1 C.2.1 dL_law_1108 (by decide) ?_
  refine lv_iadd C.1 C.2.1 dL_law_1109 ?_
  refine l_sld C X hJ hin.2.2.1 dL_law_1110 ?_
  refine lv_aload_n C.1 C.2.1 dL_law_1111 rfl (lv_at hl 0 rfl) ?_
  refine lv_iload C.1 C.2.1 dL_law_1112 (lv_at hl 4 rfl) ?_
  refine lv_iconst (v := 3) C.1 C.2.1 dL_law_1114 (by decide) ?_
  refine lv_iadd C.1 C.2.1 dL_law_1115 ?_
  refine l_sld C X hJ hin.2.2.2.1 dL_law_1116 ?_
  refine l_cW (rest := []) C X hJ hl.1 (hK S M hi) [.int (xs (i + (1 : Int32)).toNatClampNeg), .int (xs (i + (2 : Int32)).toNatClampNeg), .int (xs (i + (3 : Int32)).toNatClampNeg)] (tk_11_size l h1) cwL_127 ki_11_size kl_11_size rfl ⟨by decide, by decide⟩ ⟨by omega, by omega⟩ rfl (Nat.le_of_ble_eq_true rfl) dL_law_1117 (fun H locs hJ => ?_)
  refine W.eq (g2 := F0 m 1120 ls [.int r]) rfl ?_
  refine lv_aload_n C.1 C.2.1 dL_law_1120 rfl (lv_at hl 2 rfl) ?_
  refine lv_aload_n C.1 C.2.1 dL_law_1121 rfl (lv_at hl 0 rfl) ?_
  refine lv_iload C.1 C.2.1 dL_law_1122 (lv_at hl 4 rfl) ?_
  refine lv_iconst (v := 1) C.1 C.2.1 dL_law_1124 (by decide) ?_
  refine lv_iadd C.1 C.2.1 dL_law_1125 ?_
  refine l_sld C X hJ hin.2.1 dL_law_1126 ?_
  refine lv_aload_n C.1 C.2.1 dL_law_1127 rfl (lv_at hl 0 rfl) ?_
  refine lv_iload C.1 C.2.1 dL_law_1128 (lv_at hl 4 rfl) ?_
  refine lv_iconst (v := 2) C.1 C.2.1 dL_law_1130 (by decide) ?_
  refine lv_iadd C.1 C.2.1 dL_law_1131 ?_
  refine l_sld C X hJ hin.2.2.1 dL_law_1132 ?_
  refine lv_aload_n C.1 C.2.1 dL_law_1133 rfl (lv_at hl 0 rfl) ?_
  refine lv_iload C.1 C.2.1 dL_law_1134 (lv_at hl 4 rfl) ?_
  refine lv_iconst (v := 3) C.1 C.2.1 dL_law_1136 (by decide) ?_
  refine lv_iadd C.1 C.2.1 dL_law_1137 ?_
  refine l_sld C X hJ hin.2.2.2.1 dL_law_1138 ?_
  refine l_mW (rest := [.int r]) C X hJ hl.1 [.int (xs (i + (1 : Int32)).toNatClampNeg), .int (xs (i + (2 : Int32)).toNatClampNeg), .int (xs (i + (3 : Int32)).toNatClampNeg)] (tm_size l h2) cwL_130 imL_size slL_size rfl ⟨by decide, by decide⟩ ⟨by omega, by omega⟩ rfl (Nat.le_of_ble_eq_true rfl) dL_law_1139 (fun H locs hJ => ?_)
  refine W.eq (g2 := F0 m 1142 ls [.int r, .int r]) rfl ?_
  refine lv_icmp_eq (tgt := 1950) C.1 C.2.1 dL_law_1142 (by decide) (fun _ => ?_) (fun h9 => absurd rfl h9)
  refine W.widen (k := cells + 2201) (n := slots + 101882) (by omega) (by omega) ?_
  exact kk S1 M1 o H locs ls hi1 hJ hl
theorem dL_law_1147 : decode cL_law 1147 = .ok (.aload_n 1, 1) := by decide +kernel
theorem dL_law_1148 : decode cL_law 1148 = .ok (.aload_n 0, 1) := by decide +kernel
theorem dL_law_1149 : decode cL_law 1149 = .ok (.iload 4, 2) := by decide +kernel
theorem dL_law_1151 : decode cL_law 1151 = .ok (.iconst 1, 1) := by decide +kernel
theorem dL_law_1152 : decode cL_law 1152 = .ok (.iadd, 1) := by decide +kernel
theorem dL_law_1153 : decode cL_law 1153 = .ok (.iaload, 1) := by decide +kernel
theorem dL_law_1154 : decode cL_law 1154 = .ok (.aload_n 0, 1) := by decide +kernel
theorem dL_law_1155 : decode cL_law 1155 = .ok (.iload 4, 2) := by decide +kernel
theorem dL_law_1157 : decode cL_law 1157 = .ok (.iconst 2, 1) := by decide +kernel
theorem dL_law_1158 : decode cL_law 1158 = .ok (.iadd, 1) := by decide +kernel
theorem dL_law_1159 : decode cL_law 1159 = .ok (.iaload, 1) := by decide +kernel
theorem dL_law_1160 : decode cL_law 1160 = .ok (.aload_n 0, 1) := by decide +kernel
theorem dL_law_1161 : decode cL_law 1161 = .ok (.iload 4, 2) := by decide +kernel
theorem dL_law_1163 : decode cL_law 1163 = .ok (.iconst 3, 1) := by decide +kernel
theorem dL_law_1164 : decode cL_law 1164 = .ok (.iadd, 1) := by decide +kernel
theorem dL_law_1165 : decode cL_law 1165 = .ok (.iaload, 1) := by decide +kernel
theorem dL_law_1166 : decode cL_law 1166 = .ok (.aload_n 0, 1) := by decide +kernel
theorem dL_law_1167 : decode cL_law 1167 = .ok (.iload 4, 2) := by decide +kernel
theorem dL_law_1169 : decode cL_law 1169 = .ok (.iconst 4, 1) := by decide +kernel
theorem dL_law_1170 : decode cL_law 1170 = .ok (.iadd, 1) := by decide +kernel
theorem dL_law_1171 : decode cL_law 1171 = .ok (.iaload, 1) := by decide +kernel
theorem dL_law_1172 : decode cL_law 1172 = .ok (.aload_n 3, 1) := by decide +kernel
theorem dL_law_1173 : decode cL_law 1173 = .ok (.invokestatic 131, 3) := by decide +kernel
theorem dL_law_1176 : decode cL_law 1176 = .ok (.istore 5, 2) := by decide +kernel
theorem dL_law_1178 : decode cL_law 1178 = .ok (.aload_n 2, 1) := by decide +kernel
theorem dL_law_1179 : decode cL_law 1179 = .ok (.aload_n 0, 1) := by decide +kernel
theorem dL_law_1180 : decode cL_law 1180 = .ok (.iload 4, 2) := by decide +kernel
theorem dL_law_1182 : decode cL_law 1182 = .ok (.iconst 1, 1) := by decide +kernel
theorem dL_law_1183 : decode cL_law 1183 = .ok (.iadd, 1) := by decide +kernel
theorem dL_law_1184 : decode cL_law 1184 = .ok (.iaload, 1) := by decide +kernel
theorem dL_law_1185 : decode cL_law 1185 = .ok (.aload_n 0, 1) := by decide +kernel
theorem dL_law_1186 : decode cL_law 1186 = .ok (.iload 4, 2) := by decide +kernel
theorem dL_law_1188 : decode cL_law 1188 = .ok (.iconst 2, 1) := by decide +kernel
theorem dL_law_1189 : decode cL_law 1189 = .ok (.iadd, 1) := by decide +kernel
theorem dL_law_1190 : decode cL_law 1190 = .ok (.iaload, 1) := by decide +kernel
theorem dL_law_1191 : decode cL_law 1191 = .ok (.aload_n 0, 1) := by decide +kernel
theorem dL_law_1192 : decode cL_law 1192 = .ok (.iload 4, 2) := by decide +kernel
theorem dL_law_1194 : decode cL_law 1194 = .ok (.iconst 3, 1) := by decide +kernel
theorem dL_law_1195 : decode cL_law 1195 = .ok (.iadd, 1) := by decide +kernel
theorem dL_law_1196 : decode cL_law 1196 = .ok (.iaload, 1) := by decide +kernel
theorem dL_law_1197 : decode cL_law 1197 = .ok (.aload_n 0, 1) := by decide +kernel
theorem dL_law_1198 : decode cL_law 1198 = .ok (.iload 4, 2) := by decide +kernel
theorem dL_law_1200 : decode cL_law 1200 = .ok (.iconst 4, 1) := by decide +kernel
theorem dL_law_1201 : decode cL_law 1201 = .ok (.iadd, 1) := by decide +kernel
theorem dL_law_1202 : decode cL_law 1202 = .ok (.iaload, 1) := by decide +kernel
theorem dL_law_1203 : decode cL_law 1203 = .ok (.invokevirtual 134, 3) := by decide +kernel
theorem dL_law_1206 : decode cL_law 1206 = .ok (.istore 6, 2) := by decide +kernel
theorem dL_law_1208 : decode cL_law 1208 = .ok (.aload_n 2, 1) := by decide +kernel
theorem dL_law_1209 : decode cL_law 1209 = .ok (.invokevirtual 46, 3) := by decide +kernel
theorem dL_law_1212 : decode cL_law 1212 = .ok (.iload 5, 2) := by decide +kernel
theorem dL_law_1214 : decode cL_law 1214 = .ok (.if_icmp .eq 5, 3) := by decide +kernel
theorem dL_law_1219 : decode cL_law 1219 = .ok (.iload 5, 2) := by decide +kernel
theorem dL_law_1221 : decode cL_law 1221 = .ok (.ifCond .ne 15, 3) := by decide +kernel
theorem dL_law_1224 : decode cL_law 1224 = .ok (.aload_n 3, 1) := by decide +kernel
theorem dL_law_1225 : decode cL_law 1225 = .ok (.iconst 0, 1) := by decide +kernel
theorem dL_law_1226 : decode cL_law 1226 = .ok (.laload, 1) := by decide +kernel
theorem dL_law_1227 : decode cL_law 1227 = .ok (.iload 6, 2) := by decide +kernel
theorem dL_law_1229 : decode cL_law 1229 = .ok (.i2l, 1) := by decide +kernel
theorem dL_law_1230 : decode cL_law 1230 = .ok (.lcmp, 1) := by decide +kernel
theorem dL_law_1231 : decode cL_law 1231 = .ok (.ifCond .eq 5, 3) := by decide +kernel
theorem dL_law_1236 : decode cL_law 1236 = .ok (.goto 714, 3) := by decide +kernel
set_option maxRecDepth 100000 in
set_option maxHeartbeats 4000000 in
theorem wl_value {p : Program} {l : Launch} {e : Env} {R : Room} {s : State} {m : MethodId} {args : Array Value} {below : List Frame} {meth : Method} {c : Code} {H : Heap} {locs : List Loc} {cells slots : Nat} {Q : State → Prop} {D : cG} {S S0 : cSt} {ls : Array Slot} {cM : ClassId} {iS : Nat → Nat} {cI cZ : ClassId} {mo : Nat} {ad : Nat → Nat} {oa : Nat} {cL : ClassId} {M : mSt} {o : Int64} {b L x0 : Nat} {xs : Nat → Int32} {i : Int32} {I I' : cSt → mSt → Prop} (hz : lC_z I') (C : cY p R s m args meth c RL cL_law 7 2048 600128 7301098 84000 (some .boolean)) (X : lX l D S0 cM iS cI cZ mo ad cL b L xs s) (hK : lC_k x0 I) (hI : lC_value x0 I I') (hJ : lJ D S0 cM iS cI cZ mo ad oa cL s S M o H locs) (hi : I S M) (hin : lIn i L) (hce : cells + 2201 ≤ 600128 ∧ slots + 101882 ≤ 7301098) (hl : lv_has ls 7 [(0, .ref b), (1, .ref x0), (2, .ref mo), (3, .ref oa), (4, .int i)]) (kk : ∀ (S1 : cSt) (M1 : mSt) (o1 : Int64) (H1 : Heap) (locs1 : List Loc) (ls1 : Array Slot), I' S1 M1 → lJ D S0 cM iS cI cZ mo ad oa cL s S1 M1 o1 H1 locs1 → lv_has ls1 7 [(0, .ref b), (1, .ref x0), (2, .ref mo), (3, .ref oa), (4, .int i)] → W p l e R s m args below meth c H1 locs1 (cells + 2201) (slots + 101882) Q (F0 m 1950 ls1 [])) : W p l e R s m args below meth c H locs cells slots Q (F0 m 1147 ls []) := by
  obtain ⟨tg, r, S1, r2, M1, h1, h2, h3, hi1⟩ := hI S M (xs (i + (1 : Int32)).toNatClampNeg) (xs (i + (2 : Int32)).toNatClampNeg) (xs (i + (3 : Int32)).toNatClampNeg) (xs (i + (4 : Int32)).toNatClampNeg) hi
  refine lv_aload_n C.1 C.2.1 dL_law_1147 rfl (lv_at hl 1 rfl) ?_
  refine lv_aload_n C.1 C.2.1 dL_law_1148 rfl (lv_at hl 0 rfl) ?_
  refine lv_iload C.1 C.2.1 dL_law_1149 (lv_at hl 4 rfl) ?_
  refine lv_iconst (v := 1) C.1 C.2.1 dL_law_1151 (by decide) ?_
  refine lv_iadd C.1 C.2.1 dL_law_1152 ?_
  refine l_sld C X hJ hin.2.1 dL_law_1153 ?_
  refine lv_aload_n C.1 C.2.1 dL_law_1154 rfl (lv_at hl 0 rfl) ?_
  refine lv_iload C.1 C.2.1 dL_law_1155 (lv_at hl 4 rfl) ?_
  refine lv_iconst (v := 2) C.1 C.2.1 dL_law_1157 (by decide) ?_
  refine lv_iadd C.1 C.2.1 dL_law_1158 ?_
  refine l_sld C X hJ hin.2.2.1 dL_law_1159 ?_
  refine lv_aload_n C.1 C.2.1 dL_law_1160 rfl (lv_at hl 0 rfl) ?_
  refine lv_iload C.1 C.2.1 dL_law_1161 (lv_at hl 4 rfl) ?_
  refine lv_iconst (v := 3) C.1 C.2.1 dL_law_1163 (by decide) ?_
  refine lv_iadd C.1 C.2.1 dL_law_1164 ?_
  refine l_sld C X hJ hin.2.2.2.1 dL_law_1165 ?_
  refine lv_aload_n C.1 C.2.1 dL_law_1166 rfl (lv_at hl 0 rfl) ?_
  refine lv_iload C.1 C.2.1 dL_law_1167 (lv_at hl 4 rfl) ?_
  refine lv_iconst (v := 4) C.1 C.2.1 dL_law_1169 (by decide) ?_
  refine lv_iadd C.1 C.2.1 dL_law_1170 ?_
  refine l_sld C X hJ hin.2.2.2.2.1 dL_law_1171 ?_
  refine lv_aload_n C.1 C.2.1 dL_law_1172 rfl (lv_at hl 3 rfl) ?_
  refine l_help (rest := []) (hh := hhL_value) (k := lkv tg) (o1 := if tg = 0 then Int32.toInt64 r else o) (G := lG tg S1) C X hJ hl.1 [.ref x0, .int (xs (i + (1 : Int32)).toNatClampNeg), .int (xs (i + (2 : Int32)).toNatClampNeg), .int (xs (i + (3 : Int32)).toNatClampNeg), .int (xs (i + (4 : Int32)).toNatClampNeg), .ref oa] (tl_value l X.1 h1 (h3.elim (fun q => Or.inl q.1) (fun q => Or.inr q.1)) (hK S M hi) hJ.2.2.2.2.1 (lD X hJ)) (fun U hU hWm => lPk_of X hJ hU hWm) cwL_131 rfl ⟨by decide, by decide⟩ ⟨by omega, by omega⟩ rfl (Nat.le_of_ble_eq_true rfl) dL_law_1173 (fun H locs S2 hG hJ => ?_)
  have hi2 : I' S2 M1 := lG_I hz hG hi1
  refine W.eq (g2 := F0 m 1176 ls [.int (lkv tg)]) rfl ?_
  refine lv_istore (lv' := [(5, .int (lkv tg)), (0, .ref b), (1, .ref x0), (2, .ref mo), (3, .ref oa), (4, .int i)]) C.1 C.2.1 dL_law_1176 hl (by decide) rfl (fun ls hl => ?_)
  refine lv_aload_n C.1 C.2.1 dL_law_1178 rfl (lv_at hl 3 rfl) ?_
  refine lv_aload_n C.1 C.2.1 dL_law_1179 rfl (lv_at hl 1 rfl) ?_
  refine lv_iload C.1 C.2.1 dL_law_1180 (lv_at hl 5 rfl) ?_
  refine lv_iconst (v := 1) C.1 C.2.1 dL_law_1182 (by decide) ?_
  refine lv_iadd C.1 C.2.1 dL_law_1183 ?_
  refine l_sld C X hJ hin.2.1 dL_law_1184 ?_
  refine lv_aload_n C.1 C.2.1 dL_law_1185 rfl (lv_at hl 1 rfl) ?_
  refine lv_iload C.1 C.2.1 dL_law_1186 (lv_at hl 5 rfl) ?_
  refine lv_iconst (v := 2) C.1 C.2.1 dL_law_1188 (by decide) ?_
  refine lv_iadd C.1 C.2.1 dL_law_1189 ?_
  refine l_sld C X hJ hin.2.2.1 dL_law_1190 ?_
  refine lv_aload_n C.1 C.2.1 dL_law_1191 rfl (lv_at hl 1 rfl) ?_
  refine lv_iload C.1 C.2.1 dL_law_1192 (lv_at hl 5 rfl) ?_
  refine lv_iconst (v := 3) C.1 C.2.1 dL_law_1194 (by decide) ?_
  refine lv_iadd C.1 C.2.1 dL_law_1195 ?_
  refine l_sld C X hJ hin.2.2.2.1 dL_law_1196 ?_
  refine lv_aload_n C.1 C.2.1 dL_law_1197 rfl (lv_at hl 1 rfl) ?_
  refine lv_iload C.1 C.2.1 dL_law_1198 (lv_at hl 5 rfl) ?_
  refine lv_iconst (v := 4) C.1 C.2.1 dL_law_1200 (by decide) ?_
  refine lv_iadd C.1 C.2.1 dL_law_1201 ?_
  refine l_sld C X hJ hin.2.2.2.2.1 dL_law_1202 ?_
  refine l_mW (rest := []) C X hJ hl.1 [.int (xs (i + (1 : Int32)).toNatClampNeg), .int (xs (i + (2 : Int32)).toNatClampNeg), .int (xs (i + (3 : Int32)).toNatClampNeg), .int (xs (i + (4 : Int32)).toNatClampNeg)] (tm_value l h2) cwL_134 imL_value slL_value rfl ⟨by decide, by decide⟩ ⟨by omega, by omega⟩ rfl (Nat.le_of_ble_eq_true rfl) dL_law_1203 (fun H locs hJ => ?_)
  refine W.eq (g2 := F0 m 1206 ls [.int r2]) rfl ?_
  refine lv_istore (lv' := [(6, .int r2), (5, .int (lkv tg)), (0, .ref b), (1, .ref x0), (2, .ref mo), (3, .ref oa), (4, .int i)]) C.1 C.2.1 dL_law_1206 hl (by decide) rfl (fun ls hl => ?_)
  refine lv_aload_n C.1 C.2.1 dL_law_1208 rfl (lv_at hl 4 rfl) ?_
  refine l_mR (rest := []) C X hJ hl.1 [] (tm_thrown l (show fm_thrown M1 = some (M1.1 0) from rfl)) cwL_46 imL_thrown slL_thrown rfl ⟨by decide, by decide⟩ ⟨by omega, by omega⟩ rfl (Nat.le_of_ble_eq_true rfl) dL_law_1209 ?_
  refine W.eq (g2 := F0 m 1212 ls [.int (M1.1 0)]) rfl ?_
  refine lv_iload C.1 C.2.1 dL_law_1212 (lv_at hl 1 rfl) ?_
  have hth : M1.1 0 = lkv tg := by
    rcases h3 with ⟨q, q1, -⟩ | ⟨q, q1⟩ <;> (rw [q1, q]; rfl)
  refine lv_icmp_eq (tgt := 1219) C.1 C.2.1 dL_law_1214 (by decide) (fun _ => ?_) (fun h9 => absurd hth h9)
  refine lv_iload C.1 C.2.1 dL_law_1219 (lv_at hl 1 rfl) ?_
  have kf : W p l e R s m args below meth c H locs (cells + 1) (slots + 6) Q (F0 m 1236 ls []) := by
    refine lv_goto (tgt := 1950) C.1 C.2.1 dL_law_1236 (by decide) ?_
    refine W.widen (k := cells + 2201) (n := slots + 101882) (by omega) (by omega) ?_
    exact kk S2 M1 _ H locs ls hi2 hJ (lv_sub hl [2, 3, 4, 5, 6] rfl)
  refine lv_if_ne (tgt := 1236) C.1 C.2.1 dL_law_1221 (by decide) (fun _ => kf) (fun h9 => ?_)
  have ht0 : tg = 0 := by
    rcases h3 with ⟨q, -⟩ | ⟨q, -⟩
    · exact q
    · rw [q] at h9; exact absurd h9 (by decide)
  have hr2 : r2 = r := by
    rcases h3 with ⟨-, -, q⟩ | ⟨q, -⟩
    · exact q
    · rw [ht0] at q; cases q
  subst hr2
  refine lv_aload_n C.1 C.2.1 dL_law_1224 rfl (lv_at hl 5 rfl) ?_
  refine lv_iconst (v := 0) C.1 C.2.1 dL_law_1225 (by decide) ?_
  refine l_lald C X.2.2.2.2.2.2.2 hJ.2.2.1 dL_law_1226 ?_
  refine lv_iload C.1 C.2.1 dL_law_1227 (lv_at hl 0 rfl) ?_
  refine lv_i2l (v := Int32.toInt64 r2) C.1 C.2.1 dL_law_1229 rfl ?_
  refine W.lcmp C.1 C.2.1 dL_law_1230 ?_
  refine lv_if_eq (tgt := 1236) C.1 C.2.1 dL_law_1231 (by decide) (fun _ => kf) (fun h9 => absurd (by rw [if_pos ht0]; exact lcmp_rf _) h9)
