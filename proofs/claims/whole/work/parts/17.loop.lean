-- made by wip/whole/gen17.py: the law's loop
theorem dL_law_23 : decode cL_law 23 = .ok (.iload 4, 2) := by decide +kernel
theorem dL_law_25 : decode cL_law 25 = .ok (.aload_n 0, 1) := by decide +kernel
theorem dL_law_26 : decode cL_law 26 = .ok (.arraylength, 1) := by decide +kernel
theorem dL_law_27 : decode cL_law 27 = .ok (.bipush 7, 2) := by decide +kernel
theorem dL_law_29 : decode cL_law 29 = .ok (.isub, 1) := by decide +kernel
theorem dL_law_30 : decode cL_law 30 = .ok (.if_icmp .gt 1926, 3) := by decide +kernel
theorem dL_law_33 : decode cL_law 33 = .ok (.aload_n 0, 1) := by decide +kernel
theorem dL_law_34 : decode cL_law 34 = .ok (.iload 4, 2) := by decide +kernel
theorem dL_law_36 : decode cL_law 36 = .ok (.iaload, 1) := by decide +kernel
theorem dL_law_37 : decode cL_law 37 = .ok (.bipush 63, 2) := by decide +kernel
theorem dL_law_39 : decode cL_law 39 = .ok (.iand, 1) := by decide +kernel
theorem dL_law_40 : decode cL_law 40 = .ok (.tableswitch 1910 0 33 #[152, 221, 265, 278, 315, 402, 451, 512, 561, 648, 697, 746, 811, 836, 861, 886, 923, 972, 1009, 1058, 1107, 1199, 1291, 1352, 1389, 1462, 1523, 1615, 1688, 1737, 1774, 1823, 1848, 1885], 152) := by decide +kernel
theorem dL_law_1950 : decode cL_law 1950 = .ok (.iinc 4 7, 3) := by decide +kernel
theorem dL_law_1953 : decode cL_law 1953 = .ok (.goto (-1930), 3) := by decide +kernel
theorem dL_law_1956 : decode cL_law 1956 = .ok (.iconst 1, 1) := by decide +kernel
theorem dL_law_1957 : decode cL_law 1957 = .ok (.ireturn, 1) := by decide +kernel
theorem and63 (x : Int32) : ∃ n, n < 64 ∧ x &&& (63 : Int32) = Int32.ofNat n := by
  refine ⟨(x &&& (63 : Int32)).toBitVec.toNat, ?_, ?_⟩
  · rw [Int32.toBitVec_and, BitVec.toNat_and]
    exact Nat.lt_of_le_of_lt Nat.and_le_right (by decide)
  · exact ((Int32.ofNat_bitVecToNat (x &&& (63 : Int32)).toBitVec).trans rfl).symm
theorem l_in {k L : Nat} (j : Nat) (hk : 7 * k + 7 ≤ L) (hL : L ≤ 448) (hj : j < 7) : vp_in (Int32.ofNat (7 * k) + Int32.ofNat j) L := by
  rw [← Int32.ofNat_add]
  intro h
  rcases h with h | h
  · exact absurd h (Int32.not_lt.mpr (Int32.zero_le_ofNat_of_lt (by omega)))
  · rw [Int32.toNatClampNeg_ofNat_of_lt (by omega)] at h
    omega
theorem l_go {k L : Nat} (hk : k ≤ 64) (hL : L ≤ 448) (h : ¬ Int32.ofNat L - (7 : Int32) < Int32.ofNat (7 * k)) : 7 * k + 7 ≤ L := by
  have h1 := Int32.not_lt.mp h
  rw [Int32.le_iff_toInt_le, Int32.toInt_sub, Int32.toInt_ofNat_of_lt (by omega), Int32.toInt_ofNat_of_lt (by omega)] at h1
  have h7 : (7 : Int32).toInt = 7 := by decide
  rw [h7] at h1
  have hb : ((L : Int) - 7).bmod (2 ^ 32) = (L : Int) - 7 := by
    rw [Int.bmod_eq_of_le] <;> omega
  rw [hb] at h1
  omega
section
variable {p : Program} {l : Launch} {e : Env} {R : Room} {s : State} {m : MethodId} {args : Array Value} {below : List Frame} {meth : Method} {c : Code} {Q : State → Prop} {D : cG} {S0 : cSt} {cM : ClassId} {iS : Nat → Nat} {cI cZ : ClassId} {mo : Nat} {ad : Nat → Nat} {oa : Nat} {cL : ClassId} {b L x0 : Nat} {xs : Nat → Int32}
/-- where the loop ends, for any k -/
def lEx (p : Program) (l : Launch) (e : Env) (R : Room) (s : State) (m : MethodId) (args : Array Value) (below : List Frame) (meth : Method) (c : Code) (Q : State → Prop) (D : cG) (S0 : cSt) (cM : ClassId) (iS : Nat → Nat) (cI cZ : ClassId) (mo : Nat) (ad : Nat → Nat) (oa : Nat) (cL : ClassId) : Prop :=
  ∀ (k : Nat) (S : cSt) (M : mSt) (o : Int64) (H : Heap) (locs : List Loc) (ls : Array Slot), k ≤ 64 → lJ D S0 cM iS cI cZ mo ad oa cL s S M o H locs → W p l e R s m args below meth c H locs (300 + 2201 * k) (170000 + 101882 * k) Q (F0 m 1956 ls [])
set_option maxRecDepth 100000 in
set_option maxHeartbeats 4000000 in
theorem wl_loop (C : cY p R s m args meth c RL cL_law 7 2048 600128 7301098 84000 (some .boolean)) (X : lX l D S0 cM iS cI cZ mo ad cL b L xs s) (hL : L ≤ 448) {Ik : Nat → cSt → mSt → Prop} (hA : ∀ k, 7 * k + 7 ≤ L → lAll x0 (Ik k) (Ik (k + 1))) (hQ : lEx p l e R s m args below meth c Q D S0 cM iS cI cZ mo ad oa cL) : ∀ (n k : Nat), 64 ≤ k + n → k ≤ 64 → ∀ {S : cSt} {M : mSt} {o : Int64} {H : Heap} {locs : List Loc} {ls : Array Slot}, Ik k S M → lJ D S0 cM iS cI cZ mo ad oa cL s S M o H locs → lv_has ls 7 [(0, .ref b), (1, .ref x0), (2, .ref mo), (3, .ref oa), (4, .int (Int32.ofNat (7 * k)))] → W p l e R s m args below meth c H locs (300 + 2201 * k) (170000 + 101882 * k) Q (F0 m 23 ls []) := by
  intro n
  induction n with
  | zero =>
    intro k hk hk4 S M o H locs ls hi hJ hl
    refine lv_iload C.1 C.2.1 dL_law_23 (lv_at hl 4 rfl) ?_
    refine lv_aload_n C.1 C.2.1 dL_law_25 rfl (lv_at hl 0 rfl) ?_
    refine l_slen C X hJ dL_law_26 ?_
    refine lv_bipush (v := 7) C.1 C.2.1 dL_law_27 (by decide) ?_
    refine lv_isub C.1 C.2.1 dL_law_29 ?_
    refine lv_icmp_gt (tgt := 1956) C.1 C.2.1 dL_law_30 (by decide) (fun _ => hQ k S M o H locs ls hk4 hJ) (fun h9 => ?_)
    have h8 := l_go hk4 hL h9
    omega
  | succ n ih =>
    intro k hk hk4 S M o H locs ls hi hJ hl
    refine lv_iload C.1 C.2.1 dL_law_23 (lv_at hl 4 rfl) ?_
    refine lv_aload_n C.1 C.2.1 dL_law_25 rfl (lv_at hl 0 rfl) ?_
    refine l_slen C X hJ dL_law_26 ?_
    refine lv_bipush (v := 7) C.1 C.2.1 dL_law_27 (by decide) ?_
    refine lv_isub C.1 C.2.1 dL_law_29 ?_
    refine lv_icmp_gt (tgt := 1956) C.1 C.2.1 dL_law_30 (by decide) (fun _ => hQ k S M o H locs ls hk4 hJ) (fun h9 => ?_)
    have h8 := l_go hk4 hL h9
    have hin : lIn (Int32.ofNat (7 * k)) L := ⟨l_in 0 h8 hL (by decide), l_in 1 h8 hL (by decide), l_in 2 h8 hL (by decide), l_in 3 h8 hL (by decide), l_in 4 h8 hL (by decide), l_in 5 h8 hL (by decide), l_in 6 h8 hL (by decide)⟩
    obtain ⟨hK, hz, hd, a0, a1, a2, a3, a4, a5, a6, a7, a8, a9, a10, a11, a12, a13, a14, a15, a16, a17, a18, a19, a20, a21, a22, a23, a24, a25, a26, a27, a28, a29, a30, a31, a32, a33⟩ := hA k h8
    have hce : 300 + 2201 * k + 2201 ≤ 600128 ∧ 170000 + 101882 * k + 101882 ≤ 7301098 := by omega
    have e7 : Int32.ofNat (7 * k) + (7 : Int32) = Int32.ofNat (7 * (k + 1)) := by rw [Nat.mul_succ, Int32.ofNat_add]; rfl
    have kk : ∀ (S1 : cSt) (M1 : mSt) (o1 : Int64) (H1 : Heap) (locs1 : List Loc) (ls1 : Array Slot), Ik (k + 1) S1 M1 → lJ D S0 cM iS cI cZ mo ad oa cL s S1 M1 o1 H1 locs1 → lv_has ls1 7 [(0, .ref b), (1, .ref x0), (2, .ref mo), (3, .ref oa), (4, .int (Int32.ofNat (7 * k)))] → W p l e R s m args below meth c H1 locs1 (300 + 2201 * k + 2201) (170000 + 101882 * k + 101882) Q (F0 m 1950 ls1 []) := by
      intro S1 M1 o1 H1 locs1 ls1 hi hJ hl
      refine lv_iinc (v := Int32.ofNat (7 * (k + 1))) (lv' := [(4, .int (Int32.ofNat (7 * (k + 1)))), (0, .ref b), (1, .ref x0), (2, .ref mo), (3, .ref oa)]) C.1 C.2.1 dL_law_1950 hl (k := 4) rfl (by rw [← e7]; rfl) (by decide) rfl (fun ls hl => ?_)
      refine lv_goto (tgt := 23) C.1 C.2.1 dL_law_1953 (by decide) ?_
      refine W.widen (k := 300 + 2201 * (k + 1)) (n := 170000 + 101882 * (k + 1)) (by omega) (by omega) ?_
      exact ih (k + 1) (by omega) (by omega) hi hJ (lv_sub hl [1, 2, 3, 4, 0] rfl)
    refine lv_aload_n C.1 C.2.1 dL_law_33 rfl (lv_at hl 0 rfl) ?_
    refine lv_iload C.1 C.2.1 dL_law_34 (lv_at hl 4 rfl) ?_
    have hin0 : vp_in (Int32.ofNat (7 * k)) L := by have h9 := hin.1; rw [Int32.add_zero] at h9; exact h9
    refine l_sld C X hJ hin0 dL_law_36 ?_
    refine lv_bipush (v := 63) C.1 C.2.1 dL_law_37 (by decide) ?_
    refine lv_iand C.1 C.2.1 dL_law_39 ?_
    obtain ⟨w, hw, ew⟩ := and63 (xs (Int32.ofNat (7 * k)).toNatClampNeg)
    refine W.eq (g2 := F0 m 40 ls [.int (Int32.ofNat w)]) (by rw [← ew]) ?_
    match w, hw with
    | 0, _ =>
      refine lv_tableIn (off := 152) (tgt := 192) C.1 C.2.1 dL_law_40 (by decide) (by decide) (by decide) (by decide) ?_
      exact wl_type C X hK a0 hJ hi hin hce hl kk
    | 1, _ =>
      refine lv_tableIn (off := 221) (tgt := 261) C.1 C.2.1 dL_law_40 (by decide) (by decide) (by decide) (by decide) ?_
      exact wl_kind hz C X hK a1 hJ hi hin hce hl kk
    | 2, _ =>
      refine lv_tableIn (off := 265) (tgt := 305) C.1 C.2.1 dL_law_40 (by decide) (by decide) (by decide) (by decide) ?_
      exact wl_fault C X hK a2 hJ hi hin hce hl kk
    | 3, _ =>
      refine lv_tableIn (off := 278) (tgt := 318) C.1 C.2.1 dL_law_40 (by decide) (by decide) (by decide) (by decide) ?_
      exact wl_tick C X hK a3 hJ hi hin hce hl kk
    | 4, _ =>
      refine lv_tableIn (off := 315) (tgt := 355) C.1 C.2.1 dL_law_40 (by decide) (by decide) (by decide) (by decide) ?_
      exact wl_act C X hK a4 hJ hi hin hce hl kk
    | 5, _ =>
      refine lv_tableIn (off := 402) (tgt := 442) C.1 C.2.1 dL_law_40 (by decide) (by decide) (by decide) (by decide) ?_
      exact wl_commit C X hK a5 hJ hi hin hce hl kk
    | 6, _ =>
      refine lv_tableIn (off := 451) (tgt := 491) C.1 C.2.1 dL_law_40 (by decide) (by decide) (by decide) (by decide) ?_
      exact wl_cursor C X hK a6 hJ hi hin hce hl kk
    | 7, _ =>
      refine lv_tableIn (off := 512) (tgt := 552) C.1 C.2.1 dL_law_40 (by decide) (by decide) (by decide) (by decide) ?_
      exact wl_where C X hK a7 hJ hi hin hce hl kk
    | 8, _ =>
      refine lv_tableIn (off := 561) (tgt := 601) C.1 C.2.1 dL_law_40 (by decide) (by decide) (by decide) (by decide) ?_
      exact wl_stand C X hK a8 hJ hi hin hce hl kk
    | 9, _ =>
      refine lv_tableIn (off := 648) (tgt := 688) C.1 C.2.1 dL_law_40 (by decide) (by decide) (by decide) (by decide) ?_
      exact wl_listed C X hK a9 hJ hi hin hce hl kk
    | 10, _ =>
      refine lv_tableIn (off := 697) (tgt := 737) C.1 C.2.1 dL_law_40 (by decide) (by decide) (by decide) (by decide) ?_
      exact wl_turned C X hK a10 hJ hi hin hce hl kk
    | 11, _ =>
      refine lv_tableIn (off := 746) (tgt := 786) C.1 C.2.1 dL_law_40 (by decide) (by decide) (by decide) (by decide) ?_
      exact wl_send C X hK a11 hJ hi hin hce hl kk
    | 12, _ =>
      refine lv_tableIn (off := 811) (tgt := 851) C.1 C.2.1 dL_law_40 (by decide) (by decide) (by decide) (by decide) ?_
      exact wl_deliver C X hK a12 hJ hi hin hce hl kk
    | 13, _ =>
      refine lv_tableIn (off := 836) (tgt := 876) C.1 C.2.1 dL_law_40 (by decide) (by decide) (by decide) (by decide) ?_
      exact wl_lose C X hK a13 hJ hi hin hce hl kk
    | 14, _ =>
      refine lv_tableIn (off := 861) (tgt := 901) C.1 C.2.1 dL_law_40 (by decide) (by decide) (by decide) (by decide) ?_
      exact wl_twice C X hK a14 hJ hi hin hce hl kk
    | 15, _ =>
      refine lv_tableIn (off := 886) (tgt := 926) C.1 C.2.1 dL_law_40 (by decide) (by decide) (by decide) (by decide) ?_
      exact wl_octet C X hK a15 hJ hi hin hce hl kk
    | 16, _ =>
      refine lv_tableIn (off := 923) (tgt := 963) C.1 C.2.1 dL_law_40 (by decide) (by decide) (by decide) (by decide) ?_
      exact wl_bend C X hK a16 hJ hi hin hce hl kk
    | 17, _ =>
      refine lv_tableIn (off := 972) (tgt := 1012) C.1 C.2.1 dL_law_40 (by decide) (by decide) (by decide) (by decide) ?_
      exact wl_join C X hK a17 hJ hi hin hce hl kk
    | 18, _ =>
      refine lv_tableIn (off := 1009) (tgt := 1049) C.1 C.2.1 dL_law_40 (by decide) (by decide) (by decide) (by decide) ?_
      exact wl_object C X hK a18 hJ hi hin hce hl kk
    | 19, _ =>
      refine lv_tableIn (off := 1058) (tgt := 1098) C.1 C.2.1 dL_law_40 (by decide) (by decide) (by decide) (by decide) ?_
      exact wl_size C X hK a19 hJ hi hin hce hl kk
    | 20, _ =>
      refine lv_tableIn (off := 1107) (tgt := 1147) C.1 C.2.1 dL_law_40 (by decide) (by decide) (by decide) (by decide) ?_
      exact wl_value hz C X hK a20 hJ hi hin hce hl kk
    | 21, _ =>
      refine lv_tableIn (off := 1199) (tgt := 1239) C.1 C.2.1 dL_law_40 (by decide) (by decide) (by decide) (by decide) ?_
      exact wl_bound hz C X hK a21 hJ hi hin hce hl kk
    | 22, _ =>
      refine lv_tableIn (off := 1291) (tgt := 1331) C.1 C.2.1 dL_law_40 (by decide) (by decide) (by decide) (by decide) ?_
      exact wl_by C X hK a22 hJ hi hin hce hl kk
    | 23, _ =>
      refine lv_tableIn (off := 1352) (tgt := 1392) C.1 C.2.1 dL_law_40 (by decide) (by decide) (by decide) (by decide) ?_
      exact wl_list C X hK a23 hJ hi hin hce hl kk
    | 24, _ =>
      refine lv_tableIn (off := 1389) (tgt := 1429) C.1 C.2.1 dL_law_40 (by decide) (by decide) (by decide) (by decide) ?_
      exact wl_count C X hK a24 hJ hi hin hce hl kk
    | 25, _ =>
      refine lv_tableIn (off := 1462) (tgt := 1502) C.1 C.2.1 dL_law_40 (by decide) (by decide) (by decide) (by decide) ?_
      exact wl_ranked C X hK a25 hJ hi hin hce hl kk
    | 26, _ =>
      refine lv_tableIn (off := 1523) (tgt := 1563) C.1 C.2.1 dL_law_40 (by decide) (by decide) (by decide) (by decide) ?_
      exact wl_past hz C X hK a26 hJ hi hin hce hl kk
    | 27, _ =>
      refine lv_tableIn (off := 1615) (tgt := 1655) C.1 C.2.1 dL_law_40 (by decide) (by decide) (by decide) (by decide) ?_
      exact wl_was C X hK a27 hJ hi hin hce hl kk
    | 28, _ =>
      refine lv_tableIn (off := 1688) (tgt := 1728) C.1 C.2.1 dL_law_40 (by decide) (by decide) (by decide) (by decide) ?_
      exact wl_row C X hK a28 hJ hi hin hce hl kk
    | 29, _ =>
      refine lv_tableIn (off := 1737) (tgt := 1777) C.1 C.2.1 dL_law_40 (by decide) (by decide) (by decide) (by decide) ?_
      exact wl_frame C X hK a29 hJ hi hin hce hl kk
    | 30, _ =>
      refine lv_tableIn (off := 1774) (tgt := 1814) C.1 C.2.1 dL_law_40 (by decide) (by decide) (by decide) (by decide) ?_
      exact wl_news C X hK a30 hJ hi hin hce hl kk
    | 31, _ =>
      refine lv_tableIn (off := 1823) (tgt := 1863) C.1 C.2.1 dL_law_40 (by decide) (by decide) (by decide) (by decide) ?_
      exact wl_calm C X hK a31 hJ hi hin hce hl kk
    | 32, _ =>
      refine lv_tableIn (off := 1848) (tgt := 1888) C.1 C.2.1 dL_law_40 (by decide) (by decide) (by decide) (by decide) ?_
      exact wl_node C X hK a32 hJ hi hin hce hl kk
    | 33, _ =>
      refine lv_tableIn (off := 1885) (tgt := 1925) C.1 C.2.1 dL_law_40 (by decide) (by decide) (by decide) (by decide) ?_
      exact wl_total C X hK a33 hJ hi hin hce hl kk
    | w + 34, hw =>
      refine lv_tableOut (tgt := 1950) C.1 C.2.1 dL_law_40 (Or.inr (by rw [Int32.toInt_ofNat_of_lt (by omega)]; omega)) (by decide) ?_
      refine W.widen (k := 300 + 2201 * k + 2201) (n := 170000 + 101882 * k + 101882) (by omega) (by omega) ?_
      exact kk S M o H locs ls (hd S M hi) hJ hl
end
