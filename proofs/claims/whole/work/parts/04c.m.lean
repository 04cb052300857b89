-- made by wip/whole/walk.py: the reference's set, putInOrder, several, shares, sum, isErased
theorem dX12_set_0 : decode cX12_set 0 = .ok (.iconst 0, 1) := by decide +kernel
theorem dX12_set_1 : decode cX12_set 1 = .ok (.istore 5, 2) := by decide +kernel
theorem dX12_set_3 : decode cX12_set 3 = .ok (.iload 5, 2) := by decide +kernel
theorem dX12_set_5 : decode cX12_set 5 = .ok (.bipush 64, 2) := by decide +kernel
theorem dX12_set_7 : decode cX12_set 7 = .ok (.if_icmp .ge 108, 3) := by decide +kernel
theorem dX12_set_10 : decode cX12_set 10 = .ok (.iconst (-1), 1) := by decide +kernel
theorem dX12_set_11 : decode cX12_set 11 = .ok (.istore 6, 2) := by decide +kernel
theorem dX12_set_13 : decode cX12_set 13 = .ok (.iconst 0, 1) := by decide +kernel
theorem dX12_set_14 : decode cX12_set 14 = .ok (.istore 7, 2) := by decide +kernel
theorem dX12_set_16 : decode cX12_set 16 = .ok (.iload 7, 2) := by decide +kernel
theorem dX12_set_18 : decode cX12_set 18 = .ok (.iload_n 2, 1) := by decide +kernel
theorem dX12_set_19 : decode cX12_set 19 = .ok (.if_icmp .ge 76, 3) := by decide +kernel
theorem dX12_set_22 : decode cX12_set 22 = .ok (.aload_n 0, 1) := by decide +kernel
theorem dX12_set_23 : decode cX12_set 23 = .ok (.iload_n 1, 1) := by decide +kernel
theorem dX12_set_24 : decode cX12_set 24 = .ok (.iload 7, 2) := by decide +kernel
theorem dX12_set_26 : decode cX12_set 26 = .ok (.invokevirtual 230, 3) := by decide +kernel
theorem dX12_set_29 : decode cX12_set 29 = .ok (.istore 8, 2) := by decide +kernel
theorem dX12_set_31 : decode cX12_set 31 = .ok (.aload_n 0, 1) := by decide +kernel
theorem dX12_set_32 : decode cX12_set 32 = .ok (.iload 8, 2) := by decide +kernel
theorem dX12_set_34 : decode cX12_set 34 = .ok (.bipush 7, 2) := by decide +kernel
theorem dX12_set_36 : decode cX12_set 36 = .ok (.iload_n 3, 1) := by decide +kernel
theorem dX12_set_37 : decode cX12_set 37 = .ok (.iload 4, 2) := by decide +kernel
theorem dX12_set_39 : decode cX12_set 39 = .ok (.invokevirtual 281, 3) := by decide +kernel
theorem dX12_set_42 : decode cX12_set 42 = .ok (.ifCond .eq 47, 3) := by decide +kernel
theorem dX12_set_45 : decode cX12_set 45 = .ok (.aload_n 0, 1) := by decide +kernel
theorem dX12_set_46 : decode cX12_set 46 = .ok (.getfield 38, 3) := by decide +kernel
theorem dX12_set_49 : decode cX12_set 49 = .ok (.iload 8, 2) := by decide +kernel
theorem dX12_set_51 : decode cX12_set 51 = .ok (.iaload, 1) := by decide +kernel
theorem dX12_set_52 : decode cX12_set 52 = .ok (.iload 5, 2) := by decide +kernel
theorem dX12_set_54 : decode cX12_set 54 = .ok (.if_icmp .ne 35, 3) := by decide +kernel
theorem dX12_set_57 : decode cX12_set 57 = .ok (.aload_n 0, 1) := by decide +kernel
theorem dX12_set_58 : decode cX12_set 58 = .ok (.iload_n 1, 1) := by decide +kernel
theorem dX12_set_59 : decode cX12_set 59 = .ok (.iload_n 2, 1) := by decide +kernel
theorem dX12_set_60 : decode cX12_set 60 = .ok (.iload 8, 2) := by decide +kernel
theorem dX12_set_62 : decode cX12_set 62 = .ok (.invokevirtual 297, 3) := by decide +kernel
theorem dX12_set_65 : decode cX12_set 65 = .ok (.ifCond .eq 24, 3) := by decide +kernel
theorem dX12_set_68 : decode cX12_set 68 = .ok (.iload 6, 2) := by decide +kernel
theorem dX12_set_70 : decode cX12_set 70 = .ok (.iconst (-1), 1) := by decide +kernel
theorem dX12_set_71 : decode cX12_set 71 = .ok (.if_icmp .eq 14, 3) := by decide +kernel
theorem dX12_set_74 : decode cX12_set 74 = .ok (.aload_n 0, 1) := by decide +kernel
theorem dX12_set_75 : decode cX12_set 75 = .ok (.iload 6, 2) := by decide +kernel
theorem dX12_set_77 : decode cX12_set 77 = .ok (.iload 8, 2) := by decide +kernel
theorem dX12_set_79 : decode cX12_set 79 = .ok (.invokevirtual 285, 3) := by decide +kernel
theorem dX12_set_82 : decode cX12_set 82 = .ok (.ifCond .eq 7, 3) := by decide +kernel
theorem dX12_set_85 : decode cX12_set 85 = .ok (.iload 8, 2) := by decide +kernel
theorem dX12_set_87 : decode cX12_set 87 = .ok (.istore 6, 2) := by decide +kernel
theorem dX12_set_89 : decode cX12_set 89 = .ok (.iinc 7 1, 3) := by decide +kernel
theorem dX12_set_92 : decode cX12_set 92 = .ok (.goto (-76), 3) := by decide +kernel
theorem dX12_set_95 : decode cX12_set 95 = .ok (.iload 6, 2) := by decide +kernel
theorem dX12_set_97 : decode cX12_set 97 = .ok (.iconst (-1), 1) := by decide +kernel
theorem dX12_set_98 : decode cX12_set 98 = .ok (.if_icmp .eq 11, 3) := by decide +kernel
theorem dX12_set_101 : decode cX12_set 101 = .ok (.aload_n 0, 1) := by decide +kernel
theorem dX12_set_102 : decode cX12_set 102 = .ok (.iload 5, 2) := by decide +kernel
theorem dX12_set_104 : decode cX12_set 104 = .ok (.iload 6, 2) := by decide +kernel
theorem dX12_set_106 : decode cX12_set 106 = .ok (.invokevirtual 288, 3) := by decide +kernel
theorem dX12_set_109 : decode cX12_set 109 = .ok (.iinc 5 1, 3) := by decide +kernel
theorem dX12_set_112 : decode cX12_set 112 = .ok (.goto (-109), 3) := by decide +kernel
theorem dX12_set_115 : decode cX12_set 115 = .ok (.return_, 1) := by decide +kernel
theorem cd_set : Cond.code yX12_set cX12_set 9 none ∈ lw_g := mt_at 2069 (by decide +kernel) rfl
theorem mw_set : mCw 272 yX12_set cX12_set 9 none 4 := ⟨cd_set, mt_at 2066 (by decide +kernel) rfl, in_M, by decide +kernel⟩
theorem im_set : Cond.instanceMethod yX12_set ∈ lw_g := mt_at 2068 (by decide +kernel) rfl
theorem sl_set : Cond.selects RX12 yX12_set yX12_set ∈ lw_g := mt_sel 64 (by decide +kernel) rfl
section
variable {p : Program} {l : Launch} {e : Env} {R : Room} {s : State} {m : MethodId} {args : Array Value} {below : List Frame} {meth : Method} {c : Code} {cM : ClassId} {iS : Nat → Nat} {cI cZ : ClassId} {mo : Nat} {ad : Nat → Nat} {r : Int32} {S9 : mSt}
noncomputable def fm_set_109 (g_3 : mSt → Int32 → Int32 → Int32 → Int32 → Int32 → Option (mSt)) (S : mSt) (v1 : Int32) (v2 : Int32) (v3 : Int32) (v4 : Int32) (v5 : Int32) : Option (mSt) :=
lt (v5 + (1 : Int32)) fun x1 =>
g_3 S v1 v2 v3 v4 x1
set_option maxRecDepth 100000 in
set_option maxHeartbeats 4000000 in
theorem wm_set_109 (C : mY p R s m args meth c cX12_set 9 3 67 none) (X : mX s cM iS cI cZ mo ad) {g_3 : mSt → Int32 → Int32 → Int32 → Int32 → Int32 → Option (mSt)} (hg_3 : ∀ {S : mSt} {v1 : Int32} {v2 : Int32} {v3 : Int32} {v4 : Int32} {v5 : Int32} {H : Heap} {locs : List Loc} {ls : Array Slot}, g_3 S v1 v2 v3 v4 v5 = some S9 → mW cM iS cI cZ mo ad S H → mS (mA mo ad) s.heap H locs → lv_has ls 9 [(0, .ref mo), (1, .int v1), (2, .int v2), (3, .int v3), (4, .int v4), (5, .int v5)] → W p l e R s m args below meth c H locs 0 0 (MQ below (mQw none cM iS cI cZ mo ad S9) args s 0 0 (mA mo ad)) (F0 m 3 ls [])) : ∀ {S : mSt} {v1 : Int32} {v2 : Int32} {v3 : Int32} {v4 : Int32} {v5 : Int32} {H : Heap} {locs : List Loc} {ls : Array Slot}, fm_set_109 g_3 S v1 v2 v3 v4 v5 = some S9 → mW cM iS cI cZ mo ad S H → mS (mA mo ad) s.heap H locs → lv_has ls 9 [(0, .ref mo), (1, .int v1), (2, .int v2), (3, .int v3), (4, .int v4), (5, .int v5)] → W p l e R s m args below meth c H locs 0 0 (MQ below (mQw none cM iS cI cZ mo ad S9) args s 0 0 (mA mo ad)) (F0 m 109 ls []) := by
  intro S v1 v2 v3 v4 v5 H locs ls h hW hS hl
  unfold fm_set_109 at h
  refine lt_ok h (fun x1 e_x1 h => ?_)
  refine lv_iinc (v := x1) (lv' := [(5, .int x1), (0, .ref mo), (1, .int v1), (2, .int v2), (3, .int v3), (4, .int v4)]) C.1 C.2.1 dX12_set_109 hl (k := 5) rfl (by rw [← e_x1]; rfl) (by decide) rfl (fun ls hl => ?_)
  refine lv_goto (tgt := 3) C.1 C.2.1 dX12_set_112 (by decide) ?_
  exact hg_3 h hW hS (lv_sub hl [1, 2, 3, 4, 5, 0] rfl)
noncomputable def fm_set_89 (g_3 : mSt → Int32 → Int32 → Int32 → Int32 → Int32 → Option (mSt)) (g_16 : mSt → Int32 → Int32 → Int32 → Int32 → Int32 → Int32 → Int32 → Option (mSt)) (S : mSt) (v1 : Int32) (v2 : Int32) (v3 : Int32) (v4 : Int32) (v5 : Int32) (v6 : Int32) (v7 : Int32) : Option (mSt) :=
lt (v7 + (1 : Int32)) fun x1 =>
g_16 S v1 v2 v3 v4 v5 v6 x1
set_option maxRecDepth 100000 in
set_option maxHeartbeats 4000000 in
theorem wm_set_89 (C : mY p R s m args meth c cX12_set 9 3 67 none) (X : mX s cM iS cI cZ mo ad) {g_3 : mSt → Int32 → Int32 → Int32 → Int32 → Int32 → Option (mSt)} {g_16 : mSt → Int32 → Int32 → Int32 → Int32 → Int32 → Int32 → Int32 → Option (mSt)} (hg_3 : ∀ {S : mSt} {v1 : Int32} {v2 : Int32} {v3 : Int32} {v4 : Int32} {v5 : Int32} {H : Heap} {locs : List Loc} {ls : Array Slot}, g_3 S v1 v2 v3 v4 v5 = some S9 → mW cM iS cI cZ mo ad S H → mS (mA mo ad) s.heap H locs → lv_has ls 9 [(0, .ref mo), (1, .int v1), (2, .int v2), (3, .int v3), (4, .int v4), (5, .int v5)] → W p l e R s m args below meth c H locs 0 0 (MQ below (mQw none cM iS cI cZ mo ad S9) args s 0 0 (mA mo ad)) (F0 m 3 ls [])) (hg_16 : ∀ {S : mSt} {v1 : Int32} {v2 : Int32} {v3 : Int32} {v4 : Int32} {v5 : Int32} {v6 : Int32} {v7 : Int32} {H : Heap} {locs : List Loc} {ls : Array Slot}, g_16 S v1 v2 v3 v4 v5 v6 v7 = some S9 → mW cM iS cI cZ mo ad S H → mS (mA mo ad) s.heap H locs → lv_has ls 9 [(0, .ref mo), (1, .int v1), (2, .int v2), (3, .int v3), (4, .int v4), (5, .int v5), (6, .int v6), (7, .int v7)] → W p l e R s m args below meth c H locs 0 0 (MQ below (mQw none cM iS cI cZ mo ad S9) args s 0 0 (mA mo ad)) (F0 m 16 ls [])) : ∀ {S : mSt} {v1 : Int32} {v2 : Int32} {v3 : Int32} {v4 : Int32} {v5 : Int32} {v6 : Int32} {v7 : Int32} {H : Heap} {locs : List Loc} {ls : Array Slot}, fm_set_89 g_3 g_16 S v1 v2 v3 v4 v5 v6 v7 = some S9 → mW cM iS cI cZ mo ad S H → mS (mA mo ad) s.heap H locs → lv_has ls 9 [(0, .ref mo), (1, .int v1), (2, .int v2), (3, .int v3), (4, .int v4), (5, .int v5), (6, .int v6), (7, .int v7)] → W p l e R s m args below meth c H locs 0 0 (MQ below (mQw none cM iS cI cZ mo ad S9) args s 0 0 (mA mo ad)) (F0 m 89 ls []) := by
  intro S v1 v2 v3 v4 v5 v6 v7 H locs ls h hW hS hl
  unfold fm_set_89 at h
  refine lt_ok h (fun x1 e_x1 h => ?_)
  refine lv_iinc (v := x1) (lv' := [(7, .int x1), (0, .ref mo), (1, .int v1), (2, .int v2), (3, .int v3), (4, .int v4), (5, .int v5), (6, .int v6)]) C.1 C.2.1 dX12_set_89 hl (k := 7) rfl (by rw [← e_x1]; rfl) (by decide) rfl (fun ls hl => ?_)
  refine lv_goto (tgt := 16) C.1 C.2.1 dX12_set_92 (by decide) ?_
  exact hg_16 h hW hS (lv_sub hl [1, 2, 3, 4, 5, 6, 7, 0] rfl)
noncomputable def fm_set_85 (g_3 : mSt → Int32 → Int32 → Int32 → Int32 → Int32 → Option (mSt)) (g_16 : mSt → Int32 → Int32 → Int32 → Int32 → Int32 → Int32 → Int32 → Option (mSt)) (S : mSt) (v1 : Int32) (v2 : Int32) (v3 : Int32) (v4 : Int32) (v5 : Int32) (v7 : Int32) (v8 : Int32) : Option (mSt) :=
fm_set_89 g_3 g_16 S v1 v2 v3 v4 v5 v8 v7
set_option maxRecDepth 100000 in
set_option maxHeartbeats 4000000 in
theorem wm_set_85 (C : mY p R s m args meth c cX12_set 9 3 67 none) (X : mX s cM iS cI cZ mo ad) {g_3 : mSt → Int32 → Int32 → Int32 → Int32 → Int32 → Option (mSt)} {g_16 : mSt → Int32 → Int32 → Int32 → Int32 → Int32 → Int32 → Int32 → Option (mSt)} (hg_3 : ∀ {S : mSt} {v1 : Int32} {v2 : Int32} {v3 : Int32} {v4 : Int32} {v5 : Int32} {H : Heap} {locs : List Loc} {ls : Array Slot}, g_3 S v1 v2 v3 v4 v5 = some S9 → mW cM iS cI cZ mo ad S H → mS (mA mo ad) s.heap H locs → lv_has ls 9 [(0, .ref mo), (1, .int v1), (2, .int v2), (3, .int v3), (4, .int v4), (5, .int v5)] → W p l e R s m args below meth c H locs 0 0 (MQ below (mQw none cM iS cI cZ mo ad S9) args s 0 0 (mA mo ad)) (F0 m 3 ls [])) (hg_16 : ∀ {S : mSt} {v1 : Int32} {v2 : Int32} {v3 : Int32} {v4 : Int32} {v5 : Int32} {v6 : Int32} {v7 : Int32} {H : Heap} {locs : List Loc} {ls : Array Slot}, g_16 S v1 v2 v3 v4 v5 v6 v7 = some S9 → mW cM iS cI cZ mo ad S H → mS (mA mo ad) s.heap H locs → lv_has ls 9 [(0, .ref mo), (1, .int v1), (2, .int v2), (3, .int v3), (4, .int v4), (5, .int v5), (6, .int v6), (7, .int v7)] → W p l e R s m args below meth c H locs 0 0 (MQ below (mQw none cM iS cI cZ mo ad S9) args s 0 0 (mA mo ad)) (F0 m 16 ls [])) : ∀ {S : mSt} {v1 : Int32} {v2 : Int32} {v3 : Int32} {v4 : Int32} {v5 : Int32} {v7 : Int32} {v8 : Int32} {H : Heap} {locs : List Loc} {ls : Array Slot}, fm_set_85 g_3 g_16 S v1 v2 v3 v4 v5 v7 v8 = some S9 → mW cM iS cI cZ mo ad S H → mS (mA mo ad) s.heap H locs → lv_has ls 9 [(0, .ref mo), (1, .int v1), (2, .int v2), (3, .int v3), (4, .int v4), (5, .int v5), (7, .int v7), (8, .int v8)] → W p l e R s m args below meth c H locs 0 0 (MQ below (mQw none cM iS cI cZ mo ad S9) args s 0 0 (mA mo ad)) (F0 m 85 ls []) := by
  intro S v1 v2 v3 v4 v5 v7 v8 H locs ls h hW hS hl
  unfold fm_set_85 at h
  refine lv_iload C.1 C.2.1 dX12_set_85 (lv_at hl 7 rfl) ?_
  refine lv_istore (lv' := [(6, .int v8), (0, .ref mo), (1, .int v1), (2, .int v2), (3, .int v3), (4, .int v4), (5, .int v5), (7, .int v7), (8, .int v8)]) C.1 C.2.1 dX12_set_87 hl (by decide) rfl (fun ls hl => ?_)
  exact wm_set_89 C X hg_3 hg_16 h hW hS (lv_sub hl [1, 2, 3, 4, 5, 6, 0, 7] rfl)
noncomputable def fm_set_16 (g_3 : mSt → Int32 → Int32 → Int32 → Int32 → Int32 → Option (mSt)) : Nat → mSt → Int32 → Int32 → Int32 → Int32 → Int32 → Int32 → Int32 → Option (mSt)
  | 0, _, _, _, _, _, _, _, _ => none
  | n + 1, S, v1, v2, v3, v4, v5, v6, v7 =>
    if v2 ≤ v7 then (
    if v6 = (-1 : Int32) then (
    fm_set_109 g_3 S v1 v2 v3 v4 v5)
    else (
    bd (fm_put S v5 v6) fun S3 =>
    fm_set_109 g_3 S3 v1 v2 v3 v4 v5))
    else (
    bd (fm_rowAt S v1 v7) fun r4 =>
    bd (fm_isOf S r4 (7 : Int32) v3 v4) fun r5 =>
    if r5 = 0 then (
    fm_set_89 g_3 (fm_set_16 g_3 n) S v1 v2 v3 v4 v5 v6 v7)
    else (
    ck r4 1000 (
    if (rd S 12 r4) = v5 then (
    bd (fm_holds S v1 v2 r4) fun r8 =>
    if r8 = 0 then (
    fm_set_89 g_3 (fm_set_16 g_3 n) S v1 v2 v3 v4 v5 v6 v7)
    else (
    if v6 = (-1 : Int32) then (
    fm_set_85 g_3 (fm_set_16 g_3 n) S v1 v2 v3 v4 v5 v7 r4)
    else (
    bd (fm_isBefore S v6 r4) fun r11 =>
    if r11 = 0 then (
    fm_set_89 g_3 (fm_set_16 g_3 n) S v1 v2 v3 v4 v5 v6 v7)
    else (
    fm_set_85 g_3 (fm_set_16 g_3 n) S v1 v2 v3 v4 v5 v7 r4))))
    else (
    fm_set_89 g_3 (fm_set_16 g_3 n) S v1 v2 v3 v4 v5 v6 v7))))
set_option maxRecDepth 100000 in
set_option maxHeartbeats 4000000 in
theorem wm_set_16 (C : mY p R s m args meth c cX12_set 9 3 67 none) (X : mX s cM iS cI cZ mo ad) {g_3 : mSt → Int32 → Int32 → Int32 → Int32 → Int32 → Option (mSt)} (hg_3 : ∀ {S : mSt} {v1 : Int32} {v2 : Int32} {v3 : Int32} {v4 : Int32} {v5 : Int32} {H : Heap} {locs : List Loc} {ls : Array Slot}, g_3 S v1 v2 v3 v4 v5 = some S9 → mW cM iS cI cZ mo ad S H → mS (mA mo ad) s.heap H locs → lv_has ls 9 [(0, .ref mo), (1, .int v1), (2, .int v2), (3, .int v3), (4, .int v4), (5, .int v5)] → W p l e R s m args below meth c H locs 0 0 (MQ below (mQw none cM iS cI cZ mo ad S9) args s 0 0 (mA mo ad)) (F0 m 3 ls [])) : ∀ (n : Nat), ∀ {S : mSt} {v1 : Int32} {v2 : Int32} {v3 : Int32} {v4 : Int32} {v5 : Int32} {v6 : Int32} {v7 : Int32} {H : Heap} {locs : List Loc} {ls : Array Slot}, fm_set_16 g_3 n S v1 v2 v3 v4 v5 v6 v7 = some S9 → mW cM iS cI cZ mo ad S H → mS (mA mo ad) s.heap H locs → lv_has ls 9 [(0, .ref mo), (1, .int v1), (2, .int v2), (3, .int v3), (4, .int v4), (5, .int v5), (6, .int v6), (7, .int v7)] → W p l e R s m args below meth c H locs 0 0 (MQ below (mQw none cM iS cI cZ mo ad S9) args s 0 0 (mA mo ad)) (F0 m 16 ls []) := by
  intro n
  induction n with
  | zero =>
    intro S v1 v2 v3 v4 v5 v6 v7 H locs ls h hW hS hl
    exact absurd (show (none : Option (mSt)) = _ from h) (fun q => by cases q)
  | succ n ih =>
    intro S v1 v2 v3 v4 v5 v6 v7 H locs ls h hW hS hl
    rw [fm_set_16] at h
    refine lv_iload C.1 C.2.1 dX12_set_16 (lv_at hl 7 rfl) ?_
    refine lv_iload_n C.1 C.2.1 dX12_set_18 rfl (lv_at hl 2 rfl) ?_
    refine lv_icmp_ge (tgt := 95) C.1 C.2.1 dX12_set_19 (by decide) (fun c1 => ?_) (fun c1 => ?_)
    · have h := if_t h c1
      refine lv_iload C.1 C.2.1 dX12_set_95 (lv_at hl 6 rfl) ?_
      refine lv_iconst (v := -1) C.1 C.2.1 dX12_set_97 (by decide) ?_
      refine lv_icmp_eq (tgt := 109) C.1 C.2.1 dX12_set_98 (by decide) (fun c2 => ?_) (fun c2 => ?_)
      · have h := if_t h c2
        exact wm_set_109 C X hg_3 h hW hS (lv_sub hl [0, 1, 2, 3, 4, 5] rfl)
      · have h := if_f h c2
        refine lv_aload_n C.1 C.2.1 dX12_set_101 rfl (lv_at hl 0 rfl) ?_
        refine lv_iload C.1 C.2.1 dX12_set_102 (lv_at hl 5 rfl) ?_
        refine lv_iload C.1 C.2.1 dX12_set_104 (lv_at hl 6 rfl) ?_
        obtain ⟨S3, h_S3, h⟩ := bd_ok h
        refine m_callW (rest := []) (ov := none) C X hW hS hl.1 [.int v5, .int v6] (tm_put l h_S3) mw_put im_put sl_put rfl ⟨by decide, by decide⟩ rfl (Nat.le_of_ble_eq_true rfl) dX12_set_106 (fun H locs hW hS => ?_)
        refine W.eq (g2 := F0 m 109 ls []) rfl ?_
        exact wm_set_109 C X hg_3 h hW hS (lv_sub hl [0, 1, 2, 3, 4, 5] rfl)
    · have h := if_f h c1
      refine lv_aload_n C.1 C.2.1 dX12_set_22 rfl (lv_at hl 0 rfl) ?_
      refine lv_iload_n C.1 C.2.1 dX12_set_23 rfl (lv_at hl 1 rfl) ?_
      refine lv_iload C.1 C.2.1 dX12_set_24 (lv_at hl 7 rfl) ?_
      obtain ⟨r4, h_r4, h⟩ := bd_ok h
      refine m_callR (rest := []) C X hW hl.1 [.int v1, .int v7] (tm_rowAt l h_r4) mw_rowAt im_rowAt sl_rowAt rfl ⟨by decide, by decide⟩ rfl (Nat.le_of_ble_eq_true rfl) dX12_set_26 ?_
      refine lv_istore (lv' := [(8, .int r4), (0, .ref mo), (1, .int v1), (2, .int v2), (3, .int v3), (4, .int v4), (5, .int v5), (6, .int v6), (7, .int v7)]) C.1 C.2.1 dX12_set_29 hl (by decide) rfl (fun ls hl => ?_)
      refine lv_aload_n C.1 C.2.1 dX12_set_31 rfl (lv_at hl 1 rfl) ?_
      refine lv_iload C.1 C.2.1 dX12_set_32 (lv_at hl 0 rfl) ?_
      refine lv_bipush (v := 7) C.1 C.2.1 dX12_set_34 (by decide) ?_
      refine lv_iload_n C.1 C.2.1 dX12_set_36 rfl (lv_at hl 4 rfl) ?_
      refine lv_iload C.1 C.2.1 dX12_set_37 (lv_at hl 5 rfl) ?_
      obtain ⟨r5, h_r5, h⟩ := bd_ok h
      refine m_callR (rest := []) C X hW hl.1 [.int r4, .int (7 : Int32), .int v3, .int v4] (tm_isOf l h_r5) mw_isOf im_isOf sl_isOf rfl ⟨by decide, by decide⟩ rfl (Nat.le_of_ble_eq_true rfl) dX12_set_39 ?_
      refine lv_if_eq (tgt := 89) C.1 C.2.1 dX12_set_42 (by decide) (fun c6 => ?_) (fun c6 => ?_)
      · have h := if_t h c6
        exact wm_set_89 C X hg_3 ih h hW hS (lv_sub hl [1, 2, 3, 4, 5, 6, 7, 8] rfl)
      · have h := if_f h c6
        refine lv_aload_n C.1 C.2.1 dX12_set_45 rfl (lv_at hl 1 rfl) ?_
        refine gf_12 C X hW dX12_set_46 ?_
        refine lv_iload C.1 C.2.1 dX12_set_49 (lv_at hl 0 rfl) ?_
        obtain ⟨hin, h⟩ := ck_ok h
        refine l_12 C X hW hin dX12_set_51 ?_
        refine lv_iload C.1 C.2.1 dX12_set_52 (lv_at hl 6 rfl) ?_
        refine lv_icmp_ne (tgt := 89) C.1 C.2.1 dX12_set_54 (by decide) (fun c7 => ?_) (fun c7 => ?_)
        · have h := if_f h c7
          exact wm_set_89 C X hg_3 ih h hW hS (lv_sub hl [1, 2, 3, 4, 5, 6, 7, 8] rfl)
        · have h := if_t h c7
          refine lv_aload_n C.1 C.2.1 dX12_set_57 rfl (lv_at hl 1 rfl) ?_
          refine lv_iload_n C.1 C.2.1 dX12_set_58 rfl (lv_at hl 2 rfl) ?_
          refine lv_iload_n C.1 C.2.1 dX12_set_59 rfl (lv_at hl 3 rfl) ?_
          refine lv_iload C.1 C.2.1 dX12_set_60 (lv_at hl 0 rfl) ?_
          obtain ⟨r8, h_r8, h⟩ := bd_ok h
          refine m_callR (rest := []) C X hW hl.1 [.int v1, .int v2, .int r4] (tm_holds l h_r8) mw_holds im_holds sl_holds rfl ⟨by decide, by decide⟩ rfl (Nat.le_of_ble_eq_true rfl) dX12_set_62 ?_
          refine lv_if_eq (tgt := 89) C.1 C.2.1 dX12_set_65 (by decide) (fun c9 => ?_) (fun c9 => ?_)
          · have h := if_t h c9
            exact wm_set_89 C X hg_3 ih h hW hS (lv_sub hl [1, 2, 3, 4, 5, 6, 7, 8] rfl)
          · have h := if_f h c9
            refine lv_iload C.1 C.2.1 dX12_set_68 (lv_at hl 7 rfl) ?_
            refine lv_iconst (v := -1) C.1 C.2.1 dX12_set_70 (by decide) ?_
            refine lv_icmp_eq (tgt := 85) C.1 C.2.1 dX12_set_71 (by decide) (fun c10 => ?_) (fun c10 => ?_)
            · have h := if_t h c10
              exact wm_set_85 C X hg_3 ih h hW hS (lv_sub hl [1, 2, 3, 4, 5, 6, 8, 0] rfl)
            · have h := if_f h c10
              refine lv_aload_n C.1 C.2.1 dX12_set_74 rfl (lv_at hl 1 rfl) ?_
              refine lv_iload C.1 C.2.1 dX12_set_75 (lv_at hl 7 rfl) ?_
              refine lv_iload C.1 C.2.1 dX12_set_77 (lv_at hl 0 rfl) ?_
              obtain ⟨r11, h_r11, h⟩ := bd_ok h
              refine m_callR (rest := []) C X hW hl.1 [.int v6, .int r4] (tm_isBefore l h_r11) mw_isBefore im_isBefore sl_isBefore rfl ⟨by decide, by decide⟩ rfl (Nat.le_of_ble_eq_true rfl) dX12_set_79 ?_
              refine lv_if_eq (tgt := 89) C.1 C.2.1 dX12_set_82 (by decide) (fun c12 => ?_) (fun c12 => ?_)
              · have h := if_t h c12
                exact wm_set_89 C X hg_3 ih h hW hS (lv_sub hl [1, 2, 3, 4, 5, 6, 7, 8] rfl)
              · have h := if_f h c12
                exact wm_set_85 C X hg_3 ih h hW hS (lv_sub hl [1, 2, 3, 4, 5, 6, 8, 0] rfl)
noncomputable def fm_set_3 : Nat → mSt → Int32 → Int32 → Int32 → Int32 → Int32 → Option (mSt)
  | 0, _, _, _, _, _, _ => none
  | n + 1, S, v1, v2, v3, v4, v5 =>
    if (64 : Int32) ≤ v5 then (
    some S)
    else (
    fm_set_16 (fm_set_3 n) mFU S v1 v2 v3 v4 v5 (-1 : Int32) (0 : Int32))
set_option maxRecDepth 100000 in
set_option maxHeartbeats 4000000 in
theorem wm_set_3 (C : mY p R s m args meth c cX12_set 9 3 67 none) (X : mX s cM iS cI cZ mo ad) : ∀ (n : Nat), ∀ {S : mSt} {v1 : Int32} {v2 : Int32} {v3 : Int32} {v4 : Int32} {v5 : Int32} {H : Heap} {locs : List Loc} {ls : Array Slot}, fm_set_3 n S v1 v2 v3 v4 v5 = some S9 → mW cM iS cI cZ mo ad S H → mS (mA mo ad) s.heap H locs → lv_has ls 9 [(0, .ref mo), (1, .int v1), (2, .int v2), (3, .int v3), (4, .int v4), (5, .int v5)] → W p l e R s m args below meth c H locs 0 0 (MQ below (mQw none cM iS cI cZ mo ad S9) args s 0 0 (mA mo ad)) (F0 m 3 ls []) := by
  intro n
  induction n with
  | zero =>
    intro S v1 v2 v3 v4 v5 H locs ls h hW hS hl
    exact absurd (show (none : Option (mSt)) = _ from h) (fun q => by cases q)
  | succ n ih =>
    intro S v1 v2 v3 v4 v5 H locs ls h hW hS hl
    rw [fm_set_3] at h
    refine lv_iload C.1 C.2.1 dX12_set_3 (lv_at hl 5 rfl) ?_
    refine lv_bipush (v := 64) C.1 C.2.1 dX12_set_5 (by decide) ?_
    refine lv_icmp_ge (tgt := 115) C.1 C.2.1 dX12_set_7 (by decide) (fun c1 => ?_) (fun c1 => ?_)
    · have h := if_t h c1
      cases h
      exact m_retvW C hW hS dX12_set_115
    · have h := if_f h c1
      refine lv_iconst (v := -1) C.1 C.2.1 dX12_set_10 (by decide) ?_
      refine lv_istore (lv' := [(6, .int (-1 : Int32)), (0, .ref mo), (1, .int v1), (2, .int v2), (3, .int v3), (4, .int v4), (5, .int v5)]) C.1 C.2.1 dX12_set_11 hl (by decide) rfl (fun ls hl => ?_)
      refine lv_iconst (v := 0) C.1 C.2.1 dX12_set_13 (by decide) ?_
      refine lv_istore (lv' := [(7, .int (0 : Int32)), (6, .int (-1 : Int32)), (0, .ref mo), (1, .int v1), (2, .int v2), (3, .int v3), (4, .int v4), (5, .int v5)]) C.1 C.2.1 dX12_set_14 hl (by decide) rfl (fun ls hl => ?_)
      exact wm_set_16 C X ih mFU h hW hS (lv_sub hl [2, 3, 4, 5, 6, 7, 1, 0] rfl)
noncomputable def fm_set (S : mSt) (v1 : Int32) (v2 : Int32) (v3 : Int32) (v4 : Int32) : Option (mSt) :=
fm_set_3 mFU S v1 v2 v3 v4 (0 : Int32)
set_option maxRecDepth 100000 in
set_option maxHeartbeats 4000000 in
theorem tm_set (l : Launch) {cM : ClassId} {iS : Nat → Nat} {cI cZ : ClassId} {mo : Nat} {ad : Nat → Nat} {S : mSt} {v1 : Int32} {v2 : Int32} {v3 : Int32} {v4 : Int32} {S9 : mSt} (h : fm_set S v1 v2 v3 v4 = some S9) : Met l yX12_set (Cond.code yX12_set cX12_set 9 none :: lw_g) { frames := 3, cells := 0, slots := 0, locals := 67 } (mPi [.int v1, .int v2, .int v3, .int v4] cM iS cI cZ mo ad S) (mQw none cM iS cI cZ mo ad S9) 0 0 (mA mo ad) := by
  refine Met.ofW (cc := cX12_set) (maxL := 9) (ret := none) (by decide) rfl ?_
  intro p e s m args below meth c s₁ B hml hv
  obtain ⟨rfl, hW, X⟩ := hv
  have C : mY p (headSpec (Cond.code yX12_set cX12_set 9 none :: lw_g) { frames := 3, cells := 0, slots := 0, locals := 67 }).room s m _ meth c cX12_set 9 3 67 none := ⟨B.exec, B.bytes, hml, findClass_of_methodNamed B.named, fun w hw => atoms_spec (ws := Cond.code yX12_set cX12_set 9 none :: lw_g) B.pre w (List.mem_cons_of_mem _ hw), ⟨Nat.le_refl _, Nat.le_refl _⟩, B.returns, B.notSynchronized⟩
  have hl := lv_entry ([.ref mo, .int v1, .int v2, .int v3, .int v4]) (n := 9) (Nat.le_of_ble_eq_true rfl)
  rw [lg_entry_eq]
  generalize (lg_sl ([.ref mo, .int v1, .int v2, .int v3, .int v4]) ++ List.replicate (9 - (lg_sl ([.ref mo, .int v1, .int v2, .int v3, .int v4])).length) Slot.unset).toArray = ls at hl ⊢
  have hl : lv_has ls 9 [(0, .ref mo), (1, .int v1), (2, .int v2), (3, .int v3), (4, .int v4)] := hl
  have hS : mS (mA mo ad) s.heap s.heap [] := mS.rf
  unfold fm_set at h
  refine lv_iconst (v := 0) C.1 C.2.1 dX12_set_0 (by decide) ?_
  refine lv_istore (lv' := [(5, .int (0 : Int32)), (0, .ref mo), (1, .int v1), (2, .int v2), (3, .int v3), (4, .int v4)]) C.1 C.2.1 dX12_set_1 hl (by decide) rfl (fun ls hl => ?_)
  exact wm_set_3 C X mFU h hW hS (lv_sub hl [1, 2, 3, 4, 5, 0] rfl)
end
theorem dX12_putInOrder_0 : decode cX12_putInOrder 0 = .ok (.aload_n 0, 1) := by decide +kernel
theorem dX12_putInOrder_1 : decode cX12_putInOrder 1 = .ok (.iload_n 1, 1) := by decide +kernel
theorem dX12_putInOrder_2 : decode cX12_putInOrder 2 = .ok (.iload_n 2, 1) := by decide +kernel
theorem dX12_putInOrder_3 : decode cX12_putInOrder 3 = .ok (.invokevirtual 288, 3) := by decide +kernel
theorem dX12_putInOrder_6 : decode cX12_putInOrder 6 = .ok (.aload_n 0, 1) := by decide +kernel
theorem dX12_putInOrder_7 : decode cX12_putInOrder 7 = .ok (.getfield 253, 3) := by decide +kernel
theorem dX12_putInOrder_10 : decode cX12_putInOrder 10 = .ok (.iconst 1, 1) := by decide +kernel
theorem dX12_putInOrder_11 : decode cX12_putInOrder 11 = .ok (.isub, 1) := by decide +kernel
theorem dX12_putInOrder_12 : decode cX12_putInOrder 12 = .ok (.istore_n 3, 1) := by decide +kernel
theorem dX12_putInOrder_13 : decode cX12_putInOrder 13 = .ok (.iload_n 3, 1) := by decide +kernel
theorem dX12_putInOrder_14 : decode cX12_putInOrder 14 = .ok (.ifCond .le 53, 3) := by decide +kernel
theorem dX12_putInOrder_17 : decode cX12_putInOrder 17 = .ok (.aload_n 0, 1) := by decide +kernel
theorem dX12_putInOrder_18 : decode cX12_putInOrder 18 = .ok (.iload_n 2, 1) := by decide +kernel
theorem dX12_putInOrder_19 : decode cX12_putInOrder 19 = .ok (.aload_n 0, 1) := by decide +kernel
theorem dX12_putInOrder_20 : decode cX12_putInOrder 20 = .ok (.getfield 142, 3) := by decide +kernel
theorem dX12_putInOrder_23 : decode cX12_putInOrder 23 = .ok (.iload_n 3, 1) := by decide +kernel
theorem dX12_putInOrder_24 : decode cX12_putInOrder 24 = .ok (.iconst 1, 1) := by decide +kernel
theorem dX12_putInOrder_25 : decode cX12_putInOrder 25 = .ok (.isub, 1) := by decide +kernel
theorem dX12_putInOrder_26 : decode cX12_putInOrder 26 = .ok (.iaload, 1) := by decide +kernel
theorem dX12_putInOrder_27 : decode cX12_putInOrder 27 = .ok (.invokevirtual 285, 3) := by decide +kernel
theorem dX12_putInOrder_30 : decode cX12_putInOrder 30 = .ok (.ifCond .eq 37, 3) := by decide +kernel
theorem dX12_putInOrder_33 : decode cX12_putInOrder 33 = .ok (.aload_n 0, 1) := by decide +kernel
theorem dX12_putInOrder_34 : decode cX12_putInOrder 34 = .ok (.getfield 139, 3) := by decide +kernel
theorem dX12_putInOrder_37 : decode cX12_putInOrder 37 = .ok (.iload_n 3, 1) := by decide +kernel
theorem dX12_putInOrder_38 : decode cX12_putInOrder 38 = .ok (.aload_n 0, 1) := by decide +kernel
theorem dX12_putInOrder_39 : decode cX12_putInOrder 39 = .ok (.getfield 139, 3) := by decide +kernel
theorem dX12_putInOrder_42 : decode cX12_putInOrder 42 = .ok (.iload_n 3, 1) := by decide +kernel
theorem dX12_putInOrder_43 : decode cX12_putInOrder 43 = .ok (.iconst 1, 1) := by decide +kernel
theorem dX12_putInOrder_44 : decode cX12_putInOrder 44 = .ok (.isub, 1) := by decide +kernel
theorem dX12_putInOrder_45 : decode cX12_putInOrder 45 = .ok (.iaload, 1) := by decide +kernel
theorem dX12_putInOrder_46 : decode cX12_putInOrder 46 = .ok (.iastore, 1) := by decide +kernel
theorem dX12_putInOrder_47 : decode cX12_putInOrder 47 = .ok (.aload_n 0, 1) := by decide +kernel
theorem dX12_putInOrder_48 : decode cX12_putInOrder 48 = .ok (.getfield 142, 3) := by decide +kernel
theorem dX12_putInOrder_51 : decode cX12_putInOrder 51 = .ok (.iload_n 3, 1) := by decide +kernel
theorem dX12_putInOrder_52 : decode cX12_putInOrder 52 = .ok (.aload_n 0, 1) := by decide +kernel
theorem dX12_putInOrder_53 : decode cX12_putInOrder 53 = .ok (.getfield 142, 3) := by decide +kernel
theorem dX12_putInOrder_56 : decode cX12_putInOrder 56 = .ok (.iload_n 3, 1) := by decide +kernel
theorem dX12_putInOrder_57 : decode cX12_putInOrder 57 = .ok (.iconst 1, 1) := by decide +kernel
theorem dX12_putInOrder_58 : decode cX12_putInOrder 58 = .ok (.isub, 1) := by decide +kernel
theorem dX12_putInOrder_59 : decode cX12_putInOrder 59 = .ok (.iaload, 1) := by decide +kernel
theorem dX12_putInOrder_60 : decode cX12_putInOrder 60 = .ok (.iastore, 1) := by decide +kernel
theorem dX12_putInOrder_61 : decode cX12_putInOrder 61 = .ok (.iinc 3 (-1), 3) := by decide +kernel
theorem dX12_putInOrder_64 : decode cX12_putInOrder 64 = .ok (.goto (-51), 3) := by decide +kernel
theorem dX12_putInOrder_67 : decode cX12_putInOrder 67 = .ok (.aload_n 0, 1) := by decide +kernel
theorem dX12_putInOrder_68 : decode cX12_putInOrder 68 = .ok (.getfield 139, 3) := by decide +kernel
theorem dX12_putInOrder_71 : decode cX12_putInOrder 71 = .ok (.iload_n 3, 1) := by decide +kernel
theorem dX12_putInOrder_72 : decode cX12_putInOrder 72 = .ok (.iload_n 1, 1) := by decide +kernel
theorem dX12_putInOrder_73 : decode cX12_putInOrder 73 = .ok (.iastore, 1) := by decide +kernel
theorem dX12_putInOrder_74 : decode cX12_putInOrder 74 = .ok (.aload_n 0, 1) := by decide +kernel
theorem dX12_putInOrder_75 : decode cX12_putInOrder 75 = .ok (.getfield 142, 3) := by decide +kernel
theorem dX12_putInOrder_78 : decode cX12_putInOrder 78 = .ok (.iload_n 3, 1) := by decide +kernel
theorem dX12_putInOrder_79 : decode cX12_putInOrder 79 = .ok (.iload_n 2, 1) := by decide +kernel
theorem dX12_putInOrder_80 : decode cX12_putInOrder 80 = .ok (.iastore, 1) := by decide +kernel
theorem dX12_putInOrder_81 : decode cX12_putInOrder 81 = .ok (.return_, 1) := by decide +kernel
theorem cd_putInOrder : Cond.code yX12_putInOrder cX12_putInOrder 4 none ∈ lw_g := mt_at 2057 (by decide +kernel) rfl
theorem mw_putInOrder : mCw 294 yX12_putInOrder cX12_putInOrder 4 none 2 := ⟨cd_putInOrder, mt_at 2054 (by decide +kernel) rfl, in_M, by decide +kernel⟩
theorem im_putInOrder : Cond.instanceMethod yX12_putInOrder ∈ lw_g := mt_at 2056 (by decide +kernel) rfl
theorem sl_putInOrder : Cond.selects RX12 yX12_putInOrder yX12_putInOrder ∈ lw_g := mt_sel 61 (by decide +kernel) rfl
section
variable {p : Program} {l : Launch} {e : Env} {R : Room} {s : State} {m : MethodId} {args : Array Value} {below : List Frame} {meth : Method} {c : Code} {cM : ClassId} {iS : Nat → Nat} {cI cZ : ClassId} {mo : Nat} {ad : Nat → Nat} {r : Int32} {S9 : mSt}
noncomputable def fm_putInOrder_67 (S : mSt) (v1 : Int32) (v2 : Int32) (v3 : Int32) : Option (mSt) :=
ck v3 1000 (lt (wr S 50 v3 v1) fun S1 =>
ck v3 1000 (lt (wr S1 51 v3 v2) fun S2 =>
some S2))
set_option maxRecDepth 100000 in
set_option maxHeartbeats 4000000 in
theorem wm_putInOrder_67 (C : mY p R s m args meth c cX12_putInOrder 4 2 42 none) (X : mX s cM iS cI cZ mo ad) : ∀ {S : mSt} {v1 : Int32} {v2 : Int32} {v3 : Int32} {H : Heap} {locs : List Loc} {ls : Array Slot}, fm_putInOrder_67 S v1 v2 v3 = some S9 → mW cM iS cI cZ mo ad S H → mS (mA mo ad) s.heap H locs → lv_has ls 4 [(0, .ref mo), (1, .int v1), (2, .int v2), (3, .int v3)] → W p l e R s m args below meth c H locs 0 0 (MQ below (mQw none cM iS cI cZ mo ad S9) args s 0 0 (mA mo ad)) (F0 m 67 ls []) := by
  intro S v1 v2 v3 H locs ls h hW hS hl
  unfold fm_putInOrder_67 at h
  refine lv_aload_n C.1 C.2.1 dX12_putInOrder_67 rfl (lv_at hl 0 rfl) ?_
  refine gf_50 C X hW dX12_putInOrder_68 ?_
  refine lv_iload_n C.1 C.2.1 dX12_putInOrder_71 rfl (lv_at hl 3 rfl) ?_
  refine lv_iload_n C.1 C.2.1 dX12_putInOrder_72 rfl (lv_at hl 1 rfl) ?_
  obtain ⟨hin, h⟩ := ck_ok h
  refine s_50 C X hW hS hin dX12_putInOrder_73 (fun H locs hW hS => ?_)
  refine lt_ok h (fun S1 e_S1 h => ?_)
  rw [e_S1] at hW
  refine lv_aload_n C.1 C.2.1 dX12_putInOrder_74 rfl (lv_at hl 0 rfl) ?_
  refine gf_51 C X hW dX12_putInOrder_75 ?_
  refine lv_iload_n C.1 C.2.1 dX12_putInOrder_78 rfl (lv_at hl 3 rfl) ?_
  refine lv_iload_n C.1 C.2.1 dX12_putInOrder_79 rfl (lv_at hl 2 rfl) ?_
  obtain ⟨hin, h⟩ := ck_ok h
  refine s_51 C X hW hS hin dX12_putInOrder_80 (fun H locs hW hS => ?_)
  refine lt_ok h (fun S2 e_S2 h => ?_)
  rw [e_S2] at hW
  cases h
  exact m_retvW C hW hS dX12_putInOrder_81
noncomputable def fm_putInOrder_13 : Nat → mSt → Int32 → Int32 → Int32 → Option (mSt)
  | 0, _, _, _, _ => none
  | n + 1, S, v1, v2, v3 =>
    if v3 ≤ 0 then (
    fm_putInOrder_67 S v1 v2 v3)
    else (
    ck (v3 - (1 : Int32)) 1000 (
    bd (fm_isBefore S v2 (rd S 51 (v3 - (1 : Int32)))) fun r2 =>
    if r2 = 0 then (
    fm_putInOrder_67 S v1 v2 v3)
    else (
    ck (v3 - (1 : Int32)) 1000 (
    ck v3 1000 (lt (wr S 50 v3 (rd S 50 (v3 - (1 : Int32)))) fun S4 =>
    ck (v3 - (1 : Int32)) 1000 (
    ck v3 1000 (lt (wr S4 51 v3 (rd S4 51 (v3 - (1 : Int32)))) fun S5 =>
    lt (v3 + (-1 : Int32)) fun x6 =>
    fm_putInOrder_13 n S5 v1 v2 x6)))))))
set_option maxRecDepth 100000 in
set_option maxHeartbeats 4000000 in
theorem wm_putInOrder_13 (C : mY p R s m args meth c cX12_putInOrder 4 2 42 none) (X : mX s cM iS cI cZ mo ad) : ∀ (n : Nat), ∀ {S : mSt} {v1 : Int32} {v2 : Int32} {v3 : Int32} {H : Heap} {locs : List Loc} {ls : Array Slot}, fm_putInOrder_13 n S v1 v2 v3 = some S9 → mW cM iS cI cZ mo ad S H → mS (mA mo ad) s.heap H locs → lv_has ls 4 [(0, .ref mo), (1, .int v1), (2, .int v2), (3, .int v3)] → W p l e R s m args below meth c H locs 0 0 (MQ below (mQw none cM iS cI cZ mo ad S9) args s 0 0 (mA mo ad)) (F0 m 13 ls []) := by
  intro n
  induction n with
  | zero =>
    intro S v1 v2 v3 H locs ls h hW hS hl
    exact absurd (show (none : Option (mSt)) = _ from h) (fun q => by cases q)
  | succ n ih =>
    intro S v1 v2 v3 H locs ls h hW hS hl
    rw [fm_putInOrder_13] at h
    refine lv_iload_n C.1 C.2.1 dX12_putInOrder_13 rfl (lv_at hl 3 rfl) ?_
    refine lv_if_le (tgt := 67) C.1 C.2.1 dX12_putInOrder_14 (by decide) (fun c1 => ?_) (fun c1 => ?_)
    · have h := if_t h c1
      exact wm_putInOrder_67 C X h hW hS (lv_sub hl [0, 1, 2, 3] rfl)
    · have h := if_f h c1
      refine lv_aload_n C.1 C.2.1 dX12_putInOrder_17 rfl (lv_at hl 0 rfl) ?_
      refine lv_iload_n C.1 C.2.1 dX12_putInOrder_18 rfl (lv_at hl 2 rfl) ?_
      refine lv_aload_n C.1 C.2.1 dX12_putInOrder_19 rfl (lv_at hl 0 rfl) ?_
      refine gf_51 C X hW dX12_putInOrder_20 ?_
      refine lv_iload_n C.1 C.2.1 dX12_putInOrder_23 rfl (lv_at hl 3 rfl) ?_
      refine lv_iconst (v := 1) C.1 C.2.1 dX12_putInOrder_24 (by decide) ?_
      refine lv_isub C.1 C.2.1 dX12_putInOrder_25 ?_
      obtain ⟨hin, h⟩ := ck_ok h
      refine l_51 C X hW hin dX12_putInOrder_26 ?_
      obtain ⟨r2, h_r2, h⟩ := bd_ok h
      refine m_callR (rest := []) C X hW hl.1 [.int v2, .int (rd S 51 (v3 - (1 : Int32)))] (tm_isBefore l h_r2) mw_isBefore im_isBefore sl_isBefore rfl ⟨by decide, by decide⟩ rfl (Nat.le_of_ble_eq_true rfl) dX12_putInOrder_27 ?_
      refine lv_if_eq (tgt := 67) C.1 C.2.1 dX12_putInOrder_30 (by decide) (fun c3 => ?_) (fun c3 => ?_)
      · have h := if_t h c3
        exact wm_putInOrder_67 C X h hW hS (lv_sub hl [0, 1, 2, 3] rfl)
      · have h := if_f h c3
        refine lv_aload_n C.1 C.2.1 dX12_putInOrder_33 rfl (lv_at hl 0 rfl) ?_
        refine gf_50 C X hW dX12_putInOrder_34 ?_
        refine lv_iload_n C.1 C.2.1 dX12_putInOrder_37 rfl (lv_at hl 3 rfl) ?_
        refine lv_aload_n C.1 C.2.1 dX12_putInOrder_38 rfl (lv_at hl 0 rfl) ?_
        refine gf_50 C X hW dX12_putInOrder_39 ?_
        refine lv_iload_n C.1 C.2.1 dX12_putInOrder_42 rfl (lv_at hl 3 rfl) ?_
        refine lv_iconst (v := 1) C.1 C.2.1 dX12_putInOrder_43 (by decide) ?_
        refine lv_isub C.1 C.2.1 dX12_putInOrder_44 ?_
        obtain ⟨hin, h⟩ := ck_ok h
        refine l_50 C X hW hin dX12_putInOrder_45 ?_
        obtain ⟨hin, h⟩ := ck_ok h
        refine s_50 C X hW hS hin dX12_putInOrder_46 (fun H locs hW hS => ?_)
        refine lt_ok h (fun S4 e_S4 h => ?_)
        rw [e_S4] at hW
        refine lv_aload_n C.1 C.2.1 dX12_putInOrder_47 rfl (lv_at hl 0 rfl) ?_
        refine gf_51 C X hW dX12_putInOrder_48 ?_
        refine lv_iload_n C.1 C.2.1 dX12_putInOrder_51 rfl (lv_at hl 3 rfl) ?_
        refine lv_aload_n C.1 C.2.1 dX12_putInOrder_52 rfl (lv_at hl 0 rfl) ?_
        refine gf_51 C X hW dX12_putInOrder_53 ?_
        refine lv_iload_n C.1 C.2.1 dX12_putInOrder_56 rfl (lv_at hl 3 rfl) ?_
        refine lv_iconst (v := 1) C.1 C.2.1 dX12_putInOrder_57 (by decide) ?_
        refine lv_isub C.1 C.2.1 dX12_putInOrder_58 ?_
        obtain ⟨hin, h⟩ := ck_ok h
        refine l_51 C X hW hin dX12_putInOrder_59 ?_
        obtain ⟨hin, h⟩ := ck_ok h
        refine s_51 C X hW hS hin dX12_putInOrder_60 (fun H locs hW hS => ?_)
        refine lt_ok h (fun S5 e_S5 h => ?_)
        rw [e_S5] at hW
        refine lt_ok h (fun x6 e_x6 h => ?_)
        refine lv_iinc (v := x6) (lv' := [(3, .int x6), (0, .ref mo), (1, .int v1), (2, .int v2)]) C.1 C.2.1 dX12_putInOrder_61 hl (k := 3) rfl (by rw [← e_x6]; rfl) (by decide) rfl (fun ls hl => ?_)
        refine lv_goto (tgt := 13) C.1 C.2.1 dX12_putInOrder_64 (by decide) ?_
        exact ih h hW hS (lv_sub hl [1, 2, 3, 0] rfl)
noncomputable def fm_putInOrder (S : mSt) (v1 : Int32) (v2 : Int32) : Option (mSt) :=
bd (fm_put S v1 v2) fun S1 =>
lt ((S1.1 49) - (1 : Int32)) fun x2 =>
fm_putInOrder_13 mFU S1 v1 v2 x2
set_option maxRecDepth 100000 in
set_option maxHeartbeats 4000000 in
theorem tm_putInOrder (l : Launch) {cM : ClassId} {iS : Nat → Nat} {cI cZ : ClassId} {mo : Nat} {ad : Nat → Nat} {S : mSt} {v1 : Int32} {v2 : Int32} {S9 : mSt} (h : fm_putInOrder S v1 v2 = some S9) : Met l yX12_putInOrder (Cond.code yX12_putInOrder cX12_putInOrder 4 none :: lw_g) { frames := 2, cells := 0, slots := 0, locals := 42 } (mPi [.int v1, .int v2] cM iS cI cZ mo ad S) (mQw none cM iS cI cZ mo ad S9) 0 0 (mA mo ad) := by
  refine Met.ofW (cc := cX12_putInOrder) (maxL := 4) (ret := none) (by decide) rfl ?_
  intro p e s m args below meth c s₁ B hml hv
  obtain ⟨rfl, hW, X⟩ := hv
  have C : mY p (headSpec (Cond.code yX12_putInOrder cX12_putInOrder 4 none :: lw_g) { frames := 2, cells := 0, slots := 0, locals := 42 }).room s m _ meth c cX12_putInOrder 4 2 42 none := ⟨B.exec, B.bytes, hml, findClass_of_methodNamed B.named, fun w hw => atoms_spec (ws := Cond.code yX12_putInOrder cX12_putInOrder 4 none :: lw_g) B.pre w (List.mem_cons_of_mem _ hw), ⟨Nat.le_refl _, Nat.le_refl _⟩, B.returns, B.notSynchronized⟩
  have hl := lv_entry ([.ref mo, .int v1, .int v2]) (n := 4) (Nat.le_of_ble_eq_true rfl)
  rw [lg_entry_eq]
  generalize (lg_sl ([.ref mo, .int v1, .int v2]) ++ List.replicate (4 - (lg_sl ([.ref mo, .int v1, .int v2])).length) Slot.unset).toArray = ls at hl ⊢
  have hl : lv_has ls 4 [(0, .ref mo), (1, .int v1), (2, .int v2)] := hl
  have hS : mS (mA mo ad) s.heap s.heap [] := mS.rf
  unfold fm_putInOrder at h
  refine lv_aload_n C.1 C.2.1 dX12_putInOrder_0 rfl (lv_at hl 0 rfl) ?_
  refine lv_iload_n C.1 C.2.1 dX12_putInOrder_1 rfl (lv_at hl 1 rfl) ?_
  refine lv_iload_n C.1 C.2.1 dX12_putInOrder_2 rfl (lv_at hl 2 rfl) ?_
  obtain ⟨S1, h_S1, h⟩ := bd_ok h
  refine m_callW (rest := []) (ov := none) C X hW hS hl.1 [.int v1, .int v2] (tm_put l h_S1) mw_put im_put sl_put rfl ⟨by decide, by decide⟩ rfl (Nat.le_of_ble_eq_true rfl) dX12_putInOrder_3 (fun H locs hW hS => ?_)
  refine W.eq (g2 := F0 m 6 ls []) rfl ?_
  refine lv_aload_n C.1 C.2.1 dX12_putInOrder_6 rfl (lv_at hl 0 rfl) ?_
  refine gf_49 C X hW dX12_putInOrder_7 ?_
  refine lv_iconst (v := 1) C.1 C.2.1 dX12_putInOrder_10 (by decide) ?_
  refine lv_isub C.1 C.2.1 dX12_putInOrder_11 ?_
  refine lt_ok h (fun x2 e_x2 h => ?_)
  refine lv_nm e_x2 ?_
  refine lv_istore_n (lv' := [(3, .int x2), (0, .ref mo), (1, .int v1), (2, .int v2)]) C.1 C.2.1 dX12_putInOrder_12 rfl hl (by decide) rfl (fun ls hl => ?_)
  exact wm_putInOrder_13 C X mFU h hW hS (lv_sub hl [1, 2, 3, 0] rfl)
end
theorem dX12_several_0 : decode cX12_several 0 = .ok (.iconst 0, 1) := by decide +kernel
theorem dX12_several_1 : decode cX12_several 1 = .ok (.istore 5, 2) := by decide +kernel
theorem dX12_several_3 : decode cX12_several 3 = .ok (.iload 5, 2) := by decide +kernel
theorem dX12_several_5 : decode cX12_several 5 = .ok (.iload_n 2, 1) := by decide +kernel
theorem dX12_several_6 : decode cX12_several 6 = .ok (.if_icmp .ge 142, 3) := by decide +kernel
theorem dX12_several_9 : decode cX12_several 9 = .ok (.aload_n 0, 1) := by decide +kernel
theorem dX12_several_10 : decode cX12_several 10 = .ok (.iload_n 1, 1) := by decide +kernel
theorem dX12_several_11 : decode cX12_several 11 = .ok (.iload 5, 2) := by decide +kernel
theorem dX12_several_13 : decode cX12_several 13 = .ok (.invokevirtual 230, 3) := by decide +kernel
theorem dX12_several_16 : decode cX12_several 16 = .ok (.istore 6, 2) := by decide +kernel
theorem dX12_several_18 : decode cX12_several 18 = .ok (.aload_n 0, 1) := by decide +kernel
theorem dX12_several_19 : decode cX12_several 19 = .ok (.iload 6, 2) := by decide +kernel
theorem dX12_several_21 : decode cX12_several 21 = .ok (.iconst 2, 1) := by decide +kernel
theorem dX12_several_22 : decode cX12_several 22 = .ok (.iload_n 3, 1) := by decide +kernel
theorem dX12_several_23 : decode cX12_several 23 = .ok (.iload 4, 2) := by decide +kernel
theorem dX12_several_25 : decode cX12_several 25 = .ok (.invokevirtual 281, 3) := by decide +kernel
theorem dX12_several_28 : decode cX12_several 28 = .ok (.ifCond .eq 114, 3) := by decide +kernel
theorem dX12_several_31 : decode cX12_several 31 = .ok (.aload_n 0, 1) := by decide +kernel
theorem dX12_several_32 : decode cX12_several 32 = .ok (.getfield 133, 3) := by decide +kernel
theorem dX12_several_35 : decode cX12_several 35 = .ok (.iload 6, 2) := by decide +kernel
theorem dX12_several_37 : decode cX12_several 37 = .ok (.baload, 1) := by decide +kernel
theorem dX12_several_38 : decode cX12_several 38 = .ok (.ifCond .ne 6, 3) := by decide +kernel
theorem dX12_several_41 : decode cX12_several 41 = .ok (.goto 101, 3) := by decide +kernel
theorem dX12_several_44 : decode cX12_several 44 = .ok (.iconst 1, 1) := by decide +kernel
theorem dX12_several_45 : decode cX12_several 45 = .ok (.istore 7, 2) := by decide +kernel
theorem dX12_several_47 : decode cX12_several 47 = .ok (.iconst 0, 1) := by decide +kernel
theorem dX12_several_48 : decode cX12_several 48 = .ok (.istore 8, 2) := by decide +kernel
theorem dX12_several_50 : decode cX12_several 50 = .ok (.iload 8, 2) := by decide +kernel
theorem dX12_several_52 : decode cX12_several 52 = .ok (.iload_n 2, 1) := by decide +kernel
theorem dX12_several_53 : decode cX12_several 53 = .ok (.if_icmp .ge 71, 3) := by decide +kernel
theorem dX12_several_56 : decode cX12_several 56 = .ok (.iload 7, 2) := by decide +kernel
theorem dX12_several_58 : decode cX12_several 58 = .ok (.ifCond .eq 66, 3) := by decide +kernel
theorem dX12_several_61 : decode cX12_several 61 = .ok (.aload_n 0, 1) := by decide +kernel
theorem dX12_several_62 : decode cX12_several 62 = .ok (.iload_n 1, 1) := by decide +kernel
theorem dX12_several_63 : decode cX12_several 63 = .ok (.iload 8, 2) := by decide +kernel
theorem dX12_several_65 : decode cX12_several 65 = .ok (.invokevirtual 230, 3) := by decide +kernel
theorem dX12_several_68 : decode cX12_several 68 = .ok (.istore 9, 2) := by decide +kernel
theorem dX12_several_70 : decode cX12_several 70 = .ok (.iload 9, 2) := by decide +kernel
theorem dX12_several_72 : decode cX12_several 72 = .ok (.iload 6, 2) := by decide +kernel
theorem dX12_several_74 : decode cX12_several 74 = .ok (.if_icmp .eq 37, 3) := by decide +kernel
theorem dX12_several_77 : decode cX12_several 77 = .ok (.aload_n 0, 1) := by decide +kernel
theorem dX12_several_78 : decode cX12_several 78 = .ok (.iload 9, 2) := by decide +kernel
theorem dX12_several_80 : decode cX12_several 80 = .ok (.iconst 2, 1) := by decide +kernel
theorem dX12_several_81 : decode cX12_several 81 = .ok (.iload_n 3, 1) := by decide +kernel
theorem dX12_several_82 : decode cX12_several 82 = .ok (.iload 4, 2) := by decide +kernel
theorem dX12_several_84 : decode cX12_several 84 = .ok (.invokevirtual 281, 3) := by decide +kernel
theorem dX12_several_87 : decode cX12_several 87 = .ok (.ifCond .eq 24, 3) := by decide +kernel
theorem dX12_several_90 : decode cX12_several 90 = .ok (.aload_n 0, 1) := by decide +kernel
theorem dX12_several_91 : decode cX12_several 91 = .ok (.getfield 133, 3) := by decide +kernel
theorem dX12_several_94 : decode cX12_several 94 = .ok (.iload 9, 2) := by decide +kernel
theorem dX12_several_96 : decode cX12_several 96 = .ok (.baload, 1) := by decide +kernel
theorem dX12_several_97 : decode cX12_several 97 = .ok (.ifCond .eq 14, 3) := by decide +kernel
theorem dX12_several_100 : decode cX12_several 100 = .ok (.aload_n 0, 1) := by decide +kernel
theorem dX12_several_101 : decode cX12_several 101 = .ok (.iload 9, 2) := by decide +kernel
theorem dX12_several_103 : decode cX12_several 103 = .ok (.iload 6, 2) := by decide +kernel
theorem dX12_several_105 : decode cX12_several 105 = .ok (.invokevirtual 291, 3) := by decide +kernel
theorem dX12_several_108 : decode cX12_several 108 = .ok (.ifCond .ne 7, 3) := by decide +kernel
theorem dX12_several_111 : decode cX12_several 111 = .ok (.iconst 1, 1) := by decide +kernel
theorem dX12_several_112 : decode cX12_several 112 = .ok (.goto 4, 3) := by decide +kernel
theorem dX12_several_115 : decode cX12_several 115 = .ok (.iconst 0, 1) := by decide +kernel
theorem dX12_several_116 : decode cX12_several 116 = .ok (.istore 7, 2) := by decide +kernel
theorem dX12_several_118 : decode cX12_several 118 = .ok (.iinc 8 1, 3) := by decide +kernel
theorem dX12_several_121 : decode cX12_several 121 = .ok (.goto (-71), 3) := by decide +kernel
theorem dX12_several_124 : decode cX12_several 124 = .ok (.iload 7, 2) := by decide +kernel
theorem dX12_several_126 : decode cX12_several 126 = .ok (.ifCond .eq 16, 3) := by decide +kernel
theorem dX12_several_129 : decode cX12_several 129 = .ok (.aload_n 0, 1) := by decide +kernel
theorem dX12_several_130 : decode cX12_several 130 = .ok (.aload_n 0, 1) := by decide +kernel
theorem dX12_several_131 : decode cX12_several 131 = .ok (.getfield 38, 3) := by decide +kernel
theorem dX12_several_134 : decode cX12_several 134 = .ok (.iload 6, 2) := by decide +kernel
theorem dX12_several_136 : decode cX12_several 136 = .ok (.iaload, 1) := by decide +kernel
theorem dX12_several_137 : decode cX12_several 137 = .ok (.iload 6, 2) := by decide +kernel
theorem dX12_several_139 : decode cX12_several 139 = .ok (.invokevirtual 294, 3) := by decide +kernel
theorem dX12_several_142 : decode cX12_several 142 = .ok (.iinc 5 1, 3) := by decide +kernel
theorem dX12_several_145 : decode cX12_several 145 = .ok (.goto (-142), 3) := by decide +kernel
theorem dX12_several_148 : decode cX12_several 148 = .ok (.return_, 1) := by decide +kernel
theorem cd_several : Cond.code yX12_several cX12_several 10 none ∈ lw_g := mt_at 2049 (by decide +kernel) rfl
theorem mw_several : mCw 263 yX12_several cX12_several 10 none 4 := ⟨cd_several, mt_at 2046 (by decide +kernel) rfl, in_M, by decide +kernel⟩
theorem im_several : Cond.instanceMethod yX12_several ∈ lw_g := mt_at 2048 (by decide +kernel) rfl
theorem sl_several : Cond.selects RX12 yX12_several yX12_several ∈ lw_g := mt_sel 59 (by decide +kernel) rfl
section
variable {p : Program} {l : Launch} {e : Env} {R : Room} {s : State} {m : MethodId} {args : Array Value} {below : List Frame} {meth : Method} {c : Code} {cM : ClassId} {iS : Nat → Nat} {cI cZ : ClassId} {mo : Nat} {ad : Nat → Nat} {r : Int32} {S9 : mSt}
noncomputable def fm_several_142 (g_3 : mSt → Int32 → Int32 → Int32 → Int32 → Int32 → Option (mSt)) (S : mSt) (v1 : Int32) (v2 : Int32) (v3 : Int32) (v4 : Int32) (v5 : Int32) : Option (mSt) :=
lt (v5 + (1 : Int32)) fun x1 =>
g_3 S v1 v2 v3 v4 x1
set_option maxRecDepth 100000 in
set_option maxHeartbeats 4000000 in
theorem wm_several_142 (C : mY p R s m args meth c cX12_several 10 3 65 none) (X : mX s cM iS cI cZ mo ad) {g_3 : mSt → Int32 → Int32 → Int32 → Int32 → Int32 → Option (mSt)} (hg_3 : ∀ {S : mSt} {v1 : Int32} {v2 : Int32} {v3 : Int32} {v4 : Int32} {v5 : Int32} {H : Heap} {locs : List Loc} {ls : Array Slot}, g_3 S v1 v2 v3 v4 v5 = some S9 → mW cM iS cI cZ mo ad S H → mS (mA mo ad) s.heap H locs → lv_has ls 10 [(0, .ref mo), (1, .int v1), (2, .int v2), (3, .int v3), (4, .int v4), (5, .int v5)] → W p l e R s m args below meth c H locs 0 0 (MQ below (mQw none cM iS cI cZ mo ad S9) args s 0 0 (mA mo ad)) (F0 m 3 ls [])) : ∀ {S : mSt} {v1 : Int32} {v2 : Int32} {v3 : Int32} {v4 : Int32} {v5 : Int32} {H : Heap} {locs : List Loc} {ls : Array Slot}, fm_several_142 g_3 S v1 v2 v3 v4 v5 = some S9 → mW cM iS cI cZ mo ad S H → mS (mA mo ad) s.heap H locs → lv_has ls 10 [(0, .ref mo), (1, .int v1), (2, .int v2), (3, .int v3), (4, .int v4), (5, .int v5)] → W p l e R s m args below meth c H locs 0 0 (MQ below (mQw none cM iS cI cZ mo ad S9) args s 0 0 (mA mo ad)) (F0 m 142 ls []) := by
  intro S v1 v2 v3 v4 v5 H locs ls h hW hS hl
  unfold fm_several_142 at h
  refine lt_ok h (fun x1 e_x1 h => ?_)
  refine lv_iinc (v := x1) (lv' := [(5, .int x1), (0, .ref mo), (1, .int v1), (2, .int v2), (3, .int v3), (4, .int v4)]) C.1 C.2.1 dX12_several_142 hl (k := 5) rfl (by rw [← e_x1]; rfl) (by decide) rfl (fun ls hl => ?_)
  refine lv_goto (tgt := 3) C.1 C.2.1 dX12_several_145 (by decide) ?_
  exact hg_3 h hW hS (lv_sub hl [1, 2, 3, 4, 5, 0] rfl)
noncomputable def fm_several_124 (g_3 : mSt → Int32 → Int32 → Int32 → Int32 → Int32 → Option (mSt)) (S : mSt) (v1 : Int32) (v2 : Int32) (v3 : Int32) (v4 : Int32) (v5 : Int32) (v6 : Int32) (v7 : Int32) : Option (mSt) :=
if v7 = 0 then (
fm_several_142 g_3 S v1 v2 v3 v4 v5)
else (
ck v6 1000 (
bd (fm_putInOrder S (rd S 12 v6) v6) fun S2 =>
fm_several_142 g_3 S2 v1 v2 v3 v4 v5))
set_option maxRecDepth 100000 in
set_option maxHeartbeats 4000000 in
theorem wm_several_124 (C : mY p R s m args meth c cX12_several 10 3 65 none) (X : mX s cM iS cI cZ mo ad) {g_3 : mSt → Int32 → Int32 → Int32 → Int32 → Int32 → Option (mSt)} (hg_3 : ∀ {S : mSt} {v1 : Int32} {v2 : Int32} {v3 : Int32} {v4 : Int32} {v5 : Int32} {H : Heap} {locs : List Loc} {ls : Array Slot}, g_3 S v1 v2 v3 v4 v5 = some S9 → mW cM iS cI cZ mo ad S H → mS (mA mo ad) s.heap H locs → lv_has ls 10 [(0, .ref mo), (1, .int v1), (2, .int v2), (3, .int v3), (4, .int v4), (5, .int v5)] → W p l e R s m args below meth c H locs 0 0 (MQ below (mQw none cM iS cI cZ mo ad S9) args s 0 0 (mA mo ad)) (F0 m 3 ls [])) : ∀ {S : mSt} {v1 : Int32} {v2 : Int32} {v3 : Int32} {v4 : Int32} {v5 : Int32} {v6 : Int32} {v7 : Int32} {H : Heap} {locs : List Loc} {ls : Array Slot}, fm_several_124 g_3 S v1 v2 v3 v4 v5 v6 v7 = some S9 → mW cM iS cI cZ mo ad S H → mS (mA mo ad) s.heap H locs → lv_has ls 10 [(0, .ref mo), (1, .int v1), (2, .int v2), (3, .int v3), (4, .int v4), (5, .int v5), (6, .int v6), (7, .int v7)] → W p l e R s m args below meth c H locs 0 0 (MQ below (mQw none cM iS cI cZ mo ad S9) args s 0 0 (mA mo ad)) (F0 m 124 ls []) := by
  intro S v1 v2 v3 v4 v5 v6 v7 H locs ls h hW hS hl
  unfold fm_several_124 at h
  refine lv_iload C.1 C.2.1 dX12_several_124 (lv_at hl 7 rfl) ?_
  refine lv_if_eq (tgt := 142) C.1 C.2.1 dX12_several_126 (by decide) (fun c1 => ?_) (fun c1 => ?_)
  · have h := if_t h c1
    exact wm_several_142 C X hg_3 h hW hS (lv_sub hl [0, 1, 2, 3, 4, 5] rfl)
  · have h := if_f h c1
    refine lv_aload_n C.1 C.2.1 dX12_several_129 rfl (lv_at hl 0 rfl) ?_
    refine lv_aload_n C.1 C.2.1 dX12_several_130 rfl (lv_at hl 0 rfl) ?_
    refine gf_12 C X hW dX12_several_131 ?_
    refine lv_iload C.1 C.2.1 dX12_several_134 (lv_at hl 6 rfl) ?_
    obtain ⟨hin, h⟩ := ck_ok h
    refine l_12 C X hW hin dX12_several_136 ?_
    refine lv_iload C.1 C.2.1 dX12_several_137 (lv_at hl 6 rfl) ?_
    obtain ⟨S2, h_S2, h⟩ := bd_ok h
    refine m_callW (rest := []) (ov := none) C X hW hS hl.1 [.int (rd S 12 v6), .int v6] (tm_putInOrder l h_S2) mw_putInOrder im_putInOrder sl_putInOrder rfl ⟨by decide, by decide⟩ rfl (Nat.le_of_ble_eq_true rfl) dX12_several_139 (fun H locs hW hS => ?_)
    refine W.eq (g2 := F0 m 142 ls []) rfl ?_
    exact wm_several_142 C X hg_3 h hW hS (lv_sub hl [0, 1, 2, 3, 4, 5] rfl)
noncomputable def fm_several_116 (g_3 : mSt → Int32 → Int32 → Int32 → Int32 → Int32 → Option (mSt)) (g_50 : mSt → Int32 → Int32 → Int32 → Int32 → Int32 → Int32 → Int32 → Int32 → Option (mSt)) (S : mSt) (v1 : Int32) (v2 : Int32) (v3 : Int32) (v4 : Int32) (v5 : Int32) (v6 : Int32) (v8 : Int32) (s0 : Int32) : Option (mSt) :=
lt (v8 + (1 : Int32)) fun x1 =>
g_50 S v1 v2 v3 v4 v5 v6 s0 x1
set_option maxRecDepth 100000 in
set_option maxHeartbeats 4000000 in
theorem wm_several_116 (C : mY p R s m args meth c cX12_several 10 3 65 none) (X : mX s cM iS cI cZ mo ad) {g_3 : mSt → Int32 → Int32 → Int32 → Int32 → Int32 → Option (mSt)} {g_50 : mSt → Int32 → Int32 → Int32 → Int32 → Int32 → Int32 → Int32 → Int32 → Option (mSt)} (hg_3 : ∀ {S : mSt} {v1 : Int32} {v2 : Int32} {v3 : Int32} {v4 : Int32} {v5 : Int32} {H : Heap} {locs : List Loc} {ls : Array Slot}, g_3 S v1 v2 v3 v4 v5 = some S9 → mW cM iS cI cZ mo ad S H → mS (mA mo ad) s.heap H locs → lv_has ls 10 [(0, .ref mo), (1, .int v1), (2, .int v2), (3, .int v3), (4, .int v4), (5, .int v5)] → W p l e R s m args below meth c H locs 0 0 (MQ below (mQw none cM iS cI cZ mo ad S9) args s 0 0 (mA mo ad)) (F0 m 3 ls [])) (hg_50 : ∀ {S : mSt} {v1 : Int32} {v2 : Int32} {v3 : Int32} {v4 : Int32} {v5 : Int32} {v6 : Int32} {v7 : Int32} {v8 : Int32} {H : Heap} {locs : List Loc} {ls : Array Slot}, g_50 S v1 v2 v3 v4 v5 v6 v7 v8 = some S9 → mW cM iS cI cZ mo ad S H → mS (mA mo ad) s.heap H locs → lv_has ls 10 [(0, .ref mo), (1, .int v1), (2, .int v2), (3, .int v3), (4, .int v4), (5, .int v5), (6, .int v6), (7, .int v7), (8, .int v8)] → W p l e R s m args below meth c H locs 0 0 (MQ below (mQw none cM iS cI cZ mo ad S9) args s 0 0 (mA mo ad)) (F0 m 50 ls [])) : ∀ {S : mSt} {v1 : Int32} {v2 : Int32} {v3 : Int32} {v4 : Int32} {v5 : Int32} {v6 : Int32} {v8 : Int32} {s0 : Int32} {H : Heap} {locs : List Loc} {ls : Array Slot}, fm_several_116 g_3 g_50 S v1 v2 v3 v4 v5 v6 v8 s0 = some S9 → mW cM iS cI cZ mo ad S H → mS (mA mo ad) s.heap H locs → lv_has ls 10 [(0, .ref mo), (1, .int v1), (2, .int v2), (3, .int v3), (4, .int v4), (5, .int v5), (6, .int v6), (8, .int v8)] → W p l e R s m args below meth c H locs 0 0 (MQ below (mQw none cM iS cI cZ mo ad S9) args s 0 0 (mA mo ad)) (F0 m 116 ls [.int s0]) := by
  intro S v1 v2 v3 v4 v5 v6 v8 s0 H locs ls h hW hS hl
  unfold fm_several_116 at h
  refine lv_istore (lv' := [(7, .int s0), (0, .ref mo), (1, .int v1), (2, .int v2), (3, .int v3), (4, .int v4), (5, .int v5), (6, .int v6), (8, .int v8)]) C.1 C.2.1 dX12_several_116 hl (by decide) rfl (fun ls hl => ?_)
  refine lt_ok h (fun x1 e_x1 h => ?_)
  refine lv_iinc (v := x1) (lv' := [(8, .int x1), (7, .int s0), (0, .ref mo), (1, .int v1), (2, .int v2), (3, .int v3), (4, .int v4), (5, .int v5), (6, .int v6)]) C.1 C.2.1 dX12_several_118 hl (k := 8) rfl (by rw [← e_x1]; rfl) (by decide) rfl (fun ls hl => ?_)
  refine lv_goto (tgt := 50) C.1 C.2.1 dX12_several_121 (by decide) ?_
  exact hg_50 h hW hS (lv_sub hl [2, 3, 4, 5, 6, 7, 8, 1, 0] rfl)
noncomputable def fm_several_111 (g_3 : mSt → Int32 → Int32 → Int32 → Int32 → Int32 → Option (mSt)) (g_50 : mSt → Int32 → Int32 → Int32 → Int32 → Int32 → Int32 → Int32 → Int32 → Option (mSt)) (S : mSt) (v1 : Int32) (v2 : Int32) (v3 : Int32) (v4 : Int32) (v5 : Int32) (v6 : Int32) (v8 : Int32) : Option (mSt) :=
fm_several_116 g_3 g_50 S v1 v2 v3 v4 v5 v6 v8 (1 : Int32)
set_option maxRecDepth 100000 in
set_option maxHeartbeats 4000000 in
theorem wm_several_111 (C : mY p R s m args meth c cX12_several 10 3 65 none) (X : mX s cM iS cI cZ mo ad) {g_3 : mSt → Int32 → Int32 → Int32 → Int32 → Int32 → Option (mSt)} {g_50 : mSt → Int32 → Int32 → Int32 → Int32 → Int32 → Int32 → Int32 → Int32 → Option (mSt)} (hg_3 : ∀ {S : mSt} {v1 : Int32} {v2 : Int32} {v3 : Int32} {v4 : Int32} {v5 : Int32} {H : Heap} {locs : List Loc} {ls : Array Slot}, g_3 S v1 v2 v3 v4 v5 = some S9 → mW cM iS cI cZ mo ad S H → mS (mA mo ad) s.heap H locs → lv_has ls 10 [(0, .ref mo), (1, .int v1), (2, .int v2), (3, .int v3), (4, .int v4), (5, .int v5)] → W p l e R s m args below meth c H locs 0 0 (MQ below (mQw none cM iS cI cZ mo ad S9) args s 0 0 (mA mo ad)) (F0 m 3 ls [])) (hg_50 : ∀ {S : mSt} {v1 : Int32} {v2 : Int32} {v3 : Int32} {v4 : Int32} {v5 : Int32} {v6 : Int32} {v7 : Int32} {v8 : Int32} {H : Heap} {locs : List Loc} {ls : Array Slot}, g_50 S v1 v2 v3 v4 v5 v6 v7 v8 = some S9 → mW cM iS cI cZ mo ad S H → mS (mA mo ad) s.heap H locs → lv_has ls 10 [(0, .ref mo), (1, .int v1), (2, .int v2), (3, .int v3), (4, .int v4), (5, .int v5), (6, .int v6), (7, .int v7), (8, .int v8)] → W p l e R s m args below meth c H locs 0 0 (MQ below (mQw none cM iS cI cZ mo ad S9) args s 0 0 (mA mo ad)) (F0 m 50 ls [])) : ∀ {S : mSt} {v1 : Int32} {v2 : Int32} {v3 : Int32} {v4 : Int32} {v5 : Int32} {v6 : Int32} {v8 : Int32} {H : Heap} {locs : List Loc} {ls : Array Slot}, fm_several_111 g_3 g_50 S v1 v2 v3 v4 v5 v6 v8 = some S9 → mW cM iS cI cZ mo ad S H → mS (mA mo ad) s.heap H locs → lv_has ls 10 [(0, .ref mo), (1, .int v1), (2, .int v2), (3, .int v3), (4, .int v4), (5, .int v5), (6, .int v6), (8, .int v8)] → W p l e R s m args below meth c H locs 0 0 (MQ below (mQw none cM iS cI cZ mo ad S9) args s 0 0 (mA mo ad)) (F0 m 111 ls []) := by
  intro S v1 v2 v3 v4 v5 v6 v8 H locs ls h hW hS hl
  unfold fm_several_111 at h
  refine lv_iconst (v := 1) C.1 C.2.1 dX12_several_111 (by decide) ?_
  refine lv_goto (tgt := 116) C.1 C.2.1 dX12_several_112 (by decide) ?_
  exact wm_several_116 C X hg_3 hg_50 h hW hS (lv_sub hl [0, 1, 2, 3, 4, 5, 6, 7] rfl)
noncomputable def fm_several_50 (g_3 : mSt → Int32 → Int32 → Int32 → Int32 → Int32 → Option (mSt)) : Nat → mSt → Int32 → Int32 → Int32 → Int32 → Int32 → Int32 → Int32 → Int32 → Option (mSt)
  | 0, _, _, _, _, _, _, _, _, _ => none
  | n + 1, S, v1, v2, v3, v4, v5, v6, v7, v8 =>
    if v2 ≤ v8 then (
    fm_several_124 g_3 S v1 v2 v3 v4 v5 v6 v7)
    else (
    if v7 = 0 then (
    fm_several_124 g_3 S v1 v2 v3 v4 v5 v6 v7)
    else (
    bd (fm_rowAt S v1 v8) fun r3 =>
    if r3 = v6 then (
    fm_several_111 g_3 (fm_several_50 g_3 n) S v1 v2 v3 v4 v5 v6 v8)
    else (
    bd (fm_isOf S r3 (2 : Int32) v3 v4) fun r5 =>
    if r5 = 0 then (
    fm_several_111 g_3 (fm_several_50 g_3 n) S v1 v2 v3 v4 v5 v6 v8)
    else (
    ck r3 1000 (
    if (rd S 47 r3) = 0 then (
    fm_several_111 g_3 (fm_several_50 g_3 n) S v1 v2 v3 v4 v5 v6 v8)
    else (
    bd (fm_knew S r3 v6) fun r8 =>
    if r8 = 0 then (
    fm_several_111 g_3 (fm_several_50 g_3 n) S v1 v2 v3 v4 v5 v6 v8)
    else (
    fm_several_116 g_3 (fm_several_50 g_3 n) S v1 v2 v3 v4 v5 v6 v8 (0 : Int32))))))))
set_option maxRecDepth 100000 in
set_option maxHeartbeats 4000000 in
theorem wm_several_50 (C : mY p R s m args meth c cX12_several 10 3 65 none) (X : mX s cM iS cI cZ mo ad) {g_3 : mSt → Int32 → Int32 → Int32 → Int32 → Int32 → Option (mSt)} (hg_3 : ∀ {S : mSt} {v1 : Int32} {v2 : Int32} {v3 : Int32} {v4 : Int32} {v5 : Int32} {H : Heap} {locs : List Loc} {ls : Array Slot}, g_3 S v1 v2 v3 v4 v5 = some S9 → mW cM iS cI cZ mo ad S H → mS (mA mo ad) s.heap H locs → lv_has ls 10 [(0, .ref mo), (1, .int v1), (2, .int v2), (3, .int v3), (4, .int v4), (5, .int v5)] → W p l e R s m args below meth c H locs 0 0 (MQ below (mQw none cM iS cI cZ mo ad S9) args s 0 0 (mA mo ad)) (F0 m 3 ls [])) : ∀ (n : Nat), ∀ {S : mSt} {v1 : Int32} {v2 : Int32} {v3 : Int32} {v4 : Int32} {v5 : Int32} {v6 : Int32} {v7 : Int32} {v8 : Int32} {H : Heap} {locs : List Loc} {ls : Array Slot}, fm_several_50 g_3 n S v1 v2 v3 v4 v5 v6 v7 v8 = some S9 → mW cM iS cI cZ mo ad S H → mS (mA mo ad) s.heap H locs → lv_has ls 10 [(0, .ref mo), (1, .int v1), (2, .int v2), (3, .int v3), (4, .int v4), (5, .int v5), (6, .int v6), (7, .int v7), (8, .int v8)] → W p l e R s m args below meth c H locs 0 0 (MQ below (mQw none cM iS cI cZ mo ad S9) args s 0 0 (mA mo ad)) (F0 m 50 ls []) := by
  intro n
  induction n with
  | zero =>
    intro S v1 v2 v3 v4 v5 v6 v7 v8 H locs ls h hW hS hl
    exact absurd (show (none : Option (mSt)) = _ from h) (fun q => by cases q)
  | succ n ih =>
    intro S v1 v2 v3 v4 v5 v6 v7 v8 H locs ls h hW hS hl
    rw [fm_several_50] at h
    refine lv_iload C.1 C.2.1 dX12_several_50 (lv_at hl 8 rfl) ?_
    refine lv_iload_n C.1 C.2.1 dX12_several_52 rfl (lv_at hl 2 rfl) ?_
    refine lv_icmp_ge (tgt := 124) C.1 C.2.1 dX12_several_53 (by decide) (fun c1 => ?_) (fun c1 => ?_)
    · have h := if_t h c1
      exact wm_several_124 C X hg_3 h hW hS (lv_sub hl [0, 1, 2, 3, 4, 5, 6, 7] rfl)
    · have h := if_f h c1
      refine lv_iload C.1 C.2.1 dX12_several_56 (lv_at hl 7 rfl) ?_
      refine lv_if_eq (tgt := 124) C.1 C.2.1 dX12_several_58 (by decide) (fun c2 => ?_) (fun c2 => ?_)
      · have h := if_t h c2
        exact wm_several_124 C X hg_3 h hW hS (lv_sub hl [0, 1, 2, 3, 4, 5, 6, 7] rfl)
      · have h := if_f h c2
        refine lv_aload_n C.1 C.2.1 dX12_several_61 rfl (lv_at hl 0 rfl) ?_
        refine lv_iload_n C.1 C.2.1 dX12_several_62 rfl (lv_at hl 1 rfl) ?_
        refine lv_iload C.1 C.2.1 dX12_several_63 (lv_at hl 8 rfl) ?_
        obtain ⟨r3, h_r3, h⟩ := bd_ok h
        refine m_callR (rest := []) C X hW hl.1 [.int v1, .int v8] (tm_rowAt l h_r3) mw_rowAt im_rowAt sl_rowAt rfl ⟨by decide, by decide⟩ rfl (Nat.le_of_ble_eq_true rfl) dX12_several_65 ?_
        refine lv_istore (lv' := [(9, .int r3), (0, .ref mo), (1, .int v1), (2, .int v2), (3, .int v3), (4, .int v4), (5, .int v5), (6, .int v6), (7, .int v7), (8, .int v8)]) C.1 C.2.1 dX12_several_68 hl (by decide) rfl (fun ls hl => ?_)
        refine lv_iload C.1 C.2.1 dX12_several_70 (lv_at hl 0 rfl) ?_
        refine lv_iload C.1 C.2.1 dX12_several_72 (lv_at hl 7 rfl) ?_
        refine lv_icmp_eq (tgt := 111) C.1 C.2.1 dX12_several_74 (by decide) (fun c4 => ?_) (fun c4 => ?_)
        · have h := if_t h c4
          exact wm_several_111 C X hg_3 ih h hW hS (lv_sub hl [1, 2, 3, 4, 5, 6, 7, 9] rfl)
        · have h := if_f h c4
          refine lv_aload_n C.1 C.2.1 dX12_several_77 rfl (lv_at hl 1 rfl) ?_
          refine lv_iload C.1 C.2.1 dX12_several_78 (lv_at hl 0 rfl) ?_
          refine lv_iconst (v := 2) C.1 C.2.1 dX12_several_80 (by decide) ?_
          refine lv_iload_n C.1 C.2.1 dX12_several_81 rfl (lv_at hl 4 rfl) ?_
          refine lv_iload C.1 C.2.1 dX12_several_82 (lv_at hl 5 rfl) ?_
          obtain ⟨r5, h_r5, h⟩ := bd_ok h
          refine m_callR (rest := []) C X hW hl.1 [.int r3, .int (2 : Int32), .int v3, .int v4] (tm_isOf l h_r5) mw_isOf im_isOf sl_isOf rfl ⟨by decide, by decide⟩ rfl (Nat.le_of_ble_eq_true rfl) dX12_several_84 ?_
          refine lv_if_eq (tgt := 111) C.1 C.2.1 dX12_several_87 (by decide) (fun c6 => ?_) (fun c6 => ?_)
          · have h := if_t h c6
            exact wm_several_111 C X hg_3 ih h hW hS (lv_sub hl [1, 2, 3, 4, 5, 6, 7, 9] rfl)
          · have h := if_f h c6
            refine lv_aload_n C.1 C.2.1 dX12_several_90 rfl (lv_at hl 1 rfl) ?_
            refine gf_47 C X hW dX12_several_91 ?_
            refine lv_iload C.1 C.2.1 dX12_several_94 (lv_at hl 0 rfl) ?_
            obtain ⟨hin, h⟩ := ck_ok h
            refine l_47 C X hW hin dX12_several_96 ?_
            refine lv_if_eq (tgt := 111) C.1 C.2.1 dX12_several_97 (by decide) (fun c7 => ?_) (fun c7 => ?_)
            · have h := if_t h c7
              exact wm_several_111 C X hg_3 ih h hW hS (lv_sub hl [1, 2, 3, 4, 5, 6, 7, 9] rfl)
            · have h := if_f h c7
              refine lv_aload_n C.1 C.2.1 dX12_several_100 rfl (lv_at hl 1 rfl) ?_
              refine lv_iload C.1 C.2.1 dX12_several_101 (lv_at hl 0 rfl) ?_
              refine lv_iload C.1 C.2.1 dX12_several_103 (lv_at hl 7 rfl) ?_
              obtain ⟨r8, h_r8, h⟩ := bd_ok h
              refine m_callR (rest := []) C X hW hl.1 [.int r3, .int v6] (tm_knew l h_r8) mw_knew im_knew sl_knew rfl ⟨by decide, by decide⟩ rfl (Nat.le_of_ble_eq_true rfl) dX12_several_105 ?_
              refine lv_if_ne (tgt := 115) C.1 C.2.1 dX12_several_108 (by decide) (fun c9 => ?_) (fun c9 => ?_)
              · have h := if_f h c9
                refine lv_iconst (v := 0) C.1 C.2.1 dX12_several_115 (by decide) ?_
                exact wm_several_116 C X hg_3 ih h hW hS (lv_sub hl [1, 2, 3, 4, 5, 6, 7, 9] rfl)
              · have h := if_t h c9
                exact wm_several_111 C X hg_3 ih h hW hS (lv_sub hl [1, 2, 3, 4, 5, 6, 7, 9] rfl)
noncomputable def fm_several_3 : Nat → mSt → Int32 → Int32 → Int32 → Int32 → Int32 → Option (mSt)
  | 0, _, _, _, _, _, _ => none
  | n + 1, S, v1, v2, v3, v4, v5 =>
    if v2 ≤ v5 then (
    some S)
    else (
    bd (fm_rowAt S v1 v5) fun r2 =>
    bd (fm_isOf S r2 (2 : Int32) v3 v4) fun r3 =>
    if r3 = 0 then (
    fm_several_142 (fm_several_3 n) S v1 v2 v3 v4 v5)
    else (
    ck r2 1000 (
    if (rd S 47 r2) = 0 then (
    fm_several_142 (fm_several_3 n) S v1 v2 v3 v4 v5)
    else (
    fm_several_50 (fm_several_3 n) mFU S v1 v2 v3 v4 v5 r2 (1 : Int32) (0 : Int32)))))
set_option maxRecDepth 100000 in
set_option maxHeartbeats 4000000 in
theorem wm_several_3 (C : mY p R s m args meth c cX12_several 10 3 65 none) (X : mX s cM iS cI cZ mo ad) : ∀ (n : Nat), ∀ {S : mSt} {v1 : Int32} {v2 : Int32} {v3 : Int32} {v4 : Int32} {v5 : Int32} {H : Heap} {locs : List Loc} {ls : Array Slot}, fm_several_3 n S v1 v2 v3 v4 v5 = some S9 → mW cM iS cI cZ mo ad S H → mS (mA mo ad) s.heap H locs → lv_has ls 10 [(0, .ref mo), (1, .int v1), (2, .int v2), (3, .int v3), (4, .int v4), (5, .int v5)] → W p l e R s m args below meth c H locs 0 0 (MQ below (mQw none cM iS cI cZ mo ad S9) args s 0 0 (mA mo ad)) (F0 m 3 ls []) := by
  intro n
  induction n with
  | zero =>
    intro S v1 v2 v3 v4 v5 H locs ls h hW hS hl
    exact absurd (show (none : Option (mSt)) = _ from h) (fun q => by cases q)
  | succ n ih =>
    intro S v1 v2 v3 v4 v5 H locs ls h hW hS hl
    rw [fm_several_3] at h
    refine lv_iload C.1 C.2.1 dX12_several_3 (lv_at hl 5 rfl) ?_
    refine lv_iload_n C.1 C.2.1 dX12_several_5 rfl (lv_at hl 2 rfl) ?_
    refine lv_icmp_ge (tgt := 148) C.1 C.2.1 dX12_several_6 (by decide) (fun c1 => ?_) (fun c1 => ?_)
    · have h := if_t h c1
      cases h
      exact m_retvW C hW hS dX12_several_148
    · have h := if_f h c1
      refine lv_aload_n C.1 C.2.1 dX12_several_9 rfl (lv_at hl 0 rfl) ?_
      refine lv_iload_n C.1 C.2.1 dX12_several_10 rfl (lv_at hl 1 rfl) ?_
      refine lv_iload C.1 C.2.1 dX12_several_11 (lv_at hl 5 rfl) ?_
      obtain ⟨r2, h_r2, h⟩ := bd_ok h
      refine m_callR (rest := []) C X hW hl.1 [.int v1, .int v5] (tm_rowAt l h_r2) mw_rowAt im_rowAt sl_rowAt rfl ⟨by decide, by decide⟩ rfl (Nat.le_of_ble_eq_true rfl) dX12_several_13 ?_
      refine lv_istore (lv' := [(6, .int r2), (0, .ref mo), (1, .int v1), (2, .int v2), (3, .int v3), (4, .int v4), (5, .int v5)]) C.1 C.2.1 dX12_several_16 hl (by decide) rfl (fun ls hl => ?_)
      refine lv_aload_n C.1 C.2.1 dX12_several_18 rfl (lv_at hl 1 rfl) ?_
      refine lv_iload C.1 C.2.1 dX12_several_19 (lv_at hl 0 rfl) ?_
      refine lv_iconst (v := 2) C.1 C.2.1 dX12_several_21 (by decide) ?_
      refine lv_iload_n C.1 C.2.1 dX12_several_22 rfl (lv_at hl 4 rfl) ?_
      refine lv_iload C.1 C.2.1 dX12_several_23 (lv_at hl 5 rfl) ?_
      obtain ⟨r3, h_r3, h⟩ := bd_ok h
      refine m_callR (rest := []) C X hW hl.1 [.int r2, .int (2 : Int32), .int v3, .int v4] (tm_isOf l h_r3) mw_isOf im_isOf sl_isOf rfl ⟨by decide, by decide⟩ rfl (Nat.le_of_ble_eq_true rfl) dX12_several_25 ?_
      refine lv_if_eq (tgt := 142) C.1 C.2.1 dX12_several_28 (by decide) (fun c4 => ?_) (fun c4 => ?_)
      · have h := if_t h c4
        exact wm_several_142 C X ih h hW hS (lv_sub hl [1, 2, 3, 4, 5, 6] rfl)
      · have h := if_f h c4
        refine lv_aload_n C.1 C.2.1 dX12_several_31 rfl (lv_at hl 1 rfl) ?_
        refine gf_47 C X hW dX12_several_32 ?_
        refine lv_iload C.1 C.2.1 dX12_several_35 (lv_at hl 0 rfl) ?_
        obtain ⟨hin, h⟩ := ck_ok h
        refine l_47 C X hW hin dX12_several_37 ?_
        refine lv_if_ne (tgt := 44) C.1 C.2.1 dX12_several_38 (by decide) (fun c5 => ?_) (fun c5 => ?_)
        · have h := if_f h c5
          refine lv_iconst (v := 1) C.1 C.2.1 dX12_several_44 (by decide) ?_
          refine lv_istore (lv' := [(7, .int (1 : Int32)), (6, .int r2), (0, .ref mo), (1, .int v1), (2, .int v2), (3, .int v3), (4, .int v4), (5, .int v5)]) C.1 C.2.1 dX12_several_45 hl (by decide) rfl (fun ls hl => ?_)
          refine lv_iconst (v := 0) C.1 C.2.1 dX12_several_47 (by decide) ?_
          refine lv_istore (lv' := [(8, .int (0 : Int32)), (7, .int (1 : Int32)), (6, .int r2), (0, .ref mo), (1, .int v1), (2, .int v2), (3, .int v3), (4, .int v4), (5, .int v5)]) C.1 C.2.1 dX12_several_48 hl (by decide) rfl (fun ls hl => ?_)
          exact wm_several_50 C X ih mFU h hW hS (lv_sub hl [3, 4, 5, 6, 7, 8, 2, 1, 0] rfl)
        · have h := if_t h c5
          refine lv_goto (tgt := 142) C.1 C.2.1 dX12_several_41 (by decide) ?_
          exact wm_several_142 C X ih h hW hS (lv_sub hl [1, 2, 3, 4, 5, 6] rfl)
noncomputable def fm_several (S : mSt) (v1 : Int32) (v2 : Int32) (v3 : Int32) (v4 : Int32) : Option (mSt) :=
fm_several_3 mFU S v1 v2 v3 v4 (0 : Int32)
set_option maxRecDepth 100000 in
set_option maxHeartbeats 4000000 in
theorem tm_several (l : Launch) {cM : ClassId} {iS : Nat → Nat} {cI cZ : ClassId} {mo : Nat} {ad : Nat → Nat} {S : mSt} {v1 : Int32} {v2 : Int32} {v3 : Int32} {v4 : Int32} {S9 : mSt} (h : fm_several S v1 v2 v3 v4 = some S9) : Met l yX12_several (Cond.code yX12_several cX12_several 10 none :: lw_g) { frames := 3, cells := 0, slots := 0, locals := 65 } (mPi [.int v1, .int v2, .int v3, .int v4] cM iS cI cZ mo ad S) (mQw none cM iS cI cZ mo ad S9) 0 0 (mA mo ad) := by
  refine Met.ofW (cc := cX12_several) (maxL := 10) (ret := none) (by decide) rfl ?_
  intro p e s m args below meth c s₁ B hml hv
  obtain ⟨rfl, hW, X⟩ := hv
  have C : mY p (headSpec (Cond.code yX12_several cX12_several 10 none :: lw_g) { frames := 3, cells := 0, slots := 0, locals := 65 }).room s m _ meth c cX12_several 10 3 65 none := ⟨B.exec, B.bytes, hml, findClass_of_methodNamed B.named, fun w hw => atoms_spec (ws := Cond.code yX12_several cX12_several 10 none :: lw_g) B.pre w (List.mem_cons_of_mem _ hw), ⟨Nat.le_refl _, Nat.le_refl _⟩, B.returns, B.notSynchronized⟩
  have hl := lv_entry ([.ref mo, .int v1, .int v2, .int v3, .int v4]) (n := 10) (Nat.le_of_ble_eq_true rfl)
  rw [lg_entry_eq]
  generalize (lg_sl ([.ref mo, .int v1, .int v2, .int v3, .int v4]) ++ List.replicate (10 - (lg_sl ([.ref mo, .int v1, .int v2, .int v3, .int v4])).length) Slot.unset).toArray = ls at hl ⊢
  have hl : lv_has ls 10 [(0, .ref mo), (1, .int v1), (2, .int v2), (3, .int v3), (4, .int v4)] := hl
  have hS : mS (mA mo ad) s.heap s.heap [] := mS.rf
  unfold fm_several at h
  refine lv_iconst (v := 0) C.1 C.2.1 dX12_several_0 (by decide) ?_
  refine lv_istore (lv' := [(5, .int (0 : Int32)), (0, .ref mo), (1, .int v1), (2, .int v2), (3, .int v3), (4, .int v4)]) C.1 C.2.1 dX12_several_1 hl (by decide) rfl (fun ls hl => ?_)
  exact wm_several_3 C X mFU h hW hS (lv_sub hl [1, 2, 3, 4, 5, 0] rfl)
end
theorem dX12_shares_0 : decode cX12_shares 0 = .ok (.iconst 0, 1) := by decide +kernel
theorem dX12_shares_1 : decode cX12_shares 1 = .ok (.istore 5, 2) := by decide +kernel
theorem dX12_shares_3 : decode cX12_shares 3 = .ok (.iconst 0, 1) := by decide +kernel
theorem dX12_shares_4 : decode cX12_shares 4 = .ok (.istore 6, 2) := by decide +kernel
theorem dX12_shares_6 : decode cX12_shares 6 = .ok (.iload 6, 2) := by decide +kernel
theorem dX12_shares_8 : decode cX12_shares 8 = .ok (.iconst 4, 1) := by decide +kernel
theorem dX12_shares_9 : decode cX12_shares 9 = .ok (.if_icmp .ge 190, 3) := by decide +kernel
theorem dX12_shares_12 : decode cX12_shares 12 = .ok (.iconst 0, 1) := by decide +kernel
theorem dX12_shares_13 : decode cX12_shares 13 = .ok (.istore 7, 2) := by decide +kernel
theorem dX12_shares_15 : decode cX12_shares 15 = .ok (.iconst 0, 1) := by decide +kernel
theorem dX12_shares_16 : decode cX12_shares 16 = .ok (.istore 8, 2) := by decide +kernel
theorem dX12_shares_18 : decode cX12_shares 18 = .ok (.iload 8, 2) := by decide +kernel
theorem dX12_shares_20 : decode cX12_shares 20 = .ok (.iload_n 2, 1) := by decide +kernel
theorem dX12_shares_21 : decode cX12_shares 21 = .ok (.if_icmp .ge 158, 3) := by decide +kernel
theorem dX12_shares_24 : decode cX12_shares 24 = .ok (.aload_n 0, 1) := by decide +kernel
theorem dX12_shares_25 : decode cX12_shares 25 = .ok (.iload_n 1, 1) := by decide +kernel
theorem dX12_shares_26 : decode cX12_shares 26 = .ok (.iload 8, 2) := by decide +kernel
theorem dX12_shares_28 : decode cX12_shares 28 = .ok (.invokevirtual 230, 3) := by decide +kernel
theorem dX12_shares_31 : decode cX12_shares 31 = .ok (.istore 9, 2) := by decide +kernel
theorem dX12_shares_33 : decode cX12_shares 33 = .ok (.aload_n 0, 1) := by decide +kernel
theorem dX12_shares_34 : decode cX12_shares 34 = .ok (.getfield 32, 3) := by decide +kernel
theorem dX12_shares_37 : decode cX12_shares 37 = .ok (.iload 9, 2) := by decide +kernel
theorem dX12_shares_39 : decode cX12_shares 39 = .ok (.iaload, 1) := by decide +kernel
theorem dX12_shares_40 : decode cX12_shares 40 = .ok (.iload_n 3, 1) := by decide +kernel
theorem dX12_shares_41 : decode cX12_shares 41 = .ok (.if_icmp .ne 132, 3) := by decide +kernel
theorem dX12_shares_44 : decode cX12_shares 44 = .ok (.aload_n 0, 1) := by decide +kernel
theorem dX12_shares_45 : decode cX12_shares 45 = .ok (.getfield 35, 3) := by decide +kernel
theorem dX12_shares_48 : decode cX12_shares 48 = .ok (.iload 9, 2) := by decide +kernel
theorem dX12_shares_50 : decode cX12_shares 50 = .ok (.iaload, 1) := by decide +kernel
theorem dX12_shares_51 : decode cX12_shares 51 = .ok (.iload 4, 2) := by decide +kernel
theorem dX12_shares_53 : decode cX12_shares 53 = .ok (.if_icmp .eq 6, 3) := by decide +kernel
theorem dX12_shares_56 : decode cX12_shares 56 = .ok (.goto 117, 3) := by decide +kernel
theorem dX12_shares_59 : decode cX12_shares 59 = .ok (.aload_n 0, 1) := by decide +kernel
theorem dX12_shares_60 : decode cX12_shares 60 = .ok (.getfield 29, 3) := by decide +kernel
theorem dX12_shares_63 : decode cX12_shares 63 = .ok (.iload 9, 2) := by decide +kernel
theorem dX12_shares_65 : decode cX12_shares 65 = .ok (.iaload, 1) := by decide +kernel
theorem dX12_shares_66 : decode cX12_shares 66 = .ok (.iconst 4, 1) := by decide +kernel
theorem dX12_shares_67 : decode cX12_shares 67 = .ok (.if_icmp .ne 25, 3) := by decide +kernel
theorem dX12_shares_70 : decode cX12_shares 70 = .ok (.iload 9, 2) := by decide +kernel
theorem dX12_shares_72 : decode cX12_shares 72 = .ok (.invokestatic 219, 3) := by decide +kernel
theorem dX12_shares_75 : decode cX12_shares 75 = .ok (.iload 6, 2) := by decide +kernel
theorem dX12_shares_77 : decode cX12_shares 77 = .ok (.if_icmp .ne 15, 3) := by decide +kernel
theorem dX12_shares_80 : decode cX12_shares 80 = .ok (.iload 7, 2) := by decide +kernel
theorem dX12_shares_82 : decode cX12_shares 82 = .ok (.aload_n 0, 1) := by decide +kernel
theorem dX12_shares_83 : decode cX12_shares 83 = .ok (.getfield 38, 3) := by decide +kernel
theorem dX12_shares_86 : decode cX12_shares 86 = .ok (.iload 9, 2) := by decide +kernel
theorem dX12_shares_88 : decode cX12_shares 88 = .ok (.iaload, 1) := by decide +kernel
theorem dX12_shares_89 : decode cX12_shares 89 = .ok (.iadd, 1) := by decide +kernel
theorem dX12_shares_90 : decode cX12_shares 90 = .ok (.istore 7, 2) := by decide +kernel
theorem dX12_shares_92 : decode cX12_shares 92 = .ok (.aload_n 0, 1) := by decide +kernel
theorem dX12_shares_93 : decode cX12_shares 93 = .ok (.getfield 29, 3) := by decide +kernel
theorem dX12_shares_96 : decode cX12_shares 96 = .ok (.iload 9, 2) := by decide +kernel
theorem dX12_shares_98 : decode cX12_shares 98 = .ok (.iaload, 1) := by decide +kernel
theorem dX12_shares_99 : decode cX12_shares 99 = .ok (.iconst 5, 1) := by decide +kernel
theorem dX12_shares_100 : decode cX12_shares 100 = .ok (.if_icmp .eq 15, 3) := by decide +kernel
theorem dX12_shares_103 : decode cX12_shares 103 = .ok (.aload_n 0, 1) := by decide +kernel
theorem dX12_shares_104 : decode cX12_shares 104 = .ok (.getfield 29, 3) := by decide +kernel
theorem dX12_shares_107 : decode cX12_shares 107 = .ok (.iload 9, 2) := by decide +kernel
theorem dX12_shares_109 : decode cX12_shares 109 = .ok (.iaload, 1) := by decide +kernel
theorem dX12_shares_110 : decode cX12_shares 110 = .ok (.bipush 6, 2) := by decide +kernel
theorem dX12_shares_112 : decode cX12_shares 112 = .ok (.if_icmp .ne 25, 3) := by decide +kernel
theorem dX12_shares_115 : decode cX12_shares 115 = .ok (.iload 9, 2) := by decide +kernel
theorem dX12_shares_117 : decode cX12_shares 117 = .ok (.invokestatic 219, 3) := by decide +kernel
theorem dX12_shares_120 : decode cX12_shares 120 = .ok (.iload 6, 2) := by decide +kernel
theorem dX12_shares_122 : decode cX12_shares 122 = .ok (.if_icmp .ne 15, 3) := by decide +kernel
theorem dX12_shares_125 : decode cX12_shares 125 = .ok (.iload 7, 2) := by decide +kernel
theorem dX12_shares_127 : decode cX12_shares 127 = .ok (.aload_n 0, 1) := by decide +kernel
theorem dX12_shares_128 : decode cX12_shares 128 = .ok (.getfield 38, 3) := by decide +kernel
theorem dX12_shares_131 : decode cX12_shares 131 = .ok (.iload 9, 2) := by decide +kernel
theorem dX12_shares_133 : decode cX12_shares 133 = .ok (.iaload, 1) := by decide +kernel
theorem dX12_shares_134 : decode cX12_shares 134 = .ok (.isub, 1) := by decide +kernel
theorem dX12_shares_135 : decode cX12_shares 135 = .ok (.istore 7, 2) := by decide +kernel
theorem dX12_shares_137 : decode cX12_shares 137 = .ok (.aload_n 0, 1) := by decide +kernel
theorem dX12_shares_138 : decode cX12_shares 138 = .ok (.getfield 29, 3) := by decide +kernel
theorem dX12_shares_141 : decode cX12_shares 141 = .ok (.iload 9, 2) := by decide +kernel
theorem dX12_shares_143 : decode cX12_shares 143 = .ok (.iaload, 1) := by decide +kernel
theorem dX12_shares_144 : decode cX12_shares 144 = .ok (.bipush 6, 2) := by decide +kernel
theorem dX12_shares_146 : decode cX12_shares 146 = .ok (.if_icmp .ne 27, 3) := by decide +kernel
theorem dX12_shares_149 : decode cX12_shares 149 = .ok (.aload_n 0, 1) := by decide +kernel
theorem dX12_shares_150 : decode cX12_shares 150 = .ok (.getfield 41, 3) := by decide +kernel
theorem dX12_shares_153 : decode cX12_shares 153 = .ok (.iload 9, 2) := by decide +kernel
theorem dX12_shares_155 : decode cX12_shares 155 = .ok (.iaload, 1) := by decide +kernel
theorem dX12_shares_156 : decode cX12_shares 156 = .ok (.iload 6, 2) := by decide +kernel
theorem dX12_shares_158 : decode cX12_shares 158 = .ok (.if_icmp .ne 15, 3) := by decide +kernel
theorem dX12_shares_161 : decode cX12_shares 161 = .ok (.iload 7, 2) := by decide +kernel
theorem dX12_shares_163 : decode cX12_shares 163 = .ok (.aload_n 0, 1) := by decide +kernel
theorem dX12_shares_164 : decode cX12_shares 164 = .ok (.getfield 38, 3) := by decide +kernel
theorem dX12_shares_167 : decode cX12_shares 167 = .ok (.iload 9, 2) := by decide +kernel
theorem dX12_shares_169 : decode cX12_shares 169 = .ok (.iaload, 1) := by decide +kernel
theorem dX12_shares_170 : decode cX12_shares 170 = .ok (.iadd, 1) := by decide +kernel
theorem dX12_shares_171 : decode cX12_shares 171 = .ok (.istore 7, 2) := by decide +kernel
theorem dX12_shares_173 : decode cX12_shares 173 = .ok (.iinc 8 1, 3) := by decide +kernel
theorem dX12_shares_176 : decode cX12_shares 176 = .ok (.goto (-158), 3) := by decide +kernel
theorem dX12_shares_179 : decode cX12_shares 179 = .ok (.aload_n 0, 1) := by decide +kernel
theorem dX12_shares_180 : decode cX12_shares 180 = .ok (.iload 7, 2) := by decide +kernel
theorem dX12_shares_182 : decode cX12_shares 182 = .ok (.iconst (-1), 1) := by decide +kernel
theorem dX12_shares_183 : decode cX12_shares 183 = .ok (.invokevirtual 288, 3) := by decide +kernel
theorem dX12_shares_186 : decode cX12_shares 186 = .ok (.iload 5, 2) := by decide +kernel
theorem dX12_shares_188 : decode cX12_shares 188 = .ok (.iload 7, 2) := by decide +kernel
theorem dX12_shares_190 : decode cX12_shares 190 = .ok (.iadd, 1) := by decide +kernel
theorem dX12_shares_191 : decode cX12_shares 191 = .ok (.istore 5, 2) := by decide +kernel
theorem dX12_shares_193 : decode cX12_shares 193 = .ok (.iinc 6 1, 3) := by decide +kernel
theorem dX12_shares_196 : decode cX12_shares 196 = .ok (.goto (-190), 3) := by decide +kernel
theorem dX12_shares_199 : decode cX12_shares 199 = .ok (.aload_n 0, 1) := by decide +kernel
theorem dX12_shares_200 : decode cX12_shares 200 = .ok (.iload 5, 2) := by decide +kernel
theorem dX12_shares_202 : decode cX12_shares 202 = .ok (.iconst (-1), 1) := by decide +kernel
theorem dX12_shares_203 : decode cX12_shares 203 = .ok (.invokevirtual 288, 3) := by decide +kernel
theorem dX12_shares_206 : decode cX12_shares 206 = .ok (.return_, 1) := by decide +kernel
theorem cd_shares : Cond.code yX12_shares cX12_shares 10 none ∈ lw_g := mt_at 2065 (by decide +kernel) rfl
theorem mw_shares : mCw 269 yX12_shares cX12_shares 10 none 4 := ⟨cd_shares, mt_at 2062 (by decide +kernel) rfl, in_M, by decide +kernel⟩
theorem im_shares : Cond.instanceMethod yX12_shares ∈ lw_g := mt_at 2064 (by decide +kernel) rfl
theorem sl_shares : Cond.selects RX12 yX12_shares yX12_shares ∈ lw_g := mt_sel 63 (by decide +kernel) rfl
section
variable {p : Program} {l : Launch} {e : Env} {R : Room} {s : State} {m : MethodId} {args : Array Value} {below : List Frame} {meth : Method} {c : Code} {cM : ClassId} {iS : Nat → Nat} {cI cZ : ClassId} {mo : Nat} {ad : Nat → Nat} {r : Int32} {S9 : mSt}
noncomputable def fm_shares_173 (g_6 : mSt → Int32 → Int32 → Int32 → Int32 → Int32 → Int32 → Option (mSt)) (g_18 : mSt → Int32 → Int32 → Int32 → Int32 → Int32 → Int32 → Int32 → Int32 → Option (mSt)) (S : mSt) (v1 : Int32) (v2 : Int32) (v3 : Int32) (v4 : Int32) (v5 : Int32) (v6 : Int32) (v7 : Int32) (v8 : Int32) : Option (mSt) :=
lt (v8 + (1 : Int32)) fun x1 =>
g_18 S v1 v2 v3 v4 v5 v6 v7 x1
set_option maxRecDepth 100000 in
set_option maxHeartbeats 4000000 in
theorem wm_shares_173 (C : mY p R s m args meth c cX12_shares 10 1 22 none) (X : mX s cM iS cI cZ mo ad) {g_6 : mSt → Int32 → Int32 → Int32 → Int32 → Int32 → Int32 → Option (mSt)} {g_18 : mSt → Int32 → Int32 → Int32 → Int32 → Int32 → Int32 → Int32 → Int32 → Option (mSt)} (hg_6 : ∀ {S : mSt} {v1 : Int32} {v2 : Int32} {v3 : Int32} {v4 : Int32} {v5 : Int32} {v6 : Int32} {H : Heap} {locs : List Loc} {ls : Array Slot}, g_6 S v1 v2 v3 v4 v5 v6 = some S9 → mW cM iS cI cZ mo ad S H → mS (mA mo ad) s.heap H locs → lv_has ls 10 [(0, .ref mo), (1, .int v1), (2, .int v2), (3, .int v3), (4, .int v4), (5, .int v5), (6, .int v6)] → W p l e R s m args below meth c H locs 0 0 (MQ below (mQw none cM iS cI cZ mo ad S9) args s 0 0 (mA mo ad)) (F0 m 6 ls [])) (hg_18 : ∀ {S : mSt} {v1 : Int32} {v2 : Int32} {v3 : Int32} {v4 : Int32} {v5 : Int32} {v6 : Int32} {v7 : Int32} {v8 : Int32} {H : Heap} {locs : List Loc} {ls : Array Slot}, g_18 S v1 v2 v3 v4 v5 v6 v7 v8 = some S9 → mW cM iS cI cZ mo ad S H → mS (mA mo ad) s.heap H locs → lv_has ls 10 [(0, .ref mo), (1, .int v1), (2, .int v2), (3, .int v3), (4, .int v4), (5, .int v5), (6, .int v6), (7, .int v7), (8, .int v8)] → W p l e R s m args below meth c H locs 0 0 (MQ below (mQw none cM iS cI cZ mo ad S9) args s 0 0 (mA mo ad)) (F0 m 18 ls [])) : ∀ {S : mSt} {v1 : Int32} {v2 : Int32} {v3 : Int32} {v4 : Int32} {v5 : Int32} {v6 : Int32} {v7 : Int32} {v8 : Int32} {H : Heap} {locs : List Loc} {ls : Array Slot}, fm_shares_173 g_6 g_18 S v1 v2 v3 v4 v5 v6 v7 v8 = some S9 → mW cM iS cI cZ mo ad S H → mS (mA mo ad) s.heap H locs → lv_has ls 10 [(0, .ref mo), (1, .int v1), (2, .int v2), (3, .int v3), (4, .int v4), (5, .int v5), (6, .int v6), (7, .int v7), (8, .int v8)] → W p l e R s m args below meth c H locs 0 0 (MQ below (mQw none cM iS cI cZ mo ad S9) args s 0 0 (mA mo ad)) (F0 m 173 ls []) := by
  intro S v1 v2 v3 v4 v5 v6 v7 v8 H locs ls h hW hS hl
  unfold fm_shares_173 at h
  refine lt_ok h (fun x1 e_x1 h => ?_)
  refine lv_iinc (v := x1) (lv' := [(8, .int x1), (0, .ref mo), (1, .int v1), (2, .int v2), (3, .int v3), (4, .int v4), (5, .int v5), (6, .int v6), (7, .int v7)]) C.1 C.2.1 dX12_shares_173 hl (k := 8) rfl (by rw [← e_x1]; rfl) (by decide) rfl (fun ls hl => ?_)
  refine lv_goto (tgt := 18) C.1 C.2.1 dX12_shares_176 (by decide) ?_
  exact hg_18 h hW hS (lv_sub hl [1, 2, 3, 4, 5, 6, 7, 8, 0] rfl)
noncomputable def fm_shares_137 (g_6 : mSt → Int32 → Int32 → Int32 → Int32 → Int32 → Int32 → Option (mSt)) (g_18 : mSt → Int32 → Int32 → Int32 → Int32 → Int32 → Int32 → Int32 → Int32 → Option (mSt)) (S : mSt) (v1 : Int32) (v2 : Int32) (v3 : Int32) (v4 : Int32) (v5 : Int32) (v6 : Int32) (v7 : Int32) (v8 : Int32) (v9 : Int32) : Option (mSt) :=
ck v9 1000 (
if (rd S 9 v9) = (6 : Int32) then (
ck v9 1000 (
if (rd S 13 v9) = v6 then (
ck v9 1000 (
lt (v7 + (rd S 12 v9)) fun x3 =>
fm_shares_173 g_6 g_18 S v1 v2 v3 v4 v5 v6 x3 v8))
else (
fm_shares_173 g_6 g_18 S v1 v2 v3 v4 v5 v6 v7 v8)))
else (
fm_shares_173 g_6 g_18 S v1 v2 v3 v4 v5 v6 v7 v8))
set_option maxRecDepth 100000 in
set_option maxHeartbeats 4000000 in
theorem wm_shares_137 (C : mY p R s m args meth c cX12_shares 10 1 22 none) (X : mX s cM iS cI cZ mo ad) {g_6 : mSt → Int32 → Int32 → Int32 → Int32 → Int32 → Int32 → Option (mSt)} {g_18 : mSt → Int32 → Int32 → Int32 → Int32 → Int32 → Int32 → Int32 → Int32 → Option (mSt)} (hg_6 : ∀ {S : mSt} {v1 : Int32} {v2 : Int32} {v3 : Int32} {v4 : Int32} {v5 : Int32} {v6 : Int32} {H : Heap} {locs : List Loc} {ls : Array Slot}, g_6 S v1 v2 v3 v4 v5 v6 = some S9 → mW cM iS cI cZ mo ad S H → mS (mA mo ad) s.heap H locs → lv_has ls 10 [(0, .ref mo), (1, .int v1), (2, .int v2), (3, .int v3), (4, .int v4), (5, .int v5), (6, .int v6)] → W p l e R s m args below meth c H locs 0 0 (MQ below (mQw none cM iS cI cZ mo ad S9) args s 0 0 (mA mo ad)) (F0 m 6 ls [])) (hg_18 : ∀ {S : mSt} {v1 : Int32} {v2 : Int32} {v3 : Int32} {v4 : Int32} {v5 : Int32} {v6 : Int32} {v7 : Int32} {v8 : Int32} {H : Heap} {locs : List Loc} {ls : Array Slot}, g_18 S v1 v2 v3 v4 v5 v6 v7 v8 = some S9 → mW cM iS cI cZ mo ad S H → mS (mA mo ad) s.heap H locs → lv_has ls 10 [(0, .ref mo), (1, .int v1), (2, .int v2), (3, .int v3), (4, .int v4), (5, .int v5), (6, .int v6), (7, .int v7), (8, .int v8)] → W p l e R s m args below meth c H locs 0 0 (MQ below (mQw none cM iS cI cZ mo ad S9) args s 0 0 (mA mo ad)) (F0 m 18 ls [])) : ∀ {S : mSt} {v1 : Int32} {v2 : Int32} {v3 : Int32} {v4 : Int32} {v5 : Int32} {v6 : Int32} {v7 : Int32} {v8 : Int32} {v9 : Int32} {H : Heap} {locs : List Loc} {ls : Array Slot}, fm_shares_137 g_6 g_18 S v1 v2 v3 v4 v5 v6 v7 v8 v9 = some S9 → mW cM iS cI cZ mo ad S H → mS (mA mo ad) s.heap H locs → lv_has ls 10 [(0, .ref mo), (1, .int v1), (2, .int v2), (3, .int v3), (4, .int v4), (5, .int v5), (6, .int v6), (7, .int v7), (8, .int v8), (9, .int v9)] → W p l e R s m args below meth c H locs 0 0 (MQ below (mQw none cM iS cI cZ mo ad S9) args s 0 0 (mA mo ad)) (F0 m 137 ls []) := by
  intro S v1 v2 v3 v4 v5 v6 v7 v8 v9 H locs ls h hW hS hl
  unfold fm_shares_137 at h
  refine lv_aload_n C.1 C.2.1 dX12_shares_137 rfl (lv_at hl 0 rfl) ?_
  refine gf_9 C X hW dX12_shares_138 ?_
  refine lv_iload C.1 C.2.1 dX12_shares_141 (lv_at hl 9 rfl) ?_
  obtain ⟨hin, h⟩ := ck_ok h
  refine l_9 C X hW hin dX12_shares_143 ?_
  refine lv_bipush (v := 6) C.1 C.2.1 dX12_shares_144 (by decide) ?_
  refine lv_icmp_ne (tgt := 173) C.1 C.2.1 dX12_shares_146 (by decide) (fun c1 => ?_) (fun c1 => ?_)
  · have h := if_f h c1
    exact wm_shares_173 C X hg_6 hg_18 h hW hS (lv_sub hl [0, 1, 2, 3, 4, 5, 6, 7, 8] rfl)
  · have h := if_t h c1
    refine lv_aload_n C.1 C.2.1 dX12_shares_149 rfl (lv_at hl 0 rfl) ?_
    refine gf_13 C X hW dX12_shares_150 ?_
    refine lv_iload C.1 C.2.1 dX12_shares_153 (lv_at hl 9 rfl) ?_
    obtain ⟨hin, h⟩ := ck_ok h
    refine l_13 C X hW hin dX12_shares_155 ?_
    refine lv_iload C.1 C.2.1 dX12_shares_156 (lv_at hl 6 rfl) ?_
    refine lv_icmp_ne (tgt := 173) C.1 C.2.1 dX12_shares_158 (by decide) (fun c2 => ?_) (fun c2 => ?_)
    · have h := if_f h c2
      exact wm_shares_173 C X hg_6 hg_18 h hW hS (lv_sub hl [0, 1, 2, 3, 4, 5, 6, 7, 8] rfl)
    · have h := if_t h c2
      refine lv_iload C.1 C.2.1 dX12_shares_161 (lv_at hl 7 rfl) ?_
      refine lv_aload_n C.1 C.2.1 dX12_shares_163 rfl (lv_at hl 0 rfl) ?_
      refine gf_12 C X hW dX12_shares_164 ?_
      refine lv_iload C.1 C.2.1 dX12_shares_167 (lv_at hl 9 rfl) ?_
      obtain ⟨hin, h⟩ := ck_ok h
      refine l_12 C X hW hin dX12_shares_169 ?_
      refine lv_iadd C.1 C.2.1 dX12_shares_170 ?_
      refine lt_ok h (fun x3 e_x3 h => ?_)
      refine lv_nm e_x3 ?_
      refine lv_istore (lv' := [(7, .int x3), (0, .ref mo), (1, .int v1), (2, .int v2), (3, .int v3), (4, .int v4), (5, .int v5), (6, .int v6), (8, .int v8), (9, .int v9)]) C.1 C.2.1 dX12_shares_171 hl (by decide) rfl (fun ls hl => ?_)
      exact wm_shares_173 C X hg_6 hg_18 h hW hS (lv_sub hl [1, 2, 3, 4, 5, 6, 7, 0, 8] rfl)
noncomputable def fm_shares_115 (g_6 : mSt → Int32 → Int32 → Int32 → Int32 → Int32 → Int32 → Option (mSt)) (g_18 : mSt → Int32 → Int32 → Int32 → Int32 → Int32 → Int32 → Int32 → Int32 → Option (mSt)) (S : mSt) (v1 : Int32) (v2 : Int32) (v3 : Int32) (v4 : Int32) (v5 : Int32) (v6 : Int32) (v7 : Int32) (v8 : Int32) (v9 : Int32) : Option (mSt) :=
bd (fm_nodeOf v9) fun r1 =>
if r1 = v6 then (
ck v9 1000 (
lt (v7 - (rd S 12 v9)) fun x3 =>
fm_shares_137 g_6 g_18 S v1 v2 v3 v4 v5 v6 x3 v8 v9))
else (
fm_shares_137 g_6 g_18 S v1 v2 v3 v4 v5 v6 v7 v8 v9)
set_option maxRecDepth 100000 in
set_option maxHeartbeats 4000000 in
theorem wm_shares_115 (C : mY p R s m args meth c cX12_shares 10 1 22 none) (X : mX s cM iS cI cZ mo ad) {g_6 : mSt → Int32 → Int32 → Int32 → Int32 → Int32 → Int32 → Option (mSt)} {g_18 : mSt → Int32 → Int32 → Int32 → Int32 → Int32 → Int32 → Int32 → Int32 → Option (mSt)} (hg_6 : ∀ {S : mSt} {v1 : Int32} {v2 : Int32} {v3 : Int32} {v4 : Int32} {v5 : Int32} {v6 : Int32} {H : Heap} {locs : List Loc} {ls : Array Slot}, g_6 S v1 v2 v3 v4 v5 v6 = some S9 → mW cM iS cI cZ mo ad S H → mS (mA mo ad) s.heap H locs → lv_has ls 10 [(0, .ref mo), (1, .int v1), (2, .int v2), (3, .int v3), (4, .int v4), (5, .int v5), (6, .int v6)] → W p l e R s m args below meth c H locs 0 0 (MQ below (mQw none cM iS cI cZ mo ad S9) args s 0 0 (mA mo ad)) (F0 m 6 ls [])) (hg_18 : ∀ {S : mSt} {v1 : Int32} {v2 : Int32} {v3 : Int32} {v4 : Int32} {v5 : Int32} {v6 : Int32} {v7 : Int32} {v8 : Int32} {H : Heap} {locs : List Loc} {ls : Array Slot}, g_18 S v1 v2 v3 v4 v5 v6 v7 v8 = some S9 → mW cM iS cI cZ mo ad S H → mS (mA mo ad) s.heap H locs → lv_has ls 10 [(0, .ref mo), (1, .int v1), (2, .int v2), (3, .int v3), (4, .int v4), (5, .int v5), (6, .int v6), (7, .int v7), (8, .int v8)] → W p l e R s m args below meth c H locs 0 0 (MQ below (mQw none cM iS cI cZ mo ad S9) args s 0 0 (mA mo ad)) (F0 m 18 ls [])) : ∀ {S : mSt} {v1 : Int32} {v2 : Int32} {v3 : Int32} {v4 : Int32} {v5 : Int32} {v6 : Int32} {v7 : Int32} {v8 : Int32} {v9 : Int32} {H : Heap} {locs : List Loc} {ls : Array Slot}, fm_shares_115 g_6 g_18 S v1 v2 v3 v4 v5 v6 v7 v8 v9 = some S9 → mW cM iS cI cZ mo ad S H → mS (mA mo ad) s.heap H locs → lv_has ls 10 [(0, .ref mo), (1, .int v1), (2, .int v2), (3, .int v3), (4, .int v4), (5, .int v5), (6, .int v6), (7, .int v7), (8, .int v8), (9, .int v9)] → W p l e R s m args below meth c H locs 0 0 (MQ below (mQw none cM iS cI cZ mo ad S9) args s 0 0 (mA mo ad)) (F0 m 115 ls []) := by
  intro S v1 v2 v3 v4 v5 v6 v7 v8 v9 H locs ls h hW hS hl
  unfold fm_shares_115 at h
  refine lv_iload C.1 C.2.1 dX12_shares_115 (lv_at hl 9 rfl) ?_
  obtain ⟨r1, h_r1, h⟩ := bd_ok h
  refine m_callS (rest := []) C hl.1 [.int v9] (tm_nodeOf l h_r1) mw_nodeOf st_nodeOf rfl ⟨by decide, by decide⟩ rfl (Nat.le_of_ble_eq_true rfl) dX12_shares_117 ?_
  refine lv_iload C.1 C.2.1 dX12_shares_120 (lv_at hl 6 rfl) ?_
  refine lv_icmp_ne (tgt := 137) C.1 C.2.1 dX12_shares_122 (by decide) (fun c2 => ?_) (fun c2 => ?_)
  · have h := if_f h c2
    exact wm_shares_137 C X hg_6 hg_18 h hW hS (lv_sub hl [0, 1, 2, 3, 4, 5, 6, 7, 8, 9] rfl)
  · have h := if_t h c2
    refine lv_iload C.1 C.2.1 dX12_shares_125 (lv_at hl 7 rfl) ?_
    refine lv_aload_n C.1 C.2.1 dX12_shares_127 rfl (lv_at hl 0 rfl) ?_
    refine gf_12 C X hW dX12_shares_128 ?_
    refine lv_iload C.1 C.2.1 dX12_shares_131 (lv_at hl 9 rfl) ?_
    obtain ⟨hin, h⟩ := ck_ok h
    refine l_12 C X hW hin dX12_shares_133 ?_
    refine lv_isub C.1 C.2.1 dX12_shares_134 ?_
    refine lt_ok h (fun x3 e_x3 h => ?_)
    refine lv_nm e_x3 ?_
    refine lv_istore (lv' := [(7, .int x3), (0, .ref mo), (1, .int v1), (2, .int v2), (3, .int v3), (4, .int v4), (5, .int v5), (6, .int v6), (8, .int v8), (9, .int v9)]) C.1 C.2.1 dX12_shares_135 hl (by decide) rfl (fun ls hl => ?_)
    exact wm_shares_137 C X hg_6 hg_18 h hW hS (lv_sub hl [1, 2, 3, 4, 5, 6, 7, 0, 8, 9] rfl)
noncomputable def fm_shares_92 (g_6 : mSt → Int32 → Int32 → Int32 → Int32 → Int32 → Int32 → Option (mSt)) (g_18 : mSt → Int32 → Int32 → Int32 → Int32 → Int32 → Int32 → Int32 → Int32 → Option (mSt)) (S : mSt) (v1 : Int32) (v2 : Int32) (v3 : Int32) (v4 : Int32) (v5 : Int32) (v6 : Int32) (v7 : Int32) (v8 : Int32) (v9 : Int32) : Option (mSt) :=
ck v9 1000 (
if (rd S 9 v9) = (5 : Int32) then (
fm_shares_115 g_6 g_18 S v1 v2 v3 v4 v5 v6 v7 v8 v9)
else (
ck v9 1000 (
if (rd S 9 v9) = (6 : Int32) then (
fm_shares_115 g_6 g_18 S v1 v2 v3 v4 v5 v6 v7 v8 v9)
else (
fm_shares_137 g_6 g_18 S v1 v2 v3 v4 v5 v6 v7 v8 v9))))
set_option maxRecDepth 100000 in
set_option maxHeartbeats 4000000 in
theorem wm_shares_92 (C : mY p R s m args meth c cX12_shares 10 1 22 none) (X : mX s cM iS cI cZ mo ad) {g_6 : mSt → Int32 → Int32 → Int32 → Int32 → Int32 → Int32 → Option (mSt)} {g_18 : mSt → Int32 → Int32 → Int32 → Int32 → Int32 → Int32 → Int32 → Int32 → Option (mSt)} (hg_6 : ∀ {S : mSt} {v1 : Int32} {v2 : Int32} {v3 : Int32} {v4 : Int32} {v5 : Int32} {v6 : Int32} {H : Heap} {locs : List Loc} {ls : Array Slot}, g_6 S v1 v2 v3 v4 v5 v6 = some S9 → mW cM iS cI cZ mo ad S H → mS (mA mo ad) s.heap H locs → lv_has ls 10 [(0, .ref mo), (1, .int v1), (2, .int v2), (3, .int v3), (4, .int v4), (5, .int v5), (6, .int v6)] → W p l e R s m args below meth c H locs 0 0 (MQ below (mQw none cM iS cI cZ mo ad S9) args s 0 0 (mA mo ad)) (F0 m 6 ls [])) (hg_18 : ∀ {S : mSt} {v1 : Int32} {v2 : Int32} {v3 : Int32} {v4 : Int32} {v5 : Int32} {v6 : Int32} {v7 : Int32} {v8 : Int32} {H : Heap} {locs : List Loc} {ls : Array Slot}, g_18 S v1 v2 v3 v4 v5 v6 v7 v8 = some S9 → mW cM iS cI cZ mo ad S H → mS (mA mo ad) s.heap H locs → lv_has ls 10 [(0, .ref mo), (1, .int v1), (2, .int v2), (3, .int v3), (4, .int v4), (5, .int v5), (6, .int v6), (7, .int v7), (8, .int v8)] → W p l e R s m args below meth c H locs 0 0 (MQ below (mQw none cM iS cI cZ mo ad S9) args s 0 0 (mA mo ad)) (F0 m 18 ls [])) : ∀ {S : mSt} {v1 : Int32} {v2 : Int32} {v3 : Int32} {v4 : Int32} {v5 : Int32} {v6 : Int32} {v7 : Int32} {v8 : Int32} {v9 : Int32} {H : Heap} {locs : List Loc} {ls : Array Slot}, fm_shares_92 g_6 g_18 S v1 v2 v3 v4 v5 v6 v7 v8 v9 = some S9 → mW cM iS cI cZ mo ad S H → mS (mA mo ad) s.heap H locs → lv_has ls 10 [(0, .ref mo), (1, .int v1), (2, .int v2), (3, .int v3), (4, .int v4), (5, .int v5), (6, .int v6), (7, .int v7), (8, .int v8), (9, .int v9)] → W p l e R s m args below meth c H locs 0 0 (MQ below (mQw none cM iS cI cZ mo ad S9) args s 0 0 (mA mo ad)) (F0 m 92 ls []) := by
  intro S v1 v2 v3 v4 v5 v6 v7 v8 v9 H locs ls h hW hS hl
  unfold fm_shares_92 at h
  refine lv_aload_n C.1 C.2.1 dX12_shares_92 rfl (lv_at hl 0 rfl) ?_
  refine gf_9 C X hW dX12_shares_93 ?_
  refine lv_iload C.1 C.2.1 dX12_shares_96 (lv_at hl 9 rfl) ?_
  obtain ⟨hin, h⟩ := ck_ok h
  refine l_9 C X hW hin dX12_shares_98 ?_
  refine lv_iconst (v := 5) C.1 C.2.1 dX12_shares_99 (by decide) ?_
  refine lv_icmp_eq (tgt := 115) C.1 C.2.1 dX12_shares_100 (by decide) (fun c1 => ?_) (fun c1 => ?_)
  · have h := if_t h c1
    exact wm_shares_115 C X hg_6 hg_18 h hW hS (lv_sub hl [0, 1, 2, 3, 4, 5, 6, 7, 8, 9] rfl)
  · have h := if_f h c1
    refine lv_aload_n C.1 C.2.1 dX12_shares_103 rfl (lv_at hl 0 rfl) ?_
    refine gf_9 C X hW dX12_shares_104 ?_
    refine lv_iload C.1 C.2.1 dX12_shares_107 (lv_at hl 9 rfl) ?_
    obtain ⟨hin, h⟩ := ck_ok h
    refine l_9 C X hW hin dX12_shares_109 ?_
    refine lv_bipush (v := 6) C.1 C.2.1 dX12_shares_110 (by decide) ?_
    refine lv_icmp_ne (tgt := 137) C.1 C.2.1 dX12_shares_112 (by decide) (fun c2 => ?_) (fun c2 => ?_)
    · have h := if_f h c2
      exact wm_shares_137 C X hg_6 hg_18 h hW hS (lv_sub hl [0, 1, 2, 3, 4, 5, 6, 7, 8, 9] rfl)
    · have h := if_t h c2
      exact wm_shares_115 C X hg_6 hg_18 h hW hS (lv_sub hl [0, 1, 2, 3, 4, 5, 6, 7, 8, 9] rfl)
noncomputable def fm_shares_18 (g_6 : mSt → Int32 → Int32 → Int32 → Int32 → Int32 → Int32 → Option (mSt)) : Nat → mSt → Int32 → Int32 → Int32 → Int32 → Int32 → Int32 → Int32 → Int32 → Option (mSt)
  | 0, _, _, _, _, _, _, _, _, _ => none
  | n + 1, S, v1, v2, v3, v4, v5, v6, v7, v8 =>
    if v2 ≤ v8 then (
    bd (fm_put S v7 (-1 : Int32)) fun S2 =>
    lt (v5 + v7) fun x3 =>
    lt (v6 + (1 : Int32)) fun x4 =>
    g_6 S2 v1 v2 v3 v4 x3 x4)
    else (
    bd (fm_rowAt S v1 v8) fun r5 =>
    ck r5 1000 (
    if (rd S 10 r5) = v3 then (
    ck r5 1000 (
    if (rd S 11 r5) = v4 then (
    ck r5 1000 (
    if (rd S 9 r5) = (4 : Int32) then (
    bd (fm_nodeOf r5) fun r9 =>
    if r9 = v6 then (
    ck r5 1000 (
    lt (v7 + (rd S 12 r5)) fun x11 =>
    fm_shares_92 g_6 (fm_shares_18 g_6 n) S v1 v2 v3 v4 v5 v6 x11 v8 r5))
    else (
    fm_shares_92 g_6 (fm_shares_18 g_6 n) S v1 v2 v3 v4 v5 v6 v7 v8 r5))
    else (
    fm_shares_92 g_6 (fm_shares_18 g_6 n) S v1 v2 v3 v4 v5 v6 v7 v8 r5)))
    else (
    fm_shares_173 g_6 (fm_shares_18 g_6 n) S v1 v2 v3 v4 v5 v6 v7 v8)))
    else (
    fm_shares_173 g_6 (fm_shares_18 g_6 n) S v1 v2 v3 v4 v5 v6 v7 v8)))
set_option maxRecDepth 100000 in
set_option maxHeartbeats 4000000 in
theorem wm_shares_18 (C : mY p R s m args meth c cX12_shares 10 1 22 none) (X : mX s cM iS cI cZ mo ad) {g_6 : mSt → Int32 → Int32 → Int32 → Int32 → Int32 → Int32 → Option (mSt)} (hg_6 : ∀ {S : mSt} {v1 : Int32} {v2 : Int32} {v3 : Int32} {v4 : Int32} {v5 : Int32} {v6 : Int32} {H : Heap} {locs : List Loc} {ls : Array Slot}, g_6 S v1 v2 v3 v4 v5 v6 = some S9 → mW cM iS cI cZ mo ad S H → mS (mA mo ad) s.heap H locs → lv_has ls 10 [(0, .ref mo), (1, .int v1), (2, .int v2), (3, .int v3), (4, .int v4), (5, .int v5), (6, .int v6)] → W p l e R s m args below meth c H locs 0 0 (MQ below (mQw none cM iS cI cZ mo ad S9) args s 0 0 (mA mo ad)) (F0 m 6 ls [])) : ∀ (n : Nat), ∀ {S : mSt} {v1 : Int32} {v2 : Int32} {v3 : Int32} {v4 : Int32} {v5 : Int32} {v6 : Int32} {v7 : Int32} {v8 : Int32} {H : Heap} {locs : List Loc} {ls : Array Slot}, fm_shares_18 g_6 n S v1 v2 v3 v4 v5 v6 v7 v8 = some S9 → mW cM iS cI cZ mo ad S H → mS (mA mo ad) s.heap H locs → lv_has ls 10 [(0, .ref mo), (1, .int v1), (2, .int v2), (3, .int v3), (4, .int v4), (5, .int v5), (6, .int v6), (7, .int v7), (8, .int v8)] → W p l e R s m args below meth c H locs 0 0 (MQ below (mQw none cM iS cI cZ mo ad S9) args s 0 0 (mA mo ad)) (F0 m 18 ls []) := by
  intro n
  induction n with
  | zero =>
    intro S v1 v2 v3 v4 v5 v6 v7 v8 H locs ls h hW hS hl
    exact absurd (show (none : Option (mSt)) = _ from h) (fun q => by cases q)
  | succ n ih =>
    intro S v1 v2 v3 v4 v5 v6 v7 v8 H locs ls h hW hS hl
    rw [fm_shares_18] at h
    refine lv_iload C.1 C.2.1 dX12_shares_18 (lv_at hl 8 rfl) ?_
    refine lv_iload_n C.1 C.2.1 dX12_shares_20 rfl (lv_at hl 2 rfl) ?_
    refine lv_icmp_ge (tgt := 179) C.1 C.2.1 dX12_shares_21 (by decide) (fun c1 => ?_) (fun c1 => ?_)
    · have h := if_t h c1
      refine lv_aload_n C.1 C.2.1 dX12_shares_179 rfl (lv_at hl 0 rfl) ?_
      refine lv_iload C.1 C.2.1 dX12_shares_180 (lv_at hl 7 rfl) ?_
      refine lv_iconst (v := -1) C.1 C.2.1 dX12_shares_182 (by decide) ?_
      obtain ⟨S2, h_S2, h⟩ := bd_ok h
      refine m_callW (rest := []) (ov := none) C X hW hS hl.1 [.int v7, .int (-1 : Int32)] (tm_put l h_S2) mw_put im_put sl_put rfl ⟨by decide, by decide⟩ rfl (Nat.le_of_ble_eq_true rfl) dX12_shares_183 (fun H locs hW hS => ?_)
      refine W.eq (g2 := F0 m 186 ls []) rfl ?_
      refine lv_iload C.1 C.2.1 dX12_shares_186 (lv_at hl 5 rfl) ?_
      refine lv_iload C.1 C.2.1 dX12_shares_188 (lv_at hl 7 rfl) ?_
      refine lv_iadd C.1 C.2.1 dX12_shares_190 ?_
      refine lt_ok h (fun x3 e_x3 h => ?_)
      refine lv_nm e_x3 ?_
      refine lv_istore (lv' := [(5, .int x3), (0, .ref mo), (1, .int v1), (2, .int v2), (3, .int v3), (4, .int v4), (6, .int v6), (7, .int v7), (8, .int v8)]) C.1 C.2.1 dX12_shares_191 hl (by decide) rfl (fun ls hl => ?_)
      refine lt_ok h (fun x4 e_x4 h => ?_)
      refine lv_iinc (v := x4) (lv' := [(6, .int x4), (5, .int x3), (0, .ref mo), (1, .int v1), (2, .int v2), (3, .int v3), (4, .int v4), (7, .int v7), (8, .int v8)]) C.1 C.2.1 dX12_shares_193 hl (k := 6) rfl (by rw [← e_x4]; rfl) (by decide) rfl (fun ls hl => ?_)
      refine lv_goto (tgt := 6) C.1 C.2.1 dX12_shares_196 (by decide) ?_
      exact hg_6 h hW hS (lv_sub hl [2, 3, 4, 5, 6, 1, 0] rfl)
    · have h := if_f h c1
      refine lv_aload_n C.1 C.2.1 dX12_shares_24 rfl (lv_at hl 0 rfl) ?_
      refine lv_iload_n C.1 C.2.1 dX12_shares_25 rfl (lv_at hl 1 rfl) ?_
      refine lv_iload C.1 C.2.1 dX12_shares_26 (lv_at hl 8 rfl) ?_
      obtain ⟨r5, h_r5, h⟩ := bd_ok h
      refine m_callR (rest := []) C X hW hl.1 [.int v1, .int v8] (tm_rowAt l h_r5) mw_rowAt im_rowAt sl_rowAt rfl ⟨by decide, by decide⟩ rfl (Nat.le_of_ble_eq_true rfl) dX12_shares_28 ?_
      refine lv_istore (lv' := [(9, .int r5), (0, .ref mo), (1, .int v1), (2, .int v2), (3, .int v3), (4, .int v4), (5, .int v5), (6, .int v6), (7, .int v7), (8, .int v8)]) C.1 C.2.1 dX12_shares_31 hl (by decide) rfl (fun ls hl => ?_)
      refine lv_aload_n C.1 C.2.1 dX12_shares_33 rfl (lv_at hl 1 rfl) ?_
      refine gf_10 C X hW dX12_shares_34 ?_
      refine lv_iload C.1 C.2.1 dX12_shares_37 (lv_at hl 0 rfl) ?_
      obtain ⟨hin, h⟩ := ck_ok h
      refine l_10 C X hW hin dX12_shares_39 ?_
      refine lv_iload_n C.1 C.2.1 dX12_shares_40 rfl (lv_at hl 4 rfl) ?_
      refine lv_icmp_ne (tgt := 173) C.1 C.2.1 dX12_shares_41 (by decide) (fun c6 => ?_) (fun c6 => ?_)
      · have h := if_f h c6
        exact wm_shares_173 C X hg_6 ih h hW hS (lv_sub hl [1, 2, 3, 4, 5, 6, 7, 8, 9] rfl)
      · have h := if_t h c6
        refine lv_aload_n C.1 C.2.1 dX12_shares_44 rfl (lv_at hl 1 rfl) ?_
        refine gf_11 C X hW dX12_shares_45 ?_
        refine lv_iload C.1 C.2.1 dX12_shares_48 (lv_at hl 0 rfl) ?_
        obtain ⟨hin, h⟩ := ck_ok h
        refine l_11 C X hW hin dX12_shares_50 ?_
        refine lv_iload C.1 C.2.1 dX12_shares_51 (lv_at hl 5 rfl) ?_
        refine lv_icmp_eq (tgt := 59) C.1 C.2.1 dX12_shares_53 (by decide) (fun c7 => ?_) (fun c7 => ?_)
        · have h := if_t h c7
          refine lv_aload_n C.1 C.2.1 dX12_shares_59 rfl (lv_at hl 1 rfl) ?_
          refine gf_9 C X hW dX12_shares_60 ?_
          refine lv_iload C.1 C.2.1 dX12_shares_63 (lv_at hl 0 rfl) ?_
          obtain ⟨hin, h⟩ := ck_ok h
          refine l_9 C X hW hin dX12_shares_65 ?_
          refine lv_iconst (v := 4) C.1 C.2.1 dX12_shares_66 (by decide) ?_
          refine lv_icmp_ne (tgt := 92) C.1 C.2.1 dX12_shares_67 (by decide) (fun c8 => ?_) (fun c8 => ?_)
          · have h := if_f h c8
            exact wm_shares_92 C X hg_6 ih h hW hS (lv_sub hl [1, 2, 3, 4, 5, 6, 7, 8, 9, 0] rfl)
          · have h := if_t h c8
            refine lv_iload C.1 C.2.1 dX12_shares_70 (lv_at hl 0 rfl) ?_
            obtain ⟨r9, h_r9, h⟩ := bd_ok h
            refine m_callS (rest := []) C hl.1 [.int r5] (tm_nodeOf l h_r9) mw_nodeOf st_nodeOf rfl ⟨by decide, by decide⟩ rfl (Nat.le_of_ble_eq_true rfl) dX12_shares_72 ?_
            refine lv_iload C.1 C.2.1 dX12_shares_75 (lv_at hl 7 rfl) ?_
            refine lv_icmp_ne (tgt := 92) C.1 C.2.1 dX12_shares_77 (by decide) (fun c10 => ?_) (fun c10 => ?_)
            · have h := if_f h c10
              exact wm_shares_92 C X hg_6 ih h hW hS (lv_sub hl [1, 2, 3, 4, 5, 6, 7, 8, 9, 0] rfl)
            · have h := if_t h c10
              refine lv_iload C.1 C.2.1 dX12_shares_80 (lv_at hl 8 rfl) ?_
              refine lv_aload_n C.1 C.2.1 dX12_shares_82 rfl (lv_at hl 1 rfl) ?_
              refine gf_12 C X hW dX12_shares_83 ?_
              refine lv_iload C.1 C.2.1 dX12_shares_86 (lv_at hl 0 rfl) ?_
              obtain ⟨hin, h⟩ := ck_ok h
              refine l_12 C X hW hin dX12_shares_88 ?_
              refine lv_iadd C.1 C.2.1 dX12_shares_89 ?_
              refine lt_ok h (fun x11 e_x11 h => ?_)
              refine lv_nm e_x11 ?_
              refine lv_istore (lv' := [(7, .int x11), (9, .int r5), (0, .ref mo), (1, .int v1), (2, .int v2), (3, .int v3), (4, .int v4), (5, .int v5), (6, .int v6), (8, .int v8)]) C.1 C.2.1 dX12_shares_90 hl (by decide) rfl (fun ls hl => ?_)
              exact wm_shares_92 C X hg_6 ih h hW hS (lv_sub hl [2, 3, 4, 5, 6, 7, 8, 0, 9, 1] rfl)
        · have h := if_f h c7
          refine lv_goto (tgt := 173) C.1 C.2.1 dX12_shares_56 (by decide) ?_
          exact wm_shares_173 C X hg_6 ih h hW hS (lv_sub hl [1, 2, 3, 4, 5, 6, 7, 8, 9] rfl)
noncomputable def fm_shares_6 : Nat → mSt → Int32 → Int32 → Int32 → Int32 → Int32 → Int32 → Option (mSt)
  | 0, _, _, _, _, _, _, _ => none
  | n + 1, S, v1, v2, v3, v4, v5, v6 =>
    if (4 : Int32) ≤ v6 then (
    bd (fm_put S v5 (-1 : Int32)) fun S2 =>
    some S2)
    else (
    fm_shares_18 (fm_shares_6 n) mFU S v1 v2 v3 v4 v5 v6 (0 : Int32) (0 : Int32))
set_option maxRecDepth 100000 in
set_option maxHeartbeats 4000000 in
theorem wm_shares_6 (C : mY p R s m args meth c cX12_shares 10 1 22 none) (X : mX s cM iS cI cZ mo ad) : ∀ (n : Nat), ∀ {S : mSt} {v1 : Int32} {v2 : Int32} {v3 : Int32} {v4 : Int32} {v5 : Int32} {v6 : Int32} {H : Heap} {locs : List Loc} {ls : Array Slot}, fm_shares_6 n S v1 v2 v3 v4 v5 v6 = some S9 → mW cM iS cI cZ mo ad S H → mS (mA mo ad) s.heap H locs → lv_has ls 10 [(0, .ref mo), (1, .int v1), (2, .int v2), (3, .int v3), (4, .int v4), (5, .int v5), (6, .int v6)] → W p l e R s m args below meth c H locs 0 0 (MQ below (mQw none cM iS cI cZ mo ad S9) args s 0 0 (mA mo ad)) (F0 m 6 ls []) := by
  intro n
  induction n with
  | zero =>
    intro S v1 v2 v3 v4 v5 v6 H locs ls h hW hS hl
    exact absurd (show (none : Option (mSt)) = _ from h) (fun q => by cases q)
  | succ n ih =>
    intro S v1 v2 v3 v4 v5 v6 H locs ls h hW hS hl
    rw [fm_shares_6] at h
    refine lv_iload C.1 C.2.1 dX12_shares_6 (lv_at hl 6 rfl) ?_
    refine lv_iconst (v := 4) C.1 C.2.1 dX12_shares_8 (by decide) ?_
    refine lv_icmp_ge (tgt := 199) C.1 C.2.1 dX12_shares_9 (by decide) (fun c1 => ?_) (fun c1 => ?_)
    · have h := if_t h c1
      refine lv_aload_n C.1 C.2.1 dX12_shares_199 rfl (lv_at hl 0 rfl) ?_
      refine lv_iload C.1 C.2.1 dX12_shares_200 (lv_at hl 5 rfl) ?_
      refine lv_iconst (v := -1) C.1 C.2.1 dX12_shares_202 (by decide) ?_
      obtain ⟨S2, h_S2, h⟩ := bd_ok h
      refine m_callW (rest := []) (ov := none) C X hW hS hl.1 [.int v5, .int (-1 : Int32)] (tm_put l h_S2) mw_put im_put sl_put rfl ⟨by decide, by decide⟩ rfl (Nat.le_of_ble_eq_true rfl) dX12_shares_203 (fun H locs hW hS => ?_)
      refine W.eq (g2 := F0 m 206 ls []) rfl ?_
      cases h
      exact m_retvW C hW hS dX12_shares_206
    · have h := if_f h c1
      refine lv_iconst (v := 0) C.1 C.2.1 dX12_shares_12 (by decide) ?_
      refine lv_istore (lv' := [(7, .int (0 : Int32)), (0, .ref mo), (1, .int v1), (2, .int v2), (3, .int v3), (4, .int v4), (5, .int v5), (6, .int v6)]) C.1 C.2.1 dX12_shares_13 hl (by decide) rfl (fun ls hl => ?_)
      refine lv_iconst (v := 0) C.1 C.2.1 dX12_shares_15 (by decide) ?_
      refine lv_istore (lv' := [(8, .int (0 : Int32)), (7, .int (0 : Int32)), (0, .ref mo), (1, .int v1), (2, .int v2), (3, .int v3), (4, .int v4), (5, .int v5), (6, .int v6)]) C.1 C.2.1 dX12_shares_16 hl (by decide) rfl (fun ls hl => ?_)
      exact wm_shares_18 C X ih mFU h hW hS (lv_sub hl [2, 3, 4, 5, 6, 7, 8, 1, 0] rfl)
noncomputable def fm_shares (S : mSt) (v1 : Int32) (v2 : Int32) (v3 : Int32) (v4 : Int32) : Option (mSt) :=
fm_shares_6 mFU S v1 v2 v3 v4 (0 : Int32) (0 : Int32)
set_option maxRecDepth 100000 in
set_option maxHeartbeats 4000000 in
theorem tm_shares (l : Launch) {cM : ClassId} {iS : Nat → Nat} {cI cZ : ClassId} {mo : Nat} {ad : Nat → Nat} {S : mSt} {v1 : Int32} {v2 : Int32} {v3 : Int32} {v4 : Int32} {S9 : mSt} (h : fm_shares S v1 v2 v3 v4 = some S9) : Met l yX12_shares (Cond.code yX12_shares cX12_shares 10 none :: lw_g) { frames := 1, cells := 0, slots := 0, locals := 22 } (mPi [.int v1, .int v2, .int v3, .int v4] cM iS cI cZ mo ad S) (mQw none cM iS cI cZ mo ad S9) 0 0 (mA mo ad) := by
  refine Met.ofW (cc := cX12_shares) (maxL := 10) (ret := none) (by decide) rfl ?_
  intro p e s m args below meth c s₁ B hml hv
  obtain ⟨rfl, hW, X⟩ := hv
  have C : mY p (headSpec (Cond.code yX12_shares cX12_shares 10 none :: lw_g) { frames := 1, cells := 0, slots := 0, locals := 22 }).room s m _ meth c cX12_shares 10 1 22 none := ⟨B.exec, B.bytes, hml, findClass_of_methodNamed B.named, fun w hw => atoms_spec (ws := Cond.code yX12_shares cX12_shares 10 none :: lw_g) B.pre w (List.mem_cons_of_mem _ hw), ⟨Nat.le_refl _, Nat.le_refl _⟩, B.returns, B.notSynchronized⟩
  have hl := lv_entry ([.ref mo, .int v1, .int v2, .int v3, .int v4]) (n := 10) (Nat.le_of_ble_eq_true rfl)
  rw [lg_entry_eq]
  generalize (lg_sl ([.ref mo, .int v1, .int v2, .int v3, .int v4]) ++ List.replicate (10 - (lg_sl ([.ref mo, .int v1, .int v2, .int v3, .int v4])).length) Slot.unset).toArray = ls at hl ⊢
  have hl : lv_has ls 10 [(0, .ref mo), (1, .int v1), (2, .int v2), (3, .int v3), (4, .int v4)] := hl
  have hS : mS (mA mo ad) s.heap s.heap [] := mS.rf
  unfold fm_shares at h
  refine lv_iconst (v := 0) C.1 C.2.1 dX12_shares_0 (by decide) ?_
  refine lv_istore (lv' := [(5, .int (0 : Int32)), (0, .ref mo), (1, .int v1), (2, .int v2), (3, .int v3), (4, .int v4)]) C.1 C.2.1 dX12_shares_1 hl (by decide) rfl (fun ls hl => ?_)
  refine lv_iconst (v := 0) C.1 C.2.1 dX12_shares_3 (by decide) ?_
  refine lv_istore (lv' := [(6, .int (0 : Int32)), (5, .int (0 : Int32)), (0, .ref mo), (1, .int v1), (2, .int v2), (3, .int v3), (4, .int v4)]) C.1 C.2.1 dX12_shares_4 hl (by decide) rfl (fun ls hl => ?_)
  exact wm_shares_6 C X mFU h hW hS (lv_sub hl [2, 3, 4, 5, 6, 1, 0] rfl)
end
theorem dX12_sum_0 : decode cX12_sum 0 = .ok (.iconst 0, 1) := by decide +kernel
theorem dX12_sum_1 : decode cX12_sum 1 = .ok (.istore 5, 2) := by decide +kernel
theorem dX12_sum_3 : decode cX12_sum 3 = .ok (.iconst 0, 1) := by decide +kernel
theorem dX12_sum_4 : decode cX12_sum 4 = .ok (.istore 6, 2) := by decide +kernel
theorem dX12_sum_6 : decode cX12_sum 6 = .ok (.iload 6, 2) := by decide +kernel
theorem dX12_sum_8 : decode cX12_sum 8 = .ok (.iload_n 2, 1) := by decide +kernel
theorem dX12_sum_9 : decode cX12_sum 9 = .ok (.if_icmp .ge 53, 3) := by decide +kernel
theorem dX12_sum_12 : decode cX12_sum 12 = .ok (.aload_n 0, 1) := by decide +kernel
theorem dX12_sum_13 : decode cX12_sum 13 = .ok (.iload_n 1, 1) := by decide +kernel
theorem dX12_sum_14 : decode cX12_sum 14 = .ok (.iload 6, 2) := by decide +kernel
theorem dX12_sum_16 : decode cX12_sum 16 = .ok (.invokevirtual 230, 3) := by decide +kernel
theorem dX12_sum_19 : decode cX12_sum 19 = .ok (.istore 7, 2) := by decide +kernel
theorem dX12_sum_21 : decode cX12_sum 21 = .ok (.aload_n 0, 1) := by decide +kernel
theorem dX12_sum_22 : decode cX12_sum 22 = .ok (.iload 7, 2) := by decide +kernel
theorem dX12_sum_24 : decode cX12_sum 24 = .ok (.iconst 3, 1) := by decide +kernel
theorem dX12_sum_25 : decode cX12_sum 25 = .ok (.iload_n 3, 1) := by decide +kernel
theorem dX12_sum_26 : decode cX12_sum 26 = .ok (.iload 4, 2) := by decide +kernel
theorem dX12_sum_28 : decode cX12_sum 28 = .ok (.invokevirtual 281, 3) := by decide +kernel
theorem dX12_sum_31 : decode cX12_sum 31 = .ok (.ifCond .eq 25, 3) := by decide +kernel
theorem dX12_sum_34 : decode cX12_sum 34 = .ok (.aload_n 0, 1) := by decide +kernel
theorem dX12_sum_35 : decode cX12_sum 35 = .ok (.getfield 133, 3) := by decide +kernel
theorem dX12_sum_38 : decode cX12_sum 38 = .ok (.iload 7, 2) := by decide +kernel
theorem dX12_sum_40 : decode cX12_sum 40 = .ok (.baload, 1) := by decide +kernel
theorem dX12_sum_41 : decode cX12_sum 41 = .ok (.ifCond .eq 15, 3) := by decide +kernel
theorem dX12_sum_44 : decode cX12_sum 44 = .ok (.iload 5, 2) := by decide +kernel
theorem dX12_sum_46 : decode cX12_sum 46 = .ok (.aload_n 0, 1) := by decide +kernel
theorem dX12_sum_47 : decode cX12_sum 47 = .ok (.getfield 38, 3) := by decide +kernel
theorem dX12_sum_50 : decode cX12_sum 50 = .ok (.iload 7, 2) := by decide +kernel
theorem dX12_sum_52 : decode cX12_sum 52 = .ok (.iaload, 1) := by decide +kernel
theorem dX12_sum_53 : decode cX12_sum 53 = .ok (.iadd, 1) := by decide +kernel
theorem dX12_sum_54 : decode cX12_sum 54 = .ok (.istore 5, 2) := by decide +kernel
theorem dX12_sum_56 : decode cX12_sum 56 = .ok (.iinc 6 1, 3) := by decide +kernel
theorem dX12_sum_59 : decode cX12_sum 59 = .ok (.goto (-53), 3) := by decide +kernel
theorem dX12_sum_62 : decode cX12_sum 62 = .ok (.aload_n 0, 1) := by decide +kernel
theorem dX12_sum_63 : decode cX12_sum 63 = .ok (.iload 5, 2) := by decide +kernel
theorem dX12_sum_65 : decode cX12_sum 65 = .ok (.iconst (-1), 1) := by decide +kernel
theorem dX12_sum_66 : decode cX12_sum 66 = .ok (.invokevirtual 288, 3) := by decide +kernel
theorem dX12_sum_69 : decode cX12_sum 69 = .ok (.return_, 1) := by decide +kernel
theorem cd_sum : Cond.code yX12_sum cX12_sum 8 none ∈ lw_g := mt_at 2061 (by decide +kernel) rfl
theorem mw_sum : mCw 266 yX12_sum cX12_sum 8 none 4 := ⟨cd_sum, mt_at 2058 (by decide +kernel) rfl, in_M, by decide +kernel⟩
theorem im_sum : Cond.instanceMethod yX12_sum ∈ lw_g := mt_at 2060 (by decide +kernel) rfl
theorem sl_sum : Cond.selects RX12 yX12_sum yX12_sum ∈ lw_g := mt_sel 62 (by decide +kernel) rfl
section
variable {p : Program} {l : Launch} {e : Env} {R : Room} {s : State} {m : MethodId} {args : Array Value} {below : List Frame} {meth : Method} {c : Code} {cM : ClassId} {iS : Nat → Nat} {cI cZ : ClassId} {mo : Nat} {ad : Nat → Nat} {r : Int32} {S9 : mSt}
noncomputable def fm_sum_56 (g_6 : mSt → Int32 → Int32 → Int32 → Int32 → Int32 → Int32 → Option (mSt)) (S : mSt) (v1 : Int32) (v2 : Int32) (v3 : Int32) (v4 : Int32) (v5 : Int32) (v6 : Int32) : Option (mSt) :=
lt (v6 + (1 : Int32)) fun x1 =>
g_6 S v1 v2 v3 v4 v5 x1
set_option maxRecDepth 100000 in
set_option maxHeartbeats 4000000 in
theorem wm_sum_56 (C : mY p R s m args meth c cX12_sum 8 1 24 none) (X : mX s cM iS cI cZ mo ad) {g_6 : mSt → Int32 → Int32 → Int32 → Int32 → Int32 → Int32 → Option (mSt)} (hg_6 : ∀ {S : mSt} {v1 : Int32} {v2 : Int32} {v3 : Int32} {v4 : Int32} {v5 : Int32} {v6 : Int32} {H : Heap} {locs : List Loc} {ls : Array Slot}, g_6 S v1 v2 v3 v4 v5 v6 = some S9 → mW cM iS cI cZ mo ad S H → mS (mA mo ad) s.heap H locs → lv_has ls 8 [(0, .ref mo), (1, .int v1), (2, .int v2), (3, .int v3), (4, .int v4), (5, .int v5), (6, .int v6)] → W p l e R s m args below meth c H locs 0 0 (MQ below (mQw none cM iS cI cZ mo ad S9) args s 0 0 (mA mo ad)) (F0 m 6 ls [])) : ∀ {S : mSt} {v1 : Int32} {v2 : Int32} {v3 : Int32} {v4 : Int32} {v5 : Int32} {v6 : Int32} {H : Heap} {locs : List Loc} {ls : Array Slot}, fm_sum_56 g_6 S v1 v2 v3 v4 v5 v6 = some S9 → mW cM iS cI cZ mo ad S H → mS (mA mo ad) s.heap H locs → lv_has ls 8 [(0, .ref mo), (1, .int v1), (2, .int v2), (3, .int v3), (4, .int v4), (5, .int v5), (6, .int v6)] → W p l e R s m args below meth c H locs 0 0 (MQ below (mQw none cM iS cI cZ mo ad S9) args s 0 0 (mA mo ad)) (F0 m 56 ls []) := by
  intro S v1 v2 v3 v4 v5 v6 H locs ls h hW hS hl
  unfold fm_sum_56 at h
  refine lt_ok h (fun x1 e_x1 h => ?_)
  refine lv_iinc (v := x1) (lv' := [(6, .int x1), (0, .ref mo), (1, .int v1), (2, .int v2), (3, .int v3), (4, .int v4), (5, .int v5)]) C.1 C.2.1 dX12_sum_56 hl (k := 6) rfl (by rw [← e_x1]; rfl) (by decide) rfl (fun ls hl => ?_)
  refine lv_goto (tgt := 6) C.1 C.2.1 dX12_sum_59 (by decide) ?_
  exact hg_6 h hW hS (lv_sub hl [1, 2, 3, 4, 5, 6, 0] rfl)
noncomputable def fm_sum_6 : Nat → mSt → Int32 → Int32 → Int32 → Int32 → Int32 → Int32 → Option (mSt)
  | 0, _, _, _, _, _, _, _ => none
  | n + 1, S, v1, v2, v3, v4, v5, v6 =>
    if v2 ≤ v6 then (
    bd (fm_put S v5 (-1 : Int32)) fun S2 =>
    some S2)
    else (
    bd (fm_rowAt S v1 v6) fun r3 =>
    bd (fm_isOf S r3 (3 : Int32) v3 v4) fun r4 =>
    if r4 = 0 then (
    fm_sum_56 (fm_sum_6 n) S v1 v2 v3 v4 v5 v6)
    else (
    ck r3 1000 (
    if (rd S 47 r3) = 0 then (
    fm_sum_56 (fm_sum_6 n) S v1 v2 v3 v4 v5 v6)
    else (
    ck r3 1000 (
    lt (v5 + (rd S 12 r3)) fun x7 =>
    fm_sum_56 (fm_sum_6 n) S v1 v2 v3 v4 x7 v6)))))
set_option maxRecDepth 100000 in
set_option maxHeartbeats 4000000 in
theorem wm_sum_6 (C : mY p R s m args meth c cX12_sum 8 1 24 none) (X : mX s cM iS cI cZ mo ad) : ∀ (n : Nat), ∀ {S : mSt} {v1 : Int32} {v2 : Int32} {v3 : Int32} {v4 : Int32} {v5 : Int32} {v6 : Int32} {H : Heap} {locs : List Loc} {ls : Array Slot}, fm_sum_6 n S v1 v2 v3 v4 v5 v6 = some S9 → mW cM iS cI cZ mo ad S H → mS (mA mo ad) s.heap H locs → lv_has ls 8 [(0, .ref mo), (1, .int v1), (2, .int v2), (3, .int v3), (4, .int v4), (5, .int v5), (6, .int v6)] → W p l e R s m args below meth c H locs 0 0 (MQ below (mQw none cM iS cI cZ mo ad S9) args s 0 0 (mA mo ad)) (F0 m 6 ls []) := by
  intro n
  induction n with
  | zero =>
    intro S v1 v2 v3 v4 v5 v6 H locs ls h hW hS hl
    exact absurd (show (none : Option (mSt)) = _ from h) (fun q => by cases q)
  | succ n ih =>
    intro S v1 v2 v3 v4 v5 v6 H locs ls h hW hS hl
    rw [fm_sum_6] at h
    refine lv_iload C.1 C.2.1 dX12_sum_6 (lv_at hl 6 rfl) ?_
    refine lv_iload_n C.1 C.2.1 dX12_sum_8 rfl (lv_at hl 2 rfl) ?_
    refine lv_icmp_ge (tgt := 62) C.1 C.2.1 dX12_sum_9 (by decide) (fun c1 => ?_) (fun c1 => ?_)
    · have h := if_t h c1
      refine lv_aload_n C.1 C.2.1 dX12_sum_62 rfl (lv_at hl 0 rfl) ?_
      refine lv_iload C.1 C.2.1 dX12_sum_63 (lv_at hl 5 rfl) ?_
      refine lv_iconst (v := -1) C.1 C.2.1 dX12_sum_65 (by decide) ?_
      obtain ⟨S2, h_S2, h⟩ := bd_ok h
      refine m_callW (rest := []) (ov := none) C X hW hS hl.1 [.int v5, .int (-1 : Int32)] (tm_put l h_S2) mw_put im_put sl_put rfl ⟨by decide, by decide⟩ rfl (Nat.le_of_ble_eq_true rfl) dX12_sum_66 (fun H locs hW hS => ?_)
      refine W.eq (g2 := F0 m 69 ls []) rfl ?_
      cases h
      exact m_retvW C hW hS dX12_sum_69
    · have h := if_f h c1
      refine lv_aload_n C.1 C.2.1 dX12_sum_12 rfl (lv_at hl 0 rfl) ?_
      refine lv_iload_n C.1 C.2.1 dX12_sum_13 rfl (lv_at hl 1 rfl) ?_
      refine lv_iload C.1 C.2.1 dX12_sum_14 (lv_at hl 6 rfl) ?_
      obtain ⟨r3, h_r3, h⟩ := bd_ok h
      refine m_callR (rest := []) C X hW hl.1 [.int v1, .int v6] (tm_rowAt l h_r3) mw_rowAt im_rowAt sl_rowAt rfl ⟨by decide, by decide⟩ rfl (Nat.le_of_ble_eq_true rfl) dX12_sum_16 ?_
      refine lv_istore (lv' := [(7, .int r3), (0, .ref mo), (1, .int v1), (2, .int v2), (3, .int v3), (4, .int v4), (5, .int v5), (6, .int v6)]) C.1 C.2.1 dX12_sum_19 hl (by decide) rfl (fun ls hl => ?_)
      refine lv_aload_n C.1 C.2.1 dX12_sum_21 rfl (lv_at hl 1 rfl) ?_
      refine lv_iload C.1 C.2.1 dX12_sum_22 (lv_at hl 0 rfl) ?_
      refine lv_iconst (v := 3) C.1 C.2.1 dX12_sum_24 (by decide) ?_
      refine lv_iload_n C.1 C.2.1 dX12_sum_25 rfl (lv_at hl 4 rfl) ?_
      refine lv_iload C.1 C.2.1 dX12_sum_26 (lv_at hl 5 rfl) ?_
      obtain ⟨r4, h_r4, h⟩ := bd_ok h
      refine m_callR (rest := []) C X hW hl.1 [.int r3, .int (3 : Int32), .int v3, .int v4] (tm_isOf l h_r4) mw_isOf im_isOf sl_isOf rfl ⟨by decide, by decide⟩ rfl (Nat.le_of_ble_eq_true rfl) dX12_sum_28 ?_
      refine lv_if_eq (tgt := 56) C.1 C.2.1 dX12_sum_31 (by decide) (fun c5 => ?_) (fun c5 => ?_)
      · have h := if_t h c5
        exact wm_sum_56 C X ih h hW hS (lv_sub hl [1, 2, 3, 4, 5, 6, 7] rfl)
      · have h := if_f h c5
        refine lv_aload_n C.1 C.2.1 dX12_sum_34 rfl (lv_at hl 1 rfl) ?_
        refine gf_47 C X hW dX12_sum_35 ?_
        refine lv_iload C.1 C.2.1 dX12_sum_38 (lv_at hl 0 rfl) ?_
        obtain ⟨hin, h⟩ := ck_ok h
        refine l_47 C X hW hin dX12_sum_40 ?_
        refine lv_if_eq (tgt := 56) C.1 C.2.1 dX12_sum_41 (by decide) (fun c6 => ?_) (fun c6 => ?_)
        · have h := if_t h c6
          exact wm_sum_56 C X ih h hW hS (lv_sub hl [1, 2, 3, 4, 5, 6, 7] rfl)
        · have h := if_f h c6
          refine lv_iload C.1 C.2.1 dX12_sum_44 (lv_at hl 6 rfl) ?_
          refine lv_aload_n C.1 C.2.1 dX12_sum_46 rfl (lv_at hl 1 rfl) ?_
          refine gf_12 C X hW dX12_sum_47 ?_
          refine lv_iload C.1 C.2.1 dX12_sum_50 (lv_at hl 0 rfl) ?_
          obtain ⟨hin, h⟩ := ck_ok h
          refine l_12 C X hW hin dX12_sum_52 ?_
          refine lv_iadd C.1 C.2.1 dX12_sum_53 ?_
          refine lt_ok h (fun x7 e_x7 h => ?_)
          refine lv_nm e_x7 ?_
          refine lv_istore (lv' := [(5, .int x7), (7, .int r3), (0, .ref mo), (1, .int v1), (2, .int v2), (3, .int v3), (4, .int v4), (6, .int v6)]) C.1 C.2.1 dX12_sum_54 hl (by decide) rfl (fun ls hl => ?_)
          exact wm_sum_56 C X ih h hW hS (lv_sub hl [2, 3, 4, 5, 6, 0, 7] rfl)
noncomputable def fm_sum (S : mSt) (v1 : Int32) (v2 : Int32) (v3 : Int32) (v4 : Int32) : Option (mSt) :=
fm_sum_6 mFU S v1 v2 v3 v4 (0 : Int32) (0 : Int32)
set_option maxRecDepth 100000 in
set_option maxHeartbeats 4000000 in
theorem tm_sum (l : Launch) {cM : ClassId} {iS : Nat → Nat} {cI cZ : ClassId} {mo : Nat} {ad : Nat → Nat} {S : mSt} {v1 : Int32} {v2 : Int32} {v3 : Int32} {v4 : Int32} {S9 : mSt} (h : fm_sum S v1 v2 v3 v4 = some S9) : Met l yX12_sum (Cond.code yX12_sum cX12_sum 8 none :: lw_g) { frames := 1, cells := 0, slots := 0, locals := 24 } (mPi [.int v1, .int v2, .int v3, .int v4] cM iS cI cZ mo ad S) (mQw none cM iS cI cZ mo ad S9) 0 0 (mA mo ad) := by
  refine Met.ofW (cc := cX12_sum) (maxL := 8) (ret := none) (by decide) rfl ?_
  intro p e s m args below meth c s₁ B hml hv
  obtain ⟨rfl, hW, X⟩ := hv
  have C : mY p (headSpec (Cond.code yX12_sum cX12_sum 8 none :: lw_g) { frames := 1, cells := 0, slots := 0, locals := 24 }).room s m _ meth c cX12_sum 8 1 24 none := ⟨B.exec, B.bytes, hml, findClass_of_methodNamed B.named, fun w hw => atoms_spec (ws := Cond.code yX12_sum cX12_sum 8 none :: lw_g) B.pre w (List.mem_cons_of_mem _ hw), ⟨Nat.le_refl _, Nat.le_refl _⟩, B.returns, B.notSynchronized⟩
  have hl := lv_entry ([.ref mo, .int v1, .int v2, .int v3, .int v4]) (n := 8) (Nat.le_of_ble_eq_true rfl)
  rw [lg_entry_eq]
  generalize (lg_sl ([.ref mo, .int v1, .int v2, .int v3, .int v4]) ++ List.replicate (8 - (lg_sl ([.ref mo, .int v1, .int v2, .int v3, .int v4])).length) Slot.unset).toArray = ls at hl ⊢
  have hl : lv_has ls 8 [(0, .ref mo), (1, .int v1), (2, .int v2), (3, .int v3), (4, .int v4)] := hl
  have hS : mS (mA mo ad) s.heap s.heap [] := mS.rf
  unfold fm_sum at h
  refine lv_iconst (v := 0) C.1 C.2.1 dX12_sum_0 (by decide) ?_
  refine lv_istore (lv' := [(5, .int (0 : Int32)), (0, .ref mo), (1, .int v1), (2, .int v2), (3, .int v3), (4, .int v4)]) C.1 C.2.1 dX12_sum_1 hl (by decide) rfl (fun ls hl => ?_)
  refine lv_iconst (v := 0) C.1 C.2.1 dX12_sum_3 (by decide) ?_
  refine lv_istore (lv' := [(6, .int (0 : Int32)), (5, .int (0 : Int32)), (0, .ref mo), (1, .int v1), (2, .int v2), (3, .int v3), (4, .int v4)]) C.1 C.2.1 dX12_sum_4 hl (by decide) rfl (fun ls hl => ?_)
  exact wm_sum_6 C X mFU h hW hS (lv_sub hl [2, 3, 4, 5, 6, 1, 0] rfl)
end
theorem dX12_isErased_0 : decode cX12_isErased 0 = .ok (.iconst 0, 1) := by decide +kernel
theorem dX12_isErased_1 : decode cX12_isErased 1 = .ok (.istore 4, 2) := by decide +kernel
theorem dX12_isErased_3 : decode cX12_isErased 3 = .ok (.iload 4, 2) := by decide +kernel
theorem dX12_isErased_5 : decode cX12_isErased 5 = .ok (.iload_n 2, 1) := by decide +kernel
theorem dX12_isErased_6 : decode cX12_isErased 6 = .ok (.if_icmp .ge 56, 3) := by decide +kernel
theorem dX12_isErased_9 : decode cX12_isErased 9 = .ok (.aload_n 0, 1) := by decide +kernel
theorem dX12_isErased_10 : decode cX12_isErased 10 = .ok (.iload_n 1, 1) := by decide +kernel
theorem dX12_isErased_11 : decode cX12_isErased 11 = .ok (.iload 4, 2) := by decide +kernel
theorem dX12_isErased_13 : decode cX12_isErased 13 = .ok (.invokevirtual 230, 3) := by decide +kernel
theorem dX12_isErased_16 : decode cX12_isErased 16 = .ok (.istore 5, 2) := by decide +kernel
theorem dX12_isErased_18 : decode cX12_isErased 18 = .ok (.aload_n 0, 1) := by decide +kernel
theorem dX12_isErased_19 : decode cX12_isErased 19 = .ok (.getfield 29, 3) := by decide +kernel
theorem dX12_isErased_22 : decode cX12_isErased 22 = .ok (.iload 5, 2) := by decide +kernel
theorem dX12_isErased_24 : decode cX12_isErased 24 = .ok (.iaload, 1) := by decide +kernel
theorem dX12_isErased_25 : decode cX12_isErased 25 = .ok (.bipush 10, 2) := by decide +kernel
theorem dX12_isErased_27 : decode cX12_isErased 27 = .ok (.if_icmp .ne 29, 3) := by decide +kernel
theorem dX12_isErased_30 : decode cX12_isErased 30 = .ok (.aload_n 0, 1) := by decide +kernel
theorem dX12_isErased_31 : decode cX12_isErased 31 = .ok (.getfield 41, 3) := by decide +kernel
theorem dX12_isErased_34 : decode cX12_isErased 34 = .ok (.iload 5, 2) := by decide +kernel
theorem dX12_isErased_36 : decode cX12_isErased 36 = .ok (.iaload, 1) := by decide +kernel
theorem dX12_isErased_37 : decode cX12_isErased 37 = .ok (.iload_n 3, 1) := by decide +kernel
theorem dX12_isErased_38 : decode cX12_isErased 38 = .ok (.invokestatic 303, 3) := by decide +kernel
theorem dX12_isErased_41 : decode cX12_isErased 41 = .ok (.if_icmp .ne 15, 3) := by decide +kernel
theorem dX12_isErased_44 : decode cX12_isErased 44 = .ok (.aload_n 0, 1) := by decide +kernel
theorem dX12_isErased_45 : decode cX12_isErased 45 = .ok (.getfield 133, 3) := by decide +kernel
theorem dX12_isErased_48 : decode cX12_isErased 48 = .ok (.iload 5, 2) := by decide +kernel
theorem dX12_isErased_50 : decode cX12_isErased 50 = .ok (.baload, 1) := by decide +kernel
theorem dX12_isErased_51 : decode cX12_isErased 51 = .ok (.ifCond .eq 5, 3) := by decide +kernel
theorem dX12_isErased_54 : decode cX12_isErased 54 = .ok (.iconst 1, 1) := by decide +kernel
theorem dX12_isErased_55 : decode cX12_isErased 55 = .ok (.ireturn, 1) := by decide +kernel
theorem dX12_isErased_56 : decode cX12_isErased 56 = .ok (.iinc 4 1, 3) := by decide +kernel
theorem dX12_isErased_59 : decode cX12_isErased 59 = .ok (.goto (-56), 3) := by decide +kernel
theorem dX12_isErased_62 : decode cX12_isErased 62 = .ok (.iconst 0, 1) := by decide +kernel
theorem dX12_isErased_63 : decode cX12_isErased 63 = .ok (.ireturn, 1) := by decide +kernel
theorem cd_isErased : Cond.code yX12_isErased cX12_isErased 6 (some .boolean) ∈ lw_g := mt_at 2088 (by decide +kernel) rfl
theorem mw_isErased : mCw 306 yX12_isErased cX12_isErased 6 (some .boolean) 3 := ⟨cd_isErased, mt_at 2085 (by decide +kernel) rfl, in_M, by decide +kernel⟩
theorem im_isErased : Cond.instanceMethod yX12_isErased ∈ lw_g := mt_at 2087 (by decide +kernel) rfl
theorem sl_isErased : Cond.selects RX12 yX12_isErased yX12_isErased ∈ lw_g := mt_sel 68 (by decide +kernel) rfl
section
variable {p : Program} {l : Launch} {e : Env} {R : Room} {s : State} {m : MethodId} {args : Array Value} {below : List Frame} {meth : Method} {c : Code} {cM : ClassId} {iS : Nat → Nat} {cI cZ : ClassId} {mo : Nat} {ad : Nat → Nat} {S : mSt} {r : Int32}
noncomputable def fm_isErased_56 (g_3 : Int32 → Int32 → Int32 → Int32 → Option (Int32)) (S : mSt) (v1 : Int32) (v2 : Int32) (v3 : Int32) (v4 : Int32) : Option (Int32) :=
lt (v4 + (1 : Int32)) fun x1 =>
g_3 v1 v2 v3 x1
set_option maxRecDepth 100000 in
set_option maxHeartbeats 4000000 in
theorem wm_isErased_56 (C : mY p R s m args meth c cX12_isErased 6 2 40 (some .boolean)) (X : mX s cM iS cI cZ mo ad) (hW : mW cM iS cI cZ mo ad S s.heap) {g_3 : Int32 → Int32 → Int32 → Int32 → Option (Int32)} (hg_3 : ∀ {v1 : Int32} {v2 : Int32} {v3 : Int32} {v4 : Int32} {ls : Array Slot}, g_3 v1 v2 v3 v4 = some r → lv_has ls 6 [(0, .ref mo), (1, .int v1), (2, .int v2), (3, .int v3), (4, .int v4)] → W p l e R s m args below meth c s.heap [] 0 0 (MQ below (mQi r) args s 0 0 mNo) (F0 m 3 ls [])) : ∀ {v1 : Int32} {v2 : Int32} {v3 : Int32} {v4 : Int32} {ls : Array Slot}, fm_isErased_56 g_3 S v1 v2 v3 v4 = some r → lv_has ls 6 [(0, .ref mo), (1, .int v1), (2, .int v2), (3, .int v3), (4, .int v4)] → W p l e R s m args below meth c s.heap [] 0 0 (MQ below (mQi r) args s 0 0 mNo) (F0 m 56 ls []) := by
  intro v1 v2 v3 v4 ls h hl
  unfold fm_isErased_56 at h
  refine lt_ok h (fun x1 e_x1 h => ?_)
  refine lv_iinc (v := x1) (lv' := [(4, .int x1), (0, .ref mo), (1, .int v1), (2, .int v2), (3, .int v3)]) C.1 C.2.1 dX12_isErased_56 hl (k := 4) rfl (by rw [← e_x1]; rfl) (by decide) rfl (fun ls hl => ?_)
  refine lv_goto (tgt := 3) C.1 C.2.1 dX12_isErased_59 (by decide) ?_
  exact hg_3 h (lv_sub hl [1, 2, 3, 4, 0] rfl)
noncomputable def fm_isErased_3 (S : mSt) : Nat → Int32 → Int32 → Int32 → Int32 → Option (Int32)
  | 0, _, _, _, _ => none
  | n + 1, v1, v2, v3, v4 =>
    if v2 ≤ v4 then (
    ckz (0 : Int32) (some (0 : Int32)))
    else (
    bd (fm_rowAt S v1 v4) fun r2 =>
    ck r2 1000 (
    if (rd S 9 r2) = (10 : Int32) then (
    ck r2 1000 (
    bd (fm_nameOf v3) fun r4 =>
    if (rd S 13 r2) = r4 then (
    ck r2 1000 (
    if (rd S 47 r2) = 0 then (
    fm_isErased_56 (fm_isErased_3 S n) S v1 v2 v3 v4)
    else (
    ckz (1 : Int32) (some (1 : Int32)))))
    else (
    fm_isErased_56 (fm_isErased_3 S n) S v1 v2 v3 v4)))
    else (
    fm_isErased_56 (fm_isErased_3 S n) S v1 v2 v3 v4)))
set_option maxRecDepth 100000 in
set_option maxHeartbeats 4000000 in
theorem wm_isErased_3 (C : mY p R s m args meth c cX12_isErased 6 2 40 (some .boolean)) (X : mX s cM iS cI cZ mo ad) (hW : mW cM iS cI cZ mo ad S s.heap) : ∀ (n : Nat), ∀ {v1 : Int32} {v2 : Int32} {v3 : Int32} {v4 : Int32} {ls : Array Slot}, fm_isErased_3 S n v1 v2 v3 v4 = some r → lv_has ls 6 [(0, .ref mo), (1, .int v1), (2, .int v2), (3, .int v3), (4, .int v4)] → W p l e R s m args below meth c s.heap [] 0 0 (MQ below (mQi r) args s 0 0 mNo) (F0 m 3 ls []) := by
  intro n
  induction n with
  | zero =>
    intro v1 v2 v3 v4 ls h hl
    exact absurd (show (none : Option (Int32)) = _ from h) (fun q => by cases q)
  | succ n ih =>
    intro v1 v2 v3 v4 ls h hl
    rw [fm_isErased_3] at h
    refine lv_iload C.1 C.2.1 dX12_isErased_3 (lv_at hl 4 rfl) ?_
    refine lv_iload_n C.1 C.2.1 dX12_isErased_5 rfl (lv_at hl 2 rfl) ?_
    refine lv_icmp_ge (tgt := 62) C.1 C.2.1 dX12_isErased_6 (by decide) (fun c1 => ?_) (fun c1 => ?_)
    · have h := if_t h c1
      refine lv_iconst (v := 0) C.1 C.2.1 dX12_isErased_62 (by decide) ?_
      obtain ⟨hzo, h⟩ := ckz_ok h
      cases h
      exact m_retz C hzo rfl rfl dX12_isErased_63
    · have h := if_f h c1
      refine lv_aload_n C.1 C.2.1 dX12_isErased_9 rfl (lv_at hl 0 rfl) ?_
      refine lv_iload_n C.1 C.2.1 dX12_isErased_10 rfl (lv_at hl 1 rfl) ?_
      refine lv_iload C.1 C.2.1 dX12_isErased_11 (lv_at hl 4 rfl) ?_
      obtain ⟨r2, h_r2, h⟩ := bd_ok h
      refine m_callR (rest := []) C X hW hl.1 [.int v1, .int v4] (tm_rowAt l h_r2) mw_rowAt im_rowAt sl_rowAt rfl ⟨by decide, by decide⟩ rfl (Nat.le_of_ble_eq_true rfl) dX12_isErased_13 ?_
      refine lv_istore (lv' := [(5, .int r2), (0, .ref mo), (1, .int v1), (2, .int v2), (3, .int v3), (4, .int v4)]) C.1 C.2.1 dX12_isErased_16 hl (by decide) rfl (fun ls hl => ?_)
      refine lv_aload_n C.1 C.2.1 dX12_isErased_18 rfl (lv_at hl 1 rfl) ?_
      refine gf_9 C X hW dX12_isErased_19 ?_
      refine lv_iload C.1 C.2.1 dX12_isErased_22 (lv_at hl 0 rfl) ?_
      obtain ⟨hin, h⟩ := ck_ok h
      refine l_9 C X hW hin dX12_isErased_24 ?_
      refine lv_bipush (v := 10) C.1 C.2.1 dX12_isErased_25 (by decide) ?_
      refine lv_icmp_ne (tgt := 56) C.1 C.2.1 dX12_isErased_27 (by decide) (fun c3 => ?_) (fun c3 => ?_)
      · have h := if_f h c3
        exact wm_isErased_56 C X hW ih h (lv_sub hl [1, 2, 3, 4, 5] rfl)
      · have h := if_t h c3
        refine lv_aload_n C.1 C.2.1 dX12_isErased_30 rfl (lv_at hl 1 rfl) ?_
        refine gf_13 C X hW dX12_isErased_31 ?_
        refine lv_iload C.1 C.2.1 dX12_isErased_34 (lv_at hl 0 rfl) ?_
        obtain ⟨hin, h⟩ := ck_ok h
        refine l_13 C X hW hin dX12_isErased_36 ?_
        refine lv_iload_n C.1 C.2.1 dX12_isErased_37 rfl (lv_at hl 4 rfl) ?_
        obtain ⟨r4, h_r4, h⟩ := bd_ok h
        refine m_callS (rest := [.int (rd S 13 r2)]) C hl.1 [.int v3] (tm_nameOf l h_r4) mw_nameOf st_nameOf rfl ⟨by decide, by decide⟩ rfl (Nat.le_of_ble_eq_true rfl) dX12_isErased_38 ?_
        refine lv_icmp_ne (tgt := 56) C.1 C.2.1 dX12_isErased_41 (by decide) (fun c5 => ?_) (fun c5 => ?_)
        · have h := if_f h c5
          exact wm_isErased_56 C X hW ih h (lv_sub hl [1, 2, 3, 4, 5] rfl)
        · have h := if_t h c5
          refine lv_aload_n C.1 C.2.1 dX12_isErased_44 rfl (lv_at hl 1 rfl) ?_
          refine gf_47 C X hW dX12_isErased_45 ?_
          refine lv_iload C.1 C.2.1 dX12_isErased_48 (lv_at hl 0 rfl) ?_
          obtain ⟨hin, h⟩ := ck_ok h
          refine l_47 C X hW hin dX12_isErased_50 ?_
          refine lv_if_eq (tgt := 56) C.1 C.2.1 dX12_isErased_51 (by decide) (fun c6 => ?_) (fun c6 => ?_)
          · have h := if_t h c6
            exact wm_isErased_56 C X hW ih h (lv_sub hl [1, 2, 3, 4, 5] rfl)
          · have h := if_f h c6
            refine lv_iconst (v := 1) C.1 C.2.1 dX12_isErased_54 (by decide) ?_
            obtain ⟨hzo, h⟩ := ckz_ok h
            cases h
            exact m_retz C hzo rfl rfl dX12_isErased_55
noncomputable def fm_isErased (S : mSt) (v1 : Int32) (v2 : Int32) (v3 : Int32) : Option (Int32) :=
fm_isErased_3 S mFU v1 v2 v3 (0 : Int32)
set_option maxRecDepth 100000 in
set_option maxHeartbeats 4000000 in
theorem tm_isErased (l : Launch) {cM : ClassId} {iS : Nat → Nat} {cI cZ : ClassId} {mo : Nat} {ad : Nat → Nat} {S : mSt} {v1 : Int32} {v2 : Int32} {v3 : Int32} {r : Int32} (h : fm_isErased S v1 v2 v3 = some r) : Met l yX12_isErased (Cond.code yX12_isErased cX12_isErased 6 (some .boolean) :: lw_g) { frames := 2, cells := 0, slots := 0, locals := 40 } (mPi [.int v1, .int v2, .int v3] cM iS cI cZ mo ad S) (mQi r) 0 0 (mNo) := by
  refine Met.ofW (cc := cX12_isErased) (maxL := 6) (ret := (some .boolean)) (by decide) rfl ?_
  intro p e s m args below meth c s₁ B hml hv
  obtain ⟨rfl, hW, X⟩ := hv
  have C : mY p (headSpec (Cond.code yX12_isErased cX12_isErased 6 (some .boolean) :: lw_g) { frames := 2, cells := 0, slots := 0, locals := 40 }).room s m _ meth c cX12_isErased 6 2 40 (some .boolean) := ⟨B.exec, B.bytes, hml, findClass_of_methodNamed B.named, fun w hw => atoms_spec (ws := Cond.code yX12_isErased cX12_isErased 6 (some .boolean) :: lw_g) B.pre w (List.mem_cons_of_mem _ hw), ⟨Nat.le_refl _, Nat.le_refl _⟩, B.returns, B.notSynchronized⟩
  have hl := lv_entry ([.ref mo, .int v1, .int v2, .int v3]) (n := 6) (Nat.le_of_ble_eq_true rfl)
  rw [lg_entry_eq]
  generalize (lg_sl ([.ref mo, .int v1, .int v2, .int v3]) ++ List.replicate (6 - (lg_sl ([.ref mo, .int v1, .int v2, .int v3])).length) Slot.unset).toArray = ls at hl ⊢
  have hl : lv_has ls 6 [(0, .ref mo), (1, .int v1), (2, .int v2), (3, .int v3)] := hl
  unfold fm_isErased at h
  refine lv_iconst (v := 0) C.1 C.2.1 dX12_isErased_0 (by decide) ?_
  refine lv_istore (lv' := [(4, .int (0 : Int32)), (0, .ref mo), (1, .int v1), (2, .int v2), (3, .int v3)]) C.1 C.2.1 dX12_isErased_1 hl (by decide) rfl (fun ls hl => ?_)
  exact wm_isErased_3 C X hW mFU h (lv_sub hl [1, 2, 3, 4, 0] rfl)
end
