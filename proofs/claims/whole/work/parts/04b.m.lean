-- made by wip/whole/walk.py: the reference's judge, isMade, isMadeNow, isThere, isThereNow, kindOf, ruleOf, isOf, put, keys, latest, holds
theorem dX12_judge_0 : decode cX12_judge 0 = .ok (.iconst 0, 1) := by decide +kernel
theorem dX12_judge_1 : decode cX12_judge 1 = .ok (.istore_n 3, 1) := by decide +kernel
theorem dX12_judge_2 : decode cX12_judge 2 = .ok (.iload_n 3, 1) := by decide +kernel
theorem dX12_judge_3 : decode cX12_judge 3 = .ok (.sipush 1000, 3) := by decide +kernel
theorem dX12_judge_6 : decode cX12_judge 6 = .ok (.if_icmp .ge 23, 3) := by decide +kernel
theorem dX12_judge_9 : decode cX12_judge 9 = .ok (.aload_n 0, 1) := by decide +kernel
theorem dX12_judge_10 : decode cX12_judge 10 = .ok (.getfield 133, 3) := by decide +kernel
theorem dX12_judge_13 : decode cX12_judge 13 = .ok (.iload_n 3, 1) := by decide +kernel
theorem dX12_judge_14 : decode cX12_judge 14 = .ok (.iconst 1, 1) := by decide +kernel
theorem dX12_judge_15 : decode cX12_judge 15 = .ok (.bastore, 1) := by decide +kernel
theorem dX12_judge_16 : decode cX12_judge 16 = .ok (.aload_n 0, 1) := by decide +kernel
theorem dX12_judge_17 : decode cX12_judge 17 = .ok (.getfield 136, 3) := by decide +kernel
theorem dX12_judge_20 : decode cX12_judge 20 = .ok (.iload_n 3, 1) := by decide +kernel
theorem dX12_judge_21 : decode cX12_judge 21 = .ok (.iconst 0, 1) := by decide +kernel
theorem dX12_judge_22 : decode cX12_judge 22 = .ok (.iastore, 1) := by decide +kernel
theorem dX12_judge_23 : decode cX12_judge 23 = .ok (.iinc 3 1, 3) := by decide +kernel
theorem dX12_judge_26 : decode cX12_judge 26 = .ok (.goto (-24), 3) := by decide +kernel
theorem dX12_judge_29 : decode cX12_judge 29 = .ok (.iconst 0, 1) := by decide +kernel
theorem dX12_judge_30 : decode cX12_judge 30 = .ok (.istore_n 3, 1) := by decide +kernel
theorem dX12_judge_31 : decode cX12_judge 31 = .ok (.iload_n 3, 1) := by decide +kernel
theorem dX12_judge_32 : decode cX12_judge 32 = .ok (.iload_n 2, 1) := by decide +kernel
theorem dX12_judge_33 : decode cX12_judge 33 = .ok (.if_icmp .ge 110, 3) := by decide +kernel
theorem dX12_judge_36 : decode cX12_judge 36 = .ok (.aload_n 0, 1) := by decide +kernel
theorem dX12_judge_37 : decode cX12_judge 37 = .ok (.iload_n 1, 1) := by decide +kernel
theorem dX12_judge_38 : decode cX12_judge 38 = .ok (.iload_n 3, 1) := by decide +kernel
theorem dX12_judge_39 : decode cX12_judge 39 = .ok (.invokevirtual 230, 3) := by decide +kernel
theorem dX12_judge_42 : decode cX12_judge 42 = .ok (.istore 4, 2) := by decide +kernel
theorem dX12_judge_44 : decode cX12_judge 44 = .ok (.aload_n 0, 1) := by decide +kernel
theorem dX12_judge_45 : decode cX12_judge 45 = .ok (.getfield 29, 3) := by decide +kernel
theorem dX12_judge_48 : decode cX12_judge 48 = .ok (.iload 4, 2) := by decide +kernel
theorem dX12_judge_50 : decode cX12_judge 50 = .ok (.iaload, 1) := by decide +kernel
theorem dX12_judge_51 : decode cX12_judge 51 = .ok (.bipush 13, 2) := by decide +kernel
theorem dX12_judge_53 : decode cX12_judge 53 = .ok (.if_icmp .eq 18, 3) := by decide +kernel
theorem dX12_judge_56 : decode cX12_judge 56 = .ok (.aload_n 0, 1) := by decide +kernel
theorem dX12_judge_57 : decode cX12_judge 57 = .ok (.getfield 29, 3) := by decide +kernel
theorem dX12_judge_60 : decode cX12_judge 60 = .ok (.iload 4, 2) := by decide +kernel
theorem dX12_judge_62 : decode cX12_judge 62 = .ok (.iaload, 1) := by decide +kernel
theorem dX12_judge_63 : decode cX12_judge 63 = .ok (.bipush 14, 2) := by decide +kernel
theorem dX12_judge_65 : decode cX12_judge 65 = .ok (.if_icmp .eq 6, 3) := by decide +kernel
theorem dX12_judge_68 : decode cX12_judge 68 = .ok (.goto 69, 3) := by decide +kernel
theorem dX12_judge_71 : decode cX12_judge 71 = .ok (.aload_n 0, 1) := by decide +kernel
theorem dX12_judge_72 : decode cX12_judge 72 = .ok (.getfield 41, 3) := by decide +kernel
theorem dX12_judge_75 : decode cX12_judge 75 = .ok (.iload 4, 2) := by decide +kernel
theorem dX12_judge_77 : decode cX12_judge 77 = .ok (.iaload, 1) := by decide +kernel
theorem dX12_judge_78 : decode cX12_judge 78 = .ok (.invokestatic 233, 3) := by decide +kernel
theorem dX12_judge_81 : decode cX12_judge 81 = .ok (.istore 5, 2) := by decide +kernel
theorem dX12_judge_83 : decode cX12_judge 83 = .ok (.iload 4, 2) := by decide +kernel
theorem dX12_judge_85 : decode cX12_judge 85 = .ok (.invokestatic 223, 3) := by decide +kernel
theorem dX12_judge_88 : decode cX12_judge 88 = .ok (.aload_n 0, 1) := by decide +kernel
theorem dX12_judge_89 : decode cX12_judge 89 = .ok (.getfield 136, 3) := by decide +kernel
theorem dX12_judge_92 : decode cX12_judge 92 = .ok (.iload 5, 2) := by decide +kernel
theorem dX12_judge_94 : decode cX12_judge 94 = .ok (.iaload, 1) := by decide +kernel
theorem dX12_judge_95 : decode cX12_judge 95 = .ok (.if_icmp .gt 6, 3) := by decide +kernel
theorem dX12_judge_98 : decode cX12_judge 98 = .ok (.goto 39, 3) := by decide +kernel
theorem dX12_judge_101 : decode cX12_judge 101 = .ok (.aload_n 0, 1) := by decide +kernel
theorem dX12_judge_102 : decode cX12_judge 102 = .ok (.getfield 136, 3) := by decide +kernel
theorem dX12_judge_105 : decode cX12_judge 105 = .ok (.iload 5, 2) := by decide +kernel
theorem dX12_judge_107 : decode cX12_judge 107 = .ok (.iload 4, 2) := by decide +kernel
theorem dX12_judge_109 : decode cX12_judge 109 = .ok (.invokestatic 223, 3) := by decide +kernel
theorem dX12_judge_112 : decode cX12_judge 112 = .ok (.iastore, 1) := by decide +kernel
theorem dX12_judge_113 : decode cX12_judge 113 = .ok (.aload_n 0, 1) := by decide +kernel
theorem dX12_judge_114 : decode cX12_judge 114 = .ok (.getfield 133, 3) := by decide +kernel
theorem dX12_judge_117 : decode cX12_judge 117 = .ok (.iload 5, 2) := by decide +kernel
theorem dX12_judge_119 : decode cX12_judge 119 = .ok (.aload_n 0, 1) := by decide +kernel
theorem dX12_judge_120 : decode cX12_judge 120 = .ok (.getfield 29, 3) := by decide +kernel
theorem dX12_judge_123 : decode cX12_judge 123 = .ok (.iload 4, 2) := by decide +kernel
theorem dX12_judge_125 : decode cX12_judge 125 = .ok (.iaload, 1) := by decide +kernel
theorem dX12_judge_126 : decode cX12_judge 126 = .ok (.bipush 14, 2) := by decide +kernel
theorem dX12_judge_128 : decode cX12_judge 128 = .ok (.if_icmp .ne 7, 3) := by decide +kernel
theorem dX12_judge_131 : decode cX12_judge 131 = .ok (.iconst 1, 1) := by decide +kernel
theorem dX12_judge_132 : decode cX12_judge 132 = .ok (.goto 4, 3) := by decide +kernel
theorem dX12_judge_135 : decode cX12_judge 135 = .ok (.iconst 0, 1) := by decide +kernel
theorem dX12_judge_136 : decode cX12_judge 136 = .ok (.bastore, 1) := by decide +kernel
theorem dX12_judge_137 : decode cX12_judge 137 = .ok (.iinc 3 1, 3) := by decide +kernel
theorem dX12_judge_140 : decode cX12_judge 140 = .ok (.goto (-109), 3) := by decide +kernel
theorem dX12_judge_143 : decode cX12_judge 143 = .ok (.return_, 1) := by decide +kernel
theorem cd_judge : Cond.code yX12_judge cX12_judge 6 none ∈ lw_g := mt_at 2021 (by decide +kernel) rfl
theorem mw_judge : mCw 243 yX12_judge cX12_judge 6 none 2 := ⟨cd_judge, mt_at 2018 (by decide +kernel) rfl, in_M, by decide +kernel⟩
theorem im_judge : Cond.instanceMethod yX12_judge ∈ lw_g := mt_at 2020 (by decide +kernel) rfl
theorem sl_judge : Cond.selects RX12 yX12_judge yX12_judge ∈ lw_g := mt_sel 52 (by decide +kernel) rfl
section
variable {p : Program} {l : Launch} {e : Env} {R : Room} {s : State} {m : MethodId} {args : Array Value} {below : List Frame} {meth : Method} {c : Code} {cM : ClassId} {iS : Nat → Nat} {cI cZ : ClassId} {mo : Nat} {ad : Nat → Nat} {r : Int32} {S9 : mSt}
noncomputable def fm_judge_137 (g_31 : mSt → Int32 → Int32 → Int32 → Option (mSt)) (S : mSt) (v1 : Int32) (v2 : Int32) (v3 : Int32) : Option (mSt) :=
lt (v3 + (1 : Int32)) fun x1 =>
g_31 S v1 v2 x1
set_option maxRecDepth 100000 in
set_option maxHeartbeats 4000000 in
theorem wm_judge_137 (C : mY p R s m args meth c cX12_judge 6 2 44 none) (X : mX s cM iS cI cZ mo ad) {g_31 : mSt → Int32 → Int32 → Int32 → Option (mSt)} (hg_31 : ∀ {S : mSt} {v1 : Int32} {v2 : Int32} {v3 : Int32} {H : Heap} {locs : List Loc} {ls : Array Slot}, g_31 S v1 v2 v3 = some S9 → mW cM iS cI cZ mo ad S H → mS (mA mo ad) s.heap H locs → lv_has ls 6 [(0, .ref mo), (1, .int v1), (2, .int v2), (3, .int v3)] → W p l e R s m args below meth c H locs 0 0 (MQ below (mQw none cM iS cI cZ mo ad S9) args s 0 0 (mA mo ad)) (F0 m 31 ls [])) : ∀ {S : mSt} {v1 : Int32} {v2 : Int32} {v3 : Int32} {H : Heap} {locs : List Loc} {ls : Array Slot}, fm_judge_137 g_31 S v1 v2 v3 = some S9 → mW cM iS cI cZ mo ad S H → mS (mA mo ad) s.heap H locs → lv_has ls 6 [(0, .ref mo), (1, .int v1), (2, .int v2), (3, .int v3)] → W p l e R s m args below meth c H locs 0 0 (MQ below (mQw none cM iS cI cZ mo ad S9) args s 0 0 (mA mo ad)) (F0 m 137 ls []) := by
  intro S v1 v2 v3 H locs ls h hW hS hl
  unfold fm_judge_137 at h
  refine lt_ok h (fun x1 e_x1 h => ?_)
  refine lv_iinc (v := x1) (lv' := [(3, .int x1), (0, .ref mo), (1, .int v1), (2, .int v2)]) C.1 C.2.1 dX12_judge_137 hl (k := 3) rfl (by rw [← e_x1]; rfl) (by decide) rfl (fun ls hl => ?_)
  refine lv_goto (tgt := 31) C.1 C.2.1 dX12_judge_140 (by decide) ?_
  exact hg_31 h hW hS (lv_sub hl [1, 2, 3, 0] rfl)
noncomputable def fm_judge_136 (g_31 : mSt → Int32 → Int32 → Int32 → Option (mSt)) (S : mSt) (v1 : Int32) (v2 : Int32) (v3 : Int32) (s1 : Int32) (s2 : Int32) : Option (mSt) :=
ckz s2 (ck s1 1000 (lt (wr S 47 s1 s2) fun S1 =>
fm_judge_137 g_31 S1 v1 v2 v3))
set_option maxRecDepth 100000 in
set_option maxHeartbeats 4000000 in
theorem wm_judge_136 (C : mY p R s m args meth c cX12_judge 6 2 44 none) (X : mX s cM iS cI cZ mo ad) {g_31 : mSt → Int32 → Int32 → Int32 → Option (mSt)} (hg_31 : ∀ {S : mSt} {v1 : Int32} {v2 : Int32} {v3 : Int32} {H : Heap} {locs : List Loc} {ls : Array Slot}, g_31 S v1 v2 v3 = some S9 → mW cM iS cI cZ mo ad S H → mS (mA mo ad) s.heap H locs → lv_has ls 6 [(0, .ref mo), (1, .int v1), (2, .int v2), (3, .int v3)] → W p l e R s m args below meth c H locs 0 0 (MQ below (mQw none cM iS cI cZ mo ad S9) args s 0 0 (mA mo ad)) (F0 m 31 ls [])) : ∀ {S : mSt} {v1 : Int32} {v2 : Int32} {v3 : Int32} {s1 : Int32} {s2 : Int32} {H : Heap} {locs : List Loc} {ls : Array Slot}, fm_judge_136 g_31 S v1 v2 v3 s1 s2 = some S9 → mW cM iS cI cZ mo ad S H → mS (mA mo ad) s.heap H locs → lv_has ls 6 [(0, .ref mo), (1, .int v1), (2, .int v2), (3, .int v3)] → W p l e R s m args below meth c H locs 0 0 (MQ below (mQw none cM iS cI cZ mo ad S9) args s 0 0 (mA mo ad)) (F0 m 136 ls [.int s2, .int s1, .ref (ad 47)]) := by
  intro S v1 v2 v3 s1 s2 H locs ls h hW hS hl
  unfold fm_judge_136 at h
  obtain ⟨hzo, h⟩ := ckz_ok h
  obtain ⟨hin, h⟩ := ck_ok h
  refine s_47 C X hW hS hzo hin dX12_judge_136 (fun H locs hW hS => ?_)
  refine lt_ok h (fun S1 e_S1 h => ?_)
  rw [e_S1] at hW
  exact wm_judge_137 C X hg_31 h hW hS (lv_sub hl [0, 1, 2, 3] rfl)
noncomputable def fm_judge_71 (g_31 : mSt → Int32 → Int32 → Int32 → Option (mSt)) (S : mSt) (v1 : Int32) (v2 : Int32) (v3 : Int32) (v4 : Int32) : Option (mSt) :=
ck v4 1000 (
bd (fm_rowOf (rd S 13 v4)) fun r1 =>
bd (fm_numberOf v4) fun r2 =>
ck r1 1000 (
if (rd S 48 r1) < r2 then (
bd (fm_numberOf v4) fun r4 =>
ck r1 1000 (lt (wr S 48 r1 r4) fun S5 =>
ck v4 1000 (
if (rd S5 9 v4) = (14 : Int32) then (
fm_judge_136 g_31 S5 v1 v2 v3 r1 (1 : Int32))
else (
fm_judge_136 g_31 S5 v1 v2 v3 r1 (0 : Int32)))))
else (
fm_judge_137 g_31 S v1 v2 v3)))
set_option maxRecDepth 100000 in
set_option maxHeartbeats 4000000 in
theorem wm_judge_71 (C : mY p R s m args meth c cX12_judge 6 2 44 none) (X : mX s cM iS cI cZ mo ad) {g_31 : mSt → Int32 → Int32 → Int32 → Option (mSt)} (hg_31 : ∀ {S : mSt} {v1 : Int32} {v2 : Int32} {v3 : Int32} {H : Heap} {locs : List Loc} {ls : Array Slot}, g_31 S v1 v2 v3 = some S9 → mW cM iS cI cZ mo ad S H → mS (mA mo ad) s.heap H locs → lv_has ls 6 [(0, .ref mo), (1, .int v1), (2, .int v2), (3, .int v3)] → W p l e R s m args below meth c H locs 0 0 (MQ below (mQw none cM iS cI cZ mo ad S9) args s 0 0 (mA mo ad)) (F0 m 31 ls [])) : ∀ {S : mSt} {v1 : Int32} {v2 : Int32} {v3 : Int32} {v4 : Int32} {H : Heap} {locs : List Loc} {ls : Array Slot}, fm_judge_71 g_31 S v1 v2 v3 v4 = some S9 → mW cM iS cI cZ mo ad S H → mS (mA mo ad) s.heap H locs → lv_has ls 6 [(0, .ref mo), (1, .int v1), (2, .int v2), (3, .int v3), (4, .int v4)] → W p l e R s m args below meth c H locs 0 0 (MQ below (mQw none cM iS cI cZ mo ad S9) args s 0 0 (mA mo ad)) (F0 m 71 ls []) := by
  intro S v1 v2 v3 v4 H locs ls h hW hS hl
  unfold fm_judge_71 at h
  refine lv_aload_n C.1 C.2.1 dX12_judge_71 rfl (lv_at hl 0 rfl) ?_
  refine gf_13 C X hW dX12_judge_72 ?_
  refine lv_iload C.1 C.2.1 dX12_judge_75 (lv_at hl 4 rfl) ?_
  obtain ⟨hin, h⟩ := ck_ok h
  refine l_13 C X hW hin dX12_judge_77 ?_
  obtain ⟨r1, h_r1, h⟩ := bd_ok h
  refine m_callS (rest := []) C hl.1 [.int (rd S 13 v4)] (tm_rowOf l h_r1) mw_rowOf st_rowOf rfl ⟨by decide, by decide⟩ rfl (Nat.le_of_ble_eq_true rfl) dX12_judge_78 ?_
  refine lv_istore (lv' := [(5, .int r1), (0, .ref mo), (1, .int v1), (2, .int v2), (3, .int v3), (4, .int v4)]) C.1 C.2.1 dX12_judge_81 hl (by decide) rfl (fun ls hl => ?_)
  refine lv_iload C.1 C.2.1 dX12_judge_83 (lv_at hl 5 rfl) ?_
  obtain ⟨r2, h_r2, h⟩ := bd_ok h
  refine m_callS (rest := []) C hl.1 [.int v4] (tm_numberOf l h_r2) mw_numberOf st_numberOf rfl ⟨by decide, by decide⟩ rfl (Nat.le_of_ble_eq_true rfl) dX12_judge_85 ?_
  refine lv_aload_n C.1 C.2.1 dX12_judge_88 rfl (lv_at hl 1 rfl) ?_
  refine gf_48 C X hW dX12_judge_89 ?_
  refine lv_iload C.1 C.2.1 dX12_judge_92 (lv_at hl 0 rfl) ?_
  obtain ⟨hin, h⟩ := ck_ok h
  refine l_48 C X hW hin dX12_judge_94 ?_
  refine lv_icmp_gt (tgt := 101) C.1 C.2.1 dX12_judge_95 (by decide) (fun c3 => ?_) (fun c3 => ?_)
  · have h := if_t h c3
    refine lv_aload_n C.1 C.2.1 dX12_judge_101 rfl (lv_at hl 1 rfl) ?_
    refine gf_48 C X hW dX12_judge_102 ?_
    refine lv_iload C.1 C.2.1 dX12_judge_105 (lv_at hl 0 rfl) ?_
    refine lv_iload C.1 C.2.1 dX12_judge_107 (lv_at hl 5 rfl) ?_
    obtain ⟨r4, h_r4, h⟩ := bd_ok h
    refine m_callS (rest := [.int r1, .ref (ad 48)]) C hl.1 [.int v4] (tm_numberOf l h_r4) mw_numberOf st_numberOf rfl ⟨by decide, by decide⟩ rfl (Nat.le_of_ble_eq_true rfl) dX12_judge_109 ?_
    obtain ⟨hin, h⟩ := ck_ok h
    refine s_48 C X hW hS hin dX12_judge_112 (fun H locs hW hS => ?_)
    refine lt_ok h (fun S5 e_S5 h => ?_)
    rw [e_S5] at hW
    refine lv_aload_n C.1 C.2.1 dX12_judge_113 rfl (lv_at hl 1 rfl) ?_
    refine gf_47 C X hW dX12_judge_114 ?_
    refine lv_iload C.1 C.2.1 dX12_judge_117 (lv_at hl 0 rfl) ?_
    refine lv_aload_n C.1 C.2.1 dX12_judge_119 rfl (lv_at hl 1 rfl) ?_
    refine gf_9 C X hW dX12_judge_120 ?_
    refine lv_iload C.1 C.2.1 dX12_judge_123 (lv_at hl 5 rfl) ?_
    obtain ⟨hin, h⟩ := ck_ok h
    refine l_9 C X hW hin dX12_judge_125 ?_
    refine lv_bipush (v := 14) C.1 C.2.1 dX12_judge_126 (by decide) ?_
    refine lv_icmp_ne (tgt := 135) C.1 C.2.1 dX12_judge_128 (by decide) (fun c6 => ?_) (fun c6 => ?_)
    · have h := if_f h c6
      refine lv_iconst (v := 0) C.1 C.2.1 dX12_judge_135 (by decide) ?_
      exact wm_judge_136 C X hg_31 h hW hS (lv_sub hl [1, 2, 3, 4] rfl)
    · have h := if_t h c6
      refine lv_iconst (v := 1) C.1 C.2.1 dX12_judge_131 (by decide) ?_
      refine lv_goto (tgt := 136) C.1 C.2.1 dX12_judge_132 (by decide) ?_
      exact wm_judge_136 C X hg_31 h hW hS (lv_sub hl [1, 2, 3, 4] rfl)
  · have h := if_f h c3
    refine lv_goto (tgt := 137) C.1 C.2.1 dX12_judge_98 (by decide) ?_
    exact wm_judge_137 C X hg_31 h hW hS (lv_sub hl [1, 2, 3, 4] rfl)
noncomputable def fm_judge_31 : Nat → mSt → Int32 → Int32 → Int32 → Option (mSt)
  | 0, _, _, _, _ => none
  | n + 1, S, v1, v2, v3 =>
    if v2 ≤ v3 then (
    some S)
    else (
    bd (fm_rowAt S v1 v3) fun r2 =>
    ck r2 1000 (
    if (rd S 9 r2) = (13 : Int32) then (
    fm_judge_71 (fm_judge_31 n) S v1 v2 v3 r2)
    else (
    ck r2 1000 (
    if (rd S 9 r2) = (14 : Int32) then (
    fm_judge_71 (fm_judge_31 n) S v1 v2 v3 r2)
    else (
    fm_judge_137 (fm_judge_31 n) S v1 v2 v3)))))
set_option maxRecDepth 100000 in
set_option maxHeartbeats 4000000 in
theorem wm_judge_31 (C : mY p R s m args meth c cX12_judge 6 2 44 none) (X : mX s cM iS cI cZ mo ad) : ∀ (n : Nat), ∀ {S : mSt} {v1 : Int32} {v2 : Int32} {v3 : Int32} {H : Heap} {locs : List Loc} {ls : Array Slot}, fm_judge_31 n S v1 v2 v3 = some S9 → mW cM iS cI cZ mo ad S H → mS (mA mo ad) s.heap H locs → lv_has ls 6 [(0, .ref mo), (1, .int v1), (2, .int v2), (3, .int v3)] → W p l e R s m args below meth c H locs 0 0 (MQ below (mQw none cM iS cI cZ mo ad S9) args s 0 0 (mA mo ad)) (F0 m 31 ls []) := by
  intro n
  induction n with
  | zero =>
    intro S v1 v2 v3 H locs ls h hW hS hl
    exact absurd (show (none : Option (mSt)) = _ from h) (fun q => by cases q)
  | succ n ih =>
    intro S v1 v2 v3 H locs ls h hW hS hl
    rw [fm_judge_31] at h
    refine lv_iload_n C.1 C.2.1 dX12_judge_31 rfl (lv_at hl 3 rfl) ?_
    refine lv_iload_n C.1 C.2.1 dX12_judge_32 rfl (lv_at hl 2 rfl) ?_
    refine lv_icmp_ge (tgt := 143) C.1 C.2.1 dX12_judge_33 (by decide) (fun c1 => ?_) (fun c1 => ?_)
    · have h := if_t h c1
      cases h
      exact m_retvW C hW hS dX12_judge_143
    · have h := if_f h c1
      refine lv_aload_n C.1 C.2.1 dX12_judge_36 rfl (lv_at hl 0 rfl) ?_
      refine lv_iload_n C.1 C.2.1 dX12_judge_37 rfl (lv_at hl 1 rfl) ?_
      refine lv_iload_n C.1 C.2.1 dX12_judge_38 rfl (lv_at hl 3 rfl) ?_
      obtain ⟨r2, h_r2, h⟩ := bd_ok h
      refine m_callR (rest := []) C X hW hl.1 [.int v1, .int v3] (tm_rowAt l h_r2) mw_rowAt im_rowAt sl_rowAt rfl ⟨by decide, by decide⟩ rfl (Nat.le_of_ble_eq_true rfl) dX12_judge_39 ?_
      refine lv_istore (lv' := [(4, .int r2), (0, .ref mo), (1, .int v1), (2, .int v2), (3, .int v3)]) C.1 C.2.1 dX12_judge_42 hl (by decide) rfl (fun ls hl => ?_)
      refine lv_aload_n C.1 C.2.1 dX12_judge_44 rfl (lv_at hl 1 rfl) ?_
      refine gf_9 C X hW dX12_judge_45 ?_
      refine lv_iload C.1 C.2.1 dX12_judge_48 (lv_at hl 0 rfl) ?_
      obtain ⟨hin, h⟩ := ck_ok h
      refine l_9 C X hW hin dX12_judge_50 ?_
      refine lv_bipush (v := 13) C.1 C.2.1 dX12_judge_51 (by decide) ?_
      refine lv_icmp_eq (tgt := 71) C.1 C.2.1 dX12_judge_53 (by decide) (fun c3 => ?_) (fun c3 => ?_)
      · have h := if_t h c3
        exact wm_judge_71 C X ih h hW hS (lv_sub hl [1, 2, 3, 4, 0] rfl)
      · have h := if_f h c3
        refine lv_aload_n C.1 C.2.1 dX12_judge_56 rfl (lv_at hl 1 rfl) ?_
        refine gf_9 C X hW dX12_judge_57 ?_
        refine lv_iload C.1 C.2.1 dX12_judge_60 (lv_at hl 0 rfl) ?_
        obtain ⟨hin, h⟩ := ck_ok h
        refine l_9 C X hW hin dX12_judge_62 ?_
        refine lv_bipush (v := 14) C.1 C.2.1 dX12_judge_63 (by decide) ?_
        refine lv_icmp_eq (tgt := 71) C.1 C.2.1 dX12_judge_65 (by decide) (fun c4 => ?_) (fun c4 => ?_)
        · have h := if_t h c4
          exact wm_judge_71 C X ih h hW hS (lv_sub hl [1, 2, 3, 4, 0] rfl)
        · have h := if_f h c4
          refine lv_goto (tgt := 137) C.1 C.2.1 dX12_judge_68 (by decide) ?_
          exact wm_judge_137 C X ih h hW hS (lv_sub hl [1, 2, 3, 4] rfl)
noncomputable def fm_judge_2 : Nat → mSt → Int32 → Int32 → Int32 → Option (mSt)
  | 0, _, _, _, _ => none
  | n + 1, S, v1, v2, v3 =>
    if (1000 : Int32) ≤ v3 then (
    fm_judge_31 mFU S v1 v2 (0 : Int32))
    else (
    ckz (1 : Int32) (ck v3 1000 (lt (wr S 47 v3 (1 : Int32)) fun S2 =>
    ck v3 1000 (lt (wr S2 48 v3 (0 : Int32)) fun S3 =>
    lt (v3 + (1 : Int32)) fun x4 =>
    fm_judge_2 n S3 v1 v2 x4))))
set_option maxRecDepth 100000 in
set_option maxHeartbeats 4000000 in
theorem wm_judge_2 (C : mY p R s m args meth c cX12_judge 6 2 44 none) (X : mX s cM iS cI cZ mo ad) : ∀ (n : Nat), ∀ {S : mSt} {v1 : Int32} {v2 : Int32} {v3 : Int32} {H : Heap} {locs : List Loc} {ls : Array Slot}, fm_judge_2 n S v1 v2 v3 = some S9 → mW cM iS cI cZ mo ad S H → mS (mA mo ad) s.heap H locs → lv_has ls 6 [(0, .ref mo), (1, .int v1), (2, .int v2), (3, .int v3)] → W p l e R s m args below meth c H locs 0 0 (MQ below (mQw none cM iS cI cZ mo ad S9) args s 0 0 (mA mo ad)) (F0 m 2 ls []) := by
  intro n
  induction n with
  | zero =>
    intro S v1 v2 v3 H locs ls h hW hS hl
    exact absurd (show (none : Option (mSt)) = _ from h) (fun q => by cases q)
  | succ n ih =>
    intro S v1 v2 v3 H locs ls h hW hS hl
    rw [fm_judge_2] at h
    refine lv_iload_n C.1 C.2.1 dX12_judge_2 rfl (lv_at hl 3 rfl) ?_
    refine lv_sipush (v := 1000) C.1 C.2.1 dX12_judge_3 (by decide) ?_
    refine lv_icmp_ge (tgt := 29) C.1 C.2.1 dX12_judge_6 (by decide) (fun c1 => ?_) (fun c1 => ?_)
    · have h := if_t h c1
      refine lv_iconst (v := 0) C.1 C.2.1 dX12_judge_29 (by decide) ?_
      refine lv_istore_n (lv' := [(3, .int (0 : Int32)), (0, .ref mo), (1, .int v1), (2, .int v2)]) C.1 C.2.1 dX12_judge_30 rfl hl (by decide) rfl (fun ls hl => ?_)
      exact wm_judge_31 C X mFU h hW hS (lv_sub hl [1, 2, 3, 0] rfl)
    · have h := if_f h c1
      refine lv_aload_n C.1 C.2.1 dX12_judge_9 rfl (lv_at hl 0 rfl) ?_
      refine gf_47 C X hW dX12_judge_10 ?_
      refine lv_iload_n C.1 C.2.1 dX12_judge_13 rfl (lv_at hl 3 rfl) ?_
      refine lv_iconst (v := 1) C.1 C.2.1 dX12_judge_14 (by decide) ?_
      obtain ⟨hzo, h⟩ := ckz_ok h
      obtain ⟨hin, h⟩ := ck_ok h
      refine s_47 C X hW hS hzo hin dX12_judge_15 (fun H locs hW hS => ?_)
      refine lt_ok h (fun S2 e_S2 h => ?_)
      rw [e_S2] at hW
      refine lv_aload_n C.1 C.2.1 dX12_judge_16 rfl (lv_at hl 0 rfl) ?_
      refine gf_48 C X hW dX12_judge_17 ?_
      refine lv_iload_n C.1 C.2.1 dX12_judge_20 rfl (lv_at hl 3 rfl) ?_
      refine lv_iconst (v := 0) C.1 C.2.1 dX12_judge_21 (by decide) ?_
      obtain ⟨hin, h⟩ := ck_ok h
      refine s_48 C X hW hS hin dX12_judge_22 (fun H locs hW hS => ?_)
      refine lt_ok h (fun S3 e_S3 h => ?_)
      rw [e_S3] at hW
      refine lt_ok h (fun x4 e_x4 h => ?_)
      refine lv_iinc (v := x4) (lv' := [(3, .int x4), (0, .ref mo), (1, .int v1), (2, .int v2)]) C.1 C.2.1 dX12_judge_23 hl (k := 3) rfl (by rw [← e_x4]; rfl) (by decide) rfl (fun ls hl => ?_)
      refine lv_goto (tgt := 2) C.1 C.2.1 dX12_judge_26 (by decide) ?_
      exact ih h hW hS (lv_sub hl [1, 2, 3, 0] rfl)
noncomputable def fm_judge (S : mSt) (v1 : Int32) (v2 : Int32) : Option (mSt) :=
fm_judge_2 mFU S v1 v2 (0 : Int32)
set_option maxRecDepth 100000 in
set_option maxHeartbeats 4000000 in
theorem tm_judge (l : Launch) {cM : ClassId} {iS : Nat → Nat} {cI cZ : ClassId} {mo : Nat} {ad : Nat → Nat} {S : mSt} {v1 : Int32} {v2 : Int32} {S9 : mSt} (h : fm_judge S v1 v2 = some S9) : Met l yX12_judge (Cond.code yX12_judge cX12_judge 6 none :: lw_g) { frames := 2, cells := 0, slots := 0, locals := 44 } (mPi [.int v1, .int v2] cM iS cI cZ mo ad S) (mQw none cM iS cI cZ mo ad S9) 0 0 (mA mo ad) := by
  refine Met.ofW (cc := cX12_judge) (maxL := 6) (ret := none) (by decide) rfl ?_
  intro p e s m args below meth c s₁ B hml hv
  obtain ⟨rfl, hW, X⟩ := hv
  have C : mY p (headSpec (Cond.code yX12_judge cX12_judge 6 none :: lw_g) { frames := 2, cells := 0, slots := 0, locals := 44 }).room s m _ meth c cX12_judge 6 2 44 none := ⟨B.exec, B.bytes, hml, findClass_of_methodNamed B.named, fun w hw => atoms_spec (ws := Cond.code yX12_judge cX12_judge 6 none :: lw_g) B.pre w (List.mem_cons_of_mem _ hw), ⟨Nat.le_refl _, Nat.le_refl _⟩, B.returns, B.notSynchronized⟩
  have hl := lv_entry ([.ref mo, .int v1, .int v2]) (n := 6) (Nat.le_of_ble_eq_true rfl)
  rw [lg_entry_eq]
  generalize (lg_sl ([.ref mo, .int v1, .int v2]) ++ List.replicate (6 - (lg_sl ([.ref mo, .int v1, .int v2])).length) Slot.unset).toArray = ls at hl ⊢
  have hl : lv_has ls 6 [(0, .ref mo), (1, .int v1), (2, .int v2)] := hl
  have hS : mS (mA mo ad) s.heap s.heap [] := mS.rf
  unfold fm_judge at h
  refine lv_iconst (v := 0) C.1 C.2.1 dX12_judge_0 (by decide) ?_
  refine lv_istore_n (lv' := [(3, .int (0 : Int32)), (0, .ref mo), (1, .int v1), (2, .int v2)]) C.1 C.2.1 dX12_judge_1 rfl hl (by decide) rfl (fun ls hl => ?_)
  exact wm_judge_2 C X mFU h hW hS (lv_sub hl [1, 2, 3, 0] rfl)
end
theorem dX12_isMade_0 : decode cX12_isMade 0 = .ok (.iload_n 2, 1) := by decide +kernel
theorem dX12_isMade_1 : decode cX12_isMade 1 = .ok (.invokestatic 233, 3) := by decide +kernel
theorem dX12_isMade_4 : decode cX12_isMade 4 = .ok (.istore 4, 2) := by decide +kernel
theorem dX12_isMade_6 : decode cX12_isMade 6 = .ok (.iconst 0, 1) := by decide +kernel
theorem dX12_isMade_7 : decode cX12_isMade 7 = .ok (.istore 5, 2) := by decide +kernel
theorem dX12_isMade_9 : decode cX12_isMade 9 = .ok (.iload 5, 2) := by decide +kernel
theorem dX12_isMade_11 : decode cX12_isMade 11 = .ok (.iload_n 3, 1) := by decide +kernel
theorem dX12_isMade_12 : decode cX12_isMade 12 = .ok (.if_icmp .ge 37, 3) := by decide +kernel
theorem dX12_isMade_15 : decode cX12_isMade 15 = .ok (.aload_n 0, 1) := by decide +kernel
theorem dX12_isMade_16 : decode cX12_isMade 16 = .ok (.iload_n 1, 1) := by decide +kernel
theorem dX12_isMade_17 : decode cX12_isMade 17 = .ok (.iload 5, 2) := by decide +kernel
theorem dX12_isMade_19 : decode cX12_isMade 19 = .ok (.invokevirtual 230, 3) := by decide +kernel
theorem dX12_isMade_22 : decode cX12_isMade 22 = .ok (.iload 4, 2) := by decide +kernel
theorem dX12_isMade_24 : decode cX12_isMade 24 = .ok (.if_icmp .ne 19, 3) := by decide +kernel
theorem dX12_isMade_27 : decode cX12_isMade 27 = .ok (.aload_n 0, 1) := by decide +kernel
theorem dX12_isMade_28 : decode cX12_isMade 28 = .ok (.getfield 29, 3) := by decide +kernel
theorem dX12_isMade_31 : decode cX12_isMade 31 = .ok (.iload 4, 2) := by decide +kernel
theorem dX12_isMade_33 : decode cX12_isMade 33 = .ok (.iaload, 1) := by decide +kernel
theorem dX12_isMade_34 : decode cX12_isMade 34 = .ok (.ifCond .ne 7, 3) := by decide +kernel
theorem dX12_isMade_37 : decode cX12_isMade 37 = .ok (.iconst 1, 1) := by decide +kernel
theorem dX12_isMade_38 : decode cX12_isMade 38 = .ok (.goto 4, 3) := by decide +kernel
theorem dX12_isMade_41 : decode cX12_isMade 41 = .ok (.iconst 0, 1) := by decide +kernel
theorem dX12_isMade_42 : decode cX12_isMade 42 = .ok (.ireturn, 1) := by decide +kernel
theorem dX12_isMade_43 : decode cX12_isMade 43 = .ok (.iinc 5 1, 3) := by decide +kernel
theorem dX12_isMade_46 : decode cX12_isMade 46 = .ok (.goto (-37), 3) := by decide +kernel
theorem dX12_isMade_49 : decode cX12_isMade 49 = .ok (.iconst 0, 1) := by decide +kernel
theorem dX12_isMade_50 : decode cX12_isMade 50 = .ok (.ireturn, 1) := by decide +kernel
theorem cd_isMade : Cond.code yX12_isMade cX12_isMade 6 (some .boolean) ∈ lw_g := mt_at 2013 (by decide +kernel) rfl
theorem mw_isMade : mCw 240 yX12_isMade cX12_isMade 6 (some .boolean) 3 := ⟨cd_isMade, mt_at 2010 (by decide +kernel) rfl, in_M, by decide +kernel⟩
theorem im_isMade : Cond.instanceMethod yX12_isMade ∈ lw_g := mt_at 2012 (by decide +kernel) rfl
theorem sl_isMade : Cond.selects RX12 yX12_isMade yX12_isMade ∈ lw_g := mt_sel 50 (by decide +kernel) rfl
section
variable {p : Program} {l : Launch} {e : Env} {R : Room} {s : State} {m : MethodId} {args : Array Value} {below : List Frame} {meth : Method} {c : Code} {cM : ClassId} {iS : Nat → Nat} {cI cZ : ClassId} {mo : Nat} {ad : Nat → Nat} {S : mSt} {r : Int32}
noncomputable def fm_isMade_42 (S : mSt) (s0 : Int32) : Option (Int32) :=
ckz s0 (some s0)
set_option maxRecDepth 100000 in
set_option maxHeartbeats 4000000 in
theorem wm_isMade_42 (C : mY p R s m args meth c cX12_isMade 6 2 44 (some .boolean)) (X : mX s cM iS cI cZ mo ad) (hW : mW cM iS cI cZ mo ad S s.heap) : ∀ {s0 : Int32} {ls : Array Slot}, fm_isMade_42 S s0 = some r → lv_has ls 6 [] → W p l e R s m args below meth c s.heap [] 0 0 (MQ below (mQi r) args s 0 0 mNo) (F0 m 42 ls [.int s0]) := by
  intro s0 ls h hl
  unfold fm_isMade_42 at h
  obtain ⟨hzo, h⟩ := ckz_ok h
  cases h
  exact m_retz C hzo rfl rfl dX12_isMade_42
noncomputable def fm_isMade_9 (S : mSt) : Nat → Int32 → Int32 → Int32 → Int32 → Option (Int32)
  | 0, _, _, _, _ => none
  | n + 1, v1, v3, v4, v5 =>
    if v3 ≤ v5 then (
    ckz (0 : Int32) (some (0 : Int32)))
    else (
    bd (fm_rowAt S v1 v5) fun r2 =>
    if r2 = v4 then (
    ck v4 1000 (
    if (rd S 9 v4) = 0 then (
    fm_isMade_42 S (1 : Int32))
    else (
    fm_isMade_42 S (0 : Int32))))
    else (
    lt (v5 + (1 : Int32)) fun x4 =>
    fm_isMade_9 S n v1 v3 v4 x4))
set_option maxRecDepth 100000 in
set_option maxHeartbeats 4000000 in
theorem wm_isMade_9 (C : mY p R s m args meth c cX12_isMade 6 2 44 (some .boolean)) (X : mX s cM iS cI cZ mo ad) (hW : mW cM iS cI cZ mo ad S s.heap) : ∀ (n : Nat), ∀ {v1 : Int32} {v3 : Int32} {v4 : Int32} {v5 : Int32} {ls : Array Slot}, fm_isMade_9 S n v1 v3 v4 v5 = some r → lv_has ls 6 [(0, .ref mo), (1, .int v1), (3, .int v3), (4, .int v4), (5, .int v5)] → W p l e R s m args below meth c s.heap [] 0 0 (MQ below (mQi r) args s 0 0 mNo) (F0 m 9 ls []) := by
  intro n
  induction n with
  | zero =>
    intro v1 v3 v4 v5 ls h hl
    exact absurd (show (none : Option (Int32)) = _ from h) (fun q => by cases q)
  | succ n ih =>
    intro v1 v3 v4 v5 ls h hl
    rw [fm_isMade_9] at h
    refine lv_iload C.1 C.2.1 dX12_isMade_9 (lv_at hl 4 rfl) ?_
    refine lv_iload_n C.1 C.2.1 dX12_isMade_11 rfl (lv_at hl 2 rfl) ?_
    refine lv_icmp_ge (tgt := 49) C.1 C.2.1 dX12_isMade_12 (by decide) (fun c1 => ?_) (fun c1 => ?_)
    · have h := if_t h c1
      refine lv_iconst (v := 0) C.1 C.2.1 dX12_isMade_49 (by decide) ?_
      obtain ⟨hzo, h⟩ := ckz_ok h
      cases h
      exact m_retz C hzo rfl rfl dX12_isMade_50
    · have h := if_f h c1
      refine lv_aload_n C.1 C.2.1 dX12_isMade_15 rfl (lv_at hl 0 rfl) ?_
      refine lv_iload_n C.1 C.2.1 dX12_isMade_16 rfl (lv_at hl 1 rfl) ?_
      refine lv_iload C.1 C.2.1 dX12_isMade_17 (lv_at hl 4 rfl) ?_
      obtain ⟨r2, h_r2, h⟩ := bd_ok h
      refine m_callR (rest := []) C X hW hl.1 [.int v1, .int v5] (tm_rowAt l h_r2) mw_rowAt im_rowAt sl_rowAt rfl ⟨by decide, by decide⟩ rfl (Nat.le_of_ble_eq_true rfl) dX12_isMade_19 ?_
      refine lv_iload C.1 C.2.1 dX12_isMade_22 (lv_at hl 3 rfl) ?_
      refine lv_icmp_ne (tgt := 43) C.1 C.2.1 dX12_isMade_24 (by decide) (fun c3 => ?_) (fun c3 => ?_)
      · have h := if_f h c3
        refine lt_ok h (fun x4 e_x4 h => ?_)
        refine lv_iinc (v := x4) (lv' := [(5, .int x4), (0, .ref mo), (1, .int v1), (3, .int v3), (4, .int v4)]) C.1 C.2.1 dX12_isMade_43 hl (k := 4) rfl (by rw [← e_x4]; rfl) (by decide) rfl (fun ls hl => ?_)
        refine lv_goto (tgt := 9) C.1 C.2.1 dX12_isMade_46 (by decide) ?_
        exact ih h (lv_sub hl [1, 2, 3, 4, 0] rfl)
      · have h := if_t h c3
        refine lv_aload_n C.1 C.2.1 dX12_isMade_27 rfl (lv_at hl 0 rfl) ?_
        refine gf_9 C X hW dX12_isMade_28 ?_
        refine lv_iload C.1 C.2.1 dX12_isMade_31 (lv_at hl 3 rfl) ?_
        obtain ⟨hin, h⟩ := ck_ok h
        refine l_9 C X hW hin dX12_isMade_33 ?_
        refine lv_if_ne (tgt := 41) C.1 C.2.1 dX12_isMade_34 (by decide) (fun c5 => ?_) (fun c5 => ?_)
        · have h := if_f h c5
          refine lv_iconst (v := 0) C.1 C.2.1 dX12_isMade_41 (by decide) ?_
          exact wm_isMade_42 C X hW h (lv_sub hl [] rfl)
        · have h := if_t h c5
          refine lv_iconst (v := 1) C.1 C.2.1 dX12_isMade_37 (by decide) ?_
          refine lv_goto (tgt := 42) C.1 C.2.1 dX12_isMade_38 (by decide) ?_
          exact wm_isMade_42 C X hW h (lv_sub hl [] rfl)
noncomputable def fm_isMade (S : mSt) (v1 : Int32) (v2 : Int32) (v3 : Int32) : Option (Int32) :=
bd (fm_rowOf v2) fun r1 =>
fm_isMade_9 S mFU v1 v3 r1 (0 : Int32)
set_option maxRecDepth 100000 in
set_option maxHeartbeats 4000000 in
theorem tm_isMade (l : Launch) {cM : ClassId} {iS : Nat → Nat} {cI cZ : ClassId} {mo : Nat} {ad : Nat → Nat} {S : mSt} {v1 : Int32} {v2 : Int32} {v3 : Int32} {r : Int32} (h : fm_isMade S v1 v2 v3 = some r) : Met l yX12_isMade (Cond.code yX12_isMade cX12_isMade 6 (some .boolean) :: lw_g) { frames := 2, cells := 0, slots := 0, locals := 44 } (mPi [.int v1, .int v2, .int v3] cM iS cI cZ mo ad S) (mQi r) 0 0 (mNo) := by
  refine Met.ofW (cc := cX12_isMade) (maxL := 6) (ret := (some .boolean)) (by decide) rfl ?_
  intro p e s m args below meth c s₁ B hml hv
  obtain ⟨rfl, hW, X⟩ := hv
  have C : mY p (headSpec (Cond.code yX12_isMade cX12_isMade 6 (some .boolean) :: lw_g) { frames := 2, cells := 0, slots := 0, locals := 44 }).room s m _ meth c cX12_isMade 6 2 44 (some .boolean) := ⟨B.exec, B.bytes, hml, findClass_of_methodNamed B.named, fun w hw => atoms_spec (ws := Cond.code yX12_isMade cX12_isMade 6 (some .boolean) :: lw_g) B.pre w (List.mem_cons_of_mem _ hw), ⟨Nat.le_refl _, Nat.le_refl _⟩, B.returns, B.notSynchronized⟩
  have hl := lv_entry ([.ref mo, .int v1, .int v2, .int v3]) (n := 6) (Nat.le_of_ble_eq_true rfl)
  rw [lg_entry_eq]
  generalize (lg_sl ([.ref mo, .int v1, .int v2, .int v3]) ++ List.replicate (6 - (lg_sl ([.ref mo, .int v1, .int v2, .int v3])).length) Slot.unset).toArray = ls at hl ⊢
  have hl : lv_has ls 6 [(0, .ref mo), (1, .int v1), (2, .int v2), (3, .int v3)] := hl
  unfold fm_isMade at h
  refine lv_iload_n C.1 C.2.1 dX12_isMade_0 rfl (lv_at hl 2 rfl) ?_
  obtain ⟨r1, h_r1, h⟩ := bd_ok h
  refine m_callS (rest := []) C hl.1 [.int v2] (tm_rowOf l h_r1) mw_rowOf st_rowOf rfl ⟨by decide, by decide⟩ rfl (Nat.le_of_ble_eq_true rfl) dX12_isMade_1 ?_
  refine lv_istore (lv' := [(4, .int r1), (0, .ref mo), (1, .int v1), (2, .int v2), (3, .int v3)]) C.1 C.2.1 dX12_isMade_4 hl (by decide) rfl (fun ls hl => ?_)
  refine lv_iconst (v := 0) C.1 C.2.1 dX12_isMade_6 (by decide) ?_
  refine lv_istore (lv' := [(5, .int (0 : Int32)), (4, .int r1), (0, .ref mo), (1, .int v1), (2, .int v2), (3, .int v3)]) C.1 C.2.1 dX12_isMade_7 hl (by decide) rfl (fun ls hl => ?_)
  exact wm_isMade_9 C X hW mFU h (lv_sub hl [2, 3, 5, 1, 0] rfl)
end
theorem dX12_isMadeNow_0 : decode cX12_isMadeNow 0 = .ok (.iload_n 2, 1) := by decide +kernel
theorem dX12_isMadeNow_1 : decode cX12_isMadeNow 1 = .ok (.invokestatic 233, 3) := by decide +kernel
theorem dX12_isMadeNow_4 : decode cX12_isMadeNow 4 = .ok (.istore_n 3, 1) := by decide +kernel
theorem dX12_isMadeNow_5 : decode cX12_isMadeNow 5 = .ok (.aload_n 0, 1) := by decide +kernel
theorem dX12_isMadeNow_6 : decode cX12_isMadeNow 6 = .ok (.iload_n 1, 1) := by decide +kernel
theorem dX12_isMadeNow_7 : decode cX12_isMadeNow 7 = .ok (.iload_n 3, 1) := by decide +kernel
theorem dX12_isMadeNow_8 : decode cX12_isMadeNow 8 = .ok (.invokevirtual 236, 3) := by decide +kernel
theorem dX12_isMadeNow_11 : decode cX12_isMadeNow 11 = .ok (.ifCond .eq 16, 3) := by decide +kernel
theorem dX12_isMadeNow_14 : decode cX12_isMadeNow 14 = .ok (.aload_n 0, 1) := by decide +kernel
theorem dX12_isMadeNow_15 : decode cX12_isMadeNow 15 = .ok (.getfield 29, 3) := by decide +kernel
theorem dX12_isMadeNow_18 : decode cX12_isMadeNow 18 = .ok (.iload_n 3, 1) := by decide +kernel
theorem dX12_isMadeNow_19 : decode cX12_isMadeNow 19 = .ok (.iaload, 1) := by decide +kernel
theorem dX12_isMadeNow_20 : decode cX12_isMadeNow 20 = .ok (.ifCond .ne 7, 3) := by decide +kernel
theorem dX12_isMadeNow_23 : decode cX12_isMadeNow 23 = .ok (.iconst 1, 1) := by decide +kernel
theorem dX12_isMadeNow_24 : decode cX12_isMadeNow 24 = .ok (.goto 4, 3) := by decide +kernel
theorem dX12_isMadeNow_27 : decode cX12_isMadeNow 27 = .ok (.iconst 0, 1) := by decide +kernel
theorem dX12_isMadeNow_28 : decode cX12_isMadeNow 28 = .ok (.ireturn, 1) := by decide +kernel
theorem cd_isMadeNow : Cond.code yX12_isMadeNow cX12_isMadeNow 4 (some .boolean) ∈ lw_g := mt_at 1973 (by decide +kernel) rfl
theorem mw_isMadeNow : mCw 399 yX12_isMadeNow cX12_isMadeNow 4 (some .boolean) 2 := ⟨cd_isMadeNow, mt_at 1970 (by decide +kernel) rfl, in_M, by decide +kernel⟩
theorem im_isMadeNow : Cond.instanceMethod yX12_isMadeNow ∈ lw_g := mt_at 1972 (by decide +kernel) rfl
theorem sl_isMadeNow : Cond.selects RX12 yX12_isMadeNow yX12_isMadeNow ∈ lw_g := mt_sel 43 (by decide +kernel) rfl
section
variable {p : Program} {l : Launch} {e : Env} {R : Room} {s : State} {m : MethodId} {args : Array Value} {below : List Frame} {meth : Method} {c : Code} {cM : ClassId} {iS : Nat → Nat} {cI cZ : ClassId} {mo : Nat} {ad : Nat → Nat} {S : mSt} {r : Int32}
noncomputable def fm_isMadeNow_28 (S : mSt) (s0 : Int32) : Option (Int32) :=
ckz s0 (some s0)
set_option maxRecDepth 100000 in
set_option maxHeartbeats 4000000 in
theorem wm_isMadeNow_28 (C : mY p R s m args meth c cX12_isMadeNow 4 2 44 (some .boolean)) (X : mX s cM iS cI cZ mo ad) (hW : mW cM iS cI cZ mo ad S s.heap) : ∀ {s0 : Int32} {ls : Array Slot}, fm_isMadeNow_28 S s0 = some r → lv_has ls 4 [] → W p l e R s m args below meth c s.heap [] 0 0 (MQ below (mQi r) args s 0 0 mNo) (F0 m 28 ls [.int s0]) := by
  intro s0 ls h hl
  unfold fm_isMadeNow_28 at h
  obtain ⟨hzo, h⟩ := ckz_ok h
  cases h
  exact m_retz C hzo rfl rfl dX12_isMadeNow_28
noncomputable def fm_isMadeNow_27 (S : mSt) : Option (Int32) :=
fm_isMadeNow_28 S (0 : Int32)
set_option maxRecDepth 100000 in
set_option maxHeartbeats 4000000 in
theorem wm_isMadeNow_27 (C : mY p R s m args meth c cX12_isMadeNow 4 2 44 (some .boolean)) (X : mX s cM iS cI cZ mo ad) (hW : mW cM iS cI cZ mo ad S s.heap) : ∀ {ls : Array Slot}, fm_isMadeNow_27 S = some r → lv_has ls 4 [] → W p l e R s m args below meth c s.heap [] 0 0 (MQ below (mQi r) args s 0 0 mNo) (F0 m 27 ls []) := by
  intro ls h hl
  unfold fm_isMadeNow_27 at h
  refine lv_iconst (v := 0) C.1 C.2.1 dX12_isMadeNow_27 (by decide) ?_
  exact wm_isMadeNow_28 C X hW h (lv_sub hl [] rfl)
noncomputable def fm_isMadeNow (S : mSt) (v1 : Int32) (v2 : Int32) : Option (Int32) :=
bd (fm_rowOf v2) fun r1 =>
bd (fm_isApplied S v1 r1) fun r2 =>
if r2 = 0 then (
fm_isMadeNow_27 S)
else (
ck r1 1000 (
if (rd S 9 r1) = 0 then (
fm_isMadeNow_28 S (1 : Int32))
else (
fm_isMadeNow_27 S)))
set_option maxRecDepth 100000 in
set_option maxHeartbeats 4000000 in
theorem tm_isMadeNow (l : Launch) {cM : ClassId} {iS : Nat → Nat} {cI cZ : ClassId} {mo : Nat} {ad : Nat → Nat} {S : mSt} {v1 : Int32} {v2 : Int32} {r : Int32} (h : fm_isMadeNow S v1 v2 = some r) : Met l yX12_isMadeNow (Cond.code yX12_isMadeNow cX12_isMadeNow 4 (some .boolean) :: lw_g) { frames := 2, cells := 0, slots := 0, locals := 44 } (mPi [.int v1, .int v2] cM iS cI cZ mo ad S) (mQi r) 0 0 (mNo) := by
  refine Met.ofW (cc := cX12_isMadeNow) (maxL := 4) (ret := (some .boolean)) (by decide) rfl ?_
  intro p e s m args below meth c s₁ B hml hv
  obtain ⟨rfl, hW, X⟩ := hv
  have C : mY p (headSpec (Cond.code yX12_isMadeNow cX12_isMadeNow 4 (some .boolean) :: lw_g) { frames := 2, cells := 0, slots := 0, locals := 44 }).room s m _ meth c cX12_isMadeNow 4 2 44 (some .boolean) := ⟨B.exec, B.bytes, hml, findClass_of_methodNamed B.named, fun w hw => atoms_spec (ws := Cond.code yX12_isMadeNow cX12_isMadeNow 4 (some .boolean) :: lw_g) B.pre w (List.mem_cons_of_mem _ hw), ⟨Nat.le_refl _, Nat.le_refl _⟩, B.returns, B.notSynchronized⟩
  have hl := lv_entry ([.ref mo, .int v1, .int v2]) (n := 4) (Nat.le_of_ble_eq_true rfl)
  rw [lg_entry_eq]
  generalize (lg_sl ([.ref mo, .int v1, .int v2]) ++ List.replicate (4 - (lg_sl ([.ref mo, .int v1, .int v2])).length) Slot.unset).toArray = ls at hl ⊢
  have hl : lv_has ls 4 [(0, .ref mo), (1, .int v1), (2, .int v2)] := hl
  unfold fm_isMadeNow at h
  refine lv_iload_n C.1 C.2.1 dX12_isMadeNow_0 rfl (lv_at hl 2 rfl) ?_
  obtain ⟨r1, h_r1, h⟩ := bd_ok h
  refine m_callS (rest := []) C hl.1 [.int v2] (tm_rowOf l h_r1) mw_rowOf st_rowOf rfl ⟨by decide, by decide⟩ rfl (Nat.le_of_ble_eq_true rfl) dX12_isMadeNow_1 ?_
  refine lv_istore_n (lv' := [(3, .int r1), (0, .ref mo), (1, .int v1), (2, .int v2)]) C.1 C.2.1 dX12_isMadeNow_4 rfl hl (by decide) rfl (fun ls hl => ?_)
  refine lv_aload_n C.1 C.2.1 dX12_isMadeNow_5 rfl (lv_at hl 1 rfl) ?_
  refine lv_iload_n C.1 C.2.1 dX12_isMadeNow_6 rfl (lv_at hl 2 rfl) ?_
  refine lv_iload_n C.1 C.2.1 dX12_isMadeNow_7 rfl (lv_at hl 0 rfl) ?_
  obtain ⟨r2, h_r2, h⟩ := bd_ok h
  refine m_callR (rest := []) C X hW hl.1 [.int v1, .int r1] (tm_isApplied l h_r2) mw_isApplied im_isApplied sl_isApplied rfl ⟨by decide, by decide⟩ rfl (Nat.le_of_ble_eq_true rfl) dX12_isMadeNow_8 ?_
  refine lv_if_eq (tgt := 27) C.1 C.2.1 dX12_isMadeNow_11 (by decide) (fun c3 => ?_) (fun c3 => ?_)
  · have h := if_t h c3
    exact wm_isMadeNow_27 C X hW h (lv_sub hl [] rfl)
  · have h := if_f h c3
    refine lv_aload_n C.1 C.2.1 dX12_isMadeNow_14 rfl (lv_at hl 1 rfl) ?_
    refine gf_9 C X hW dX12_isMadeNow_15 ?_
    refine lv_iload_n C.1 C.2.1 dX12_isMadeNow_18 rfl (lv_at hl 0 rfl) ?_
    obtain ⟨hin, h⟩ := ck_ok h
    refine l_9 C X hW hin dX12_isMadeNow_19 ?_
    refine lv_if_ne (tgt := 27) C.1 C.2.1 dX12_isMadeNow_20 (by decide) (fun c4 => ?_) (fun c4 => ?_)
    · have h := if_f h c4
      exact wm_isMadeNow_27 C X hW h (lv_sub hl [] rfl)
    · have h := if_t h c4
      refine lv_iconst (v := 1) C.1 C.2.1 dX12_isMadeNow_23 (by decide) ?_
      refine lv_goto (tgt := 28) C.1 C.2.1 dX12_isMadeNow_24 (by decide) ?_
      exact wm_isMadeNow_28 C X hW h (lv_sub hl [] rfl)
end
theorem dX12_isThere_0 : decode cX12_isThere 0 = .ok (.aload_n 0, 1) := by decide +kernel
theorem dX12_isThere_1 : decode cX12_isThere 1 = .ok (.iload_n 1, 1) := by decide +kernel
theorem dX12_isThere_2 : decode cX12_isThere 2 = .ok (.iload_n 2, 1) := by decide +kernel
theorem dX12_isThere_3 : decode cX12_isThere 3 = .ok (.iload_n 3, 1) := by decide +kernel
theorem dX12_isThere_4 : decode cX12_isThere 4 = .ok (.invokevirtual 240, 3) := by decide +kernel
theorem dX12_isThere_7 : decode cX12_isThere 7 = .ok (.ifCond .ne 5, 3) := by decide +kernel
theorem dX12_isThere_10 : decode cX12_isThere 10 = .ok (.iconst 0, 1) := by decide +kernel
theorem dX12_isThere_11 : decode cX12_isThere 11 = .ok (.ireturn, 1) := by decide +kernel
theorem dX12_isThere_12 : decode cX12_isThere 12 = .ok (.aload_n 0, 1) := by decide +kernel
theorem dX12_isThere_13 : decode cX12_isThere 13 = .ok (.iload_n 1, 1) := by decide +kernel
theorem dX12_isThere_14 : decode cX12_isThere 14 = .ok (.iload_n 3, 1) := by decide +kernel
theorem dX12_isThere_15 : decode cX12_isThere 15 = .ok (.invokevirtual 243, 3) := by decide +kernel
theorem dX12_isThere_18 : decode cX12_isThere 18 = .ok (.iconst 0, 1) := by decide +kernel
theorem dX12_isThere_19 : decode cX12_isThere 19 = .ok (.istore 4, 2) := by decide +kernel
theorem dX12_isThere_21 : decode cX12_isThere 21 = .ok (.iload 4, 2) := by decide +kernel
theorem dX12_isThere_23 : decode cX12_isThere 23 = .ok (.iload_n 3, 1) := by decide +kernel
theorem dX12_isThere_24 : decode cX12_isThere 24 = .ok (.if_icmp .ge 53, 3) := by decide +kernel
theorem dX12_isThere_27 : decode cX12_isThere 27 = .ok (.aload_n 0, 1) := by decide +kernel
theorem dX12_isThere_28 : decode cX12_isThere 28 = .ok (.iload_n 1, 1) := by decide +kernel
theorem dX12_isThere_29 : decode cX12_isThere 29 = .ok (.iload 4, 2) := by decide +kernel
theorem dX12_isThere_31 : decode cX12_isThere 31 = .ok (.invokevirtual 230, 3) := by decide +kernel
theorem dX12_isThere_34 : decode cX12_isThere 34 = .ok (.istore 5, 2) := by decide +kernel
theorem dX12_isThere_36 : decode cX12_isThere 36 = .ok (.aload_n 0, 1) := by decide +kernel
theorem dX12_isThere_37 : decode cX12_isThere 37 = .ok (.getfield 29, 3) := by decide +kernel
theorem dX12_isThere_40 : decode cX12_isThere 40 = .ok (.iload 5, 2) := by decide +kernel
theorem dX12_isThere_42 : decode cX12_isThere 42 = .ok (.iaload, 1) := by decide +kernel
theorem dX12_isThere_43 : decode cX12_isThere 43 = .ok (.bipush 12, 2) := by decide +kernel
theorem dX12_isThere_45 : decode cX12_isThere 45 = .ok (.if_icmp .ne 26, 3) := by decide +kernel
theorem dX12_isThere_48 : decode cX12_isThere 48 = .ok (.aload_n 0, 1) := by decide +kernel
theorem dX12_isThere_49 : decode cX12_isThere 49 = .ok (.getfield 32, 3) := by decide +kernel
theorem dX12_isThere_52 : decode cX12_isThere 52 = .ok (.iload 5, 2) := by decide +kernel
theorem dX12_isThere_54 : decode cX12_isThere 54 = .ok (.iaload, 1) := by decide +kernel
theorem dX12_isThere_55 : decode cX12_isThere 55 = .ok (.iload_n 2, 1) := by decide +kernel
theorem dX12_isThere_56 : decode cX12_isThere 56 = .ok (.if_icmp .ne 15, 3) := by decide +kernel
theorem dX12_isThere_59 : decode cX12_isThere 59 = .ok (.aload_n 0, 1) := by decide +kernel
theorem dX12_isThere_60 : decode cX12_isThere 60 = .ok (.getfield 133, 3) := by decide +kernel
theorem dX12_isThere_63 : decode cX12_isThere 63 = .ok (.iload 5, 2) := by decide +kernel
theorem dX12_isThere_65 : decode cX12_isThere 65 = .ok (.baload, 1) := by decide +kernel
theorem dX12_isThere_66 : decode cX12_isThere 66 = .ok (.ifCond .eq 5, 3) := by decide +kernel
theorem dX12_isThere_69 : decode cX12_isThere 69 = .ok (.iconst 0, 1) := by decide +kernel
theorem dX12_isThere_70 : decode cX12_isThere 70 = .ok (.ireturn, 1) := by decide +kernel
theorem dX12_isThere_71 : decode cX12_isThere 71 = .ok (.iinc 4 1, 3) := by decide +kernel
theorem dX12_isThere_74 : decode cX12_isThere 74 = .ok (.goto (-53), 3) := by decide +kernel
theorem dX12_isThere_77 : decode cX12_isThere 77 = .ok (.iconst 1, 1) := by decide +kernel
theorem dX12_isThere_78 : decode cX12_isThere 78 = .ok (.ireturn, 1) := by decide +kernel
theorem cd_isThere : Cond.code yX12_isThere cX12_isThere 6 (some .boolean) ∈ lw_g := mt_at 2009 (by decide +kernel) rfl
theorem mw_isThere : mCw 247 yX12_isThere cX12_isThere 6 (some .boolean) 3 := ⟨cd_isThere, mt_at 2006 (by decide +kernel) rfl, in_M, by decide +kernel⟩
theorem im_isThere : Cond.instanceMethod yX12_isThere ∈ lw_g := mt_at 2008 (by decide +kernel) rfl
theorem sl_isThere : Cond.selects RX12 yX12_isThere yX12_isThere ∈ lw_g := mt_sel 49 (by decide +kernel) rfl
section
variable {p : Program} {l : Launch} {e : Env} {R : Room} {s : State} {m : MethodId} {args : Array Value} {below : List Frame} {meth : Method} {c : Code} {cM : ClassId} {iS : Nat → Nat} {cI cZ : ClassId} {mo : Nat} {ad : Nat → Nat} {r : Int32} {S9 : mSt}
noncomputable def fm_isThere_71 (g_21 : mSt → Int32 → Int32 → Int32 → Int32 → Option (Int32 × mSt)) (S : mSt) (v1 : Int32) (v2 : Int32) (v3 : Int32) (v4 : Int32) : Option (Int32 × mSt) :=
lt (v4 + (1 : Int32)) fun x1 =>
g_21 S v1 v2 v3 x1
set_option maxRecDepth 100000 in
set_option maxHeartbeats 4000000 in
theorem wm_isThere_71 (C : mY p R s m args meth c cX12_isThere 6 3 69 (some .boolean)) (X : mX s cM iS cI cZ mo ad) {g_21 : mSt → Int32 → Int32 → Int32 → Int32 → Option (Int32 × mSt)} (hg_21 : ∀ {S : mSt} {v1 : Int32} {v2 : Int32} {v3 : Int32} {v4 : Int32} {H : Heap} {locs : List Loc} {ls : Array Slot}, g_21 S v1 v2 v3 v4 = some (r, S9) → mW cM iS cI cZ mo ad S H → mS (mA mo ad) s.heap H locs → lv_has ls 6 [(0, .ref mo), (1, .int v1), (2, .int v2), (3, .int v3), (4, .int v4)] → W p l e R s m args below meth c H locs 0 0 (MQ below (mQw (some (.int r)) cM iS cI cZ mo ad S9) args s 0 0 (mA mo ad)) (F0 m 21 ls [])) : ∀ {S : mSt} {v1 : Int32} {v2 : Int32} {v3 : Int32} {v4 : Int32} {H : Heap} {locs : List Loc} {ls : Array Slot}, fm_isThere_71 g_21 S v1 v2 v3 v4 = some (r, S9) → mW cM iS cI cZ mo ad S H → mS (mA mo ad) s.heap H locs → lv_has ls 6 [(0, .ref mo), (1, .int v1), (2, .int v2), (3, .int v3), (4, .int v4)] → W p l e R s m args below meth c H locs 0 0 (MQ below (mQw (some (.int r)) cM iS cI cZ mo ad S9) args s 0 0 (mA mo ad)) (F0 m 71 ls []) := by
  intro S v1 v2 v3 v4 H locs ls h hW hS hl
  unfold fm_isThere_71 at h
  refine lt_ok h (fun x1 e_x1 h => ?_)
  refine lv_iinc (v := x1) (lv' := [(4, .int x1), (0, .ref mo), (1, .int v1), (2, .int v2), (3, .int v3)]) C.1 C.2.1 dX12_isThere_71 hl (k := 4) rfl (by rw [← e_x1]; rfl) (by decide) rfl (fun ls hl => ?_)
  refine lv_goto (tgt := 21) C.1 C.2.1 dX12_isThere_74 (by decide) ?_
  exact hg_21 h hW hS (lv_sub hl [1, 2, 3, 4, 0] rfl)
noncomputable def fm_isThere_21 : Nat → mSt → Int32 → Int32 → Int32 → Int32 → Option (Int32 × mSt)
  | 0, _, _, _, _, _ => none
  | n + 1, S, v1, v2, v3, v4 =>
    if v3 ≤ v4 then (
    ckz (1 : Int32) (some ((1 : Int32), S)))
    else (
    bd (fm_rowAt S v1 v4) fun r2 =>
    ck r2 1000 (
    if (rd S 9 r2) = (12 : Int32) then (
    ck r2 1000 (
    if (rd S 10 r2) = v2 then (
    ck r2 1000 (
    if (rd S 47 r2) = 0 then (
    fm_isThere_71 (fm_isThere_21 n) S v1 v2 v3 v4)
    else (
    ckz (0 : Int32) (some ((0 : Int32), S)))))
    else (
    fm_isThere_71 (fm_isThere_21 n) S v1 v2 v3 v4)))
    else (
    fm_isThere_71 (fm_isThere_21 n) S v1 v2 v3 v4)))
set_option maxRecDepth 100000 in
set_option maxHeartbeats 4000000 in
theorem wm_isThere_21 (C : mY p R s m args meth c cX12_isThere 6 3 69 (some .boolean)) (X : mX s cM iS cI cZ mo ad) : ∀ (n : Nat), ∀ {S : mSt} {v1 : Int32} {v2 : Int32} {v3 : Int32} {v4 : Int32} {H : Heap} {locs : List Loc} {ls : Array Slot}, fm_isThere_21 n S v1 v2 v3 v4 = some (r, S9) → mW cM iS cI cZ mo ad S H → mS (mA mo ad) s.heap H locs → lv_has ls 6 [(0, .ref mo), (1, .int v1), (2, .int v2), (3, .int v3), (4, .int v4)] → W p l e R s m args below meth c H locs 0 0 (MQ below (mQw (some (.int r)) cM iS cI cZ mo ad S9) args s 0 0 (mA mo ad)) (F0 m 21 ls []) := by
  intro n
  induction n with
  | zero =>
    intro S v1 v2 v3 v4 H locs ls h hW hS hl
    exact absurd (show (none : Option (Int32 × mSt)) = _ from h) (fun q => by cases q)
  | succ n ih =>
    intro S v1 v2 v3 v4 H locs ls h hW hS hl
    rw [fm_isThere_21] at h
    refine lv_iload C.1 C.2.1 dX12_isThere_21 (lv_at hl 4 rfl) ?_
    refine lv_iload_n C.1 C.2.1 dX12_isThere_23 rfl (lv_at hl 3 rfl) ?_
    refine lv_icmp_ge (tgt := 77) C.1 C.2.1 dX12_isThere_24 (by decide) (fun c1 => ?_) (fun c1 => ?_)
    · have h := if_t h c1
      refine lv_iconst (v := 1) C.1 C.2.1 dX12_isThere_77 (by decide) ?_
      obtain ⟨hzo, h⟩ := ckz_ok h
      cases h
      exact m_retzW C hzo hW hS dX12_isThere_78
    · have h := if_f h c1
      refine lv_aload_n C.1 C.2.1 dX12_isThere_27 rfl (lv_at hl 0 rfl) ?_
      refine lv_iload_n C.1 C.2.1 dX12_isThere_28 rfl (lv_at hl 1 rfl) ?_
      refine lv_iload C.1 C.2.1 dX12_isThere_29 (lv_at hl 4 rfl) ?_
      obtain ⟨r2, h_r2, h⟩ := bd_ok h
      refine m_callR (rest := []) C X hW hl.1 [.int v1, .int v4] (tm_rowAt l h_r2) mw_rowAt im_rowAt sl_rowAt rfl ⟨by decide, by decide⟩ rfl (Nat.le_of_ble_eq_true rfl) dX12_isThere_31 ?_
      refine lv_istore (lv' := [(5, .int r2), (0, .ref mo), (1, .int v1), (2, .int v2), (3, .int v3), (4, .int v4)]) C.1 C.2.1 dX12_isThere_34 hl (by decide) rfl (fun ls hl => ?_)
      refine lv_aload_n C.1 C.2.1 dX12_isThere_36 rfl (lv_at hl 1 rfl) ?_
      refine gf_9 C X hW dX12_isThere_37 ?_
      refine lv_iload C.1 C.2.1 dX12_isThere_40 (lv_at hl 0 rfl) ?_
      obtain ⟨hin, h⟩ := ck_ok h
      refine l_9 C X hW hin dX12_isThere_42 ?_
      refine lv_bipush (v := 12) C.1 C.2.1 dX12_isThere_43 (by decide) ?_
      refine lv_icmp_ne (tgt := 71) C.1 C.2.1 dX12_isThere_45 (by decide) (fun c3 => ?_) (fun c3 => ?_)
      · have h := if_f h c3
        exact wm_isThere_71 C X ih h hW hS (lv_sub hl [1, 2, 3, 4, 5] rfl)
      · have h := if_t h c3
        refine lv_aload_n C.1 C.2.1 dX12_isThere_48 rfl (lv_at hl 1 rfl) ?_
        refine gf_10 C X hW dX12_isThere_49 ?_
        refine lv_iload C.1 C.2.1 dX12_isThere_52 (lv_at hl 0 rfl) ?_
        obtain ⟨hin, h⟩ := ck_ok h
        refine l_10 C X hW hin dX12_isThere_54 ?_
        refine lv_iload_n C.1 C.2.1 dX12_isThere_55 rfl (lv_at hl 3 rfl) ?_
        refine lv_icmp_ne (tgt := 71) C.1 C.2.1 dX12_isThere_56 (by decide) (fun c4 => ?_) (fun c4 => ?_)
        · have h := if_f h c4
          exact wm_isThere_71 C X ih h hW hS (lv_sub hl [1, 2, 3, 4, 5] rfl)
        · have h := if_t h c4
          refine lv_aload_n C.1 C.2.1 dX12_isThere_59 rfl (lv_at hl 1 rfl) ?_
          refine gf_47 C X hW dX12_isThere_60 ?_
          refine lv_iload C.1 C.2.1 dX12_isThere_63 (lv_at hl 0 rfl) ?_
          obtain ⟨hin, h⟩ := ck_ok h
          refine l_47 C X hW hin dX12_isThere_65 ?_
          refine lv_if_eq (tgt := 71) C.1 C.2.1 dX12_isThere_66 (by decide) (fun c5 => ?_) (fun c5 => ?_)
          · have h := if_t h c5
            exact wm_isThere_71 C X ih h hW hS (lv_sub hl [1, 2, 3, 4, 5] rfl)
          · have h := if_f h c5
            refine lv_iconst (v := 0) C.1 C.2.1 dX12_isThere_69 (by decide) ?_
            obtain ⟨hzo, h⟩ := ckz_ok h
            cases h
            exact m_retzW C hzo hW hS dX12_isThere_70
noncomputable def fm_isThere (S : mSt) (v1 : Int32) (v2 : Int32) (v3 : Int32) : Option (Int32 × mSt) :=
bd (fm_isMade S v1 v2 v3) fun r1 =>
if r1 = 0 then (
ckz (0 : Int32) (some ((0 : Int32), S)))
else (
bd (fm_judge S v1 v3) fun S3 =>
fm_isThere_21 mFU S3 v1 v2 v3 (0 : Int32))
set_option maxRecDepth 100000 in
set_option maxHeartbeats 4000000 in
theorem tm_isThere (l : Launch) {cM : ClassId} {iS : Nat → Nat} {cI cZ : ClassId} {mo : Nat} {ad : Nat → Nat} {S : mSt} {v1 : Int32} {v2 : Int32} {v3 : Int32} {r : Int32} {S9 : mSt} (h : fm_isThere S v1 v2 v3 = some (r, S9)) : Met l yX12_isThere (Cond.code yX12_isThere cX12_isThere 6 (some .boolean) :: lw_g) { frames := 3, cells := 0, slots := 0, locals := 69 } (mPi [.int v1, .int v2, .int v3] cM iS cI cZ mo ad S) (mQw (some (.int r)) cM iS cI cZ mo ad S9) 0 0 (mA mo ad) := by
  refine Met.ofW (cc := cX12_isThere) (maxL := 6) (ret := (some .boolean)) (by decide) rfl ?_
  intro p e s m args below meth c s₁ B hml hv
  obtain ⟨rfl, hW, X⟩ := hv
  have C : mY p (headSpec (Cond.code yX12_isThere cX12_isThere 6 (some .boolean) :: lw_g) { frames := 3, cells := 0, slots := 0, locals := 69 }).room s m _ meth c cX12_isThere 6 3 69 (some .boolean) := ⟨B.exec, B.bytes, hml, findClass_of_methodNamed B.named, fun w hw => atoms_spec (ws := Cond.code yX12_isThere cX12_isThere 6 (some .boolean) :: lw_g) B.pre w (List.mem_cons_of_mem _ hw), ⟨Nat.le_refl _, Nat.le_refl _⟩, B.returns, B.notSynchronized⟩
  have hl := lv_entry ([.ref mo, .int v1, .int v2, .int v3]) (n := 6) (Nat.le_of_ble_eq_true rfl)
  rw [lg_entry_eq]
  generalize (lg_sl ([.ref mo, .int v1, .int v2, .int v3]) ++ List.replicate (6 - (lg_sl ([.ref mo, .int v1, .int v2, .int v3])).length) Slot.unset).toArray = ls at hl ⊢
  have hl : lv_has ls 6 [(0, .ref mo), (1, .int v1), (2, .int v2), (3, .int v3)] := hl
  have hS : mS (mA mo ad) s.heap s.heap [] := mS.rf
  unfold fm_isThere at h
  refine lv_aload_n C.1 C.2.1 dX12_isThere_0 rfl (lv_at hl 0 rfl) ?_
  refine lv_iload_n C.1 C.2.1 dX12_isThere_1 rfl (lv_at hl 1 rfl) ?_
  refine lv_iload_n C.1 C.2.1 dX12_isThere_2 rfl (lv_at hl 2 rfl) ?_
  refine lv_iload_n C.1 C.2.1 dX12_isThere_3 rfl (lv_at hl 3 rfl) ?_
  obtain ⟨r1, h_r1, h⟩ := bd_ok h
  refine m_callR (rest := []) C X hW hl.1 [.int v1, .int v2, .int v3] (tm_isMade l h_r1) mw_isMade im_isMade sl_isMade rfl ⟨by decide, by decide⟩ rfl (Nat.le_of_ble_eq_true rfl) dX12_isThere_4 ?_
  refine lv_if_ne (tgt := 12) C.1 C.2.1 dX12_isThere_7 (by decide) (fun c2 => ?_) (fun c2 => ?_)
  · have h := if_f h c2
    refine lv_aload_n C.1 C.2.1 dX12_isThere_12 rfl (lv_at hl 0 rfl) ?_
    refine lv_iload_n C.1 C.2.1 dX12_isThere_13 rfl (lv_at hl 1 rfl) ?_
    refine lv_iload_n C.1 C.2.1 dX12_isThere_14 rfl (lv_at hl 3 rfl) ?_
    obtain ⟨S3, h_S3, h⟩ := bd_ok h
    refine m_callW (rest := []) (ov := none) C X hW hS hl.1 [.int v1, .int v3] (tm_judge l h_S3) mw_judge im_judge sl_judge rfl ⟨by decide, by decide⟩ rfl (Nat.le_of_ble_eq_true rfl) dX12_isThere_15 (fun H locs hW hS => ?_)
    refine W.eq (g2 := F0 m 18 ls []) rfl ?_
    refine lv_iconst (v := 0) C.1 C.2.1 dX12_isThere_18 (by decide) ?_
    refine lv_istore (lv' := [(4, .int (0 : Int32)), (0, .ref mo), (1, .int v1), (2, .int v2), (3, .int v3)]) C.1 C.2.1 dX12_isThere_19 hl (by decide) rfl (fun ls hl => ?_)
    exact wm_isThere_21 C X mFU h hW hS (lv_sub hl [1, 2, 3, 4, 0] rfl)
  · have h := if_t h c2
    refine lv_iconst (v := 0) C.1 C.2.1 dX12_isThere_10 (by decide) ?_
    obtain ⟨hzo, h⟩ := ckz_ok h
    cases h
    exact m_retzW C hzo hW hS dX12_isThere_11
end
theorem dX12_isThereNow_0 : decode cX12_isThereNow 0 = .ok (.aload_n 0, 1) := by decide +kernel
theorem dX12_isThereNow_1 : decode cX12_isThereNow 1 = .ok (.iload_n 1, 1) := by decide +kernel
theorem dX12_isThereNow_2 : decode cX12_isThereNow 2 = .ok (.iload_n 2, 1) := by decide +kernel
theorem dX12_isThereNow_3 : decode cX12_isThereNow 3 = .ok (.aload_n 0, 1) := by decide +kernel
theorem dX12_isThereNow_4 : decode cX12_isThereNow 4 = .ok (.getfield 71, 3) := by decide +kernel
theorem dX12_isThereNow_7 : decode cX12_isThereNow 7 = .ok (.iload_n 1, 1) := by decide +kernel
theorem dX12_isThereNow_8 : decode cX12_isThereNow 8 = .ok (.iaload, 1) := by decide +kernel
theorem dX12_isThereNow_9 : decode cX12_isThereNow 9 = .ok (.invokevirtual 247, 3) := by decide +kernel
theorem dX12_isThereNow_12 : decode cX12_isThereNow 12 = .ok (.ireturn, 1) := by decide +kernel
theorem cd_isThereNow : Cond.code yX12_isThereNow cX12_isThereNow 3 (some .boolean) ∈ lw_g := mt_at 2005 (by decide +kernel) rfl
theorem mw_isThereNow : mCw 365 yX12_isThereNow cX12_isThereNow 3 (some .boolean) 2 := ⟨cd_isThereNow, mt_at 2002 (by decide +kernel) rfl, in_M, by decide +kernel⟩
theorem im_isThereNow : Cond.instanceMethod yX12_isThereNow ∈ lw_g := mt_at 2004 (by decide +kernel) rfl
theorem sl_isThereNow : Cond.selects RX12 yX12_isThereNow yX12_isThereNow ∈ lw_g := mt_sel 48 (by decide +kernel) rfl
section
variable {p : Program} {l : Launch} {e : Env} {R : Room} {s : State} {m : MethodId} {args : Array Value} {below : List Frame} {meth : Method} {c : Code} {cM : ClassId} {iS : Nat → Nat} {cI cZ : ClassId} {mo : Nat} {ad : Nat → Nat} {r : Int32} {S9 : mSt}
noncomputable def fm_isThereNow (S : mSt) (v1 : Int32) (v2 : Int32) : Option (Int32 × mSt) :=
ck v1 4 (
bd (fm_isThere S v1 v2 (rd S 23 v1)) fun q_r2 => lt q_r2.1 fun r2 => lt q_r2.2 fun S1 =>
ckz r2 (some (r2, S1)))
set_option maxRecDepth 100000 in
set_option maxHeartbeats 4000000 in
theorem tm_isThereNow (l : Launch) {cM : ClassId} {iS : Nat → Nat} {cI cZ : ClassId} {mo : Nat} {ad : Nat → Nat} {S : mSt} {v1 : Int32} {v2 : Int32} {r : Int32} {S9 : mSt} (h : fm_isThereNow S v1 v2 = some (r, S9)) : Met l yX12_isThereNow (Cond.code yX12_isThereNow cX12_isThereNow 3 (some .boolean) :: lw_g) { frames := 4, cells := 0, slots := 0, locals := 94 } (mPi [.int v1, .int v2] cM iS cI cZ mo ad S) (mQw (some (.int r)) cM iS cI cZ mo ad S9) 0 0 (mA mo ad) := by
  refine Met.ofW (cc := cX12_isThereNow) (maxL := 3) (ret := (some .boolean)) (by decide) rfl ?_
  intro p e s m args below meth c s₁ B hml hv
  obtain ⟨rfl, hW, X⟩ := hv
  have C : mY p (headSpec (Cond.code yX12_isThereNow cX12_isThereNow 3 (some .boolean) :: lw_g) { frames := 4, cells := 0, slots := 0, locals := 94 }).room s m _ meth c cX12_isThereNow 3 4 94 (some .boolean) := ⟨B.exec, B.bytes, hml, findClass_of_methodNamed B.named, fun w hw => atoms_spec (ws := Cond.code yX12_isThereNow cX12_isThereNow 3 (some .boolean) :: lw_g) B.pre w (List.mem_cons_of_mem _ hw), ⟨Nat.le_refl _, Nat.le_refl _⟩, B.returns, B.notSynchronized⟩
  have hl := lv_entry ([.ref mo, .int v1, .int v2]) (n := 3) (Nat.le_of_ble_eq_true rfl)
  rw [lg_entry_eq]
  generalize (lg_sl ([.ref mo, .int v1, .int v2]) ++ List.replicate (3 - (lg_sl ([.ref mo, .int v1, .int v2])).length) Slot.unset).toArray = ls at hl ⊢
  have hl : lv_has ls 3 [(0, .ref mo), (1, .int v1), (2, .int v2)] := hl
  have hS : mS (mA mo ad) s.heap s.heap [] := mS.rf
  unfold fm_isThereNow at h
  refine lv_aload_n C.1 C.2.1 dX12_isThereNow_0 rfl (lv_at hl 0 rfl) ?_
  refine lv_iload_n C.1 C.2.1 dX12_isThereNow_1 rfl (lv_at hl 1 rfl) ?_
  refine lv_iload_n C.1 C.2.1 dX12_isThereNow_2 rfl (lv_at hl 2 rfl) ?_
  refine lv_aload_n C.1 C.2.1 dX12_isThereNow_3 rfl (lv_at hl 0 rfl) ?_
  refine gf_23 C X hW dX12_isThereNow_4 ?_
  refine lv_iload_n C.1 C.2.1 dX12_isThereNow_7 rfl (lv_at hl 1 rfl) ?_
  obtain ⟨hin, h⟩ := ck_ok h
  refine l_23 C X hW hin dX12_isThereNow_8 ?_
  obtain ⟨⟨r2, S1⟩, h_S1, h⟩ := bd_ok h
  refine m_callW (rest := []) (ov := some (.int r2)) C X hW hS hl.1 [.int v1, .int v2, .int (rd S 23 v1)] (tm_isThere l h_S1) mw_isThere im_isThere sl_isThere rfl ⟨by decide, by decide⟩ rfl (Nat.le_of_ble_eq_true rfl) dX12_isThereNow_9 (fun H locs hW hS => ?_)
  refine W.eq (g2 := F0 m 12 ls [.int r2]) rfl ?_
  obtain ⟨hzo, h⟩ := ckz_ok h
  cases h
  exact m_retzW C hzo hW hS dX12_isThereNow_12
end
theorem dX12_kindOf_0 : decode cX12_kindOf 0 = .ok (.aload_n 0, 1) := by decide +kernel
theorem dX12_kindOf_1 : decode cX12_kindOf 1 = .ok (.getfield 38, 3) := by decide +kernel
theorem dX12_kindOf_4 : decode cX12_kindOf 4 = .ok (.iload_n 1, 1) := by decide +kernel
theorem dX12_kindOf_5 : decode cX12_kindOf 5 = .ok (.invokestatic 233, 3) := by decide +kernel
theorem dX12_kindOf_8 : decode cX12_kindOf 8 = .ok (.iaload, 1) := by decide +kernel
theorem dX12_kindOf_9 : decode cX12_kindOf 9 = .ok (.ireturn, 1) := by decide +kernel
theorem cd_kindOf : Cond.code yX12_kindOf cX12_kindOf 2 (some .int) ∈ lw_g := mt_at 1994 (by decide +kernel) rfl
theorem mw_kindOf : mCw 250 yX12_kindOf cX12_kindOf 2 (some .int) 1 := ⟨cd_kindOf, mt_at 1991 (by decide +kernel) rfl, in_M, by decide +kernel⟩
theorem im_kindOf : Cond.instanceMethod yX12_kindOf ∈ lw_g := mt_at 1993 (by decide +kernel) rfl
theorem sl_kindOf : Cond.selects RX12 yX12_kindOf yX12_kindOf ∈ lw_g := mt_sel 46 (by decide +kernel) rfl
section
variable {p : Program} {l : Launch} {e : Env} {R : Room} {s : State} {m : MethodId} {args : Array Value} {below : List Frame} {meth : Method} {c : Code} {cM : ClassId} {iS : Nat → Nat} {cI cZ : ClassId} {mo : Nat} {ad : Nat → Nat} {S : mSt} {r : Int32}
noncomputable def fm_kindOf (S : mSt) (v1 : Int32) : Option (Int32) :=
bd (fm_rowOf v1) fun r1 =>
ck r1 1000 (
some (rd S 12 r1))
set_option maxRecDepth 100000 in
set_option maxHeartbeats 4000000 in
theorem tm_kindOf (l : Launch) {cM : ClassId} {iS : Nat → Nat} {cI cZ : ClassId} {mo : Nat} {ad : Nat → Nat} {S : mSt} {v1 : Int32} {r : Int32} (h : fm_kindOf S v1 = some r) : Met l yX12_kindOf (Cond.code yX12_kindOf cX12_kindOf 2 (some .int) :: lw_g) { frames := 2, cells := 0, slots := 0, locals := 44 } (mPi [.int v1] cM iS cI cZ mo ad S) (mQi r) 0 0 (mNo) := by
  refine Met.ofW (cc := cX12_kindOf) (maxL := 2) (ret := (some .int)) (by decide) rfl ?_
  intro p e s m args below meth c s₁ B hml hv
  obtain ⟨rfl, hW, X⟩ := hv
  have C : mY p (headSpec (Cond.code yX12_kindOf cX12_kindOf 2 (some .int) :: lw_g) { frames := 2, cells := 0, slots := 0, locals := 44 }).room s m _ meth c cX12_kindOf 2 2 44 (some .int) := ⟨B.exec, B.bytes, hml, findClass_of_methodNamed B.named, fun w hw => atoms_spec (ws := Cond.code yX12_kindOf cX12_kindOf 2 (some .int) :: lw_g) B.pre w (List.mem_cons_of_mem _ hw), ⟨Nat.le_refl _, Nat.le_refl _⟩, B.returns, B.notSynchronized⟩
  have hl := lv_entry ([.ref mo, .int v1]) (n := 2) (Nat.le_of_ble_eq_true rfl)
  rw [lg_entry_eq]
  generalize (lg_sl ([.ref mo, .int v1]) ++ List.replicate (2 - (lg_sl ([.ref mo, .int v1])).length) Slot.unset).toArray = ls at hl ⊢
  have hl : lv_has ls 2 [(0, .ref mo), (1, .int v1)] := hl
  unfold fm_kindOf at h
  refine lv_aload_n C.1 C.2.1 dX12_kindOf_0 rfl (lv_at hl 0 rfl) ?_
  refine gf_12 C X hW dX12_kindOf_1 ?_
  refine lv_iload_n C.1 C.2.1 dX12_kindOf_4 rfl (lv_at hl 1 rfl) ?_
  obtain ⟨r1, h_r1, h⟩ := bd_ok h
  refine m_callS (rest := [.ref (ad 12)]) C hl.1 [.int v1] (tm_rowOf l h_r1) mw_rowOf st_rowOf rfl ⟨by decide, by decide⟩ rfl (Nat.le_of_ble_eq_true rfl) dX12_kindOf_5 ?_
  obtain ⟨hin, h⟩ := ck_ok h
  refine l_12 C X hW hin dX12_kindOf_8 ?_
  cases h
  exact m_reti C rfl rfl dX12_kindOf_9
end
theorem dX12_ruleOf_0 : decode cX12_ruleOf 0 = .ok (.aload_n 0, 1) := by decide +kernel
theorem dX12_ruleOf_1 : decode cX12_ruleOf 1 = .ok (.getfield 20, 3) := by decide +kernel
theorem dX12_ruleOf_4 : decode cX12_ruleOf 4 = .ok (.bipush 6, 2) := by decide +kernel
theorem dX12_ruleOf_6 : decode cX12_ruleOf 6 = .ok (.aload_n 0, 1) := by decide +kernel
theorem dX12_ruleOf_7 : decode cX12_ruleOf 7 = .ok (.iload_n 1, 1) := by decide +kernel
theorem dX12_ruleOf_8 : decode cX12_ruleOf 8 = .ok (.invokevirtual 250, 3) := by decide +kernel
theorem dX12_ruleOf_11 : decode cX12_ruleOf 11 = .ok (.imul, 1) := by decide +kernel
theorem dX12_ruleOf_12 : decode cX12_ruleOf 12 = .ok (.iload_n 2, 1) := by decide +kernel
theorem dX12_ruleOf_13 : decode cX12_ruleOf 13 = .ok (.iadd, 1) := by decide +kernel
theorem dX12_ruleOf_14 : decode cX12_ruleOf 14 = .ok (.iaload, 1) := by decide +kernel
theorem dX12_ruleOf_15 : decode cX12_ruleOf 15 = .ok (.ireturn, 1) := by decide +kernel
theorem cd_ruleOf : Cond.code yX12_ruleOf cX12_ruleOf 3 (some .int) ∈ lw_g := mt_at 1998 (by decide +kernel) rfl
theorem mw_ruleOf : mCw 256 yX12_ruleOf cX12_ruleOf 3 (some .int) 2 := ⟨cd_ruleOf, mt_at 1995 (by decide +kernel) rfl, in_M, by decide +kernel⟩
theorem im_ruleOf : Cond.instanceMethod yX12_ruleOf ∈ lw_g := mt_at 1997 (by decide +kernel) rfl
theorem sl_ruleOf : Cond.selects RX12 yX12_ruleOf yX12_ruleOf ∈ lw_g := mt_sel 47 (by decide +kernel) rfl
section
variable {p : Program} {l : Launch} {e : Env} {R : Room} {s : State} {m : MethodId} {args : Array Value} {below : List Frame} {meth : Method} {c : Code} {cM : ClassId} {iS : Nat → Nat} {cI cZ : ClassId} {mo : Nat} {ad : Nat → Nat} {S : mSt} {r : Int32}
noncomputable def fm_ruleOf (S : mSt) (v1 : Int32) (v2 : Int32) : Option (Int32) :=
bd (fm_kindOf S v1) fun r1 =>
ck (((6 : Int32) * r1) + v2) 48 (
some (rd S 6 (((6 : Int32) * r1) + v2)))
set_option maxRecDepth 100000 in
set_option maxHeartbeats 4000000 in
theorem tm_ruleOf (l : Launch) {cM : ClassId} {iS : Nat → Nat} {cI cZ : ClassId} {mo : Nat} {ad : Nat → Nat} {S : mSt} {v1 : Int32} {v2 : Int32} {r : Int32} (h : fm_ruleOf S v1 v2 = some r) : Met l yX12_ruleOf (Cond.code yX12_ruleOf cX12_ruleOf 3 (some .int) :: lw_g) { frames := 3, cells := 0, slots := 0, locals := 65 } (mPi [.int v1, .int v2] cM iS cI cZ mo ad S) (mQi r) 0 0 (mNo) := by
  refine Met.ofW (cc := cX12_ruleOf) (maxL := 3) (ret := (some .int)) (by decide) rfl ?_
  intro p e s m args below meth c s₁ B hml hv
  obtain ⟨rfl, hW, X⟩ := hv
  have C : mY p (headSpec (Cond.code yX12_ruleOf cX12_ruleOf 3 (some .int) :: lw_g) { frames := 3, cells := 0, slots := 0, locals := 65 }).room s m _ meth c cX12_ruleOf 3 3 65 (some .int) := ⟨B.exec, B.bytes, hml, findClass_of_methodNamed B.named, fun w hw => atoms_spec (ws := Cond.code yX12_ruleOf cX12_ruleOf 3 (some .int) :: lw_g) B.pre w (List.mem_cons_of_mem _ hw), ⟨Nat.le_refl _, Nat.le_refl _⟩, B.returns, B.notSynchronized⟩
  have hl := lv_entry ([.ref mo, .int v1, .int v2]) (n := 3) (Nat.le_of_ble_eq_true rfl)
  rw [lg_entry_eq]
  generalize (lg_sl ([.ref mo, .int v1, .int v2]) ++ List.replicate (3 - (lg_sl ([.ref mo, .int v1, .int v2])).length) Slot.unset).toArray = ls at hl ⊢
  have hl : lv_has ls 3 [(0, .ref mo), (1, .int v1), (2, .int v2)] := hl
  unfold fm_ruleOf at h
  refine lv_aload_n C.1 C.2.1 dX12_ruleOf_0 rfl (lv_at hl 0 rfl) ?_
  refine gf_6 C X hW dX12_ruleOf_1 ?_
  refine lv_bipush (v := 6) C.1 C.2.1 dX12_ruleOf_4 (by decide) ?_
  refine lv_aload_n C.1 C.2.1 dX12_ruleOf_6 rfl (lv_at hl 0 rfl) ?_
  refine lv_iload_n C.1 C.2.1 dX12_ruleOf_7 rfl (lv_at hl 1 rfl) ?_
  obtain ⟨r1, h_r1, h⟩ := bd_ok h
  refine m_callR (rest := [.int (6 : Int32), .ref (ad 6)]) C X hW hl.1 [.int v1] (tm_kindOf l h_r1) mw_kindOf im_kindOf sl_kindOf rfl ⟨by decide, by decide⟩ rfl (Nat.le_of_ble_eq_true rfl) dX12_ruleOf_8 ?_
  refine lv_imul C.1 C.2.1 dX12_ruleOf_11 ?_
  refine lv_iload_n C.1 C.2.1 dX12_ruleOf_12 rfl (lv_at hl 2 rfl) ?_
  refine lv_iadd C.1 C.2.1 dX12_ruleOf_13 ?_
  obtain ⟨hin, h⟩ := ck_ok h
  refine l_6 C X hW hin dX12_ruleOf_14 ?_
  cases h
  exact m_reti C rfl rfl dX12_ruleOf_15
end
theorem dX12_isOf_0 : decode cX12_isOf 0 = .ok (.aload_n 0, 1) := by decide +kernel
theorem dX12_isOf_1 : decode cX12_isOf 1 = .ok (.getfield 29, 3) := by decide +kernel
theorem dX12_isOf_4 : decode cX12_isOf 4 = .ok (.iload_n 1, 1) := by decide +kernel
theorem dX12_isOf_5 : decode cX12_isOf 5 = .ok (.iaload, 1) := by decide +kernel
theorem dX12_isOf_6 : decode cX12_isOf 6 = .ok (.iload_n 2, 1) := by decide +kernel
theorem dX12_isOf_7 : decode cX12_isOf 7 = .ok (.if_icmp .ne 28, 3) := by decide +kernel
theorem dX12_isOf_10 : decode cX12_isOf 10 = .ok (.aload_n 0, 1) := by decide +kernel
theorem dX12_isOf_11 : decode cX12_isOf 11 = .ok (.getfield 32, 3) := by decide +kernel
theorem dX12_isOf_14 : decode cX12_isOf 14 = .ok (.iload_n 1, 1) := by decide +kernel
theorem dX12_isOf_15 : decode cX12_isOf 15 = .ok (.iaload, 1) := by decide +kernel
theorem dX12_isOf_16 : decode cX12_isOf 16 = .ok (.iload_n 3, 1) := by decide +kernel
theorem dX12_isOf_17 : decode cX12_isOf 17 = .ok (.if_icmp .ne 18, 3) := by decide +kernel
theorem dX12_isOf_20 : decode cX12_isOf 20 = .ok (.aload_n 0, 1) := by decide +kernel
theorem dX12_isOf_21 : decode cX12_isOf 21 = .ok (.getfield 35, 3) := by decide +kernel
theorem dX12_isOf_24 : decode cX12_isOf 24 = .ok (.iload_n 1, 1) := by decide +kernel
theorem dX12_isOf_25 : decode cX12_isOf 25 = .ok (.iaload, 1) := by decide +kernel
theorem dX12_isOf_26 : decode cX12_isOf 26 = .ok (.iload 4, 2) := by decide +kernel
theorem dX12_isOf_28 : decode cX12_isOf 28 = .ok (.if_icmp .ne 7, 3) := by decide +kernel
theorem dX12_isOf_31 : decode cX12_isOf 31 = .ok (.iconst 1, 1) := by decide +kernel
theorem dX12_isOf_32 : decode cX12_isOf 32 = .ok (.goto 4, 3) := by decide +kernel
theorem dX12_isOf_35 : decode cX12_isOf 35 = .ok (.iconst 0, 1) := by decide +kernel
theorem dX12_isOf_36 : decode cX12_isOf 36 = .ok (.ireturn, 1) := by decide +kernel
theorem cd_isOf : Cond.code yX12_isOf cX12_isOf 5 (some .boolean) ∈ lw_g := mt_at 2037 (by decide +kernel) rfl
theorem mw_isOf : mCw 281 yX12_isOf cX12_isOf 5 (some .boolean) 4 := ⟨cd_isOf, mt_at 2034 (by decide +kernel) rfl, in_M, by decide +kernel⟩
theorem im_isOf : Cond.instanceMethod yX12_isOf ∈ lw_g := mt_at 2036 (by decide +kernel) rfl
theorem sl_isOf : Cond.selects RX12 yX12_isOf yX12_isOf ∈ lw_g := mt_sel 56 (by decide +kernel) rfl
section
variable {p : Program} {l : Launch} {e : Env} {R : Room} {s : State} {m : MethodId} {args : Array Value} {below : List Frame} {meth : Method} {c : Code} {cM : ClassId} {iS : Nat → Nat} {cI cZ : ClassId} {mo : Nat} {ad : Nat → Nat} {S : mSt} {r : Int32}
noncomputable def fm_isOf_36 (S : mSt) (s0 : Int32) : Option (Int32) :=
ckz s0 (some s0)
set_option maxRecDepth 100000 in
set_option maxHeartbeats 4000000 in
theorem wm_isOf_36 (C : mY p R s m args meth c cX12_isOf 5 0 0 (some .boolean)) (X : mX s cM iS cI cZ mo ad) (hW : mW cM iS cI cZ mo ad S s.heap) : ∀ {s0 : Int32} {ls : Array Slot}, fm_isOf_36 S s0 = some r → lv_has ls 5 [] → W p l e R s m args below meth c s.heap [] 0 0 (MQ below (mQi r) args s 0 0 mNo) (F0 m 36 ls [.int s0]) := by
  intro s0 ls h hl
  unfold fm_isOf_36 at h
  obtain ⟨hzo, h⟩ := ckz_ok h
  cases h
  exact m_retz C hzo rfl rfl dX12_isOf_36
noncomputable def fm_isOf_35 (S : mSt) : Option (Int32) :=
fm_isOf_36 S (0 : Int32)
set_option maxRecDepth 100000 in
set_option maxHeartbeats 4000000 in
theorem wm_isOf_35 (C : mY p R s m args meth c cX12_isOf 5 0 0 (some .boolean)) (X : mX s cM iS cI cZ mo ad) (hW : mW cM iS cI cZ mo ad S s.heap) : ∀ {ls : Array Slot}, fm_isOf_35 S = some r → lv_has ls 5 [] → W p l e R s m args below meth c s.heap [] 0 0 (MQ below (mQi r) args s 0 0 mNo) (F0 m 35 ls []) := by
  intro ls h hl
  unfold fm_isOf_35 at h
  refine lv_iconst (v := 0) C.1 C.2.1 dX12_isOf_35 (by decide) ?_
  exact wm_isOf_36 C X hW h (lv_sub hl [] rfl)
noncomputable def fm_isOf (S : mSt) (v1 : Int32) (v2 : Int32) (v3 : Int32) (v4 : Int32) : Option (Int32) :=
ck v1 1000 (
if (rd S 9 v1) = v2 then (
ck v1 1000 (
if (rd S 10 v1) = v3 then (
ck v1 1000 (
if (rd S 11 v1) = v4 then (
fm_isOf_36 S (1 : Int32))
else (
fm_isOf_35 S)))
else (
fm_isOf_35 S)))
else (
fm_isOf_35 S))
set_option maxRecDepth 100000 in
set_option maxHeartbeats 4000000 in
theorem tm_isOf (l : Launch) {cM : ClassId} {iS : Nat → Nat} {cI cZ : ClassId} {mo : Nat} {ad : Nat → Nat} {S : mSt} {v1 : Int32} {v2 : Int32} {v3 : Int32} {v4 : Int32} {r : Int32} (h : fm_isOf S v1 v2 v3 v4 = some r) : Met l yX12_isOf (Cond.code yX12_isOf cX12_isOf 5 (some .boolean) :: lw_g) { frames := 0, cells := 0, slots := 0, locals := 0 } (mPi [.int v1, .int v2, .int v3, .int v4] cM iS cI cZ mo ad S) (mQi r) 0 0 (mNo) := by
  refine Met.ofW (cc := cX12_isOf) (maxL := 5) (ret := (some .boolean)) (by decide) rfl ?_
  intro p e s m args below meth c s₁ B hml hv
  obtain ⟨rfl, hW, X⟩ := hv
  have C : mY p (headSpec (Cond.code yX12_isOf cX12_isOf 5 (some .boolean) :: lw_g) { frames := 0, cells := 0, slots := 0, locals := 0 }).room s m _ meth c cX12_isOf 5 0 0 (some .boolean) := ⟨B.exec, B.bytes, hml, findClass_of_methodNamed B.named, fun w hw => atoms_spec (ws := Cond.code yX12_isOf cX12_isOf 5 (some .boolean) :: lw_g) B.pre w (List.mem_cons_of_mem _ hw), ⟨Nat.le_refl _, Nat.le_refl _⟩, B.returns, B.notSynchronized⟩
  have hl := lv_entry ([.ref mo, .int v1, .int v2, .int v3, .int v4]) (n := 5) (Nat.le_of_ble_eq_true rfl)
  rw [lg_entry_eq]
  generalize (lg_sl ([.ref mo, .int v1, .int v2, .int v3, .int v4]) ++ List.replicate (5 - (lg_sl ([.ref mo, .int v1, .int v2, .int v3, .int v4])).length) Slot.unset).toArray = ls at hl ⊢
  have hl : lv_has ls 5 [(0, .ref mo), (1, .int v1), (2, .int v2), (3, .int v3), (4, .int v4)] := hl
  unfold fm_isOf at h
  refine lv_aload_n C.1 C.2.1 dX12_isOf_0 rfl (lv_at hl 0 rfl) ?_
  refine gf_9 C X hW dX12_isOf_1 ?_
  refine lv_iload_n C.1 C.2.1 dX12_isOf_4 rfl (lv_at hl 1 rfl) ?_
  obtain ⟨hin, h⟩ := ck_ok h
  refine l_9 C X hW hin dX12_isOf_5 ?_
  refine lv_iload_n C.1 C.2.1 dX12_isOf_6 rfl (lv_at hl 2 rfl) ?_
  refine lv_icmp_ne (tgt := 35) C.1 C.2.1 dX12_isOf_7 (by decide) (fun c1 => ?_) (fun c1 => ?_)
  · have h := if_f h c1
    exact wm_isOf_35 C X hW h (lv_sub hl [] rfl)
  · have h := if_t h c1
    refine lv_aload_n C.1 C.2.1 dX12_isOf_10 rfl (lv_at hl 0 rfl) ?_
    refine gf_10 C X hW dX12_isOf_11 ?_
    refine lv_iload_n C.1 C.2.1 dX12_isOf_14 rfl (lv_at hl 1 rfl) ?_
    obtain ⟨hin, h⟩ := ck_ok h
    refine l_10 C X hW hin dX12_isOf_15 ?_
    refine lv_iload_n C.1 C.2.1 dX12_isOf_16 rfl (lv_at hl 3 rfl) ?_
    refine lv_icmp_ne (tgt := 35) C.1 C.2.1 dX12_isOf_17 (by decide) (fun c2 => ?_) (fun c2 => ?_)
    · have h := if_f h c2
      exact wm_isOf_35 C X hW h (lv_sub hl [] rfl)
    · have h := if_t h c2
      refine lv_aload_n C.1 C.2.1 dX12_isOf_20 rfl (lv_at hl 0 rfl) ?_
      refine gf_11 C X hW dX12_isOf_21 ?_
      refine lv_iload_n C.1 C.2.1 dX12_isOf_24 rfl (lv_at hl 1 rfl) ?_
      obtain ⟨hin, h⟩ := ck_ok h
      refine l_11 C X hW hin dX12_isOf_25 ?_
      refine lv_iload C.1 C.2.1 dX12_isOf_26 (lv_at hl 4 rfl) ?_
      refine lv_icmp_ne (tgt := 35) C.1 C.2.1 dX12_isOf_28 (by decide) (fun c3 => ?_) (fun c3 => ?_)
      · have h := if_f h c3
        exact wm_isOf_35 C X hW h (lv_sub hl [] rfl)
      · have h := if_t h c3
        refine lv_iconst (v := 1) C.1 C.2.1 dX12_isOf_31 (by decide) ?_
        refine lv_goto (tgt := 36) C.1 C.2.1 dX12_isOf_32 (by decide) ?_
        exact wm_isOf_36 C X hW h (lv_sub hl [] rfl)
end
theorem dX12_put_0 : decode cX12_put 0 = .ok (.aload_n 0, 1) := by decide +kernel
theorem dX12_put_1 : decode cX12_put 1 = .ok (.getfield 139, 3) := by decide +kernel
theorem dX12_put_4 : decode cX12_put 4 = .ok (.aload_n 0, 1) := by decide +kernel
theorem dX12_put_5 : decode cX12_put 5 = .ok (.getfield 253, 3) := by decide +kernel
theorem dX12_put_8 : decode cX12_put 8 = .ok (.iload_n 1, 1) := by decide +kernel
theorem dX12_put_9 : decode cX12_put 9 = .ok (.iastore, 1) := by decide +kernel
theorem dX12_put_10 : decode cX12_put 10 = .ok (.aload_n 0, 1) := by decide +kernel
theorem dX12_put_11 : decode cX12_put 11 = .ok (.getfield 142, 3) := by decide +kernel
theorem dX12_put_14 : decode cX12_put 14 = .ok (.aload_n 0, 1) := by decide +kernel
theorem dX12_put_15 : decode cX12_put 15 = .ok (.getfield 253, 3) := by decide +kernel
theorem dX12_put_18 : decode cX12_put 18 = .ok (.iload_n 2, 1) := by decide +kernel
theorem dX12_put_19 : decode cX12_put 19 = .ok (.iastore, 1) := by decide +kernel
theorem dX12_put_20 : decode cX12_put 20 = .ok (.aload_n 0, 1) := by decide +kernel
theorem dX12_put_21 : decode cX12_put 21 = .ok (.dup, 1) := by decide +kernel
theorem dX12_put_22 : decode cX12_put 22 = .ok (.getfield 253, 3) := by decide +kernel
theorem dX12_put_25 : decode cX12_put 25 = .ok (.iconst 1, 1) := by decide +kernel
theorem dX12_put_26 : decode cX12_put 26 = .ok (.iadd, 1) := by decide +kernel
theorem dX12_put_27 : decode cX12_put 27 = .ok (.putfield 253, 3) := by decide +kernel
theorem dX12_put_30 : decode cX12_put 30 = .ok (.return_, 1) := by decide +kernel
theorem cd_put : Cond.code yX12_put cX12_put 3 none ∈ lw_g := mt_at 2045 (by decide +kernel) rfl
theorem mw_put : mCw 288 yX12_put cX12_put 3 none 2 := ⟨cd_put, mt_at 2042 (by decide +kernel) rfl, in_M, by decide +kernel⟩
theorem im_put : Cond.instanceMethod yX12_put ∈ lw_g := mt_at 2044 (by decide +kernel) rfl
theorem sl_put : Cond.selects RX12 yX12_put yX12_put ∈ lw_g := mt_sel 58 (by decide +kernel) rfl
section
variable {p : Program} {l : Launch} {e : Env} {R : Room} {s : State} {m : MethodId} {args : Array Value} {below : List Frame} {meth : Method} {c : Code} {cM : ClassId} {iS : Nat → Nat} {cI cZ : ClassId} {mo : Nat} {ad : Nat → Nat} {r : Int32} {S9 : mSt}
noncomputable def fm_put (S : mSt) (v1 : Int32) (v2 : Int32) : Option (mSt) :=
ck (S.1 49) 1000 (lt (wr S 50 (S.1 49) v1) fun S1 =>
ck (S1.1 49) 1000 (lt (wr S1 51 (S1.1 49) v2) fun S2 =>
lt (pu S2 49 ((S2.1 49) + (1 : Int32))) fun S3 =>
some S3))
set_option maxRecDepth 100000 in
set_option maxHeartbeats 4000000 in
theorem tm_put (l : Launch) {cM : ClassId} {iS : Nat → Nat} {cI cZ : ClassId} {mo : Nat} {ad : Nat → Nat} {S : mSt} {v1 : Int32} {v2 : Int32} {S9 : mSt} (h : fm_put S v1 v2 = some S9) : Met l yX12_put (Cond.code yX12_put cX12_put 3 none :: lw_g) { frames := 0, cells := 0, slots := 0, locals := 0 } (mPi [.int v1, .int v2] cM iS cI cZ mo ad S) (mQw none cM iS cI cZ mo ad S9) 0 0 (mA mo ad) := by
  refine Met.ofW (cc := cX12_put) (maxL := 3) (ret := none) (by decide) rfl ?_
  intro p e s m args below meth c s₁ B hml hv
  obtain ⟨rfl, hW, X⟩ := hv
  have C : mY p (headSpec (Cond.code yX12_put cX12_put 3 none :: lw_g) { frames := 0, cells := 0, slots := 0, locals := 0 }).room s m _ meth c cX12_put 3 0 0 none := ⟨B.exec, B.bytes, hml, findClass_of_methodNamed B.named, fun w hw => atoms_spec (ws := Cond.code yX12_put cX12_put 3 none :: lw_g) B.pre w (List.mem_cons_of_mem _ hw), ⟨Nat.le_refl _, Nat.le_refl _⟩, B.returns, B.notSynchronized⟩
  have hl := lv_entry ([.ref mo, .int v1, .int v2]) (n := 3) (Nat.le_of_ble_eq_true rfl)
  rw [lg_entry_eq]
  generalize (lg_sl ([.ref mo, .int v1, .int v2]) ++ List.replicate (3 - (lg_sl ([.ref mo, .int v1, .int v2])).length) Slot.unset).toArray = ls at hl ⊢
  have hl : lv_has ls 3 [(0, .ref mo), (1, .int v1), (2, .int v2)] := hl
  have hS : mS (mA mo ad) s.heap s.heap [] := mS.rf
  unfold fm_put at h
  refine lv_aload_n C.1 C.2.1 dX12_put_0 rfl (lv_at hl 0 rfl) ?_
  refine gf_50 C X hW dX12_put_1 ?_
  refine lv_aload_n C.1 C.2.1 dX12_put_4 rfl (lv_at hl 0 rfl) ?_
  refine gf_49 C X hW dX12_put_5 ?_
  refine lv_iload_n C.1 C.2.1 dX12_put_8 rfl (lv_at hl 1 rfl) ?_
  obtain ⟨hin, h⟩ := ck_ok h
  refine s_50 C X hW hS hin dX12_put_9 (fun H locs hW hS => ?_)
  refine lt_ok h (fun S1 e_S1 h => ?_)
  rw [e_S1] at hW
  refine lv_aload_n C.1 C.2.1 dX12_put_10 rfl (lv_at hl 0 rfl) ?_
  refine gf_51 C X hW dX12_put_11 ?_
  refine lv_aload_n C.1 C.2.1 dX12_put_14 rfl (lv_at hl 0 rfl) ?_
  refine gf_49 C X hW dX12_put_15 ?_
  refine lv_iload_n C.1 C.2.1 dX12_put_18 rfl (lv_at hl 2 rfl) ?_
  obtain ⟨hin, h⟩ := ck_ok h
  refine s_51 C X hW hS hin dX12_put_19 (fun H locs hW hS => ?_)
  refine lt_ok h (fun S2 e_S2 h => ?_)
  rw [e_S2] at hW
  refine lv_aload_n C.1 C.2.1 dX12_put_20 rfl (lv_at hl 0 rfl) ?_
  refine lv_dup C.1 C.2.1 dX12_put_21 rfl ?_
  refine gf_49 C X hW dX12_put_22 ?_
  refine lv_iconst (v := 1) C.1 C.2.1 dX12_put_25 (by decide) ?_
  refine lv_iadd C.1 C.2.1 dX12_put_26 ?_
  refine p_49 C X hW hS dX12_put_27 (fun H locs hW hS => ?_)
  refine lt_ok h (fun S3 e_S3 h => ?_)
  rw [e_S3] at hW
  cases h
  exact m_retvW C hW hS dX12_put_30
end
theorem dX12_keys_0 : decode cX12_keys 0 = .ok (.iconst 0, 1) := by decide +kernel
theorem dX12_keys_1 : decode cX12_keys 1 = .ok (.istore 5, 2) := by decide +kernel
theorem dX12_keys_3 : decode cX12_keys 3 = .ok (.iload 5, 2) := by decide +kernel
theorem dX12_keys_5 : decode cX12_keys 5 = .ok (.bipush 64, 2) := by decide +kernel
theorem dX12_keys_7 : decode cX12_keys 7 = .ok (.if_icmp .ge 145, 3) := by decide +kernel
theorem dX12_keys_10 : decode cX12_keys 10 = .ok (.iconst (-1), 1) := by decide +kernel
theorem dX12_keys_11 : decode cX12_keys 11 = .ok (.istore 6, 2) := by decide +kernel
theorem dX12_keys_13 : decode cX12_keys 13 = .ok (.iconst 0, 1) := by decide +kernel
theorem dX12_keys_14 : decode cX12_keys 14 = .ok (.istore 7, 2) := by decide +kernel
theorem dX12_keys_16 : decode cX12_keys 16 = .ok (.iload 7, 2) := by decide +kernel
theorem dX12_keys_18 : decode cX12_keys 18 = .ok (.iload_n 2, 1) := by decide +kernel
theorem dX12_keys_19 : decode cX12_keys 19 = .ok (.if_icmp .ge 101, 3) := by decide +kernel
theorem dX12_keys_22 : decode cX12_keys 22 = .ok (.aload_n 0, 1) := by decide +kernel
theorem dX12_keys_23 : decode cX12_keys 23 = .ok (.iload_n 1, 1) := by decide +kernel
theorem dX12_keys_24 : decode cX12_keys 24 = .ok (.iload 7, 2) := by decide +kernel
theorem dX12_keys_26 : decode cX12_keys 26 = .ok (.invokevirtual 230, 3) := by decide +kernel
theorem dX12_keys_29 : decode cX12_keys 29 = .ok (.istore 8, 2) := by decide +kernel
theorem dX12_keys_31 : decode cX12_keys 31 = .ok (.aload_n 0, 1) := by decide +kernel
theorem dX12_keys_32 : decode cX12_keys 32 = .ok (.iload 8, 2) := by decide +kernel
theorem dX12_keys_34 : decode cX12_keys 34 = .ok (.bipush 15, 2) := by decide +kernel
theorem dX12_keys_36 : decode cX12_keys 36 = .ok (.iload_n 3, 1) := by decide +kernel
theorem dX12_keys_37 : decode cX12_keys 37 = .ok (.iload 4, 2) := by decide +kernel
theorem dX12_keys_39 : decode cX12_keys 39 = .ok (.invokevirtual 281, 3) := by decide +kernel
theorem dX12_keys_42 : decode cX12_keys 42 = .ok (.ifCond .ne 17, 3) := by decide +kernel
theorem dX12_keys_45 : decode cX12_keys 45 = .ok (.aload_n 0, 1) := by decide +kernel
theorem dX12_keys_46 : decode cX12_keys 46 = .ok (.iload 8, 2) := by decide +kernel
theorem dX12_keys_48 : decode cX12_keys 48 = .ok (.bipush 16, 2) := by decide +kernel
theorem dX12_keys_50 : decode cX12_keys 50 = .ok (.iload_n 3, 1) := by decide +kernel
theorem dX12_keys_51 : decode cX12_keys 51 = .ok (.iload 4, 2) := by decide +kernel
theorem dX12_keys_53 : decode cX12_keys 53 = .ok (.invokevirtual 281, 3) := by decide +kernel
theorem dX12_keys_56 : decode cX12_keys 56 = .ok (.ifCond .eq 29, 3) := by decide +kernel
theorem dX12_keys_59 : decode cX12_keys 59 = .ok (.aload_n 0, 1) := by decide +kernel
theorem dX12_keys_60 : decode cX12_keys 60 = .ok (.getfield 38, 3) := by decide +kernel
theorem dX12_keys_63 : decode cX12_keys 63 = .ok (.iload 8, 2) := by decide +kernel
theorem dX12_keys_65 : decode cX12_keys 65 = .ok (.iaload, 1) := by decide +kernel
theorem dX12_keys_66 : decode cX12_keys 66 = .ok (.iload 5, 2) := by decide +kernel
theorem dX12_keys_68 : decode cX12_keys 68 = .ok (.if_icmp .ne 17, 3) := by decide +kernel
theorem dX12_keys_71 : decode cX12_keys 71 = .ok (.aload_n 0, 1) := by decide +kernel
theorem dX12_keys_72 : decode cX12_keys 72 = .ok (.getfield 133, 3) := by decide +kernel
theorem dX12_keys_75 : decode cX12_keys 75 = .ok (.iload 8, 2) := by decide +kernel
theorem dX12_keys_77 : decode cX12_keys 77 = .ok (.baload, 1) := by decide +kernel
theorem dX12_keys_78 : decode cX12_keys 78 = .ok (.ifCond .eq 7, 3) := by decide +kernel
theorem dX12_keys_81 : decode cX12_keys 81 = .ok (.iconst 1, 1) := by decide +kernel
theorem dX12_keys_82 : decode cX12_keys 82 = .ok (.goto 4, 3) := by decide +kernel
theorem dX12_keys_85 : decode cX12_keys 85 = .ok (.iconst 0, 1) := by decide +kernel
theorem dX12_keys_86 : decode cX12_keys 86 = .ok (.istore 9, 2) := by decide +kernel
theorem dX12_keys_88 : decode cX12_keys 88 = .ok (.iload 9, 2) := by decide +kernel
theorem dX12_keys_90 : decode cX12_keys 90 = .ok (.ifCond .eq 24, 3) := by decide +kernel
theorem dX12_keys_93 : decode cX12_keys 93 = .ok (.iload 6, 2) := by decide +kernel
theorem dX12_keys_95 : decode cX12_keys 95 = .ok (.iconst (-1), 1) := by decide +kernel
theorem dX12_keys_96 : decode cX12_keys 96 = .ok (.if_icmp .eq 14, 3) := by decide +kernel
theorem dX12_keys_99 : decode cX12_keys 99 = .ok (.aload_n 0, 1) := by decide +kernel
theorem dX12_keys_100 : decode cX12_keys 100 = .ok (.iload 6, 2) := by decide +kernel
theorem dX12_keys_102 : decode cX12_keys 102 = .ok (.iload 8, 2) := by decide +kernel
theorem dX12_keys_104 : decode cX12_keys 104 = .ok (.invokevirtual 285, 3) := by decide +kernel
theorem dX12_keys_107 : decode cX12_keys 107 = .ok (.ifCond .eq 7, 3) := by decide +kernel
theorem dX12_keys_110 : decode cX12_keys 110 = .ok (.iload 8, 2) := by decide +kernel
theorem dX12_keys_112 : decode cX12_keys 112 = .ok (.istore 6, 2) := by decide +kernel
theorem dX12_keys_114 : decode cX12_keys 114 = .ok (.iinc 7 1, 3) := by decide +kernel
theorem dX12_keys_117 : decode cX12_keys 117 = .ok (.goto (-101), 3) := by decide +kernel
theorem dX12_keys_120 : decode cX12_keys 120 = .ok (.iload 6, 2) := by decide +kernel
theorem dX12_keys_122 : decode cX12_keys 122 = .ok (.iconst (-1), 1) := by decide +kernel
theorem dX12_keys_123 : decode cX12_keys 123 = .ok (.if_icmp .eq 23, 3) := by decide +kernel
theorem dX12_keys_126 : decode cX12_keys 126 = .ok (.aload_n 0, 1) := by decide +kernel
theorem dX12_keys_127 : decode cX12_keys 127 = .ok (.getfield 29, 3) := by decide +kernel
theorem dX12_keys_130 : decode cX12_keys 130 = .ok (.iload 6, 2) := by decide +kernel
theorem dX12_keys_132 : decode cX12_keys 132 = .ok (.iaload, 1) := by decide +kernel
theorem dX12_keys_133 : decode cX12_keys 133 = .ok (.bipush 15, 2) := by decide +kernel
theorem dX12_keys_135 : decode cX12_keys 135 = .ok (.if_icmp .ne 11, 3) := by decide +kernel
theorem dX12_keys_138 : decode cX12_keys 138 = .ok (.aload_n 0, 1) := by decide +kernel
theorem dX12_keys_139 : decode cX12_keys 139 = .ok (.iload 5, 2) := by decide +kernel
theorem dX12_keys_141 : decode cX12_keys 141 = .ok (.iload 6, 2) := by decide +kernel
theorem dX12_keys_143 : decode cX12_keys 143 = .ok (.invokevirtual 288, 3) := by decide +kernel
theorem dX12_keys_146 : decode cX12_keys 146 = .ok (.iinc 5 1, 3) := by decide +kernel
theorem dX12_keys_149 : decode cX12_keys 149 = .ok (.goto (-146), 3) := by decide +kernel
theorem dX12_keys_152 : decode cX12_keys 152 = .ok (.return_, 1) := by decide +kernel
theorem cd_keys : Cond.code yX12_keys cX12_keys 10 none ∈ lw_g := mt_at 2077 (by decide +kernel) rfl
theorem mw_keys : mCw 275 yX12_keys cX12_keys 10 none 4 := ⟨cd_keys, mt_at 2074 (by decide +kernel) rfl, in_M, by decide +kernel⟩
theorem im_keys : Cond.instanceMethod yX12_keys ∈ lw_g := mt_at 2076 (by decide +kernel) rfl
theorem sl_keys : Cond.selects RX12 yX12_keys yX12_keys ∈ lw_g := mt_sel 66 (by decide +kernel) rfl
section
variable {p : Program} {l : Launch} {e : Env} {R : Room} {s : State} {m : MethodId} {args : Array Value} {below : List Frame} {meth : Method} {c : Code} {cM : ClassId} {iS : Nat → Nat} {cI cZ : ClassId} {mo : Nat} {ad : Nat → Nat} {r : Int32} {S9 : mSt}
noncomputable def fm_keys_146 (g_3 : mSt → Int32 → Int32 → Int32 → Int32 → Int32 → Option (mSt)) (S : mSt) (v1 : Int32) (v2 : Int32) (v3 : Int32) (v4 : Int32) (v5 : Int32) : Option (mSt) :=
lt (v5 + (1 : Int32)) fun x1 =>
g_3 S v1 v2 v3 v4 x1
set_option maxRecDepth 100000 in
set_option maxHeartbeats 4000000 in
theorem wm_keys_146 (C : mY p R s m args meth c cX12_keys 10 2 42 none) (X : mX s cM iS cI cZ mo ad) {g_3 : mSt → Int32 → Int32 → Int32 → Int32 → Int32 → Option (mSt)} (hg_3 : ∀ {S : mSt} {v1 : Int32} {v2 : Int32} {v3 : Int32} {v4 : Int32} {v5 : Int32} {H : Heap} {locs : List Loc} {ls : Array Slot}, g_3 S v1 v2 v3 v4 v5 = some S9 → mW cM iS cI cZ mo ad S H → mS (mA mo ad) s.heap H locs → lv_has ls 10 [(0, .ref mo), (1, .int v1), (2, .int v2), (3, .int v3), (4, .int v4), (5, .int v5)] → W p l e R s m args below meth c H locs 0 0 (MQ below (mQw none cM iS cI cZ mo ad S9) args s 0 0 (mA mo ad)) (F0 m 3 ls [])) : ∀ {S : mSt} {v1 : Int32} {v2 : Int32} {v3 : Int32} {v4 : Int32} {v5 : Int32} {H : Heap} {locs : List Loc} {ls : Array Slot}, fm_keys_146 g_3 S v1 v2 v3 v4 v5 = some S9 → mW cM iS cI cZ mo ad S H → mS (mA mo ad) s.heap H locs → lv_has ls 10 [(0, .ref mo), (1, .int v1), (2, .int v2), (3, .int v3), (4, .int v4), (5, .int v5)] → W p l e R s m args below meth c H locs 0 0 (MQ below (mQw none cM iS cI cZ mo ad S9) args s 0 0 (mA mo ad)) (F0 m 146 ls []) := by
  intro S v1 v2 v3 v4 v5 H locs ls h hW hS hl
  unfold fm_keys_146 at h
  refine lt_ok h (fun x1 e_x1 h => ?_)
  refine lv_iinc (v := x1) (lv' := [(5, .int x1), (0, .ref mo), (1, .int v1), (2, .int v2), (3, .int v3), (4, .int v4)]) C.1 C.2.1 dX12_keys_146 hl (k := 5) rfl (by rw [← e_x1]; rfl) (by decide) rfl (fun ls hl => ?_)
  refine lv_goto (tgt := 3) C.1 C.2.1 dX12_keys_149 (by decide) ?_
  exact hg_3 h hW hS (lv_sub hl [1, 2, 3, 4, 5, 0] rfl)
noncomputable def fm_keys_114 (g_3 : mSt → Int32 → Int32 → Int32 → Int32 → Int32 → Option (mSt)) (g_16 : mSt → Int32 → Int32 → Int32 → Int32 → Int32 → Int32 → Int32 → Option (mSt)) (S : mSt) (v1 : Int32) (v2 : Int32) (v3 : Int32) (v4 : Int32) (v5 : Int32) (v6 : Int32) (v7 : Int32) : Option (mSt) :=
lt (v7 + (1 : Int32)) fun x1 =>
g_16 S v1 v2 v3 v4 v5 v6 x1
set_option maxRecDepth 100000 in
set_option maxHeartbeats 4000000 in
theorem wm_keys_114 (C : mY p R s m args meth c cX12_keys 10 2 42 none) (X : mX s cM iS cI cZ mo ad) {g_3 : mSt → Int32 → Int32 → Int32 → Int32 → Int32 → Option (mSt)} {g_16 : mSt → Int32 → Int32 → Int32 → Int32 → Int32 → Int32 → Int32 → Option (mSt)} (hg_3 : ∀ {S : mSt} {v1 : Int32} {v2 : Int32} {v3 : Int32} {v4 : Int32} {v5 : Int32} {H : Heap} {locs : List Loc} {ls : Array Slot}, g_3 S v1 v2 v3 v4 v5 = some S9 → mW cM iS cI cZ mo ad S H → mS (mA mo ad) s.heap H locs → lv_has ls 10 [(0, .ref mo), (1, .int v1), (2, .int v2), (3, .int v3), (4, .int v4), (5, .int v5)] → W p l e R s m args below meth c H locs 0 0 (MQ below (mQw none cM iS cI cZ mo ad S9) args s 0 0 (mA mo ad)) (F0 m 3 ls [])) (hg_16 : ∀ {S : mSt} {v1 : Int32} {v2 : Int32} {v3 : Int32} {v4 : Int32} {v5 : Int32} {v6 : Int32} {v7 : Int32} {H : Heap} {locs : List Loc} {ls : Array Slot}, g_16 S v1 v2 v3 v4 v5 v6 v7 = some S9 → mW cM iS cI cZ mo ad S H → mS (mA mo ad) s.heap H locs → lv_has ls 10 [(0, .ref mo), (1, .int v1), (2, .int v2), (3, .int v3), (4, .int v4), (5, .int v5), (6, .int v6), (7, .int v7)] → W p l e R s m args below meth c H locs 0 0 (MQ below (mQw none cM iS cI cZ mo ad S9) args s 0 0 (mA mo ad)) (F0 m 16 ls [])) : ∀ {S : mSt} {v1 : Int32} {v2 : Int32} {v3 : Int32} {v4 : Int32} {v5 : Int32} {v6 : Int32} {v7 : Int32} {H : Heap} {locs : List Loc} {ls : Array Slot}, fm_keys_114 g_3 g_16 S v1 v2 v3 v4 v5 v6 v7 = some S9 → mW cM iS cI cZ mo ad S H → mS (mA mo ad) s.heap H locs → lv_has ls 10 [(0, .ref mo), (1, .int v1), (2, .int v2), (3, .int v3), (4, .int v4), (5, .int v5), (6, .int v6), (7, .int v7)] → W p l e R s m args below meth c H locs 0 0 (MQ below (mQw none cM iS cI cZ mo ad S9) args s 0 0 (mA mo ad)) (F0 m 114 ls []) := by
  intro S v1 v2 v3 v4 v5 v6 v7 H locs ls h hW hS hl
  unfold fm_keys_114 at h
  refine lt_ok h (fun x1 e_x1 h => ?_)
  refine lv_iinc (v := x1) (lv' := [(7, .int x1), (0, .ref mo), (1, .int v1), (2, .int v2), (3, .int v3), (4, .int v4), (5, .int v5), (6, .int v6)]) C.1 C.2.1 dX12_keys_114 hl (k := 7) rfl (by rw [← e_x1]; rfl) (by decide) rfl (fun ls hl => ?_)
  refine lv_goto (tgt := 16) C.1 C.2.1 dX12_keys_117 (by decide) ?_
  exact hg_16 h hW hS (lv_sub hl [1, 2, 3, 4, 5, 6, 7, 0] rfl)
noncomputable def fm_keys_110 (g_3 : mSt → Int32 → Int32 → Int32 → Int32 → Int32 → Option (mSt)) (g_16 : mSt → Int32 → Int32 → Int32 → Int32 → Int32 → Int32 → Int32 → Option (mSt)) (S : mSt) (v1 : Int32) (v2 : Int32) (v3 : Int32) (v4 : Int32) (v5 : Int32) (v7 : Int32) (v8 : Int32) : Option (mSt) :=
fm_keys_114 g_3 g_16 S v1 v2 v3 v4 v5 v8 v7
set_option maxRecDepth 100000 in
set_option maxHeartbeats 4000000 in
theorem wm_keys_110 (C : mY p R s m args meth c cX12_keys 10 2 42 none) (X : mX s cM iS cI cZ mo ad) {g_3 : mSt → Int32 → Int32 → Int32 → Int32 → Int32 → Option (mSt)} {g_16 : mSt → Int32 → Int32 → Int32 → Int32 → Int32 → Int32 → Int32 → Option (mSt)} (hg_3 : ∀ {S : mSt} {v1 : Int32} {v2 : Int32} {v3 : Int32} {v4 : Int32} {v5 : Int32} {H : Heap} {locs : List Loc} {ls : Array Slot}, g_3 S v1 v2 v3 v4 v5 = some S9 → mW cM iS cI cZ mo ad S H → mS (mA mo ad) s.heap H locs → lv_has ls 10 [(0, .ref mo), (1, .int v1), (2, .int v2), (3, .int v3), (4, .int v4), (5, .int v5)] → W p l e R s m args below meth c H locs 0 0 (MQ below (mQw none cM iS cI cZ mo ad S9) args s 0 0 (mA mo ad)) (F0 m 3 ls [])) (hg_16 : ∀ {S : mSt} {v1 : Int32} {v2 : Int32} {v3 : Int32} {v4 : Int32} {v5 : Int32} {v6 : Int32} {v7 : Int32} {H : Heap} {locs : List Loc} {ls : Array Slot}, g_16 S v1 v2 v3 v4 v5 v6 v7 = some S9 → mW cM iS cI cZ mo ad S H → mS (mA mo ad) s.heap H locs → lv_has ls 10 [(0, .ref mo), (1, .int v1), (2, .int v2), (3, .int v3), (4, .int v4), (5, .int v5), (6, .int v6), (7, .int v7)] → W p l e R s m args below meth c H locs 0 0 (MQ below (mQw none cM iS cI cZ mo ad S9) args s 0 0 (mA mo ad)) (F0 m 16 ls [])) : ∀ {S : mSt} {v1 : Int32} {v2 : Int32} {v3 : Int32} {v4 : Int32} {v5 : Int32} {v7 : Int32} {v8 : Int32} {H : Heap} {locs : List Loc} {ls : Array Slot}, fm_keys_110 g_3 g_16 S v1 v2 v3 v4 v5 v7 v8 = some S9 → mW cM iS cI cZ mo ad S H → mS (mA mo ad) s.heap H locs → lv_has ls 10 [(0, .ref mo), (1, .int v1), (2, .int v2), (3, .int v3), (4, .int v4), (5, .int v5), (7, .int v7), (8, .int v8)] → W p l e R s m args below meth c H locs 0 0 (MQ below (mQw none cM iS cI cZ mo ad S9) args s 0 0 (mA mo ad)) (F0 m 110 ls []) := by
  intro S v1 v2 v3 v4 v5 v7 v8 H locs ls h hW hS hl
  unfold fm_keys_110 at h
  refine lv_iload C.1 C.2.1 dX12_keys_110 (lv_at hl 7 rfl) ?_
  refine lv_istore (lv' := [(6, .int v8), (0, .ref mo), (1, .int v1), (2, .int v2), (3, .int v3), (4, .int v4), (5, .int v5), (7, .int v7), (8, .int v8)]) C.1 C.2.1 dX12_keys_112 hl (by decide) rfl (fun ls hl => ?_)
  exact wm_keys_114 C X hg_3 hg_16 h hW hS (lv_sub hl [1, 2, 3, 4, 5, 6, 0, 7] rfl)
noncomputable def fm_keys_86 (g_3 : mSt → Int32 → Int32 → Int32 → Int32 → Int32 → Option (mSt)) (g_16 : mSt → Int32 → Int32 → Int32 → Int32 → Int32 → Int32 → Int32 → Option (mSt)) (S : mSt) (v1 : Int32) (v2 : Int32) (v3 : Int32) (v4 : Int32) (v5 : Int32) (v6 : Int32) (v7 : Int32) (v8 : Int32) (s0 : Int32) : Option (mSt) :=
if s0 = 0 then (
fm_keys_114 g_3 g_16 S v1 v2 v3 v4 v5 v6 v7)
else (
if v6 = (-1 : Int32) then (
fm_keys_110 g_3 g_16 S v1 v2 v3 v4 v5 v7 v8)
else (
bd (fm_isBefore S v6 v8) fun r3 =>
if r3 = 0 then (
fm_keys_114 g_3 g_16 S v1 v2 v3 v4 v5 v6 v7)
else (
fm_keys_110 g_3 g_16 S v1 v2 v3 v4 v5 v7 v8)))
set_option maxRecDepth 100000 in
set_option maxHeartbeats 4000000 in
theorem wm_keys_86 (C : mY p R s m args meth c cX12_keys 10 2 42 none) (X : mX s cM iS cI cZ mo ad) {g_3 : mSt → Int32 → Int32 → Int32 → Int32 → Int32 → Option (mSt)} {g_16 : mSt → Int32 → Int32 → Int32 → Int32 → Int32 → Int32 → Int32 → Option (mSt)} (hg_3 : ∀ {S : mSt} {v1 : Int32} {v2 : Int32} {v3 : Int32} {v4 : Int32} {v5 : Int32} {H : Heap} {locs : List Loc} {ls : Array Slot}, g_3 S v1 v2 v3 v4 v5 = some S9 → mW cM iS cI cZ mo ad S H → mS (mA mo ad) s.heap H locs → lv_has ls 10 [(0, .ref mo), (1, .int v1), (2, .int v2), (3, .int v3), (4, .int v4), (5, .int v5)] → W p l e R s m args below meth c H locs 0 0 (MQ below (mQw none cM iS cI cZ mo ad S9) args s 0 0 (mA mo ad)) (F0 m 3 ls [])) (hg_16 : ∀ {S : mSt} {v1 : Int32} {v2 : Int32} {v3 : Int32} {v4 : Int32} {v5 : Int32} {v6 : Int32} {v7 : Int32} {H : Heap} {locs : List Loc} {ls : Array Slot}, g_16 S v1 v2 v3 v4 v5 v6 v7 = some S9 → mW cM iS cI cZ mo ad S H → mS (mA mo ad) s.heap H locs → lv_has ls 10 [(0, .ref mo), (1, .int v1), (2, .int v2), (3, .int v3), (4, .int v4), (5, .int v5), (6, .int v6), (7, .int v7)] → W p l e R s m args below meth c H locs 0 0 (MQ below (mQw none cM iS cI cZ mo ad S9) args s 0 0 (mA mo ad)) (F0 m 16 ls [])) : ∀ {S : mSt} {v1 : Int32} {v2 : Int32} {v3 : Int32} {v4 : Int32} {v5 : Int32} {v6 : Int32} {v7 : Int32} {v8 : Int32} {s0 : Int32} {H : Heap} {locs : List Loc} {ls : Array Slot}, fm_keys_86 g_3 g_16 S v1 v2 v3 v4 v5 v6 v7 v8 s0 = some S9 → mW cM iS cI cZ mo ad S H → mS (mA mo ad) s.heap H locs → lv_has ls 10 [(0, .ref mo), (1, .int v1), (2, .int v2), (3, .int v3), (4, .int v4), (5, .int v5), (6, .int v6), (7, .int v7), (8, .int v8)] → W p l e R s m args below meth c H locs 0 0 (MQ below (mQw none cM iS cI cZ mo ad S9) args s 0 0 (mA mo ad)) (F0 m 86 ls [.int s0]) := by
  intro S v1 v2 v3 v4 v5 v6 v7 v8 s0 H locs ls h hW hS hl
  unfold fm_keys_86 at h
  refine lv_istore (lv' := [(9, .int s0), (0, .ref mo), (1, .int v1), (2, .int v2), (3, .int v3), (4, .int v4), (5, .int v5), (6, .int v6), (7, .int v7), (8, .int v8)]) C.1 C.2.1 dX12_keys_86 hl (by decide) rfl (fun ls hl => ?_)
  refine lv_iload C.1 C.2.1 dX12_keys_88 (lv_at hl 0 rfl) ?_
  refine lv_if_eq (tgt := 114) C.1 C.2.1 dX12_keys_90 (by decide) (fun c1 => ?_) (fun c1 => ?_)
  · have h := if_t h c1
    exact wm_keys_114 C X hg_3 hg_16 h hW hS (lv_sub hl [1, 2, 3, 4, 5, 6, 7, 8] rfl)
  · have h := if_f h c1
    refine lv_iload C.1 C.2.1 dX12_keys_93 (lv_at hl 7 rfl) ?_
    refine lv_iconst (v := -1) C.1 C.2.1 dX12_keys_95 (by decide) ?_
    refine lv_icmp_eq (tgt := 110) C.1 C.2.1 dX12_keys_96 (by decide) (fun c2 => ?_) (fun c2 => ?_)
    · have h := if_t h c2
      exact wm_keys_110 C X hg_3 hg_16 h hW hS (lv_sub hl [1, 2, 3, 4, 5, 6, 8, 9] rfl)
    · have h := if_f h c2
      refine lv_aload_n C.1 C.2.1 dX12_keys_99 rfl (lv_at hl 1 rfl) ?_
      refine lv_iload C.1 C.2.1 dX12_keys_100 (lv_at hl 7 rfl) ?_
      refine lv_iload C.1 C.2.1 dX12_keys_102 (lv_at hl 9 rfl) ?_
      obtain ⟨r3, h_r3, h⟩ := bd_ok h
      refine m_callR (rest := []) C X hW hl.1 [.int v6, .int v8] (tm_isBefore l h_r3) mw_isBefore im_isBefore sl_isBefore rfl ⟨by decide, by decide⟩ rfl (Nat.le_of_ble_eq_true rfl) dX12_keys_104 ?_
      refine lv_if_eq (tgt := 114) C.1 C.2.1 dX12_keys_107 (by decide) (fun c4 => ?_) (fun c4 => ?_)
      · have h := if_t h c4
        exact wm_keys_114 C X hg_3 hg_16 h hW hS (lv_sub hl [1, 2, 3, 4, 5, 6, 7, 8] rfl)
      · have h := if_f h c4
        exact wm_keys_110 C X hg_3 hg_16 h hW hS (lv_sub hl [1, 2, 3, 4, 5, 6, 8, 9] rfl)
noncomputable def fm_keys_85 (g_3 : mSt → Int32 → Int32 → Int32 → Int32 → Int32 → Option (mSt)) (g_16 : mSt → Int32 → Int32 → Int32 → Int32 → Int32 → Int32 → Int32 → Option (mSt)) (S : mSt) (v1 : Int32) (v2 : Int32) (v3 : Int32) (v4 : Int32) (v5 : Int32) (v6 : Int32) (v7 : Int32) (v8 : Int32) : Option (mSt) :=
fm_keys_86 g_3 g_16 S v1 v2 v3 v4 v5 v6 v7 v8 (0 : Int32)
set_option maxRecDepth 100000 in
set_option maxHeartbeats 4000000 in
theorem wm_keys_85 (C : mY p R s m args meth c cX12_keys 10 2 42 none) (X : mX s cM iS cI cZ mo ad) {g_3 : mSt → Int32 → Int32 → Int32 → Int32 → Int32 → Option (mSt)} {g_16 : mSt → Int32 → Int32 → Int32 → Int32 → Int32 → Int32 → Int32 → Option (mSt)} (hg_3 : ∀ {S : mSt} {v1 : Int32} {v2 : Int32} {v3 : Int32} {v4 : Int32} {v5 : Int32} {H : Heap} {locs : List Loc} {ls : Array Slot}, g_3 S v1 v2 v3 v4 v5 = some S9 → mW cM iS cI cZ mo ad S H → mS (mA mo ad) s.heap H locs → lv_has ls 10 [(0, .ref mo), (1, .int v1), (2, .int v2), (3, .int v3), (4, .int v4), (5, .int v5)] → W p l e R s m args below meth c H locs 0 0 (MQ below (mQw none cM iS cI cZ mo ad S9) args s 0 0 (mA mo ad)) (F0 m 3 ls [])) (hg_16 : ∀ {S : mSt} {v1 : Int32} {v2 : Int32} {v3 : Int32} {v4 : Int32} {v5 : Int32} {v6 : Int32} {v7 : Int32} {H : Heap} {locs : List Loc} {ls : Array Slot}, g_16 S v1 v2 v3 v4 v5 v6 v7 = some S9 → mW cM iS cI cZ mo ad S H → mS (mA mo ad) s.heap H locs → lv_has ls 10 [(0, .ref mo), (1, .int v1), (2, .int v2), (3, .int v3), (4, .int v4), (5, .int v5), (6, .int v6), (7, .int v7)] → W p l e R s m args below meth c H locs 0 0 (MQ below (mQw none cM iS cI cZ mo ad S9) args s 0 0 (mA mo ad)) (F0 m 16 ls [])) : ∀ {S : mSt} {v1 : Int32} {v2 : Int32} {v3 : Int32} {v4 : Int32} {v5 : Int32} {v6 : Int32} {v7 : Int32} {v8 : Int32} {H : Heap} {locs : List Loc} {ls : Array Slot}, fm_keys_85 g_3 g_16 S v1 v2 v3 v4 v5 v6 v7 v8 = some S9 → mW cM iS cI cZ mo ad S H → mS (mA mo ad) s.heap H locs → lv_has ls 10 [(0, .ref mo), (1, .int v1), (2, .int v2), (3, .int v3), (4, .int v4), (5, .int v5), (6, .int v6), (7, .int v7), (8, .int v8)] → W p l e R s m args below meth c H locs 0 0 (MQ below (mQw none cM iS cI cZ mo ad S9) args s 0 0 (mA mo ad)) (F0 m 85 ls []) := by
  intro S v1 v2 v3 v4 v5 v6 v7 v8 H locs ls h hW hS hl
  unfold fm_keys_85 at h
  refine lv_iconst (v := 0) C.1 C.2.1 dX12_keys_85 (by decide) ?_
  exact wm_keys_86 C X hg_3 hg_16 h hW hS (lv_sub hl [0, 1, 2, 3, 4, 5, 6, 7, 8] rfl)
noncomputable def fm_keys_59 (g_3 : mSt → Int32 → Int32 → Int32 → Int32 → Int32 → Option (mSt)) (g_16 : mSt → Int32 → Int32 → Int32 → Int32 → Int32 → Int32 → Int32 → Option (mSt)) (S : mSt) (v1 : Int32) (v2 : Int32) (v3 : Int32) (v4 : Int32) (v5 : Int32) (v6 : Int32) (v7 : Int32) (v8 : Int32) : Option (mSt) :=
ck v8 1000 (
if (rd S 12 v8) = v5 then (
ck v8 1000 (
if (rd S 47 v8) = 0 then (
fm_keys_85 g_3 g_16 S v1 v2 v3 v4 v5 v6 v7 v8)
else (
fm_keys_86 g_3 g_16 S v1 v2 v3 v4 v5 v6 v7 v8 (1 : Int32))))
else (
fm_keys_85 g_3 g_16 S v1 v2 v3 v4 v5 v6 v7 v8))
set_option maxRecDepth 100000 in
set_option maxHeartbeats 4000000 in
theorem wm_keys_59 (C : mY p R s m args meth c cX12_keys 10 2 42 none) (X : mX s cM iS cI cZ mo ad) {g_3 : mSt → Int32 → Int32 → Int32 → Int32 → Int32 → Option (mSt)} {g_16 : mSt → Int32 → Int32 → Int32 → Int32 → Int32 → Int32 → Int32 → Option (mSt)} (hg_3 : ∀ {S : mSt} {v1 : Int32} {v2 : Int32} {v3 : Int32} {v4 : Int32} {v5 : Int32} {H : Heap} {locs : List Loc} {ls : Array Slot}, g_3 S v1 v2 v3 v4 v5 = some S9 → mW cM iS cI cZ mo ad S H → mS (mA mo ad) s.heap H locs → lv_has ls 10 [(0, .ref mo), (1, .int v1), (2, .int v2), (3, .int v3), (4, .int v4), (5, .int v5)] → W p l e R s m args below meth c H locs 0 0 (MQ below (mQw none cM iS cI cZ mo ad S9) args s 0 0 (mA mo ad)) (F0 m 3 ls [])) (hg_16 : ∀ {S : mSt} {v1 : Int32} {v2 : Int32} {v3 : Int32} {v4 : Int32} {v5 : Int32} {v6 : Int32} {v7 : Int32} {H : Heap} {locs : List Loc} {ls : Array Slot}, g_16 S v1 v2 v3 v4 v5 v6 v7 = some S9 → mW cM iS cI cZ mo ad S H → mS (mA mo ad) s.heap H locs → lv_has ls 10 [(0, .ref mo), (1, .int v1), (2, .int v2), (3, .int v3), (4, .int v4), (5, .int v5), (6, .int v6), (7, .int v7)] → W p l e R s m args below meth c H locs 0 0 (MQ below (mQw none cM iS cI cZ mo ad S9) args s 0 0 (mA mo ad)) (F0 m 16 ls [])) : ∀ {S : mSt} {v1 : Int32} {v2 : Int32} {v3 : Int32} {v4 : Int32} {v5 : Int32} {v6 : Int32} {v7 : Int32} {v8 : Int32} {H : Heap} {locs : List Loc} {ls : Array Slot}, fm_keys_59 g_3 g_16 S v1 v2 v3 v4 v5 v6 v7 v8 = some S9 → mW cM iS cI cZ mo ad S H → mS (mA mo ad) s.heap H locs → lv_has ls 10 [(0, .ref mo), (1, .int v1), (2, .int v2), (3, .int v3), (4, .int v4), (5, .int v5), (6, .int v6), (7, .int v7), (8, .int v8)] → W p l e R s m args below meth c H locs 0 0 (MQ below (mQw none cM iS cI cZ mo ad S9) args s 0 0 (mA mo ad)) (F0 m 59 ls []) := by
  intro S v1 v2 v3 v4 v5 v6 v7 v8 H locs ls h hW hS hl
  unfold fm_keys_59 at h
  refine lv_aload_n C.1 C.2.1 dX12_keys_59 rfl (lv_at hl 0 rfl) ?_
  refine gf_12 C X hW dX12_keys_60 ?_
  refine lv_iload C.1 C.2.1 dX12_keys_63 (lv_at hl 8 rfl) ?_
  obtain ⟨hin, h⟩ := ck_ok h
  refine l_12 C X hW hin dX12_keys_65 ?_
  refine lv_iload C.1 C.2.1 dX12_keys_66 (lv_at hl 5 rfl) ?_
  refine lv_icmp_ne (tgt := 85) C.1 C.2.1 dX12_keys_68 (by decide) (fun c1 => ?_) (fun c1 => ?_)
  · have h := if_f h c1
    exact wm_keys_85 C X hg_3 hg_16 h hW hS (lv_sub hl [0, 1, 2, 3, 4, 5, 6, 7, 8] rfl)
  · have h := if_t h c1
    refine lv_aload_n C.1 C.2.1 dX12_keys_71 rfl (lv_at hl 0 rfl) ?_
    refine gf_47 C X hW dX12_keys_72 ?_
    refine lv_iload C.1 C.2.1 dX12_keys_75 (lv_at hl 8 rfl) ?_
    obtain ⟨hin, h⟩ := ck_ok h
    refine l_47 C X hW hin dX12_keys_77 ?_
    refine lv_if_eq (tgt := 85) C.1 C.2.1 dX12_keys_78 (by decide) (fun c2 => ?_) (fun c2 => ?_)
    · have h := if_t h c2
      exact wm_keys_85 C X hg_3 hg_16 h hW hS (lv_sub hl [0, 1, 2, 3, 4, 5, 6, 7, 8] rfl)
    · have h := if_f h c2
      refine lv_iconst (v := 1) C.1 C.2.1 dX12_keys_81 (by decide) ?_
      refine lv_goto (tgt := 86) C.1 C.2.1 dX12_keys_82 (by decide) ?_
      exact wm_keys_86 C X hg_3 hg_16 h hW hS (lv_sub hl [0, 1, 2, 3, 4, 5, 6, 7, 8] rfl)
noncomputable def fm_keys_16 (g_3 : mSt → Int32 → Int32 → Int32 → Int32 → Int32 → Option (mSt)) : Nat → mSt → Int32 → Int32 → Int32 → Int32 → Int32 → Int32 → Int32 → Option (mSt)
  | 0, _, _, _, _, _, _, _, _ => none
  | n + 1, S, v1, v2, v3, v4, v5, v6, v7 =>
    if v2 ≤ v7 then (
    if v6 = (-1 : Int32) then (
    fm_keys_146 g_3 S v1 v2 v3 v4 v5)
    else (
    ck v6 1000 (
    if (rd S 9 v6) = (15 : Int32) then (
    bd (fm_put S v5 v6) fun S4 =>
    fm_keys_146 g_3 S4 v1 v2 v3 v4 v5)
    else (
    fm_keys_146 g_3 S v1 v2 v3 v4 v5))))
    else (
    bd (fm_rowAt S v1 v7) fun r5 =>
    bd (fm_isOf S r5 (15 : Int32) v3 v4) fun r6 =>
    if r6 = 0 then (
    bd (fm_isOf S r5 (16 : Int32) v3 v4) fun r8 =>
    if r8 = 0 then (
    fm_keys_85 g_3 (fm_keys_16 g_3 n) S v1 v2 v3 v4 v5 v6 v7 r5)
    else (
    fm_keys_59 g_3 (fm_keys_16 g_3 n) S v1 v2 v3 v4 v5 v6 v7 r5))
    else (
    fm_keys_59 g_3 (fm_keys_16 g_3 n) S v1 v2 v3 v4 v5 v6 v7 r5))
set_option maxRecDepth 100000 in
set_option maxHeartbeats 4000000 in
theorem wm_keys_16 (C : mY p R s m args meth c cX12_keys 10 2 42 none) (X : mX s cM iS cI cZ mo ad) {g_3 : mSt → Int32 → Int32 → Int32 → Int32 → Int32 → Option (mSt)} (hg_3 : ∀ {S : mSt} {v1 : Int32} {v2 : Int32} {v3 : Int32} {v4 : Int32} {v5 : Int32} {H : Heap} {locs : List Loc} {ls : Array Slot}, g_3 S v1 v2 v3 v4 v5 = some S9 → mW cM iS cI cZ mo ad S H → mS (mA mo ad) s.heap H locs → lv_has ls 10 [(0, .ref mo), (1, .int v1), (2, .int v2), (3, .int v3), (4, .int v4), (5, .int v5)] → W p l e R s m args below meth c H locs 0 0 (MQ below (mQw none cM iS cI cZ mo ad S9) args s 0 0 (mA mo ad)) (F0 m 3 ls [])) : ∀ (n : Nat), ∀ {S : mSt} {v1 : Int32} {v2 : Int32} {v3 : Int32} {v4 : Int32} {v5 : Int32} {v6 : Int32} {v7 : Int32} {H : Heap} {locs : List Loc} {ls : Array Slot}, fm_keys_16 g_3 n S v1 v2 v3 v4 v5 v6 v7 = some S9 → mW cM iS cI cZ mo ad S H → mS (mA mo ad) s.heap H locs → lv_has ls 10 [(0, .ref mo), (1, .int v1), (2, .int v2), (3, .int v3), (4, .int v4), (5, .int v5), (6, .int v6), (7, .int v7)] → W p l e R s m args below meth c H locs 0 0 (MQ below (mQw none cM iS cI cZ mo ad S9) args s 0 0 (mA mo ad)) (F0 m 16 ls []) := by
  intro n
  induction n with
  | zero =>
    intro S v1 v2 v3 v4 v5 v6 v7 H locs ls h hW hS hl
    exact absurd (show (none : Option (mSt)) = _ from h) (fun q => by cases q)
  | succ n ih =>
    intro S v1 v2 v3 v4 v5 v6 v7 H locs ls h hW hS hl
    rw [fm_keys_16] at h
    refine lv_iload C.1 C.2.1 dX12_keys_16 (lv_at hl 7 rfl) ?_
    refine lv_iload_n C.1 C.2.1 dX12_keys_18 rfl (lv_at hl 2 rfl) ?_
    refine lv_icmp_ge (tgt := 120) C.1 C.2.1 dX12_keys_19 (by decide) (fun c1 => ?_) (fun c1 => ?_)
    · have h := if_t h c1
      refine lv_iload C.1 C.2.1 dX12_keys_120 (lv_at hl 6 rfl) ?_
      refine lv_iconst (v := -1) C.1 C.2.1 dX12_keys_122 (by decide) ?_
      refine lv_icmp_eq (tgt := 146) C.1 C.2.1 dX12_keys_123 (by decide) (fun c2 => ?_) (fun c2 => ?_)
      · have h := if_t h c2
        exact wm_keys_146 C X hg_3 h hW hS (lv_sub hl [0, 1, 2, 3, 4, 5] rfl)
      · have h := if_f h c2
        refine lv_aload_n C.1 C.2.1 dX12_keys_126 rfl (lv_at hl 0 rfl) ?_
        refine gf_9 C X hW dX12_keys_127 ?_
        refine lv_iload C.1 C.2.1 dX12_keys_130 (lv_at hl 6 rfl) ?_
        obtain ⟨hin, h⟩ := ck_ok h
        refine l_9 C X hW hin dX12_keys_132 ?_
        refine lv_bipush (v := 15) C.1 C.2.1 dX12_keys_133 (by decide) ?_
        refine lv_icmp_ne (tgt := 146) C.1 C.2.1 dX12_keys_135 (by decide) (fun c3 => ?_) (fun c3 => ?_)
        · have h := if_f h c3
          exact wm_keys_146 C X hg_3 h hW hS (lv_sub hl [0, 1, 2, 3, 4, 5] rfl)
        · have h := if_t h c3
          refine lv_aload_n C.1 C.2.1 dX12_keys_138 rfl (lv_at hl 0 rfl) ?_
          refine lv_iload C.1 C.2.1 dX12_keys_139 (lv_at hl 5 rfl) ?_
          refine lv_iload C.1 C.2.1 dX12_keys_141 (lv_at hl 6 rfl) ?_
          obtain ⟨S4, h_S4, h⟩ := bd_ok h
          refine m_callW (rest := []) (ov := none) C X hW hS hl.1 [.int v5, .int v6] (tm_put l h_S4) mw_put im_put sl_put rfl ⟨by decide, by decide⟩ rfl (Nat.le_of_ble_eq_true rfl) dX12_keys_143 (fun H locs hW hS => ?_)
          refine W.eq (g2 := F0 m 146 ls []) rfl ?_
          exact wm_keys_146 C X hg_3 h hW hS (lv_sub hl [0, 1, 2, 3, 4, 5] rfl)
    · have h := if_f h c1
      refine lv_aload_n C.1 C.2.1 dX12_keys_22 rfl (lv_at hl 0 rfl) ?_
      refine lv_iload_n C.1 C.2.1 dX12_keys_23 rfl (lv_at hl 1 rfl) ?_
      refine lv_iload C.1 C.2.1 dX12_keys_24 (lv_at hl 7 rfl) ?_
      obtain ⟨r5, h_r5, h⟩ := bd_ok h
      refine m_callR (rest := []) C X hW hl.1 [.int v1, .int v7] (tm_rowAt l h_r5) mw_rowAt im_rowAt sl_rowAt rfl ⟨by decide, by decide⟩ rfl (Nat.le_of_ble_eq_true rfl) dX12_keys_26 ?_
      refine lv_istore (lv' := [(8, .int r5), (0, .ref mo), (1, .int v1), (2, .int v2), (3, .int v3), (4, .int v4), (5, .int v5), (6, .int v6), (7, .int v7)]) C.1 C.2.1 dX12_keys_29 hl (by decide) rfl (fun ls hl => ?_)
      refine lv_aload_n C.1 C.2.1 dX12_keys_31 rfl (lv_at hl 1 rfl) ?_
      refine lv_iload C.1 C.2.1 dX12_keys_32 (lv_at hl 0 rfl) ?_
      refine lv_bipush (v := 15) C.1 C.2.1 dX12_keys_34 (by decide) ?_
      refine lv_iload_n C.1 C.2.1 dX12_keys_36 rfl (lv_at hl 4 rfl) ?_
      refine lv_iload C.1 C.2.1 dX12_keys_37 (lv_at hl 5 rfl) ?_
      obtain ⟨r6, h_r6, h⟩ := bd_ok h
      refine m_callR (rest := []) C X hW hl.1 [.int r5, .int (15 : Int32), .int v3, .int v4] (tm_isOf l h_r6) mw_isOf im_isOf sl_isOf rfl ⟨by decide, by decide⟩ rfl (Nat.le_of_ble_eq_true rfl) dX12_keys_39 ?_
      refine lv_if_ne (tgt := 59) C.1 C.2.1 dX12_keys_42 (by decide) (fun c7 => ?_) (fun c7 => ?_)
      · have h := if_f h c7
        exact wm_keys_59 C X hg_3 ih h hW hS (lv_sub hl [1, 2, 3, 4, 5, 6, 7, 8, 0] rfl)
      · have h := if_t h c7
        refine lv_aload_n C.1 C.2.1 dX12_keys_45 rfl (lv_at hl 1 rfl) ?_
        refine lv_iload C.1 C.2.1 dX12_keys_46 (lv_at hl 0 rfl) ?_
        refine lv_bipush (v := 16) C.1 C.2.1 dX12_keys_48 (by decide) ?_
        refine lv_iload_n C.1 C.2.1 dX12_keys_50 rfl (lv_at hl 4 rfl) ?_
        refine lv_iload C.1 C.2.1 dX12_keys_51 (lv_at hl 5 rfl) ?_
        obtain ⟨r8, h_r8, h⟩ := bd_ok h
        refine m_callR (rest := []) C X hW hl.1 [.int r5, .int (16 : Int32), .int v3, .int v4] (tm_isOf l h_r8) mw_isOf im_isOf sl_isOf rfl ⟨by decide, by decide⟩ rfl (Nat.le_of_ble_eq_true rfl) dX12_keys_53 ?_
        refine lv_if_eq (tgt := 85) C.1 C.2.1 dX12_keys_56 (by decide) (fun c9 => ?_) (fun c9 => ?_)
        · have h := if_t h c9
          exact wm_keys_85 C X hg_3 ih h hW hS (lv_sub hl [1, 2, 3, 4, 5, 6, 7, 8, 0] rfl)
        · have h := if_f h c9
          exact wm_keys_59 C X hg_3 ih h hW hS (lv_sub hl [1, 2, 3, 4, 5, 6, 7, 8, 0] rfl)
noncomputable def fm_keys_3 : Nat → mSt → Int32 → Int32 → Int32 → Int32 → Int32 → Option (mSt)
  | 0, _, _, _, _, _, _ => none
  | n + 1, S, v1, v2, v3, v4, v5 =>
    if (64 : Int32) ≤ v5 then (
    some S)
    else (
    fm_keys_16 (fm_keys_3 n) mFU S v1 v2 v3 v4 v5 (-1 : Int32) (0 : Int32))
set_option maxRecDepth 100000 in
set_option maxHeartbeats 4000000 in
theorem wm_keys_3 (C : mY p R s m args meth c cX12_keys 10 2 42 none) (X : mX s cM iS cI cZ mo ad) : ∀ (n : Nat), ∀ {S : mSt} {v1 : Int32} {v2 : Int32} {v3 : Int32} {v4 : Int32} {v5 : Int32} {H : Heap} {locs : List Loc} {ls : Array Slot}, fm_keys_3 n S v1 v2 v3 v4 v5 = some S9 → mW cM iS cI cZ mo ad S H → mS (mA mo ad) s.heap H locs → lv_has ls 10 [(0, .ref mo), (1, .int v1), (2, .int v2), (3, .int v3), (4, .int v4), (5, .int v5)] → W p l e R s m args below meth c H locs 0 0 (MQ below (mQw none cM iS cI cZ mo ad S9) args s 0 0 (mA mo ad)) (F0 m 3 ls []) := by
  intro n
  induction n with
  | zero =>
    intro S v1 v2 v3 v4 v5 H locs ls h hW hS hl
    exact absurd (show (none : Option (mSt)) = _ from h) (fun q => by cases q)
  | succ n ih =>
    intro S v1 v2 v3 v4 v5 H locs ls h hW hS hl
    rw [fm_keys_3] at h
    refine lv_iload C.1 C.2.1 dX12_keys_3 (lv_at hl 5 rfl) ?_
    refine lv_bipush (v := 64) C.1 C.2.1 dX12_keys_5 (by decide) ?_
    refine lv_icmp_ge (tgt := 152) C.1 C.2.1 dX12_keys_7 (by decide) (fun c1 => ?_) (fun c1 => ?_)
    · have h := if_t h c1
      cases h
      exact m_retvW C hW hS dX12_keys_152
    · have h := if_f h c1
      refine lv_iconst (v := -1) C.1 C.2.1 dX12_keys_10 (by decide) ?_
      refine lv_istore (lv' := [(6, .int (-1 : Int32)), (0, .ref mo), (1, .int v1), (2, .int v2), (3, .int v3), (4, .int v4), (5, .int v5)]) C.1 C.2.1 dX12_keys_11 hl (by decide) rfl (fun ls hl => ?_)
      refine lv_iconst (v := 0) C.1 C.2.1 dX12_keys_13 (by decide) ?_
      refine lv_istore (lv' := [(7, .int (0 : Int32)), (6, .int (-1 : Int32)), (0, .ref mo), (1, .int v1), (2, .int v2), (3, .int v3), (4, .int v4), (5, .int v5)]) C.1 C.2.1 dX12_keys_14 hl (by decide) rfl (fun ls hl => ?_)
      exact wm_keys_16 C X ih mFU h hW hS (lv_sub hl [2, 3, 4, 5, 6, 7, 1, 0] rfl)
noncomputable def fm_keys (S : mSt) (v1 : Int32) (v2 : Int32) (v3 : Int32) (v4 : Int32) : Option (mSt) :=
fm_keys_3 mFU S v1 v2 v3 v4 (0 : Int32)
set_option maxRecDepth 100000 in
set_option maxHeartbeats 4000000 in
theorem tm_keys (l : Launch) {cM : ClassId} {iS : Nat → Nat} {cI cZ : ClassId} {mo : Nat} {ad : Nat → Nat} {S : mSt} {v1 : Int32} {v2 : Int32} {v3 : Int32} {v4 : Int32} {S9 : mSt} (h : fm_keys S v1 v2 v3 v4 = some S9) : Met l yX12_keys (Cond.code yX12_keys cX12_keys 10 none :: lw_g) { frames := 2, cells := 0, slots := 0, locals := 42 } (mPi [.int v1, .int v2, .int v3, .int v4] cM iS cI cZ mo ad S) (mQw none cM iS cI cZ mo ad S9) 0 0 (mA mo ad) := by
  refine Met.ofW (cc := cX12_keys) (maxL := 10) (ret := none) (by decide) rfl ?_
  intro p e s m args below meth c s₁ B hml hv
  obtain ⟨rfl, hW, X⟩ := hv
  have C : mY p (headSpec (Cond.code yX12_keys cX12_keys 10 none :: lw_g) { frames := 2, cells := 0, slots := 0, locals := 42 }).room s m _ meth c cX12_keys 10 2 42 none := ⟨B.exec, B.bytes, hml, findClass_of_methodNamed B.named, fun w hw => atoms_spec (ws := Cond.code yX12_keys cX12_keys 10 none :: lw_g) B.pre w (List.mem_cons_of_mem _ hw), ⟨Nat.le_refl _, Nat.le_refl _⟩, B.returns, B.notSynchronized⟩
  have hl := lv_entry ([.ref mo, .int v1, .int v2, .int v3, .int v4]) (n := 10) (Nat.le_of_ble_eq_true rfl)
  rw [lg_entry_eq]
  generalize (lg_sl ([.ref mo, .int v1, .int v2, .int v3, .int v4]) ++ List.replicate (10 - (lg_sl ([.ref mo, .int v1, .int v2, .int v3, .int v4])).length) Slot.unset).toArray = ls at hl ⊢
  have hl : lv_has ls 10 [(0, .ref mo), (1, .int v1), (2, .int v2), (3, .int v3), (4, .int v4)] := hl
  have hS : mS (mA mo ad) s.heap s.heap [] := mS.rf
  unfold fm_keys at h
  refine lv_iconst (v := 0) C.1 C.2.1 dX12_keys_0 (by decide) ?_
  refine lv_istore (lv' := [(5, .int (0 : Int32)), (0, .ref mo), (1, .int v1), (2, .int v2), (3, .int v3), (4, .int v4)]) C.1 C.2.1 dX12_keys_1 hl (by decide) rfl (fun ls hl => ?_)
  exact wm_keys_3 C X mFU h hW hS (lv_sub hl [1, 2, 3, 4, 5, 0] rfl)
end
theorem dX12_latest_0 : decode cX12_latest 0 = .ok (.iconst (-1), 1) := by decide +kernel
theorem dX12_latest_1 : decode cX12_latest 1 = .ok (.istore 5, 2) := by decide +kernel
theorem dX12_latest_3 : decode cX12_latest 3 = .ok (.iconst 0, 1) := by decide +kernel
theorem dX12_latest_4 : decode cX12_latest 4 = .ok (.istore 6, 2) := by decide +kernel
theorem dX12_latest_6 : decode cX12_latest 6 = .ok (.iload 6, 2) := by decide +kernel
theorem dX12_latest_8 : decode cX12_latest 8 = .ok (.iload_n 2, 1) := by decide +kernel
theorem dX12_latest_9 : decode cX12_latest 9 = .ok (.if_icmp .ge 62, 3) := by decide +kernel
theorem dX12_latest_12 : decode cX12_latest 12 = .ok (.aload_n 0, 1) := by decide +kernel
theorem dX12_latest_13 : decode cX12_latest 13 = .ok (.iload_n 1, 1) := by decide +kernel
theorem dX12_latest_14 : decode cX12_latest 14 = .ok (.iload 6, 2) := by decide +kernel
theorem dX12_latest_16 : decode cX12_latest 16 = .ok (.invokevirtual 230, 3) := by decide +kernel
theorem dX12_latest_19 : decode cX12_latest 19 = .ok (.istore 7, 2) := by decide +kernel
theorem dX12_latest_21 : decode cX12_latest 21 = .ok (.aload_n 0, 1) := by decide +kernel
theorem dX12_latest_22 : decode cX12_latest 22 = .ok (.iload 7, 2) := by decide +kernel
theorem dX12_latest_24 : decode cX12_latest 24 = .ok (.iconst 1, 1) := by decide +kernel
theorem dX12_latest_25 : decode cX12_latest 25 = .ok (.iload_n 3, 1) := by decide +kernel
theorem dX12_latest_26 : decode cX12_latest 26 = .ok (.iload 4, 2) := by decide +kernel
theorem dX12_latest_28 : decode cX12_latest 28 = .ok (.invokevirtual 281, 3) := by decide +kernel
theorem dX12_latest_31 : decode cX12_latest 31 = .ok (.ifCond .eq 34, 3) := by decide +kernel
theorem dX12_latest_34 : decode cX12_latest 34 = .ok (.aload_n 0, 1) := by decide +kernel
theorem dX12_latest_35 : decode cX12_latest 35 = .ok (.getfield 133, 3) := by decide +kernel
theorem dX12_latest_38 : decode cX12_latest 38 = .ok (.iload 7, 2) := by decide +kernel
theorem dX12_latest_40 : decode cX12_latest 40 = .ok (.baload, 1) := by decide +kernel
theorem dX12_latest_41 : decode cX12_latest 41 = .ok (.ifCond .eq 24, 3) := by decide +kernel
theorem dX12_latest_44 : decode cX12_latest 44 = .ok (.iload 5, 2) := by decide +kernel
theorem dX12_latest_46 : decode cX12_latest 46 = .ok (.iconst (-1), 1) := by decide +kernel
theorem dX12_latest_47 : decode cX12_latest 47 = .ok (.if_icmp .eq 14, 3) := by decide +kernel
theorem dX12_latest_50 : decode cX12_latest 50 = .ok (.aload_n 0, 1) := by decide +kernel
theorem dX12_latest_51 : decode cX12_latest 51 = .ok (.iload 5, 2) := by decide +kernel
theorem dX12_latest_53 : decode cX12_latest 53 = .ok (.iload 7, 2) := by decide +kernel
theorem dX12_latest_55 : decode cX12_latest 55 = .ok (.invokevirtual 285, 3) := by decide +kernel
theorem dX12_latest_58 : decode cX12_latest 58 = .ok (.ifCond .eq 7, 3) := by decide +kernel
theorem dX12_latest_61 : decode cX12_latest 61 = .ok (.iload 7, 2) := by decide +kernel
theorem dX12_latest_63 : decode cX12_latest 63 = .ok (.istore 5, 2) := by decide +kernel
theorem dX12_latest_65 : decode cX12_latest 65 = .ok (.iinc 6 1, 3) := by decide +kernel
theorem dX12_latest_68 : decode cX12_latest 68 = .ok (.goto (-62), 3) := by decide +kernel
theorem dX12_latest_71 : decode cX12_latest 71 = .ok (.aload_n 0, 1) := by decide +kernel
theorem dX12_latest_72 : decode cX12_latest 72 = .ok (.iload 5, 2) := by decide +kernel
theorem dX12_latest_74 : decode cX12_latest 74 = .ok (.iconst (-1), 1) := by decide +kernel
theorem dX12_latest_75 : decode cX12_latest 75 = .ok (.if_icmp .ne 7, 3) := by decide +kernel
theorem dX12_latest_78 : decode cX12_latest 78 = .ok (.iconst 0, 1) := by decide +kernel
theorem dX12_latest_79 : decode cX12_latest 79 = .ok (.goto 10, 3) := by decide +kernel
theorem dX12_latest_82 : decode cX12_latest 82 = .ok (.aload_n 0, 1) := by decide +kernel
theorem dX12_latest_83 : decode cX12_latest 83 = .ok (.getfield 38, 3) := by decide +kernel
theorem dX12_latest_86 : decode cX12_latest 86 = .ok (.iload 5, 2) := by decide +kernel
theorem dX12_latest_88 : decode cX12_latest 88 = .ok (.iaload, 1) := by decide +kernel
theorem dX12_latest_89 : decode cX12_latest 89 = .ok (.iload 5, 2) := by decide +kernel
theorem dX12_latest_91 : decode cX12_latest 91 = .ok (.invokevirtual 288, 3) := by decide +kernel
theorem dX12_latest_94 : decode cX12_latest 94 = .ok (.return_, 1) := by decide +kernel
theorem cd_latest : Cond.code yX12_latest cX12_latest 8 none ∈ lw_g := mt_at 2033 (by decide +kernel) rfl
theorem mw_latest : mCw 259 yX12_latest cX12_latest 8 none 4 := ⟨cd_latest, mt_at 2030 (by decide +kernel) rfl, in_M, by decide +kernel⟩
theorem im_latest : Cond.instanceMethod yX12_latest ∈ lw_g := mt_at 2032 (by decide +kernel) rfl
theorem sl_latest : Cond.selects RX12 yX12_latest yX12_latest ∈ lw_g := mt_sel 55 (by decide +kernel) rfl
section
variable {p : Program} {l : Launch} {e : Env} {R : Room} {s : State} {m : MethodId} {args : Array Value} {below : List Frame} {meth : Method} {c : Code} {cM : ClassId} {iS : Nat → Nat} {cI cZ : ClassId} {mo : Nat} {ad : Nat → Nat} {r : Int32} {S9 : mSt}
noncomputable def fm_latest_89 (S : mSt) (v5 : Int32) (s1 : Int32) : Option (mSt) :=
bd (fm_put S s1 v5) fun S1 =>
some S1
set_option maxRecDepth 100000 in
set_option maxHeartbeats 4000000 in
theorem wm_latest_89 (C : mY p R s m args meth c cX12_latest 8 2 42 none) (X : mX s cM iS cI cZ mo ad) : ∀ {S : mSt} {v5 : Int32} {s1 : Int32} {H : Heap} {locs : List Loc} {ls : Array Slot}, fm_latest_89 S v5 s1 = some S9 → mW cM iS cI cZ mo ad S H → mS (mA mo ad) s.heap H locs → lv_has ls 8 [(5, .int v5)] → W p l e R s m args below meth c H locs 0 0 (MQ below (mQw none cM iS cI cZ mo ad S9) args s 0 0 (mA mo ad)) (F0 m 89 ls [.int s1, .ref mo]) := by
  intro S v5 s1 H locs ls h hW hS hl
  unfold fm_latest_89 at h
  refine lv_iload C.1 C.2.1 dX12_latest_89 (lv_at hl 0 rfl) ?_
  obtain ⟨S1, h_S1, h⟩ := bd_ok h
  refine m_callW (rest := []) (ov := none) C X hW hS hl.1 [.int s1, .int v5] (tm_put l h_S1) mw_put im_put sl_put rfl ⟨by decide, by decide⟩ rfl (Nat.le_of_ble_eq_true rfl) dX12_latest_91 (fun H locs hW hS => ?_)
  refine W.eq (g2 := F0 m 94 ls []) rfl ?_
  cases h
  exact m_retvW C hW hS dX12_latest_94
noncomputable def fm_latest_65 (g_6 : mSt → Int32 → Int32 → Int32 → Int32 → Int32 → Int32 → Option (mSt)) (S : mSt) (v1 : Int32) (v2 : Int32) (v3 : Int32) (v4 : Int32) (v5 : Int32) (v6 : Int32) : Option (mSt) :=
lt (v6 + (1 : Int32)) fun x1 =>
g_6 S v1 v2 v3 v4 v5 x1
set_option maxRecDepth 100000 in
set_option maxHeartbeats 4000000 in
theorem wm_latest_65 (C : mY p R s m args meth c cX12_latest 8 2 42 none) (X : mX s cM iS cI cZ mo ad) {g_6 : mSt → Int32 → Int32 → Int32 → Int32 → Int32 → Int32 → Option (mSt)} (hg_6 : ∀ {S : mSt} {v1 : Int32} {v2 : Int32} {v3 : Int32} {v4 : Int32} {v5 : Int32} {v6 : Int32} {H : Heap} {locs : List Loc} {ls : Array Slot}, g_6 S v1 v2 v3 v4 v5 v6 = some S9 → mW cM iS cI cZ mo ad S H → mS (mA mo ad) s.heap H locs → lv_has ls 8 [(0, .ref mo), (1, .int v1), (2, .int v2), (3, .int v3), (4, .int v4), (5, .int v5), (6, .int v6)] → W p l e R s m args below meth c H locs 0 0 (MQ below (mQw none cM iS cI cZ mo ad S9) args s 0 0 (mA mo ad)) (F0 m 6 ls [])) : ∀ {S : mSt} {v1 : Int32} {v2 : Int32} {v3 : Int32} {v4 : Int32} {v5 : Int32} {v6 : Int32} {H : Heap} {locs : List Loc} {ls : Array Slot}, fm_latest_65 g_6 S v1 v2 v3 v4 v5 v6 = some S9 → mW cM iS cI cZ mo ad S H → mS (mA mo ad) s.heap H locs → lv_has ls 8 [(0, .ref mo), (1, .int v1), (2, .int v2), (3, .int v3), (4, .int v4), (5, .int v5), (6, .int v6)] → W p l e R s m args below meth c H locs 0 0 (MQ below (mQw none cM iS cI cZ mo ad S9) args s 0 0 (mA mo ad)) (F0 m 65 ls []) := by
  intro S v1 v2 v3 v4 v5 v6 H locs ls h hW hS hl
  unfold fm_latest_65 at h
  refine lt_ok h (fun x1 e_x1 h => ?_)
  refine lv_iinc (v := x1) (lv' := [(6, .int x1), (0, .ref mo), (1, .int v1), (2, .int v2), (3, .int v3), (4, .int v4), (5, .int v5)]) C.1 C.2.1 dX12_latest_65 hl (k := 6) rfl (by rw [← e_x1]; rfl) (by decide) rfl (fun ls hl => ?_)
  refine lv_goto (tgt := 6) C.1 C.2.1 dX12_latest_68 (by decide) ?_
  exact hg_6 h hW hS (lv_sub hl [1, 2, 3, 4, 5, 6, 0] rfl)
noncomputable def fm_latest_61 (g_6 : mSt → Int32 → Int32 → Int32 → Int32 → Int32 → Int32 → Option (mSt)) (S : mSt) (v1 : Int32) (v2 : Int32) (v3 : Int32) (v4 : Int32) (v6 : Int32) (v7 : Int32) : Option (mSt) :=
fm_latest_65 g_6 S v1 v2 v3 v4 v7 v6
set_option maxRecDepth 100000 in
set_option maxHeartbeats 4000000 in
theorem wm_latest_61 (C : mY p R s m args meth c cX12_latest 8 2 42 none) (X : mX s cM iS cI cZ mo ad) {g_6 : mSt → Int32 → Int32 → Int32 → Int32 → Int32 → Int32 → Option (mSt)} (hg_6 : ∀ {S : mSt} {v1 : Int32} {v2 : Int32} {v3 : Int32} {v4 : Int32} {v5 : Int32} {v6 : Int32} {H : Heap} {locs : List Loc} {ls : Array Slot}, g_6 S v1 v2 v3 v4 v5 v6 = some S9 → mW cM iS cI cZ mo ad S H → mS (mA mo ad) s.heap H locs → lv_has ls 8 [(0, .ref mo), (1, .int v1), (2, .int v2), (3, .int v3), (4, .int v4), (5, .int v5), (6, .int v6)] → W p l e R s m args below meth c H locs 0 0 (MQ below (mQw none cM iS cI cZ mo ad S9) args s 0 0 (mA mo ad)) (F0 m 6 ls [])) : ∀ {S : mSt} {v1 : Int32} {v2 : Int32} {v3 : Int32} {v4 : Int32} {v6 : Int32} {v7 : Int32} {H : Heap} {locs : List Loc} {ls : Array Slot}, fm_latest_61 g_6 S v1 v2 v3 v4 v6 v7 = some S9 → mW cM iS cI cZ mo ad S H → mS (mA mo ad) s.heap H locs → lv_has ls 8 [(0, .ref mo), (1, .int v1), (2, .int v2), (3, .int v3), (4, .int v4), (6, .int v6), (7, .int v7)] → W p l e R s m args below meth c H locs 0 0 (MQ below (mQw none cM iS cI cZ mo ad S9) args s 0 0 (mA mo ad)) (F0 m 61 ls []) := by
  intro S v1 v2 v3 v4 v6 v7 H locs ls h hW hS hl
  unfold fm_latest_61 at h
  refine lv_iload C.1 C.2.1 dX12_latest_61 (lv_at hl 6 rfl) ?_
  refine lv_istore (lv' := [(5, .int v7), (0, .ref mo), (1, .int v1), (2, .int v2), (3, .int v3), (4, .int v4), (6, .int v6), (7, .int v7)]) C.1 C.2.1 dX12_latest_63 hl (by decide) rfl (fun ls hl => ?_)
  exact wm_latest_65 C X hg_6 h hW hS (lv_sub hl [1, 2, 3, 4, 5, 0, 6] rfl)
noncomputable def fm_latest_6 : Nat → mSt → Int32 → Int32 → Int32 → Int32 → Int32 → Int32 → Option (mSt)
  | 0, _, _, _, _, _, _, _ => none
  | n + 1, S, v1, v2, v3, v4, v5, v6 =>
    if v2 ≤ v6 then (
    if v5 = (-1 : Int32) then (
    fm_latest_89 S v5 (0 : Int32))
    else (
    ck v5 1000 (
    fm_latest_89 S v5 (rd S 12 v5))))
    else (
    bd (fm_rowAt S v1 v6) fun r3 =>
    bd (fm_isOf S r3 (1 : Int32) v3 v4) fun r4 =>
    if r4 = 0 then (
    fm_latest_65 (fm_latest_6 n) S v1 v2 v3 v4 v5 v6)
    else (
    ck r3 1000 (
    if (rd S 47 r3) = 0 then (
    fm_latest_65 (fm_latest_6 n) S v1 v2 v3 v4 v5 v6)
    else (
    if v5 = (-1 : Int32) then (
    fm_latest_61 (fm_latest_6 n) S v1 v2 v3 v4 v6 r3)
    else (
    bd (fm_isBefore S v5 r3) fun r8 =>
    if r8 = 0 then (
    fm_latest_65 (fm_latest_6 n) S v1 v2 v3 v4 v5 v6)
    else (
    fm_latest_61 (fm_latest_6 n) S v1 v2 v3 v4 v6 r3))))))
set_option maxRecDepth 100000 in
set_option maxHeartbeats 4000000 in
theorem wm_latest_6 (C : mY p R s m args meth c cX12_latest 8 2 42 none) (X : mX s cM iS cI cZ mo ad) : ∀ (n : Nat), ∀ {S : mSt} {v1 : Int32} {v2 : Int32} {v3 : Int32} {v4 : Int32} {v5 : Int32} {v6 : Int32} {H : Heap} {locs : List Loc} {ls : Array Slot}, fm_latest_6 n S v1 v2 v3 v4 v5 v6 = some S9 → mW cM iS cI cZ mo ad S H → mS (mA mo ad) s.heap H locs → lv_has ls 8 [(0, .ref mo), (1, .int v1), (2, .int v2), (3, .int v3), (4, .int v4), (5, .int v5), (6, .int v6)] → W p l e R s m args below meth c H locs 0 0 (MQ below (mQw none cM iS cI cZ mo ad S9) args s 0 0 (mA mo ad)) (F0 m 6 ls []) := by
  intro n
  induction n with
  | zero =>
    intro S v1 v2 v3 v4 v5 v6 H locs ls h hW hS hl
    exact absurd (show (none : Option (mSt)) = _ from h) (fun q => by cases q)
  | succ n ih =>
    intro S v1 v2 v3 v4 v5 v6 H locs ls h hW hS hl
    rw [fm_latest_6] at h
    refine lv_iload C.1 C.2.1 dX12_latest_6 (lv_at hl 6 rfl) ?_
    refine lv_iload_n C.1 C.2.1 dX12_latest_8 rfl (lv_at hl 2 rfl) ?_
    refine lv_icmp_ge (tgt := 71) C.1 C.2.1 dX12_latest_9 (by decide) (fun c1 => ?_) (fun c1 => ?_)
    · have h := if_t h c1
      refine lv_aload_n C.1 C.2.1 dX12_latest_71 rfl (lv_at hl 0 rfl) ?_
      refine lv_iload C.1 C.2.1 dX12_latest_72 (lv_at hl 5 rfl) ?_
      refine lv_iconst (v := -1) C.1 C.2.1 dX12_latest_74 (by decide) ?_
      refine lv_icmp_ne (tgt := 82) C.1 C.2.1 dX12_latest_75 (by decide) (fun c2 => ?_) (fun c2 => ?_)
      · have h := if_f h c2
        refine lv_aload_n C.1 C.2.1 dX12_latest_82 rfl (lv_at hl 0 rfl) ?_
        refine gf_12 C X hW dX12_latest_83 ?_
        refine lv_iload C.1 C.2.1 dX12_latest_86 (lv_at hl 5 rfl) ?_
        obtain ⟨hin, h⟩ := ck_ok h
        refine l_12 C X hW hin dX12_latest_88 ?_
        exact wm_latest_89 C X h hW hS (lv_sub hl [5] rfl)
      · have h := if_t h c2
        refine lv_iconst (v := 0) C.1 C.2.1 dX12_latest_78 (by decide) ?_
        refine lv_goto (tgt := 89) C.1 C.2.1 dX12_latest_79 (by decide) ?_
        exact wm_latest_89 C X h hW hS (lv_sub hl [5] rfl)
    · have h := if_f h c1
      refine lv_aload_n C.1 C.2.1 dX12_latest_12 rfl (lv_at hl 0 rfl) ?_
      refine lv_iload_n C.1 C.2.1 dX12_latest_13 rfl (lv_at hl 1 rfl) ?_
      refine lv_iload C.1 C.2.1 dX12_latest_14 (lv_at hl 6 rfl) ?_
      obtain ⟨r3, h_r3, h⟩ := bd_ok h
      refine m_callR (rest := []) C X hW hl.1 [.int v1, .int v6] (tm_rowAt l h_r3) mw_rowAt im_rowAt sl_rowAt rfl ⟨by decide, by decide⟩ rfl (Nat.le_of_ble_eq_true rfl) dX12_latest_16 ?_
      refine lv_istore (lv' := [(7, .int r3), (0, .ref mo), (1, .int v1), (2, .int v2), (3, .int v3), (4, .int v4), (5, .int v5), (6, .int v6)]) C.1 C.2.1 dX12_latest_19 hl (by decide) rfl (fun ls hl => ?_)
      refine lv_aload_n C.1 C.2.1 dX12_latest_21 rfl (lv_at hl 1 rfl) ?_
      refine lv_iload C.1 C.2.1 dX12_latest_22 (lv_at hl 0 rfl) ?_
      refine lv_iconst (v := 1) C.1 C.2.1 dX12_latest_24 (by decide) ?_
      refine lv_iload_n C.1 C.2.1 dX12_latest_25 rfl (lv_at hl 4 rfl) ?_
      refine lv_iload C.1 C.2.1 dX12_latest_26 (lv_at hl 5 rfl) ?_
      obtain ⟨r4, h_r4, h⟩ := bd_ok h
      refine m_callR (rest := []) C X hW hl.1 [.int r3, .int (1 : Int32), .int v3, .int v4] (tm_isOf l h_r4) mw_isOf im_isOf sl_isOf rfl ⟨by decide, by decide⟩ rfl (Nat.le_of_ble_eq_true rfl) dX12_latest_28 ?_
      refine lv_if_eq (tgt := 65) C.1 C.2.1 dX12_latest_31 (by decide) (fun c5 => ?_) (fun c5 => ?_)
      · have h := if_t h c5
        exact wm_latest_65 C X ih h hW hS (lv_sub hl [1, 2, 3, 4, 5, 6, 7] rfl)
      · have h := if_f h c5
        refine lv_aload_n C.1 C.2.1 dX12_latest_34 rfl (lv_at hl 1 rfl) ?_
        refine gf_47 C X hW dX12_latest_35 ?_
        refine lv_iload C.1 C.2.1 dX12_latest_38 (lv_at hl 0 rfl) ?_
        obtain ⟨hin, h⟩ := ck_ok h
        refine l_47 C X hW hin dX12_latest_40 ?_
        refine lv_if_eq (tgt := 65) C.1 C.2.1 dX12_latest_41 (by decide) (fun c6 => ?_) (fun c6 => ?_)
        · have h := if_t h c6
          exact wm_latest_65 C X ih h hW hS (lv_sub hl [1, 2, 3, 4, 5, 6, 7] rfl)
        · have h := if_f h c6
          refine lv_iload C.1 C.2.1 dX12_latest_44 (lv_at hl 6 rfl) ?_
          refine lv_iconst (v := -1) C.1 C.2.1 dX12_latest_46 (by decide) ?_
          refine lv_icmp_eq (tgt := 61) C.1 C.2.1 dX12_latest_47 (by decide) (fun c7 => ?_) (fun c7 => ?_)
          · have h := if_t h c7
            exact wm_latest_61 C X ih h hW hS (lv_sub hl [1, 2, 3, 4, 5, 7, 0] rfl)
          · have h := if_f h c7
            refine lv_aload_n C.1 C.2.1 dX12_latest_50 rfl (lv_at hl 1 rfl) ?_
            refine lv_iload C.1 C.2.1 dX12_latest_51 (lv_at hl 6 rfl) ?_
            refine lv_iload C.1 C.2.1 dX12_latest_53 (lv_at hl 0 rfl) ?_
            obtain ⟨r8, h_r8, h⟩ := bd_ok h
            refine m_callR (rest := []) C X hW hl.1 [.int v5, .int r3] (tm_isBefore l h_r8) mw_isBefore im_isBefore sl_isBefore rfl ⟨by decide, by decide⟩ rfl (Nat.le_of_ble_eq_true rfl) dX12_latest_55 ?_
            refine lv_if_eq (tgt := 65) C.1 C.2.1 dX12_latest_58 (by decide) (fun c9 => ?_) (fun c9 => ?_)
            · have h := if_t h c9
              exact wm_latest_65 C X ih h hW hS (lv_sub hl [1, 2, 3, 4, 5, 6, 7] rfl)
            · have h := if_f h c9
              exact wm_latest_61 C X ih h hW hS (lv_sub hl [1, 2, 3, 4, 5, 7, 0] rfl)
noncomputable def fm_latest (S : mSt) (v1 : Int32) (v2 : Int32) (v3 : Int32) (v4 : Int32) : Option (mSt) :=
fm_latest_6 mFU S v1 v2 v3 v4 (-1 : Int32) (0 : Int32)
set_option maxRecDepth 100000 in
set_option maxHeartbeats 4000000 in
theorem tm_latest (l : Launch) {cM : ClassId} {iS : Nat → Nat} {cI cZ : ClassId} {mo : Nat} {ad : Nat → Nat} {S : mSt} {v1 : Int32} {v2 : Int32} {v3 : Int32} {v4 : Int32} {S9 : mSt} (h : fm_latest S v1 v2 v3 v4 = some S9) : Met l yX12_latest (Cond.code yX12_latest cX12_latest 8 none :: lw_g) { frames := 2, cells := 0, slots := 0, locals := 42 } (mPi [.int v1, .int v2, .int v3, .int v4] cM iS cI cZ mo ad S) (mQw none cM iS cI cZ mo ad S9) 0 0 (mA mo ad) := by
  refine Met.ofW (cc := cX12_latest) (maxL := 8) (ret := none) (by decide) rfl ?_
  intro p e s m args below meth c s₁ B hml hv
  obtain ⟨rfl, hW, X⟩ := hv
  have C : mY p (headSpec (Cond.code yX12_latest cX12_latest 8 none :: lw_g) { frames := 2, cells := 0, slots := 0, locals := 42 }).room s m _ meth c cX12_latest 8 2 42 none := ⟨B.exec, B.bytes, hml, findClass_of_methodNamed B.named, fun w hw => atoms_spec (ws := Cond.code yX12_latest cX12_latest 8 none :: lw_g) B.pre w (List.mem_cons_of_mem _ hw), ⟨Nat.le_refl _, Nat.le_refl _⟩, B.returns, B.notSynchronized⟩
  have hl := lv_entry ([.ref mo, .int v1, .int v2, .int v3, .int v4]) (n := 8) (Nat.le_of_ble_eq_true rfl)
  rw [lg_entry_eq]
  generalize (lg_sl ([.ref mo, .int v1, .int v2, .int v3, .int v4]) ++ List.replicate (8 - (lg_sl ([.ref mo, .int v1, .int v2, .int v3, .int v4])).length) Slot.unset).toArray = ls at hl ⊢
  have hl : lv_has ls 8 [(0, .ref mo), (1, .int v1), (2, .int v2), (3, .int v3), (4, .int v4)] := hl
  have hS : mS (mA mo ad) s.heap s.heap [] := mS.rf
  unfold fm_latest at h
  refine lv_iconst (v := -1) C.1 C.2.1 dX12_latest_0 (by decide) ?_
  refine lv_istore (lv' := [(5, .int (-1 : Int32)), (0, .ref mo), (1, .int v1), (2, .int v2), (3, .int v3), (4, .int v4)]) C.1 C.2.1 dX12_latest_1 hl (by decide) rfl (fun ls hl => ?_)
  refine lv_iconst (v := 0) C.1 C.2.1 dX12_latest_3 (by decide) ?_
  refine lv_istore (lv' := [(6, .int (0 : Int32)), (5, .int (-1 : Int32)), (0, .ref mo), (1, .int v1), (2, .int v2), (3, .int v3), (4, .int v4)]) C.1 C.2.1 dX12_latest_4 hl (by decide) rfl (fun ls hl => ?_)
  exact wm_latest_6 C X mFU h hW hS (lv_sub hl [2, 3, 4, 5, 6, 1, 0] rfl)
end
theorem dX12_holds_0 : decode cX12_holds 0 = .ok (.aload_n 0, 1) := by decide +kernel
theorem dX12_holds_1 : decode cX12_holds 1 = .ok (.getfield 133, 3) := by decide +kernel
theorem dX12_holds_4 : decode cX12_holds 4 = .ok (.iload_n 3, 1) := by decide +kernel
theorem dX12_holds_5 : decode cX12_holds 5 = .ok (.baload, 1) := by decide +kernel
theorem dX12_holds_6 : decode cX12_holds 6 = .ok (.ifCond .ne 5, 3) := by decide +kernel
theorem dX12_holds_9 : decode cX12_holds 9 = .ok (.iconst 0, 1) := by decide +kernel
theorem dX12_holds_10 : decode cX12_holds 10 = .ok (.ireturn, 1) := by decide +kernel
theorem dX12_holds_11 : decode cX12_holds 11 = .ok (.iconst 0, 1) := by decide +kernel
theorem dX12_holds_12 : decode cX12_holds 12 = .ok (.istore 4, 2) := by decide +kernel
theorem dX12_holds_14 : decode cX12_holds 14 = .ok (.iload 4, 2) := by decide +kernel
theorem dX12_holds_16 : decode cX12_holds 16 = .ok (.iload_n 2, 1) := by decide +kernel
theorem dX12_holds_17 : decode cX12_holds 17 = .ok (.if_icmp .ge 79, 3) := by decide +kernel
theorem dX12_holds_20 : decode cX12_holds 20 = .ok (.aload_n 0, 1) := by decide +kernel
theorem dX12_holds_21 : decode cX12_holds 21 = .ok (.iload_n 1, 1) := by decide +kernel
theorem dX12_holds_22 : decode cX12_holds 22 = .ok (.iload 4, 2) := by decide +kernel
theorem dX12_holds_24 : decode cX12_holds 24 = .ok (.invokevirtual 230, 3) := by decide +kernel
theorem dX12_holds_27 : decode cX12_holds 27 = .ok (.istore 5, 2) := by decide +kernel
theorem dX12_holds_29 : decode cX12_holds 29 = .ok (.aload_n 0, 1) := by decide +kernel
theorem dX12_holds_30 : decode cX12_holds 30 = .ok (.iload 5, 2) := by decide +kernel
theorem dX12_holds_32 : decode cX12_holds 32 = .ok (.bipush 8, 2) := by decide +kernel
theorem dX12_holds_34 : decode cX12_holds 34 = .ok (.aload_n 0, 1) := by decide +kernel
theorem dX12_holds_35 : decode cX12_holds 35 = .ok (.getfield 32, 3) := by decide +kernel
theorem dX12_holds_38 : decode cX12_holds 38 = .ok (.iload_n 3, 1) := by decide +kernel
theorem dX12_holds_39 : decode cX12_holds 39 = .ok (.iaload, 1) := by decide +kernel
theorem dX12_holds_40 : decode cX12_holds 40 = .ok (.aload_n 0, 1) := by decide +kernel
theorem dX12_holds_41 : decode cX12_holds 41 = .ok (.getfield 35, 3) := by decide +kernel
theorem dX12_holds_44 : decode cX12_holds 44 = .ok (.iload_n 3, 1) := by decide +kernel
theorem dX12_holds_45 : decode cX12_holds 45 = .ok (.iaload, 1) := by decide +kernel
theorem dX12_holds_46 : decode cX12_holds 46 = .ok (.invokevirtual 281, 3) := by decide +kernel
theorem dX12_holds_49 : decode cX12_holds 49 = .ok (.ifCond .eq 41, 3) := by decide +kernel
theorem dX12_holds_52 : decode cX12_holds 52 = .ok (.aload_n 0, 1) := by decide +kernel
theorem dX12_holds_53 : decode cX12_holds 53 = .ok (.getfield 38, 3) := by decide +kernel
theorem dX12_holds_56 : decode cX12_holds 56 = .ok (.iload 5, 2) := by decide +kernel
theorem dX12_holds_58 : decode cX12_holds 58 = .ok (.iaload, 1) := by decide +kernel
theorem dX12_holds_59 : decode cX12_holds 59 = .ok (.aload_n 0, 1) := by decide +kernel
theorem dX12_holds_60 : decode cX12_holds 60 = .ok (.getfield 38, 3) := by decide +kernel
theorem dX12_holds_63 : decode cX12_holds 63 = .ok (.iload_n 3, 1) := by decide +kernel
theorem dX12_holds_64 : decode cX12_holds 64 = .ok (.iaload, 1) := by decide +kernel
theorem dX12_holds_65 : decode cX12_holds 65 = .ok (.if_icmp .ne 25, 3) := by decide +kernel
theorem dX12_holds_68 : decode cX12_holds 68 = .ok (.aload_n 0, 1) := by decide +kernel
theorem dX12_holds_69 : decode cX12_holds 69 = .ok (.getfield 133, 3) := by decide +kernel
theorem dX12_holds_72 : decode cX12_holds 72 = .ok (.iload 5, 2) := by decide +kernel
theorem dX12_holds_74 : decode cX12_holds 74 = .ok (.baload, 1) := by decide +kernel
theorem dX12_holds_75 : decode cX12_holds 75 = .ok (.ifCond .eq 15, 3) := by decide +kernel
theorem dX12_holds_78 : decode cX12_holds 78 = .ok (.aload_n 0, 1) := by decide +kernel
theorem dX12_holds_79 : decode cX12_holds 79 = .ok (.iload 5, 2) := by decide +kernel
theorem dX12_holds_81 : decode cX12_holds 81 = .ok (.iload_n 3, 1) := by decide +kernel
theorem dX12_holds_82 : decode cX12_holds 82 = .ok (.invokevirtual 291, 3) := by decide +kernel
theorem dX12_holds_85 : decode cX12_holds 85 = .ok (.ifCond .eq 5, 3) := by decide +kernel
theorem dX12_holds_88 : decode cX12_holds 88 = .ok (.iconst 0, 1) := by decide +kernel
theorem dX12_holds_89 : decode cX12_holds 89 = .ok (.ireturn, 1) := by decide +kernel
theorem dX12_holds_90 : decode cX12_holds 90 = .ok (.iinc 4 1, 3) := by decide +kernel
theorem dX12_holds_93 : decode cX12_holds 93 = .ok (.goto (-79), 3) := by decide +kernel
theorem dX12_holds_96 : decode cX12_holds 96 = .ok (.iconst 1, 1) := by decide +kernel
theorem dX12_holds_97 : decode cX12_holds 97 = .ok (.ireturn, 1) := by decide +kernel
theorem cd_holds : Cond.code yX12_holds cX12_holds 6 (some .boolean) ∈ lw_g := mt_at 2073 (by decide +kernel) rfl
theorem mw_holds : mCw 297 yX12_holds cX12_holds 6 (some .boolean) 3 := ⟨cd_holds, mt_at 2070 (by decide +kernel) rfl, in_M, by decide +kernel⟩
theorem im_holds : Cond.instanceMethod yX12_holds ∈ lw_g := mt_at 2072 (by decide +kernel) rfl
theorem sl_holds : Cond.selects RX12 yX12_holds yX12_holds ∈ lw_g := mt_sel 65 (by decide +kernel) rfl
section
variable {p : Program} {l : Launch} {e : Env} {R : Room} {s : State} {m : MethodId} {args : Array Value} {below : List Frame} {meth : Method} {c : Code} {cM : ClassId} {iS : Nat → Nat} {cI cZ : ClassId} {mo : Nat} {ad : Nat → Nat} {S : mSt} {r : Int32}
noncomputable def fm_holds_90 (g_14 : Int32 → Int32 → Int32 → Int32 → Option (Int32)) (S : mSt) (v1 : Int32) (v2 : Int32) (v3 : Int32) (v4 : Int32) : Option (Int32) :=
lt (v4 + (1 : Int32)) fun x1 =>
g_14 v1 v2 v3 x1
set_option maxRecDepth 100000 in
set_option maxHeartbeats 4000000 in
theorem wm_holds_90 (C : mY p R s m args meth c cX12_holds 6 2 42 (some .boolean)) (X : mX s cM iS cI cZ mo ad) (hW : mW cM iS cI cZ mo ad S s.heap) {g_14 : Int32 → Int32 → Int32 → Int32 → Option (Int32)} (hg_14 : ∀ {v1 : Int32} {v2 : Int32} {v3 : Int32} {v4 : Int32} {ls : Array Slot}, g_14 v1 v2 v3 v4 = some r → lv_has ls 6 [(0, .ref mo), (1, .int v1), (2, .int v2), (3, .int v3), (4, .int v4)] → W p l e R s m args below meth c s.heap [] 0 0 (MQ below (mQi r) args s 0 0 mNo) (F0 m 14 ls [])) : ∀ {v1 : Int32} {v2 : Int32} {v3 : Int32} {v4 : Int32} {ls : Array Slot}, fm_holds_90 g_14 S v1 v2 v3 v4 = some r → lv_has ls 6 [(0, .ref mo), (1, .int v1), (2, .int v2), (3, .int v3), (4, .int v4)] → W p l e R s m args below meth c s.heap [] 0 0 (MQ below (mQi r) args s 0 0 mNo) (F0 m 90 ls []) := by
  intro v1 v2 v3 v4 ls h hl
  unfold fm_holds_90 at h
  refine lt_ok h (fun x1 e_x1 h => ?_)
  refine lv_iinc (v := x1) (lv' := [(4, .int x1), (0, .ref mo), (1, .int v1), (2, .int v2), (3, .int v3)]) C.1 C.2.1 dX12_holds_90 hl (k := 4) rfl (by rw [← e_x1]; rfl) (by decide) rfl (fun ls hl => ?_)
  refine lv_goto (tgt := 14) C.1 C.2.1 dX12_holds_93 (by decide) ?_
  exact hg_14 h (lv_sub hl [1, 2, 3, 4, 0] rfl)
noncomputable def fm_holds_14 (S : mSt) : Nat → Int32 → Int32 → Int32 → Int32 → Option (Int32)
  | 0, _, _, _, _ => none
  | n + 1, v1, v2, v3, v4 =>
    if v2 ≤ v4 then (
    ckz (1 : Int32) (some (1 : Int32)))
    else (
    bd (fm_rowAt S v1 v4) fun r2 =>
    ck v3 1000 (
    ck v3 1000 (
    bd (fm_isOf S r2 (8 : Int32) (rd S 10 v3) (rd S 11 v3)) fun r3 =>
    if r3 = 0 then (
    fm_holds_90 (fm_holds_14 S n) S v1 v2 v3 v4)
    else (
    ck r2 1000 (
    ck v3 1000 (
    if (rd S 12 r2) = (rd S 12 v3) then (
    ck r2 1000 (
    if (rd S 47 r2) = 0 then (
    fm_holds_90 (fm_holds_14 S n) S v1 v2 v3 v4)
    else (
    bd (fm_knew S r2 v3) fun r7 =>
    if r7 = 0 then (
    fm_holds_90 (fm_holds_14 S n) S v1 v2 v3 v4)
    else (
    ckz (0 : Int32) (some (0 : Int32))))))
    else (
    fm_holds_90 (fm_holds_14 S n) S v1 v2 v3 v4)))))))
set_option maxRecDepth 100000 in
set_option maxHeartbeats 4000000 in
theorem wm_holds_14 (C : mY p R s m args meth c cX12_holds 6 2 42 (some .boolean)) (X : mX s cM iS cI cZ mo ad) (hW : mW cM iS cI cZ mo ad S s.heap) : ∀ (n : Nat), ∀ {v1 : Int32} {v2 : Int32} {v3 : Int32} {v4 : Int32} {ls : Array Slot}, fm_holds_14 S n v1 v2 v3 v4 = some r → lv_has ls 6 [(0, .ref mo), (1, .int v1), (2, .int v2), (3, .int v3), (4, .int v4)] → W p l e R s m args below meth c s.heap [] 0 0 (MQ below (mQi r) args s 0 0 mNo) (F0 m 14 ls []) := by
  intro n
  induction n with
  | zero =>
    intro v1 v2 v3 v4 ls h hl
    exact absurd (show (none : Option (Int32)) = _ from h) (fun q => by cases q)
  | succ n ih =>
    intro v1 v2 v3 v4 ls h hl
    rw [fm_holds_14] at h
    refine lv_iload C.1 C.2.1 dX12_holds_14 (lv_at hl 4 rfl) ?_
    refine lv_iload_n C.1 C.2.1 dX12_holds_16 rfl (lv_at hl 2 rfl) ?_
    refine lv_icmp_ge (tgt := 96) C.1 C.2.1 dX12_holds_17 (by decide) (fun c1 => ?_) (fun c1 => ?_)
    · have h := if_t h c1
      refine lv_iconst (v := 1) C.1 C.2.1 dX12_holds_96 (by decide) ?_
      obtain ⟨hzo, h⟩ := ckz_ok h
      cases h
      exact m_retz C hzo rfl rfl dX12_holds_97
    · have h := if_f h c1
      refine lv_aload_n C.1 C.2.1 dX12_holds_20 rfl (lv_at hl 0 rfl) ?_
      refine lv_iload_n C.1 C.2.1 dX12_holds_21 rfl (lv_at hl 1 rfl) ?_
      refine lv_iload C.1 C.2.1 dX12_holds_22 (lv_at hl 4 rfl) ?_
      obtain ⟨r2, h_r2, h⟩ := bd_ok h
      refine m_callR (rest := []) C X hW hl.1 [.int v1, .int v4] (tm_rowAt l h_r2) mw_rowAt im_rowAt sl_rowAt rfl ⟨by decide, by decide⟩ rfl (Nat.le_of_ble_eq_true rfl) dX12_holds_24 ?_
      refine lv_istore (lv' := [(5, .int r2), (0, .ref mo), (1, .int v1), (2, .int v2), (3, .int v3), (4, .int v4)]) C.1 C.2.1 dX12_holds_27 hl (by decide) rfl (fun ls hl => ?_)
      refine lv_aload_n C.1 C.2.1 dX12_holds_29 rfl (lv_at hl 1 rfl) ?_
      refine lv_iload C.1 C.2.1 dX12_holds_30 (lv_at hl 0 rfl) ?_
      refine lv_bipush (v := 8) C.1 C.2.1 dX12_holds_32 (by decide) ?_
      refine lv_aload_n C.1 C.2.1 dX12_holds_34 rfl (lv_at hl 1 rfl) ?_
      refine gf_10 C X hW dX12_holds_35 ?_
      refine lv_iload_n C.1 C.2.1 dX12_holds_38 rfl (lv_at hl 4 rfl) ?_
      obtain ⟨hin, h⟩ := ck_ok h
      refine l_10 C X hW hin dX12_holds_39 ?_
      refine lv_aload_n C.1 C.2.1 dX12_holds_40 rfl (lv_at hl 1 rfl) ?_
      refine gf_11 C X hW dX12_holds_41 ?_
      refine lv_iload_n C.1 C.2.1 dX12_holds_44 rfl (lv_at hl 4 rfl) ?_
      obtain ⟨hin, h⟩ := ck_ok h
      refine l_11 C X hW hin dX12_holds_45 ?_
      obtain ⟨r3, h_r3, h⟩ := bd_ok h
      refine m_callR (rest := []) C X hW hl.1 [.int r2, .int (8 : Int32), .int (rd S 10 v3), .int (rd S 11 v3)] (tm_isOf l h_r3) mw_isOf im_isOf sl_isOf rfl ⟨by decide, by decide⟩ rfl (Nat.le_of_ble_eq_true rfl) dX12_holds_46 ?_
      refine lv_if_eq (tgt := 90) C.1 C.2.1 dX12_holds_49 (by decide) (fun c4 => ?_) (fun c4 => ?_)
      · have h := if_t h c4
        exact wm_holds_90 C X hW ih h (lv_sub hl [1, 2, 3, 4, 5] rfl)
      · have h := if_f h c4
        refine lv_aload_n C.1 C.2.1 dX12_holds_52 rfl (lv_at hl 1 rfl) ?_
        refine gf_12 C X hW dX12_holds_53 ?_
        refine lv_iload C.1 C.2.1 dX12_holds_56 (lv_at hl 0 rfl) ?_
        obtain ⟨hin, h⟩ := ck_ok h
        refine l_12 C X hW hin dX12_holds_58 ?_
        refine lv_aload_n C.1 C.2.1 dX12_holds_59 rfl (lv_at hl 1 rfl) ?_
        refine gf_12 C X hW dX12_holds_60 ?_
        refine lv_iload_n C.1 C.2.1 dX12_holds_63 rfl (lv_at hl 4 rfl) ?_
        obtain ⟨hin, h⟩ := ck_ok h
        refine l_12 C X hW hin dX12_holds_64 ?_
        refine lv_icmp_ne (tgt := 90) C.1 C.2.1 dX12_holds_65 (by decide) (fun c5 => ?_) (fun c5 => ?_)
        · have h := if_f h c5
          exact wm_holds_90 C X hW ih h (lv_sub hl [1, 2, 3, 4, 5] rfl)
        · have h := if_t h c5
          refine lv_aload_n C.1 C.2.1 dX12_holds_68 rfl (lv_at hl 1 rfl) ?_
          refine gf_47 C X hW dX12_holds_69 ?_
          refine lv_iload C.1 C.2.1 dX12_holds_72 (lv_at hl 0 rfl) ?_
          obtain ⟨hin, h⟩ := ck_ok h
          refine l_47 C X hW hin dX12_holds_74 ?_
          refine lv_if_eq (tgt := 90) C.1 C.2.1 dX12_holds_75 (by decide) (fun c6 => ?_) (fun c6 => ?_)
          · have h := if_t h c6
            exact wm_holds_90 C X hW ih h (lv_sub hl [1, 2, 3, 4, 5] rfl)
          · have h := if_f h c6
            refine lv_aload_n C.1 C.2.1 dX12_holds_78 rfl (lv_at hl 1 rfl) ?_
            refine lv_iload C.1 C.2.1 dX12_holds_79 (lv_at hl 0 rfl) ?_
            refine lv_iload_n C.1 C.2.1 dX12_holds_81 rfl (lv_at hl 4 rfl) ?_
            obtain ⟨r7, h_r7, h⟩ := bd_ok h
            refine m_callR (rest := []) C X hW hl.1 [.int r2, .int v3] (tm_knew l h_r7) mw_knew im_knew sl_knew rfl ⟨by decide, by decide⟩ rfl (Nat.le_of_ble_eq_true rfl) dX12_holds_82 ?_
            refine lv_if_eq (tgt := 90) C.1 C.2.1 dX12_holds_85 (by decide) (fun c8 => ?_) (fun c8 => ?_)
            · have h := if_t h c8
              exact wm_holds_90 C X hW ih h (lv_sub hl [1, 2, 3, 4, 5] rfl)
            · have h := if_f h c8
              refine lv_iconst (v := 0) C.1 C.2.1 dX12_holds_88 (by decide) ?_
              obtain ⟨hzo, h⟩ := ckz_ok h
              cases h
              exact m_retz C hzo rfl rfl dX12_holds_89
noncomputable def fm_holds (S : mSt) (v1 : Int32) (v2 : Int32) (v3 : Int32) : Option (Int32) :=
ck v3 1000 (
if (rd S 47 v3) = 0 then (
ckz (0 : Int32) (some (0 : Int32)))
else (
fm_holds_14 S mFU v1 v2 v3 (0 : Int32)))
set_option maxRecDepth 100000 in
set_option maxHeartbeats 4000000 in
theorem tm_holds (l : Launch) {cM : ClassId} {iS : Nat → Nat} {cI cZ : ClassId} {mo : Nat} {ad : Nat → Nat} {S : mSt} {v1 : Int32} {v2 : Int32} {v3 : Int32} {r : Int32} (h : fm_holds S v1 v2 v3 = some r) : Met l yX12_holds (Cond.code yX12_holds cX12_holds 6 (some .boolean) :: lw_g) { frames := 2, cells := 0, slots := 0, locals := 42 } (mPi [.int v1, .int v2, .int v3] cM iS cI cZ mo ad S) (mQi r) 0 0 (mNo) := by
  refine Met.ofW (cc := cX12_holds) (maxL := 6) (ret := (some .boolean)) (by decide) rfl ?_
  intro p e s m args below meth c s₁ B hml hv
  obtain ⟨rfl, hW, X⟩ := hv
  have C : mY p (headSpec (Cond.code yX12_holds cX12_holds 6 (some .boolean) :: lw_g) { frames := 2, cells := 0, slots := 0, locals := 42 }).room s m _ meth c cX12_holds 6 2 42 (some .boolean) := ⟨B.exec, B.bytes, hml, findClass_of_methodNamed B.named, fun w hw => atoms_spec (ws := Cond.code yX12_holds cX12_holds 6 (some .boolean) :: lw_g) B.pre w (List.mem_cons_of_mem _ hw), ⟨Nat.le_refl _, Nat.le_refl _⟩, B.returns, B.notSynchronized⟩
  have hl := lv_entry ([.ref mo, .int v1, .int v2, .int v3]) (n := 6) (Nat.le_of_ble_eq_true rfl)
  rw [lg_entry_eq]
  generalize (lg_sl ([.ref mo, .int v1, .int v2, .int v3]) ++ List.replicate (6 - (lg_sl ([.ref mo, .int v1, .int v2, .int v3])).length) Slot.unset).toArray = ls at hl ⊢
  have hl : lv_has ls 6 [(0, .ref mo), (1, .int v1), (2, .int v2), (3, .int v3)] := hl
  unfold fm_holds at h
  refine lv_aload_n C.1 C.2.1 dX12_holds_0 rfl (lv_at hl 0 rfl) ?_
  refine gf_47 C X hW dX12_holds_1 ?_
  refine lv_iload_n C.1 C.2.1 dX12_holds_4 rfl (lv_at hl 3 rfl) ?_
  obtain ⟨hin, h⟩ := ck_ok h
  refine l_47 C X hW hin dX12_holds_5 ?_
  refine lv_if_ne (tgt := 11) C.1 C.2.1 dX12_holds_6 (by decide) (fun c1 => ?_) (fun c1 => ?_)
  · have h := if_f h c1
    refine lv_iconst (v := 0) C.1 C.2.1 dX12_holds_11 (by decide) ?_
    refine lv_istore (lv' := [(4, .int (0 : Int32)), (0, .ref mo), (1, .int v1), (2, .int v2), (3, .int v3)]) C.1 C.2.1 dX12_holds_12 hl (by decide) rfl (fun ls hl => ?_)
    exact wm_holds_14 C X hW mFU h (lv_sub hl [1, 2, 3, 4, 0] rfl)
  · have h := if_t h c1
    refine lv_iconst (v := 0) C.1 C.2.1 dX12_holds_9 (by decide) ?_
    obtain ⟨hzo, h⟩ := ckz_ok h
    cases h
    exact m_retz C hzo rfl rfl dX12_holds_10
end
