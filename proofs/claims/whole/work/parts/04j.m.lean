-- made by wip/whole/walk.py: the reference's walk, isObject, hasPart, commit, cursor
theorem dX12_walk_0 : decode cX12_walk 0 = .ok (.iconst 0, 1) := by decide +kernel
theorem dX12_walk_1 : decode cX12_walk 1 = .ok (.istore 7, 2) := by decide +kernel
theorem dX12_walk_3 : decode cX12_walk 3 = .ok (.iconst 0, 1) := by decide +kernel
theorem dX12_walk_4 : decode cX12_walk 4 = .ok (.istore 8, 2) := by decide +kernel
theorem dX12_walk_6 : decode cX12_walk 6 = .ok (.iconst 0, 1) := by decide +kernel
theorem dX12_walk_7 : decode cX12_walk 7 = .ok (.istore 9, 2) := by decide +kernel
theorem dX12_walk_9 : decode cX12_walk 9 = .ok (.iconst 0, 1) := by decide +kernel
theorem dX12_walk_10 : decode cX12_walk 10 = .ok (.istore 10, 2) := by decide +kernel
theorem dX12_walk_12 : decode cX12_walk 12 = .ok (.iload 8, 2) := by decide +kernel
theorem dX12_walk_14 : decode cX12_walk 14 = .ok (.iload 4, 2) := by decide +kernel
theorem dX12_walk_16 : decode cX12_walk 16 = .ok (.if_icmp .lt 10, 3) := by decide +kernel
theorem dX12_walk_19 : decode cX12_walk 19 = .ok (.iload 9, 2) := by decide +kernel
theorem dX12_walk_21 : decode cX12_walk 21 = .ok (.iload 5, 2) := by decide +kernel
theorem dX12_walk_23 : decode cX12_walk 23 = .ok (.if_icmp .ge 180, 3) := by decide +kernel
theorem dX12_walk_26 : decode cX12_walk 26 = .ok (.bipush 41, 2) := by decide +kernel
theorem dX12_walk_28 : decode cX12_walk 28 = .ok (.iload 8, 2) := by decide +kernel
theorem dX12_walk_30 : decode cX12_walk 30 = .ok (.imul, 1) := by decide +kernel
theorem dX12_walk_31 : decode cX12_walk 31 = .ok (.iload 9, 2) := by decide +kernel
theorem dX12_walk_33 : decode cX12_walk 33 = .ok (.iadd, 1) := by decide +kernel
theorem dX12_walk_34 : decode cX12_walk 34 = .ok (.istore 11, 2) := by decide +kernel
theorem dX12_walk_36 : decode cX12_walk 36 = .ok (.iload 8, 2) := by decide +kernel
theorem dX12_walk_38 : decode cX12_walk 38 = .ok (.iload 4, 2) := by decide +kernel
theorem dX12_walk_40 : decode cX12_walk 40 = .ok (.if_icmp .ge 70, 3) := by decide +kernel
theorem dX12_walk_43 : decode cX12_walk 43 = .ok (.iload 9, 2) := by decide +kernel
theorem dX12_walk_45 : decode cX12_walk 45 = .ok (.iload 5, 2) := by decide +kernel
theorem dX12_walk_47 : decode cX12_walk 47 = .ok (.if_icmp .ge 63, 3) := by decide +kernel
theorem dX12_walk_50 : decode cX12_walk 50 = .ok (.aload_n 0, 1) := by decide +kernel
theorem dX12_walk_51 : decode cX12_walk 51 = .ok (.getfield 185, 3) := by decide +kernel
theorem dX12_walk_54 : decode cX12_walk 54 = .ok (.iload 8, 2) := by decide +kernel
theorem dX12_walk_56 : decode cX12_walk 56 = .ok (.iaload, 1) := by decide +kernel
theorem dX12_walk_57 : decode cX12_walk 57 = .ok (.aload_n 0, 1) := by decide +kernel
theorem dX12_walk_58 : decode cX12_walk 58 = .ok (.getfield 7, 3) := by decide +kernel
theorem dX12_walk_61 : decode cX12_walk 61 = .ok (.iload 9, 2) := by decide +kernel
theorem dX12_walk_63 : decode cX12_walk 63 = .ok (.iaload, 1) := by decide +kernel
theorem dX12_walk_64 : decode cX12_walk 64 = .ok (.if_icmp .ne 46, 3) := by decide +kernel
theorem dX12_walk_67 : decode cX12_walk 67 = .ok (.aload_n 0, 1) := by decide +kernel
theorem dX12_walk_68 : decode cX12_walk 68 = .ok (.getfield 179, 3) := by decide +kernel
theorem dX12_walk_71 : decode cX12_walk 71 = .ok (.iload 11, 2) := by decide +kernel
theorem dX12_walk_73 : decode cX12_walk 73 = .ok (.iaload, 1) := by decide +kernel
theorem dX12_walk_74 : decode cX12_walk 74 = .ok (.iconst 1, 1) := by decide +kernel
theorem dX12_walk_75 : decode cX12_walk 75 = .ok (.aload_n 0, 1) := by decide +kernel
theorem dX12_walk_76 : decode cX12_walk 76 = .ok (.getfield 179, 3) := by decide +kernel
theorem dX12_walk_79 : decode cX12_walk 79 = .ok (.iload 11, 2) := by decide +kernel
theorem dX12_walk_81 : decode cX12_walk 81 = .ok (.bipush 42, 2) := by decide +kernel
theorem dX12_walk_83 : decode cX12_walk 83 = .ok (.iadd, 1) := by decide +kernel
theorem dX12_walk_84 : decode cX12_walk 84 = .ok (.iaload, 1) := by decide +kernel
theorem dX12_walk_85 : decode cX12_walk 85 = .ok (.iadd, 1) := by decide +kernel
theorem dX12_walk_86 : decode cX12_walk 86 = .ok (.if_icmp .ne 24, 3) := by decide +kernel
theorem dX12_walk_89 : decode cX12_walk 89 = .ok (.aload_n 0, 1) := by decide +kernel
theorem dX12_walk_90 : decode cX12_walk 90 = .ok (.getfield 182, 3) := by decide +kernel
theorem dX12_walk_93 : decode cX12_walk 93 = .ok (.iload 8, 2) := by decide +kernel
theorem dX12_walk_95 : decode cX12_walk 95 = .ok (.iaload, 1) := by decide +kernel
theorem dX12_walk_96 : decode cX12_walk 96 = .ok (.invokestatic 303, 3) := by decide +kernel
theorem dX12_walk_99 : decode cX12_walk 99 = .ok (.istore 10, 2) := by decide +kernel
theorem dX12_walk_101 : decode cX12_walk 101 = .ok (.iinc 8 1, 3) := by decide +kernel
theorem dX12_walk_104 : decode cX12_walk 104 = .ok (.iinc 9 1, 3) := by decide +kernel
theorem dX12_walk_107 : decode cX12_walk 107 = .ok (.goto (-95), 3) := by decide +kernel
theorem dX12_walk_110 : decode cX12_walk 110 = .ok (.iinc 7 1, 3) := by decide +kernel
theorem dX12_walk_113 : decode cX12_walk 113 = .ok (.iload 8, 2) := by decide +kernel
theorem dX12_walk_115 : decode cX12_walk 115 = .ok (.iload 4, 2) := by decide +kernel
theorem dX12_walk_117 : decode cX12_walk 117 = .ok (.if_icmp .ge 55, 3) := by decide +kernel
theorem dX12_walk_120 : decode cX12_walk 120 = .ok (.aload_n 0, 1) := by decide +kernel
theorem dX12_walk_121 : decode cX12_walk 121 = .ok (.getfield 179, 3) := by decide +kernel
theorem dX12_walk_124 : decode cX12_walk 124 = .ok (.iload 11, 2) := by decide +kernel
theorem dX12_walk_126 : decode cX12_walk 126 = .ok (.iaload, 1) := by decide +kernel
theorem dX12_walk_127 : decode cX12_walk 127 = .ok (.aload_n 0, 1) := by decide +kernel
theorem dX12_walk_128 : decode cX12_walk 128 = .ok (.getfield 179, 3) := by decide +kernel
theorem dX12_walk_131 : decode cX12_walk 131 = .ok (.iload 11, 2) := by decide +kernel
theorem dX12_walk_133 : decode cX12_walk 133 = .ok (.bipush 41, 2) := by decide +kernel
theorem dX12_walk_135 : decode cX12_walk 135 = .ok (.iadd, 1) := by decide +kernel
theorem dX12_walk_136 : decode cX12_walk 136 = .ok (.iaload, 1) := by decide +kernel
theorem dX12_walk_137 : decode cX12_walk 137 = .ok (.if_icmp .ne 35, 3) := by decide +kernel
theorem dX12_walk_140 : decode cX12_walk 140 = .ok (.iload 6, 2) := by decide +kernel
theorem dX12_walk_142 : decode cX12_walk 142 = .ok (.ifCond .eq 24, 3) := by decide +kernel
theorem dX12_walk_145 : decode cX12_walk 145 = .ok (.aload_n 0, 1) := by decide +kernel
theorem dX12_walk_146 : decode cX12_walk 146 = .ok (.iload_n 1, 1) := by decide +kernel
theorem dX12_walk_147 : decode cX12_walk 147 = .ok (.bipush 10, 2) := by decide +kernel
theorem dX12_walk_149 : decode cX12_walk 149 = .ok (.iload_n 2, 1) := by decide +kernel
theorem dX12_walk_150 : decode cX12_walk 150 = .ok (.iload_n 3, 1) := by decide +kernel
theorem dX12_walk_151 : decode cX12_walk 151 = .ok (.iconst 0, 1) := by decide +kernel
theorem dX12_walk_152 : decode cX12_walk 152 = .ok (.aload_n 0, 1) := by decide +kernel
theorem dX12_walk_153 : decode cX12_walk 153 = .ok (.getfield 182, 3) := by decide +kernel
theorem dX12_walk_156 : decode cX12_walk 156 = .ok (.iload 8, 2) := by decide +kernel
theorem dX12_walk_158 : decode cX12_walk 158 = .ok (.iaload, 1) := by decide +kernel
theorem dX12_walk_159 : decode cX12_walk 159 = .ok (.invokestatic 303, 3) := by decide +kernel
theorem dX12_walk_162 : decode cX12_walk 162 = .ok (.invokevirtual 409, 3) := by decide +kernel
theorem dX12_walk_165 : decode cX12_walk 165 = .ok (.pop, 1) := by decide +kernel
theorem dX12_walk_166 : decode cX12_walk 166 = .ok (.iinc 8 1, 3) := by decide +kernel
theorem dX12_walk_169 : decode cX12_walk 169 = .ok (.goto 31, 3) := by decide +kernel
theorem dX12_walk_172 : decode cX12_walk 172 = .ok (.iload 6, 2) := by decide +kernel
theorem dX12_walk_174 : decode cX12_walk 174 = .ok (.ifCond .eq 23, 3) := by decide +kernel
theorem dX12_walk_177 : decode cX12_walk 177 = .ok (.aload_n 0, 1) := by decide +kernel
theorem dX12_walk_178 : decode cX12_walk 178 = .ok (.iload_n 1, 1) := by decide +kernel
theorem dX12_walk_179 : decode cX12_walk 179 = .ok (.bipush 9, 2) := by decide +kernel
theorem dX12_walk_181 : decode cX12_walk 181 = .ok (.iload_n 2, 1) := by decide +kernel
theorem dX12_walk_182 : decode cX12_walk 182 = .ok (.iload_n 3, 1) := by decide +kernel
theorem dX12_walk_183 : decode cX12_walk 183 = .ok (.aload_n 0, 1) := by decide +kernel
theorem dX12_walk_184 : decode cX12_walk 184 = .ok (.getfield 7, 3) := by decide +kernel
theorem dX12_walk_187 : decode cX12_walk 187 = .ok (.iload 9, 2) := by decide +kernel
theorem dX12_walk_189 : decode cX12_walk 189 = .ok (.iaload, 1) := by decide +kernel
theorem dX12_walk_190 : decode cX12_walk 190 = .ok (.iload 10, 2) := by decide +kernel
theorem dX12_walk_192 : decode cX12_walk 192 = .ok (.invokevirtual 409, 3) := by decide +kernel
theorem dX12_walk_195 : decode cX12_walk 195 = .ok (.istore 10, 2) := by decide +kernel
theorem dX12_walk_197 : decode cX12_walk 197 = .ok (.iinc 9 1, 3) := by decide +kernel
theorem dX12_walk_200 : decode cX12_walk 200 = .ok (.goto (-188), 3) := by decide +kernel
theorem dX12_walk_203 : decode cX12_walk 203 = .ok (.iload 7, 2) := by decide +kernel
theorem dX12_walk_205 : decode cX12_walk 205 = .ok (.ireturn, 1) := by decide +kernel
theorem cd_walk : Cond.code yX12_walk cX12_walk 12 (some .int) ∈ lw_g := mt_at 2191 (by decide +kernel) rfl
theorem mw_walk : mCw 421 yX12_walk cX12_walk 12 (some .int) 6 := ⟨cd_walk, mt_at 2188 (by decide +kernel) rfl, in_M, by decide +kernel⟩
theorem im_walk : Cond.instanceMethod yX12_walk ∈ lw_g := mt_at 2190 (by decide +kernel) rfl
theorem sl_walk : Cond.selects RX12 yX12_walk yX12_walk ∈ lw_g := mt_sel 92 (by decide +kernel) rfl
section
variable {p : Program} {l : Launch} {e : Env} {R : Room} {s : State} {m : MethodId} {args : Array Value} {below : List Frame} {meth : Method} {c : Code} {cM : ClassId} {iS : Nat → Nat} {cI cZ : ClassId} {mo : Nat} {ad : Nat → Nat} {r : Int32} {S9 : mSt}
noncomputable def fm_walk_200 (g_12 : mSt → Int32 → Int32 → Int32 → Int32 → Int32 → Int32 → Int32 → Int32 → Int32 → Int32 → Option (Int32 × mSt)) (S : mSt) (v1 : Int32) (v2 : Int32) (v3 : Int32) (v4 : Int32) (v5 : Int32) (v6 : Int32) (v7 : Int32) (v8 : Int32) (v9 : Int32) (v10 : Int32) : Option (Int32 × mSt) :=
g_12 S v1 v2 v3 v4 v5 v6 v7 v8 v9 v10
set_option maxRecDepth 100000 in
set_option maxHeartbeats 4000000 in
theorem wm_walk_200 (C : mY p R s m args meth c cX12_walk 12 10 252 (some .int)) (X : mX s cM iS cI cZ mo ad) {g_12 : mSt → Int32 → Int32 → Int32 → Int32 → Int32 → Int32 → Int32 → Int32 → Int32 → Int32 → Option (Int32 × mSt)} (hg_12 : ∀ {S : mSt} {v1 : Int32} {v2 : Int32} {v3 : Int32} {v4 : Int32} {v5 : Int32} {v6 : Int32} {v7 : Int32} {v8 : Int32} {v9 : Int32} {v10 : Int32} {H : Heap} {locs : List Loc} {ls : Array Slot}, g_12 S v1 v2 v3 v4 v5 v6 v7 v8 v9 v10 = some (r, S9) → mW cM iS cI cZ mo ad S H → mS (mA mo ad) s.heap H locs → lv_has ls 12 [(0, .ref mo), (1, .int v1), (2, .int v2), (3, .int v3), (4, .int v4), (5, .int v5), (6, .int v6), (7, .int v7), (8, .int v8), (9, .int v9), (10, .int v10)] → W p l e R s m args below meth c H locs 0 0 (MQ below (mQw (some (.int r)) cM iS cI cZ mo ad S9) args s 0 0 (mA mo ad)) (F0 m 12 ls [])) : ∀ {S : mSt} {v1 : Int32} {v2 : Int32} {v3 : Int32} {v4 : Int32} {v5 : Int32} {v6 : Int32} {v7 : Int32} {v8 : Int32} {v9 : Int32} {v10 : Int32} {H : Heap} {locs : List Loc} {ls : Array Slot}, fm_walk_200 g_12 S v1 v2 v3 v4 v5 v6 v7 v8 v9 v10 = some (r, S9) → mW cM iS cI cZ mo ad S H → mS (mA mo ad) s.heap H locs → lv_has ls 12 [(0, .ref mo), (1, .int v1), (2, .int v2), (3, .int v3), (4, .int v4), (5, .int v5), (6, .int v6), (7, .int v7), (8, .int v8), (9, .int v9), (10, .int v10)] → W p l e R s m args below meth c H locs 0 0 (MQ below (mQw (some (.int r)) cM iS cI cZ mo ad S9) args s 0 0 (mA mo ad)) (F0 m 200 ls []) := by
  intro S v1 v2 v3 v4 v5 v6 v7 v8 v9 v10 H locs ls h hW hS hl
  unfold fm_walk_200 at h
  refine lv_goto (tgt := 12) C.1 C.2.1 dX12_walk_200 (by decide) ?_
  exact hg_12 h hW hS (lv_sub hl [0, 1, 2, 3, 4, 5, 6, 7, 8, 9, 10] rfl)
noncomputable def fm_walk_197 (g_12 : mSt → Int32 → Int32 → Int32 → Int32 → Int32 → Int32 → Int32 → Int32 → Int32 → Int32 → Option (Int32 × mSt)) (S : mSt) (v1 : Int32) (v2 : Int32) (v3 : Int32) (v4 : Int32) (v5 : Int32) (v6 : Int32) (v7 : Int32) (v8 : Int32) (v9 : Int32) (v10 : Int32) : Option (Int32 × mSt) :=
lt (v9 + (1 : Int32)) fun x1 =>
fm_walk_200 g_12 S v1 v2 v3 v4 v5 v6 v7 v8 x1 v10
set_option maxRecDepth 100000 in
set_option maxHeartbeats 4000000 in
theorem wm_walk_197 (C : mY p R s m args meth c cX12_walk 12 10 252 (some .int)) (X : mX s cM iS cI cZ mo ad) {g_12 : mSt → Int32 → Int32 → Int32 → Int32 → Int32 → Int32 → Int32 → Int32 → Int32 → Int32 → Option (Int32 × mSt)} (hg_12 : ∀ {S : mSt} {v1 : Int32} {v2 : Int32} {v3 : Int32} {v4 : Int32} {v5 : Int32} {v6 : Int32} {v7 : Int32} {v8 : Int32} {v9 : Int32} {v10 : Int32} {H : Heap} {locs : List Loc} {ls : Array Slot}, g_12 S v1 v2 v3 v4 v5 v6 v7 v8 v9 v10 = some (r, S9) → mW cM iS cI cZ mo ad S H → mS (mA mo ad) s.heap H locs → lv_has ls 12 [(0, .ref mo), (1, .int v1), (2, .int v2), (3, .int v3), (4, .int v4), (5, .int v5), (6, .int v6), (7, .int v7), (8, .int v8), (9, .int v9), (10, .int v10)] → W p l e R s m args below meth c H locs 0 0 (MQ below (mQw (some (.int r)) cM iS cI cZ mo ad S9) args s 0 0 (mA mo ad)) (F0 m 12 ls [])) : ∀ {S : mSt} {v1 : Int32} {v2 : Int32} {v3 : Int32} {v4 : Int32} {v5 : Int32} {v6 : Int32} {v7 : Int32} {v8 : Int32} {v9 : Int32} {v10 : Int32} {H : Heap} {locs : List Loc} {ls : Array Slot}, fm_walk_197 g_12 S v1 v2 v3 v4 v5 v6 v7 v8 v9 v10 = some (r, S9) → mW cM iS cI cZ mo ad S H → mS (mA mo ad) s.heap H locs → lv_has ls 12 [(0, .ref mo), (1, .int v1), (2, .int v2), (3, .int v3), (4, .int v4), (5, .int v5), (6, .int v6), (7, .int v7), (8, .int v8), (9, .int v9), (10, .int v10)] → W p l e R s m args below meth c H locs 0 0 (MQ below (mQw (some (.int r)) cM iS cI cZ mo ad S9) args s 0 0 (mA mo ad)) (F0 m 197 ls []) := by
  intro S v1 v2 v3 v4 v5 v6 v7 v8 v9 v10 H locs ls h hW hS hl
  unfold fm_walk_197 at h
  refine lt_ok h (fun x1 e_x1 h => ?_)
  refine lv_iinc (v := x1) (lv' := [(9, .int x1), (0, .ref mo), (1, .int v1), (2, .int v2), (3, .int v3), (4, .int v4), (5, .int v5), (6, .int v6), (7, .int v7), (8, .int v8), (10, .int v10)]) C.1 C.2.1 dX12_walk_197 hl (k := 9) rfl (by rw [← e_x1]; rfl) (by decide) rfl (fun ls hl => ?_)
  exact wm_walk_200 C X hg_12 h hW hS (lv_sub hl [1, 2, 3, 4, 5, 6, 7, 8, 9, 0, 10] rfl)
noncomputable def fm_walk_172 (g_12 : mSt → Int32 → Int32 → Int32 → Int32 → Int32 → Int32 → Int32 → Int32 → Int32 → Int32 → Option (Int32 × mSt)) (S : mSt) (v1 : Int32) (v2 : Int32) (v3 : Int32) (v4 : Int32) (v5 : Int32) (v6 : Int32) (v7 : Int32) (v8 : Int32) (v9 : Int32) (v10 : Int32) : Option (Int32 × mSt) :=
if v6 = 0 then (
fm_walk_197 g_12 S v1 v2 v3 v4 v5 v6 v7 v8 v9 v10)
else (
ck v9 40 (
bd (fm_make S v1 (9 : Int32) v2 v3 (rd S 2 v9) v10) fun q_r3 => lt q_r3.1 fun r3 => lt q_r3.2 fun S2 =>
fm_walk_197 g_12 S2 v1 v2 v3 v4 v5 v6 v7 v8 v9 r3))
set_option maxRecDepth 100000 in
set_option maxHeartbeats 4000000 in
theorem wm_walk_172 (C : mY p R s m args meth c cX12_walk 12 10 252 (some .int)) (X : mX s cM iS cI cZ mo ad) {g_12 : mSt → Int32 → Int32 → Int32 → Int32 → Int32 → Int32 → Int32 → Int32 → Int32 → Int32 → Option (Int32 × mSt)} (hg_12 : ∀ {S : mSt} {v1 : Int32} {v2 : Int32} {v3 : Int32} {v4 : Int32} {v5 : Int32} {v6 : Int32} {v7 : Int32} {v8 : Int32} {v9 : Int32} {v10 : Int32} {H : Heap} {locs : List Loc} {ls : Array Slot}, g_12 S v1 v2 v3 v4 v5 v6 v7 v8 v9 v10 = some (r, S9) → mW cM iS cI cZ mo ad S H → mS (mA mo ad) s.heap H locs → lv_has ls 12 [(0, .ref mo), (1, .int v1), (2, .int v2), (3, .int v3), (4, .int v4), (5, .int v5), (6, .int v6), (7, .int v7), (8, .int v8), (9, .int v9), (10, .int v10)] → W p l e R s m args below meth c H locs 0 0 (MQ below (mQw (some (.int r)) cM iS cI cZ mo ad S9) args s 0 0 (mA mo ad)) (F0 m 12 ls [])) : ∀ {S : mSt} {v1 : Int32} {v2 : Int32} {v3 : Int32} {v4 : Int32} {v5 : Int32} {v6 : Int32} {v7 : Int32} {v8 : Int32} {v9 : Int32} {v10 : Int32} {H : Heap} {locs : List Loc} {ls : Array Slot}, fm_walk_172 g_12 S v1 v2 v3 v4 v5 v6 v7 v8 v9 v10 = some (r, S9) → mW cM iS cI cZ mo ad S H → mS (mA mo ad) s.heap H locs → lv_has ls 12 [(0, .ref mo), (1, .int v1), (2, .int v2), (3, .int v3), (4, .int v4), (5, .int v5), (6, .int v6), (7, .int v7), (8, .int v8), (9, .int v9), (10, .int v10)] → W p l e R s m args below meth c H locs 0 0 (MQ below (mQw (some (.int r)) cM iS cI cZ mo ad S9) args s 0 0 (mA mo ad)) (F0 m 172 ls []) := by
  intro S v1 v2 v3 v4 v5 v6 v7 v8 v9 v10 H locs ls h hW hS hl
  unfold fm_walk_172 at h
  refine lv_iload C.1 C.2.1 dX12_walk_172 (lv_at hl 6 rfl) ?_
  refine lv_if_eq (tgt := 197) C.1 C.2.1 dX12_walk_174 (by decide) (fun c1 => ?_) (fun c1 => ?_)
  · have h := if_t h c1
    exact wm_walk_197 C X hg_12 h hW hS (lv_sub hl [0, 1, 2, 3, 4, 5, 6, 7, 8, 9, 10] rfl)
  · have h := if_f h c1
    refine lv_aload_n C.1 C.2.1 dX12_walk_177 rfl (lv_at hl 0 rfl) ?_
    refine lv_iload_n C.1 C.2.1 dX12_walk_178 rfl (lv_at hl 1 rfl) ?_
    refine lv_bipush (v := 9) C.1 C.2.1 dX12_walk_179 (by decide) ?_
    refine lv_iload_n C.1 C.2.1 dX12_walk_181 rfl (lv_at hl 2 rfl) ?_
    refine lv_iload_n C.1 C.2.1 dX12_walk_182 rfl (lv_at hl 3 rfl) ?_
    refine lv_aload_n C.1 C.2.1 dX12_walk_183 rfl (lv_at hl 0 rfl) ?_
    refine gf_2 C X hW dX12_walk_184 ?_
    refine lv_iload C.1 C.2.1 dX12_walk_187 (lv_at hl 9 rfl) ?_
    obtain ⟨hin, h⟩ := ck_ok h
    refine l_2 C X hW hin dX12_walk_189 ?_
    refine lv_iload C.1 C.2.1 dX12_walk_190 (lv_at hl 10 rfl) ?_
    obtain ⟨⟨r3, S2⟩, h_S2, h⟩ := bd_ok h
    refine m_callW (rest := []) (ov := some (.int r3)) C X hW hS hl.1 [.int v1, .int (9 : Int32), .int v2, .int v3, .int (rd S 2 v9), .int v10] (tm_make l h_S2) mw_make im_make sl_make rfl ⟨by decide, by decide⟩ rfl (Nat.le_of_ble_eq_true rfl) dX12_walk_192 (fun H locs hW hS => ?_)
    refine W.eq (g2 := F0 m 195 ls [.int r3]) rfl ?_
    refine lv_istore (lv' := [(10, .int r3), (0, .ref mo), (1, .int v1), (2, .int v2), (3, .int v3), (4, .int v4), (5, .int v5), (6, .int v6), (7, .int v7), (8, .int v8), (9, .int v9)]) C.1 C.2.1 dX12_walk_195 hl (by decide) rfl (fun ls hl => ?_)
    exact wm_walk_197 C X hg_12 h hW hS (lv_sub hl [1, 2, 3, 4, 5, 6, 7, 8, 9, 10, 0] rfl)
noncomputable def fm_walk_166 (g_12 : mSt → Int32 → Int32 → Int32 → Int32 → Int32 → Int32 → Int32 → Int32 → Int32 → Int32 → Option (Int32 × mSt)) (S : mSt) (v1 : Int32) (v2 : Int32) (v3 : Int32) (v4 : Int32) (v5 : Int32) (v6 : Int32) (v7 : Int32) (v8 : Int32) (v9 : Int32) (v10 : Int32) : Option (Int32 × mSt) :=
lt (v8 + (1 : Int32)) fun x1 =>
fm_walk_200 g_12 S v1 v2 v3 v4 v5 v6 v7 x1 v9 v10
set_option maxRecDepth 100000 in
set_option maxHeartbeats 4000000 in
theorem wm_walk_166 (C : mY p R s m args meth c cX12_walk 12 10 252 (some .int)) (X : mX s cM iS cI cZ mo ad) {g_12 : mSt → Int32 → Int32 → Int32 → Int32 → Int32 → Int32 → Int32 → Int32 → Int32 → Int32 → Option (Int32 × mSt)} (hg_12 : ∀ {S : mSt} {v1 : Int32} {v2 : Int32} {v3 : Int32} {v4 : Int32} {v5 : Int32} {v6 : Int32} {v7 : Int32} {v8 : Int32} {v9 : Int32} {v10 : Int32} {H : Heap} {locs : List Loc} {ls : Array Slot}, g_12 S v1 v2 v3 v4 v5 v6 v7 v8 v9 v10 = some (r, S9) → mW cM iS cI cZ mo ad S H → mS (mA mo ad) s.heap H locs → lv_has ls 12 [(0, .ref mo), (1, .int v1), (2, .int v2), (3, .int v3), (4, .int v4), (5, .int v5), (6, .int v6), (7, .int v7), (8, .int v8), (9, .int v9), (10, .int v10)] → W p l e R s m args below meth c H locs 0 0 (MQ below (mQw (some (.int r)) cM iS cI cZ mo ad S9) args s 0 0 (mA mo ad)) (F0 m 12 ls [])) : ∀ {S : mSt} {v1 : Int32} {v2 : Int32} {v3 : Int32} {v4 : Int32} {v5 : Int32} {v6 : Int32} {v7 : Int32} {v8 : Int32} {v9 : Int32} {v10 : Int32} {H : Heap} {locs : List Loc} {ls : Array Slot}, fm_walk_166 g_12 S v1 v2 v3 v4 v5 v6 v7 v8 v9 v10 = some (r, S9) → mW cM iS cI cZ mo ad S H → mS (mA mo ad) s.heap H locs → lv_has ls 12 [(0, .ref mo), (1, .int v1), (2, .int v2), (3, .int v3), (4, .int v4), (5, .int v5), (6, .int v6), (7, .int v7), (8, .int v8), (9, .int v9), (10, .int v10)] → W p l e R s m args below meth c H locs 0 0 (MQ below (mQw (some (.int r)) cM iS cI cZ mo ad S9) args s 0 0 (mA mo ad)) (F0 m 166 ls []) := by
  intro S v1 v2 v3 v4 v5 v6 v7 v8 v9 v10 H locs ls h hW hS hl
  unfold fm_walk_166 at h
  refine lt_ok h (fun x1 e_x1 h => ?_)
  refine lv_iinc (v := x1) (lv' := [(8, .int x1), (0, .ref mo), (1, .int v1), (2, .int v2), (3, .int v3), (4, .int v4), (5, .int v5), (6, .int v6), (7, .int v7), (9, .int v9), (10, .int v10)]) C.1 C.2.1 dX12_walk_166 hl (k := 8) rfl (by rw [← e_x1]; rfl) (by decide) rfl (fun ls hl => ?_)
  refine lv_goto (tgt := 200) C.1 C.2.1 dX12_walk_169 (by decide) ?_
  exact wm_walk_200 C X hg_12 h hW hS (lv_sub hl [1, 2, 3, 4, 5, 6, 7, 8, 0, 9, 10] rfl)
noncomputable def fm_walk_110 (g_12 : mSt → Int32 → Int32 → Int32 → Int32 → Int32 → Int32 → Int32 → Int32 → Int32 → Int32 → Option (Int32 × mSt)) (S : mSt) (v1 : Int32) (v2 : Int32) (v3 : Int32) (v4 : Int32) (v5 : Int32) (v6 : Int32) (v7 : Int32) (v8 : Int32) (v9 : Int32) (v10 : Int32) (v11 : Int32) : Option (Int32 × mSt) :=
lt (v7 + (1 : Int32)) fun x1 =>
if v4 ≤ v8 then (
fm_walk_172 g_12 S v1 v2 v3 v4 v5 v6 x1 v8 v9 v10)
else (
ck v11 41041 (
ck (v11 + (41 : Int32)) 41041 (
if (rd S 71 v11) = (rd S 71 (v11 + (41 : Int32))) then (
if v6 = 0 then (
fm_walk_166 g_12 S v1 v2 v3 v4 v5 v6 x1 v8 v9 v10)
else (
ck v8 1000 (
bd (fm_nameOf (rd S 72 v8)) fun r5 =>
bd (fm_make S v1 (10 : Int32) v2 v3 (0 : Int32) r5) fun q_r7 => lt q_r7.1 fun r7 => lt q_r7.2 fun S6 =>
fm_walk_166 g_12 S6 v1 v2 v3 v4 v5 v6 x1 v8 v9 v10)))
else (
fm_walk_172 g_12 S v1 v2 v3 v4 v5 v6 x1 v8 v9 v10))))
set_option maxRecDepth 100000 in
set_option maxHeartbeats 4000000 in
theorem wm_walk_110 (C : mY p R s m args meth c cX12_walk 12 10 252 (some .int)) (X : mX s cM iS cI cZ mo ad) {g_12 : mSt → Int32 → Int32 → Int32 → Int32 → Int32 → Int32 → Int32 → Int32 → Int32 → Int32 → Option (Int32 × mSt)} (hg_12 : ∀ {S : mSt} {v1 : Int32} {v2 : Int32} {v3 : Int32} {v4 : Int32} {v5 : Int32} {v6 : Int32} {v7 : Int32} {v8 : Int32} {v9 : Int32} {v10 : Int32} {H : Heap} {locs : List Loc} {ls : Array Slot}, g_12 S v1 v2 v3 v4 v5 v6 v7 v8 v9 v10 = some (r, S9) → mW cM iS cI cZ mo ad S H → mS (mA mo ad) s.heap H locs → lv_has ls 12 [(0, .ref mo), (1, .int v1), (2, .int v2), (3, .int v3), (4, .int v4), (5, .int v5), (6, .int v6), (7, .int v7), (8, .int v8), (9, .int v9), (10, .int v10)] → W p l e R s m args below meth c H locs 0 0 (MQ below (mQw (some (.int r)) cM iS cI cZ mo ad S9) args s 0 0 (mA mo ad)) (F0 m 12 ls [])) : ∀ {S : mSt} {v1 : Int32} {v2 : Int32} {v3 : Int32} {v4 : Int32} {v5 : Int32} {v6 : Int32} {v7 : Int32} {v8 : Int32} {v9 : Int32} {v10 : Int32} {v11 : Int32} {H : Heap} {locs : List Loc} {ls : Array Slot}, fm_walk_110 g_12 S v1 v2 v3 v4 v5 v6 v7 v8 v9 v10 v11 = some (r, S9) → mW cM iS cI cZ mo ad S H → mS (mA mo ad) s.heap H locs → lv_has ls 12 [(0, .ref mo), (1, .int v1), (2, .int v2), (3, .int v3), (4, .int v4), (5, .int v5), (6, .int v6), (7, .int v7), (8, .int v8), (9, .int v9), (10, .int v10), (11, .int v11)] → W p l e R s m args below meth c H locs 0 0 (MQ below (mQw (some (.int r)) cM iS cI cZ mo ad S9) args s 0 0 (mA mo ad)) (F0 m 110 ls []) := by
  intro S v1 v2 v3 v4 v5 v6 v7 v8 v9 v10 v11 H locs ls h hW hS hl
  unfold fm_walk_110 at h
  refine lt_ok h (fun x1 e_x1 h => ?_)
  refine lv_iinc (v := x1) (lv' := [(7, .int x1), (0, .ref mo), (1, .int v1), (2, .int v2), (3, .int v3), (4, .int v4), (5, .int v5), (6, .int v6), (8, .int v8), (9, .int v9), (10, .int v10), (11, .int v11)]) C.1 C.2.1 dX12_walk_110 hl (k := 7) rfl (by rw [← e_x1]; rfl) (by decide) rfl (fun ls hl => ?_)
  refine lv_iload C.1 C.2.1 dX12_walk_113 (lv_at hl 8 rfl) ?_
  refine lv_iload C.1 C.2.1 dX12_walk_115 (lv_at hl 5 rfl) ?_
  refine lv_icmp_ge (tgt := 172) C.1 C.2.1 dX12_walk_117 (by decide) (fun c2 => ?_) (fun c2 => ?_)
  · have h := if_t h c2
    exact wm_walk_172 C X hg_12 h hW hS (lv_sub hl [1, 2, 3, 4, 5, 6, 7, 0, 8, 9, 10] rfl)
  · have h := if_f h c2
    refine lv_aload_n C.1 C.2.1 dX12_walk_120 rfl (lv_at hl 1 rfl) ?_
    refine gf_71 C X hW dX12_walk_121 ?_
    refine lv_iload C.1 C.2.1 dX12_walk_124 (lv_at hl 11 rfl) ?_
    obtain ⟨hin, h⟩ := ck_ok h
    refine l_71 C X hW hin dX12_walk_126 ?_
    refine lv_aload_n C.1 C.2.1 dX12_walk_127 rfl (lv_at hl 1 rfl) ?_
    refine gf_71 C X hW dX12_walk_128 ?_
    refine lv_iload C.1 C.2.1 dX12_walk_131 (lv_at hl 11 rfl) ?_
    refine lv_bipush (v := 41) C.1 C.2.1 dX12_walk_133 (by decide) ?_
    refine lv_iadd C.1 C.2.1 dX12_walk_135 ?_
    obtain ⟨hin, h⟩ := ck_ok h
    refine l_71 C X hW hin dX12_walk_136 ?_
    refine lv_icmp_ne (tgt := 172) C.1 C.2.1 dX12_walk_137 (by decide) (fun c3 => ?_) (fun c3 => ?_)
    · have h := if_f h c3
      exact wm_walk_172 C X hg_12 h hW hS (lv_sub hl [1, 2, 3, 4, 5, 6, 7, 0, 8, 9, 10] rfl)
    · have h := if_t h c3
      refine lv_iload C.1 C.2.1 dX12_walk_140 (lv_at hl 7 rfl) ?_
      refine lv_if_eq (tgt := 166) C.1 C.2.1 dX12_walk_142 (by decide) (fun c4 => ?_) (fun c4 => ?_)
      · have h := if_t h c4
        exact wm_walk_166 C X hg_12 h hW hS (lv_sub hl [1, 2, 3, 4, 5, 6, 7, 0, 8, 9, 10] rfl)
      · have h := if_f h c4
        refine lv_aload_n C.1 C.2.1 dX12_walk_145 rfl (lv_at hl 1 rfl) ?_
        refine lv_iload_n C.1 C.2.1 dX12_walk_146 rfl (lv_at hl 2 rfl) ?_
        refine lv_bipush (v := 10) C.1 C.2.1 dX12_walk_147 (by decide) ?_
        refine lv_iload_n C.1 C.2.1 dX12_walk_149 rfl (lv_at hl 3 rfl) ?_
        refine lv_iload_n C.1 C.2.1 dX12_walk_150 rfl (lv_at hl 4 rfl) ?_
        refine lv_iconst (v := 0) C.1 C.2.1 dX12_walk_151 (by decide) ?_
        refine lv_aload_n C.1 C.2.1 dX12_walk_152 rfl (lv_at hl 1 rfl) ?_
        refine gf_72 C X hW dX12_walk_153 ?_
        refine lv_iload C.1 C.2.1 dX12_walk_156 (lv_at hl 8 rfl) ?_
        obtain ⟨hin, h⟩ := ck_ok h
        refine l_72 C X hW hin dX12_walk_158 ?_
        obtain ⟨r5, h_r5, h⟩ := bd_ok h
        refine m_callS (rest := [.int (0 : Int32), .int v3, .int v2, .int (10 : Int32), .int v1, .ref mo]) C hl.1 [.int (rd S 72 v8)] (tm_nameOf l h_r5) mw_nameOf st_nameOf rfl ⟨by decide, by decide⟩ rfl (Nat.le_of_ble_eq_true rfl) dX12_walk_159 ?_
        obtain ⟨⟨r7, S6⟩, h_S6, h⟩ := bd_ok h
        refine m_callW (rest := []) (ov := some (.int r7)) C X hW hS hl.1 [.int v1, .int (10 : Int32), .int v2, .int v3, .int (0 : Int32), .int r5] (tm_make l h_S6) mw_make im_make sl_make rfl ⟨by decide, by decide⟩ rfl (Nat.le_of_ble_eq_true rfl) dX12_walk_162 (fun H locs hW hS => ?_)
        refine W.eq (g2 := F0 m 165 ls [.int r7]) rfl ?_
        refine lv_pop C.1 C.2.1 dX12_walk_165 rfl ?_
        exact wm_walk_166 C X hg_12 h hW hS (lv_sub hl [1, 2, 3, 4, 5, 6, 7, 0, 8, 9, 10] rfl)
noncomputable def fm_walk_26 (g_12 : mSt → Int32 → Int32 → Int32 → Int32 → Int32 → Int32 → Int32 → Int32 → Int32 → Int32 → Option (Int32 × mSt)) (S : mSt) (v1 : Int32) (v2 : Int32) (v3 : Int32) (v4 : Int32) (v5 : Int32) (v6 : Int32) (v7 : Int32) (v8 : Int32) (v9 : Int32) (v10 : Int32) : Option (Int32 × mSt) :=
lt (((41 : Int32) * v8) + v9) fun x1 =>
if v4 ≤ v8 then (
fm_walk_110 g_12 S v1 v2 v3 v4 v5 v6 v7 v8 v9 v10 x1)
else (
if v5 ≤ v9 then (
fm_walk_110 g_12 S v1 v2 v3 v4 v5 v6 v7 v8 v9 v10 x1)
else (
ck v8 1000 (
ck v9 40 (
if (rd S 73 v8) = (rd S 2 v9) then (
ck x1 41041 (
ck (x1 + (42 : Int32)) 41041 (
if (rd S 71 x1) = ((1 : Int32) + (rd S 71 (x1 + (42 : Int32)))) then (
ck v8 1000 (
bd (fm_nameOf (rd S 72 v8)) fun r6 =>
lt (v8 + (1 : Int32)) fun x7 =>
lt (v9 + (1 : Int32)) fun x8 =>
g_12 S v1 v2 v3 v4 v5 v6 v7 x7 x8 r6))
else (
fm_walk_110 g_12 S v1 v2 v3 v4 v5 v6 v7 v8 v9 v10 x1))))
else (
fm_walk_110 g_12 S v1 v2 v3 v4 v5 v6 v7 v8 v9 v10 x1)))))
set_option maxRecDepth 100000 in
set_option maxHeartbeats 4000000 in
theorem wm_walk_26 (C : mY p R s m args meth c cX12_walk 12 10 252 (some .int)) (X : mX s cM iS cI cZ mo ad) {g_12 : mSt → Int32 → Int32 → Int32 → Int32 → Int32 → Int32 → Int32 → Int32 → Int32 → Int32 → Option (Int32 × mSt)} (hg_12 : ∀ {S : mSt} {v1 : Int32} {v2 : Int32} {v3 : Int32} {v4 : Int32} {v5 : Int32} {v6 : Int32} {v7 : Int32} {v8 : Int32} {v9 : Int32} {v10 : Int32} {H : Heap} {locs : List Loc} {ls : Array Slot}, g_12 S v1 v2 v3 v4 v5 v6 v7 v8 v9 v10 = some (r, S9) → mW cM iS cI cZ mo ad S H → mS (mA mo ad) s.heap H locs → lv_has ls 12 [(0, .ref mo), (1, .int v1), (2, .int v2), (3, .int v3), (4, .int v4), (5, .int v5), (6, .int v6), (7, .int v7), (8, .int v8), (9, .int v9), (10, .int v10)] → W p l e R s m args below meth c H locs 0 0 (MQ below (mQw (some (.int r)) cM iS cI cZ mo ad S9) args s 0 0 (mA mo ad)) (F0 m 12 ls [])) : ∀ {S : mSt} {v1 : Int32} {v2 : Int32} {v3 : Int32} {v4 : Int32} {v5 : Int32} {v6 : Int32} {v7 : Int32} {v8 : Int32} {v9 : Int32} {v10 : Int32} {H : Heap} {locs : List Loc} {ls : Array Slot}, fm_walk_26 g_12 S v1 v2 v3 v4 v5 v6 v7 v8 v9 v10 = some (r, S9) → mW cM iS cI cZ mo ad S H → mS (mA mo ad) s.heap H locs → lv_has ls 12 [(0, .ref mo), (1, .int v1), (2, .int v2), (3, .int v3), (4, .int v4), (5, .int v5), (6, .int v6), (7, .int v7), (8, .int v8), (9, .int v9), (10, .int v10)] → W p l e R s m args below meth c H locs 0 0 (MQ below (mQw (some (.int r)) cM iS cI cZ mo ad S9) args s 0 0 (mA mo ad)) (F0 m 26 ls []) := by
  intro S v1 v2 v3 v4 v5 v6 v7 v8 v9 v10 H locs ls h hW hS hl
  unfold fm_walk_26 at h
  refine lv_bipush (v := 41) C.1 C.2.1 dX12_walk_26 (by decide) ?_
  refine lv_iload C.1 C.2.1 dX12_walk_28 (lv_at hl 8 rfl) ?_
  refine lv_imul C.1 C.2.1 dX12_walk_30 ?_
  refine lv_iload C.1 C.2.1 dX12_walk_31 (lv_at hl 9 rfl) ?_
  refine lv_iadd C.1 C.2.1 dX12_walk_33 ?_
  refine lt_ok h (fun x1 e_x1 h => ?_)
  refine lv_nm e_x1 ?_
  refine lv_istore (lv' := [(11, .int x1), (0, .ref mo), (1, .int v1), (2, .int v2), (3, .int v3), (4, .int v4), (5, .int v5), (6, .int v6), (7, .int v7), (8, .int v8), (9, .int v9), (10, .int v10)]) C.1 C.2.1 dX12_walk_34 hl (by decide) rfl (fun ls hl => ?_)
  refine lv_iload C.1 C.2.1 dX12_walk_36 (lv_at hl 9 rfl) ?_
  refine lv_iload C.1 C.2.1 dX12_walk_38 (lv_at hl 5 rfl) ?_
  refine lv_icmp_ge (tgt := 110) C.1 C.2.1 dX12_walk_40 (by decide) (fun c2 => ?_) (fun c2 => ?_)
  · have h := if_t h c2
    exact wm_walk_110 C X hg_12 h hW hS (lv_sub hl [1, 2, 3, 4, 5, 6, 7, 8, 9, 10, 11, 0] rfl)
  · have h := if_f h c2
    refine lv_iload C.1 C.2.1 dX12_walk_43 (lv_at hl 10 rfl) ?_
    refine lv_iload C.1 C.2.1 dX12_walk_45 (lv_at hl 6 rfl) ?_
    refine lv_icmp_ge (tgt := 110) C.1 C.2.1 dX12_walk_47 (by decide) (fun c3 => ?_) (fun c3 => ?_)
    · have h := if_t h c3
      exact wm_walk_110 C X hg_12 h hW hS (lv_sub hl [1, 2, 3, 4, 5, 6, 7, 8, 9, 10, 11, 0] rfl)
    · have h := if_f h c3
      refine lv_aload_n C.1 C.2.1 dX12_walk_50 rfl (lv_at hl 1 rfl) ?_
      refine gf_73 C X hW dX12_walk_51 ?_
      refine lv_iload C.1 C.2.1 dX12_walk_54 (lv_at hl 9 rfl) ?_
      obtain ⟨hin, h⟩ := ck_ok h
      refine l_73 C X hW hin dX12_walk_56 ?_
      refine lv_aload_n C.1 C.2.1 dX12_walk_57 rfl (lv_at hl 1 rfl) ?_
      refine gf_2 C X hW dX12_walk_58 ?_
      refine lv_iload C.1 C.2.1 dX12_walk_61 (lv_at hl 10 rfl) ?_
      obtain ⟨hin, h⟩ := ck_ok h
      refine l_2 C X hW hin dX12_walk_63 ?_
      refine lv_icmp_ne (tgt := 110) C.1 C.2.1 dX12_walk_64 (by decide) (fun c4 => ?_) (fun c4 => ?_)
      · have h := if_f h c4
        exact wm_walk_110 C X hg_12 h hW hS (lv_sub hl [1, 2, 3, 4, 5, 6, 7, 8, 9, 10, 11, 0] rfl)
      · have h := if_t h c4
        refine lv_aload_n C.1 C.2.1 dX12_walk_67 rfl (lv_at hl 1 rfl) ?_
        refine gf_71 C X hW dX12_walk_68 ?_
        refine lv_iload C.1 C.2.1 dX12_walk_71 (lv_at hl 0 rfl) ?_
        obtain ⟨hin, h⟩ := ck_ok h
        refine l_71 C X hW hin dX12_walk_73 ?_
        refine lv_iconst (v := 1) C.1 C.2.1 dX12_walk_74 (by decide) ?_
        refine lv_aload_n C.1 C.2.1 dX12_walk_75 rfl (lv_at hl 1 rfl) ?_
        refine gf_71 C X hW dX12_walk_76 ?_
        refine lv_iload C.1 C.2.1 dX12_walk_79 (lv_at hl 0 rfl) ?_
        refine lv_bipush (v := 42) C.1 C.2.1 dX12_walk_81 (by decide) ?_
        refine lv_iadd C.1 C.2.1 dX12_walk_83 ?_
        obtain ⟨hin, h⟩ := ck_ok h
        refine l_71 C X hW hin dX12_walk_84 ?_
        refine lv_iadd C.1 C.2.1 dX12_walk_85 ?_
        refine lv_icmp_ne (tgt := 110) C.1 C.2.1 dX12_walk_86 (by decide) (fun c5 => ?_) (fun c5 => ?_)
        · have h := if_f h c5
          exact wm_walk_110 C X hg_12 h hW hS (lv_sub hl [1, 2, 3, 4, 5, 6, 7, 8, 9, 10, 11, 0] rfl)
        · have h := if_t h c5
          refine lv_aload_n C.1 C.2.1 dX12_walk_89 rfl (lv_at hl 1 rfl) ?_
          refine gf_72 C X hW dX12_walk_90 ?_
          refine lv_iload C.1 C.2.1 dX12_walk_93 (lv_at hl 9 rfl) ?_
          obtain ⟨hin, h⟩ := ck_ok h
          refine l_72 C X hW hin dX12_walk_95 ?_
          obtain ⟨r6, h_r6, h⟩ := bd_ok h
          refine m_callS (rest := []) C hl.1 [.int (rd S 72 v8)] (tm_nameOf l h_r6) mw_nameOf st_nameOf rfl ⟨by decide, by decide⟩ rfl (Nat.le_of_ble_eq_true rfl) dX12_walk_96 ?_
          refine lv_istore (lv' := [(10, .int r6), (11, .int x1), (0, .ref mo), (1, .int v1), (2, .int v2), (3, .int v3), (4, .int v4), (5, .int v5), (6, .int v6), (7, .int v7), (8, .int v8), (9, .int v9)]) C.1 C.2.1 dX12_walk_99 hl (by decide) rfl (fun ls hl => ?_)
          refine lt_ok h (fun x7 e_x7 h => ?_)
          refine lv_iinc (v := x7) (lv' := [(8, .int x7), (10, .int r6), (11, .int x1), (0, .ref mo), (1, .int v1), (2, .int v2), (3, .int v3), (4, .int v4), (5, .int v5), (6, .int v6), (7, .int v7), (9, .int v9)]) C.1 C.2.1 dX12_walk_101 hl (k := 10) rfl (by rw [← e_x7]; rfl) (by decide) rfl (fun ls hl => ?_)
          refine lt_ok h (fun x8 e_x8 h => ?_)
          refine lv_iinc (v := x8) (lv' := [(9, .int x8), (8, .int x7), (10, .int r6), (11, .int x1), (0, .ref mo), (1, .int v1), (2, .int v2), (3, .int v3), (4, .int v4), (5, .int v5), (6, .int v6), (7, .int v7)]) C.1 C.2.1 dX12_walk_104 hl (k := 11) rfl (by rw [← e_x8]; rfl) (by decide) rfl (fun ls hl => ?_)
          refine lv_goto (tgt := 12) C.1 C.2.1 dX12_walk_107 (by decide) ?_
          exact hg_12 h hW hS (lv_sub hl [4, 5, 6, 7, 8, 9, 10, 11, 1, 0, 2] rfl)
noncomputable def fm_walk_12 : Nat → mSt → Int32 → Int32 → Int32 → Int32 → Int32 → Int32 → Int32 → Int32 → Int32 → Int32 → Option (Int32 × mSt)
  | 0, _, _, _, _, _, _, _, _, _, _, _ => none
  | n + 1, S, v1, v2, v3, v4, v5, v6, v7, v8, v9, v10 =>
    if v8 < v4 then (
    fm_walk_26 (fm_walk_12 n) S v1 v2 v3 v4 v5 v6 v7 v8 v9 v10)
    else (
    if v5 ≤ v9 then (
    some (v7, S))
    else (
    fm_walk_26 (fm_walk_12 n) S v1 v2 v3 v4 v5 v6 v7 v8 v9 v10))
set_option maxRecDepth 100000 in
set_option maxHeartbeats 4000000 in
theorem wm_walk_12 (C : mY p R s m args meth c cX12_walk 12 10 252 (some .int)) (X : mX s cM iS cI cZ mo ad) : ∀ (n : Nat), ∀ {S : mSt} {v1 : Int32} {v2 : Int32} {v3 : Int32} {v4 : Int32} {v5 : Int32} {v6 : Int32} {v7 : Int32} {v8 : Int32} {v9 : Int32} {v10 : Int32} {H : Heap} {locs : List Loc} {ls : Array Slot}, fm_walk_12 n S v1 v2 v3 v4 v5 v6 v7 v8 v9 v10 = some (r, S9) → mW cM iS cI cZ mo ad S H → mS (mA mo ad) s.heap H locs → lv_has ls 12 [(0, .ref mo), (1, .int v1), (2, .int v2), (3, .int v3), (4, .int v4), (5, .int v5), (6, .int v6), (7, .int v7), (8, .int v8), (9, .int v9), (10, .int v10)] → W p l e R s m args below meth c H locs 0 0 (MQ below (mQw (some (.int r)) cM iS cI cZ mo ad S9) args s 0 0 (mA mo ad)) (F0 m 12 ls []) := by
  intro n
  induction n with
  | zero =>
    intro S v1 v2 v3 v4 v5 v6 v7 v8 v9 v10 H locs ls h hW hS hl
    exact absurd (show (none : Option (Int32 × mSt)) = _ from h) (fun q => by cases q)
  | succ n ih =>
    intro S v1 v2 v3 v4 v5 v6 v7 v8 v9 v10 H locs ls h hW hS hl
    rw [fm_walk_12] at h
    refine lv_iload C.1 C.2.1 dX12_walk_12 (lv_at hl 8 rfl) ?_
    refine lv_iload C.1 C.2.1 dX12_walk_14 (lv_at hl 4 rfl) ?_
    refine lv_icmp_lt (tgt := 26) C.1 C.2.1 dX12_walk_16 (by decide) (fun c1 => ?_) (fun c1 => ?_)
    · have h := if_t h c1
      exact wm_walk_26 C X ih h hW hS (lv_sub hl [0, 1, 2, 3, 4, 5, 6, 7, 8, 9, 10] rfl)
    · have h := if_f h c1
      refine lv_iload C.1 C.2.1 dX12_walk_19 (lv_at hl 9 rfl) ?_
      refine lv_iload C.1 C.2.1 dX12_walk_21 (lv_at hl 5 rfl) ?_
      refine lv_icmp_ge (tgt := 203) C.1 C.2.1 dX12_walk_23 (by decide) (fun c2 => ?_) (fun c2 => ?_)
      · have h := if_t h c2
        refine lv_iload C.1 C.2.1 dX12_walk_203 (lv_at hl 7 rfl) ?_
        cases h
        exact m_retiW C hW hS dX12_walk_205
      · have h := if_f h c2
        exact wm_walk_26 C X ih h hW hS (lv_sub hl [0, 1, 2, 3, 4, 5, 6, 7, 8, 9, 10] rfl)
noncomputable def fm_walk (S : mSt) (v1 : Int32) (v2 : Int32) (v3 : Int32) (v4 : Int32) (v5 : Int32) (v6 : Int32) : Option (Int32 × mSt) :=
fm_walk_12 mFU S v1 v2 v3 v4 v5 v6 (0 : Int32) (0 : Int32) (0 : Int32) (0 : Int32)
set_option maxRecDepth 100000 in
set_option maxHeartbeats 4000000 in
theorem tm_walk (l : Launch) {cM : ClassId} {iS : Nat → Nat} {cI cZ : ClassId} {mo : Nat} {ad : Nat → Nat} {S : mSt} {v1 : Int32} {v2 : Int32} {v3 : Int32} {v4 : Int32} {v5 : Int32} {v6 : Int32} {r : Int32} {S9 : mSt} (h : fm_walk S v1 v2 v3 v4 v5 v6 = some (r, S9)) : Met l yX12_walk (Cond.code yX12_walk cX12_walk 12 (some .int) :: lw_g) { frames := 10, cells := 0, slots := 0, locals := 252 } (mPi [.int v1, .int v2, .int v3, .int v4, .int v5, .int v6] cM iS cI cZ mo ad S) (mQw (some (.int r)) cM iS cI cZ mo ad S9) 0 0 (mA mo ad) := by
  refine Met.ofW (cc := cX12_walk) (maxL := 12) (ret := (some .int)) (by decide) rfl ?_
  intro p e s m args below meth c s₁ B hml hv
  obtain ⟨rfl, hW, X⟩ := hv
  have C : mY p (headSpec (Cond.code yX12_walk cX12_walk 12 (some .int) :: lw_g) { frames := 10, cells := 0, slots := 0, locals := 252 }).room s m _ meth c cX12_walk 12 10 252 (some .int) := ⟨B.exec, B.bytes, hml, findClass_of_methodNamed B.named, fun w hw => atoms_spec (ws := Cond.code yX12_walk cX12_walk 12 (some .int) :: lw_g) B.pre w (List.mem_cons_of_mem _ hw), ⟨Nat.le_refl _, Nat.le_refl _⟩, B.returns, B.notSynchronized⟩
  have hl := lv_entry ([.ref mo, .int v1, .int v2, .int v3, .int v4, .int v5, .int v6]) (n := 12) (Nat.le_of_ble_eq_true rfl)
  rw [lg_entry_eq]
  generalize (lg_sl ([.ref mo, .int v1, .int v2, .int v3, .int v4, .int v5, .int v6]) ++ List.replicate (12 - (lg_sl ([.ref mo, .int v1, .int v2, .int v3, .int v4, .int v5, .int v6])).length) Slot.unset).toArray = ls at hl ⊢
  have hl : lv_has ls 12 [(0, .ref mo), (1, .int v1), (2, .int v2), (3, .int v3), (4, .int v4), (5, .int v5), (6, .int v6)] := hl
  have hS : mS (mA mo ad) s.heap s.heap [] := mS.rf
  unfold fm_walk at h
  refine lv_iconst (v := 0) C.1 C.2.1 dX12_walk_0 (by decide) ?_
  refine lv_istore (lv' := [(7, .int (0 : Int32)), (0, .ref mo), (1, .int v1), (2, .int v2), (3, .int v3), (4, .int v4), (5, .int v5), (6, .int v6)]) C.1 C.2.1 dX12_walk_1 hl (by decide) rfl (fun ls hl => ?_)
  refine lv_iconst (v := 0) C.1 C.2.1 dX12_walk_3 (by decide) ?_
  refine lv_istore (lv' := [(8, .int (0 : Int32)), (7, .int (0 : Int32)), (0, .ref mo), (1, .int v1), (2, .int v2), (3, .int v3), (4, .int v4), (5, .int v5), (6, .int v6)]) C.1 C.2.1 dX12_walk_4 hl (by decide) rfl (fun ls hl => ?_)
  refine lv_iconst (v := 0) C.1 C.2.1 dX12_walk_6 (by decide) ?_
  refine lv_istore (lv' := [(9, .int (0 : Int32)), (8, .int (0 : Int32)), (7, .int (0 : Int32)), (0, .ref mo), (1, .int v1), (2, .int v2), (3, .int v3), (4, .int v4), (5, .int v5), (6, .int v6)]) C.1 C.2.1 dX12_walk_7 hl (by decide) rfl (fun ls hl => ?_)
  refine lv_iconst (v := 0) C.1 C.2.1 dX12_walk_9 (by decide) ?_
  refine lv_istore (lv' := [(10, .int (0 : Int32)), (9, .int (0 : Int32)), (8, .int (0 : Int32)), (7, .int (0 : Int32)), (0, .ref mo), (1, .int v1), (2, .int v2), (3, .int v3), (4, .int v4), (5, .int v5), (6, .int v6)]) C.1 C.2.1 dX12_walk_10 hl (by decide) rfl (fun ls hl => ?_)
  exact wm_walk_12 C X mFU h hW hS (lv_sub hl [4, 5, 6, 7, 8, 9, 10, 3, 2, 1, 0] rfl)
end
theorem dX12_isObject_0 : decode cX12_isObject 0 = .ok (.iload_n 1, 1) := by decide +kernel
theorem dX12_isObject_1 : decode cX12_isObject 1 = .ok (.iconst 0, 1) := by decide +kernel
theorem dX12_isObject_2 : decode cX12_isObject 2 = .ok (.iconst 3, 1) := by decide +kernel
theorem dX12_isObject_3 : decode cX12_isObject 3 = .ok (.invokestatic 215, 3) := by decide +kernel
theorem dX12_isObject_6 : decode cX12_isObject 6 = .ok (.ifCond .eq 16, 3) := by decide +kernel
theorem dX12_isObject_9 : decode cX12_isObject 9 = .ok (.aload_n 0, 1) := by decide +kernel
theorem dX12_isObject_10 : decode cX12_isObject 10 = .ok (.iload_n 1, 1) := by decide +kernel
theorem dX12_isObject_11 : decode cX12_isObject 11 = .ok (.iload_n 2, 1) := by decide +kernel
theorem dX12_isObject_12 : decode cX12_isObject 12 = .ok (.invokevirtual 399, 3) := by decide +kernel
theorem dX12_isObject_15 : decode cX12_isObject 15 = .ok (.ifCond .eq 7, 3) := by decide +kernel
theorem dX12_isObject_18 : decode cX12_isObject 18 = .ok (.iconst 1, 1) := by decide +kernel
theorem dX12_isObject_19 : decode cX12_isObject 19 = .ok (.goto 4, 3) := by decide +kernel
theorem dX12_isObject_22 : decode cX12_isObject 22 = .ok (.iconst 0, 1) := by decide +kernel
theorem dX12_isObject_23 : decode cX12_isObject 23 = .ok (.ireturn, 1) := by decide +kernel
theorem cd_isObject : Cond.code yX12_isObject cX12_isObject 3 (some .boolean) ∈ lw_g := mt_at 2183 (by decide +kernel) rfl
theorem mw_isObject : mCw 491 yX12_isObject cX12_isObject 3 (some .boolean) 2 := ⟨cd_isObject, mt_at 2180 (by decide +kernel) rfl, in_M, by decide +kernel⟩
theorem im_isObject : Cond.instanceMethod yX12_isObject ∈ lw_g := mt_at 2182 (by decide +kernel) rfl
theorem sl_isObject : Cond.selects RX12 yX12_isObject yX12_isObject ∈ lw_g := mt_sel 90 (by decide +kernel) rfl
section
variable {p : Program} {l : Launch} {e : Env} {R : Room} {s : State} {m : MethodId} {args : Array Value} {below : List Frame} {meth : Method} {c : Code} {cM : ClassId} {iS : Nat → Nat} {cI cZ : ClassId} {mo : Nat} {ad : Nat → Nat} {S : mSt} {r : Int32}
noncomputable def fm_isObject_23 (S : mSt) (s0 : Int32) : Option (Int32) :=
ckz s0 (some s0)
set_option maxRecDepth 100000 in
set_option maxHeartbeats 4000000 in
theorem wm_isObject_23 (C : mY p R s m args meth c cX12_isObject 3 3 67 (some .boolean)) (X : mX s cM iS cI cZ mo ad) (hW : mW cM iS cI cZ mo ad S s.heap) : ∀ {s0 : Int32} {ls : Array Slot}, fm_isObject_23 S s0 = some r → lv_has ls 3 [] → W p l e R s m args below meth c s.heap [] 0 0 (MQ below (mQi r) args s 0 0 mNo) (F0 m 23 ls [.int s0]) := by
  intro s0 ls h hl
  unfold fm_isObject_23 at h
  obtain ⟨hzo, h⟩ := ckz_ok h
  cases h
  exact m_retz C hzo rfl rfl dX12_isObject_23
noncomputable def fm_isObject_22 (S : mSt) : Option (Int32) :=
fm_isObject_23 S (0 : Int32)
set_option maxRecDepth 100000 in
set_option maxHeartbeats 4000000 in
theorem wm_isObject_22 (C : mY p R s m args meth c cX12_isObject 3 3 67 (some .boolean)) (X : mX s cM iS cI cZ mo ad) (hW : mW cM iS cI cZ mo ad S s.heap) : ∀ {ls : Array Slot}, fm_isObject_22 S = some r → lv_has ls 3 [] → W p l e R s m args below meth c s.heap [] 0 0 (MQ below (mQi r) args s 0 0 mNo) (F0 m 22 ls []) := by
  intro ls h hl
  unfold fm_isObject_22 at h
  refine lv_iconst (v := 0) C.1 C.2.1 dX12_isObject_22 (by decide) ?_
  exact wm_isObject_23 C X hW h (lv_sub hl [] rfl)
noncomputable def fm_isObject (S : mSt) (v1 : Int32) (v2 : Int32) : Option (Int32) :=
bd (fm_within v1 (0 : Int32) (3 : Int32)) fun r1 =>
if r1 = 0 then (
fm_isObject_22 S)
else (
bd (fm_isMadeNow S v1 v2) fun r3 =>
if r3 = 0 then (
fm_isObject_22 S)
else (
fm_isObject_23 S (1 : Int32)))
set_option maxRecDepth 100000 in
set_option maxHeartbeats 4000000 in
theorem tm_isObject (l : Launch) {cM : ClassId} {iS : Nat → Nat} {cI cZ : ClassId} {mo : Nat} {ad : Nat → Nat} {S : mSt} {v1 : Int32} {v2 : Int32} {r : Int32} (h : fm_isObject S v1 v2 = some r) : Met l yX12_isObject (Cond.code yX12_isObject cX12_isObject 3 (some .boolean) :: lw_g) { frames := 3, cells := 0, slots := 0, locals := 67 } (mPi [.int v1, .int v2] cM iS cI cZ mo ad S) (mQi r) 0 0 (mNo) := by
  refine Met.ofW (cc := cX12_isObject) (maxL := 3) (ret := (some .boolean)) (by decide) rfl ?_
  intro p e s m args below meth c s₁ B hml hv
  obtain ⟨rfl, hW, X⟩ := hv
  have C : mY p (headSpec (Cond.code yX12_isObject cX12_isObject 3 (some .boolean) :: lw_g) { frames := 3, cells := 0, slots := 0, locals := 67 }).room s m _ meth c cX12_isObject 3 3 67 (some .boolean) := ⟨B.exec, B.bytes, hml, findClass_of_methodNamed B.named, fun w hw => atoms_spec (ws := Cond.code yX12_isObject cX12_isObject 3 (some .boolean) :: lw_g) B.pre w (List.mem_cons_of_mem _ hw), ⟨Nat.le_refl _, Nat.le_refl _⟩, B.returns, B.notSynchronized⟩
  have hl := lv_entry ([.ref mo, .int v1, .int v2]) (n := 3) (Nat.le_of_ble_eq_true rfl)
  rw [lg_entry_eq]
  generalize (lg_sl ([.ref mo, .int v1, .int v2]) ++ List.replicate (3 - (lg_sl ([.ref mo, .int v1, .int v2])).length) Slot.unset).toArray = ls at hl ⊢
  have hl : lv_has ls 3 [(0, .ref mo), (1, .int v1), (2, .int v2)] := hl
  unfold fm_isObject at h
  refine lv_iload_n C.1 C.2.1 dX12_isObject_0 rfl (lv_at hl 1 rfl) ?_
  refine lv_iconst (v := 0) C.1 C.2.1 dX12_isObject_1 (by decide) ?_
  refine lv_iconst (v := 3) C.1 C.2.1 dX12_isObject_2 (by decide) ?_
  obtain ⟨r1, h_r1, h⟩ := bd_ok h
  refine m_callS (rest := []) C hl.1 [.int v1, .int (0 : Int32), .int (3 : Int32)] (tm_within l h_r1) mw_within st_within rfl ⟨by decide, by decide⟩ rfl (Nat.le_of_ble_eq_true rfl) dX12_isObject_3 ?_
  refine lv_if_eq (tgt := 22) C.1 C.2.1 dX12_isObject_6 (by decide) (fun c2 => ?_) (fun c2 => ?_)
  · have h := if_t h c2
    exact wm_isObject_22 C X hW h (lv_sub hl [] rfl)
  · have h := if_f h c2
    refine lv_aload_n C.1 C.2.1 dX12_isObject_9 rfl (lv_at hl 0 rfl) ?_
    refine lv_iload_n C.1 C.2.1 dX12_isObject_10 rfl (lv_at hl 1 rfl) ?_
    refine lv_iload_n C.1 C.2.1 dX12_isObject_11 rfl (lv_at hl 2 rfl) ?_
    obtain ⟨r3, h_r3, h⟩ := bd_ok h
    refine m_callR (rest := []) C X hW hl.1 [.int v1, .int v2] (tm_isMadeNow l h_r3) mw_isMadeNow im_isMadeNow sl_isMadeNow rfl ⟨by decide, by decide⟩ rfl (Nat.le_of_ble_eq_true rfl) dX12_isObject_12 ?_
    refine lv_if_eq (tgt := 22) C.1 C.2.1 dX12_isObject_15 (by decide) (fun c4 => ?_) (fun c4 => ?_)
    · have h := if_t h c4
      exact wm_isObject_22 C X hW h (lv_sub hl [] rfl)
    · have h := if_f h c4
      refine lv_iconst (v := 1) C.1 C.2.1 dX12_isObject_18 (by decide) ?_
      refine lv_goto (tgt := 23) C.1 C.2.1 dX12_isObject_19 (by decide) ?_
      exact wm_isObject_23 C X hW h (lv_sub hl [] rfl)
end
theorem dX12_hasPart_0 : decode cX12_hasPart 0 = .ok (.aload_n 0, 1) := by decide +kernel
theorem dX12_hasPart_1 : decode cX12_hasPart 1 = .ok (.iload_n 1, 1) := by decide +kernel
theorem dX12_hasPart_2 : decode cX12_hasPart 2 = .ok (.iload_n 2, 1) := by decide +kernel
theorem dX12_hasPart_3 : decode cX12_hasPart 3 = .ok (.invokevirtual 491, 3) := by decide +kernel
theorem dX12_hasPart_6 : decode cX12_hasPart 6 = .ok (.ifCond .eq 27, 3) := by decide +kernel
theorem dX12_hasPart_9 : decode cX12_hasPart 9 = .ok (.iload_n 3, 1) := by decide +kernel
theorem dX12_hasPart_10 : decode cX12_hasPart 10 = .ok (.iconst 0, 1) := by decide +kernel
theorem dX12_hasPart_11 : decode cX12_hasPart 11 = .ok (.aload_n 0, 1) := by decide +kernel
theorem dX12_hasPart_12 : decode cX12_hasPart 12 = .ok (.getfield 17, 3) := by decide +kernel
theorem dX12_hasPart_15 : decode cX12_hasPart 15 = .ok (.aload_n 0, 1) := by decide +kernel
theorem dX12_hasPart_16 : decode cX12_hasPart 16 = .ok (.iload_n 2, 1) := by decide +kernel
theorem dX12_hasPart_17 : decode cX12_hasPart 17 = .ok (.invokevirtual 250, 3) := by decide +kernel
theorem dX12_hasPart_20 : decode cX12_hasPart 20 = .ok (.iaload, 1) := by decide +kernel
theorem dX12_hasPart_21 : decode cX12_hasPart 21 = .ok (.iconst 1, 1) := by decide +kernel
theorem dX12_hasPart_22 : decode cX12_hasPart 22 = .ok (.isub, 1) := by decide +kernel
theorem dX12_hasPart_23 : decode cX12_hasPart 23 = .ok (.invokestatic 215, 3) := by decide +kernel
theorem dX12_hasPart_26 : decode cX12_hasPart 26 = .ok (.ifCond .eq 7, 3) := by decide +kernel
theorem dX12_hasPart_29 : decode cX12_hasPart 29 = .ok (.iconst 1, 1) := by decide +kernel
theorem dX12_hasPart_30 : decode cX12_hasPart 30 = .ok (.goto 4, 3) := by decide +kernel
theorem dX12_hasPart_33 : decode cX12_hasPart 33 = .ok (.iconst 0, 1) := by decide +kernel
theorem dX12_hasPart_34 : decode cX12_hasPart 34 = .ok (.ireturn, 1) := by decide +kernel
theorem cd_hasPart : Cond.code yX12_hasPart cX12_hasPart 4 (some .boolean) ∈ lw_g := mt_at 2179 (by decide +kernel) rfl
theorem mw_hasPart : mCw 415 yX12_hasPart cX12_hasPart 4 (some .boolean) 3 := ⟨cd_hasPart, mt_at 2176 (by decide +kernel) rfl, in_M, by decide +kernel⟩
theorem im_hasPart : Cond.instanceMethod yX12_hasPart ∈ lw_g := mt_at 2178 (by decide +kernel) rfl
theorem sl_hasPart : Cond.selects RX12 yX12_hasPart yX12_hasPart ∈ lw_g := mt_sel 89 (by decide +kernel) rfl
section
variable {p : Program} {l : Launch} {e : Env} {R : Room} {s : State} {m : MethodId} {args : Array Value} {below : List Frame} {meth : Method} {c : Code} {cM : ClassId} {iS : Nat → Nat} {cI cZ : ClassId} {mo : Nat} {ad : Nat → Nat} {S : mSt} {r : Int32}
noncomputable def fm_hasPart_34 (S : mSt) (s0 : Int32) : Option (Int32) :=
ckz s0 (some s0)
set_option maxRecDepth 100000 in
set_option maxHeartbeats 4000000 in
theorem wm_hasPart_34 (C : mY p R s m args meth c cX12_hasPart 4 4 89 (some .boolean)) (X : mX s cM iS cI cZ mo ad) (hW : mW cM iS cI cZ mo ad S s.heap) : ∀ {s0 : Int32} {ls : Array Slot}, fm_hasPart_34 S s0 = some r → lv_has ls 4 [] → W p l e R s m args below meth c s.heap [] 0 0 (MQ below (mQi r) args s 0 0 mNo) (F0 m 34 ls [.int s0]) := by
  intro s0 ls h hl
  unfold fm_hasPart_34 at h
  obtain ⟨hzo, h⟩ := ckz_ok h
  cases h
  exact m_retz C hzo rfl rfl dX12_hasPart_34
noncomputable def fm_hasPart_33 (S : mSt) : Option (Int32) :=
fm_hasPart_34 S (0 : Int32)
set_option maxRecDepth 100000 in
set_option maxHeartbeats 4000000 in
theorem wm_hasPart_33 (C : mY p R s m args meth c cX12_hasPart 4 4 89 (some .boolean)) (X : mX s cM iS cI cZ mo ad) (hW : mW cM iS cI cZ mo ad S s.heap) : ∀ {ls : Array Slot}, fm_hasPart_33 S = some r → lv_has ls 4 [] → W p l e R s m args below meth c s.heap [] 0 0 (MQ below (mQi r) args s 0 0 mNo) (F0 m 33 ls []) := by
  intro ls h hl
  unfold fm_hasPart_33 at h
  refine lv_iconst (v := 0) C.1 C.2.1 dX12_hasPart_33 (by decide) ?_
  exact wm_hasPart_34 C X hW h (lv_sub hl [] rfl)
noncomputable def fm_hasPart (S : mSt) (v1 : Int32) (v2 : Int32) (v3 : Int32) : Option (Int32) :=
bd (fm_isObject S v1 v2) fun r1 =>
if r1 = 0 then (
fm_hasPart_33 S)
else (
bd (fm_kindOf S v2) fun r3 =>
ck r3 8 (
bd (fm_within v3 (0 : Int32) ((rd S 5 r3) - (1 : Int32))) fun r4 =>
if r4 = 0 then (
fm_hasPart_33 S)
else (
fm_hasPart_34 S (1 : Int32))))
set_option maxRecDepth 100000 in
set_option maxHeartbeats 4000000 in
theorem tm_hasPart (l : Launch) {cM : ClassId} {iS : Nat → Nat} {cI cZ : ClassId} {mo : Nat} {ad : Nat → Nat} {S : mSt} {v1 : Int32} {v2 : Int32} {v3 : Int32} {r : Int32} (h : fm_hasPart S v1 v2 v3 = some r) : Met l yX12_hasPart (Cond.code yX12_hasPart cX12_hasPart 4 (some .boolean) :: lw_g) { frames := 4, cells := 0, slots := 0, locals := 89 } (mPi [.int v1, .int v2, .int v3] cM iS cI cZ mo ad S) (mQi r) 0 0 (mNo) := by
  refine Met.ofW (cc := cX12_hasPart) (maxL := 4) (ret := (some .boolean)) (by decide) rfl ?_
  intro p e s m args below meth c s₁ B hml hv
  obtain ⟨rfl, hW, X⟩ := hv
  have C : mY p (headSpec (Cond.code yX12_hasPart cX12_hasPart 4 (some .boolean) :: lw_g) { frames := 4, cells := 0, slots := 0, locals := 89 }).room s m _ meth c cX12_hasPart 4 4 89 (some .boolean) := ⟨B.exec, B.bytes, hml, findClass_of_methodNamed B.named, fun w hw => atoms_spec (ws := Cond.code yX12_hasPart cX12_hasPart 4 (some .boolean) :: lw_g) B.pre w (List.mem_cons_of_mem _ hw), ⟨Nat.le_refl _, Nat.le_refl _⟩, B.returns, B.notSynchronized⟩
  have hl := lv_entry ([.ref mo, .int v1, .int v2, .int v3]) (n := 4) (Nat.le_of_ble_eq_true rfl)
  rw [lg_entry_eq]
  generalize (lg_sl ([.ref mo, .int v1, .int v2, .int v3]) ++ List.replicate (4 - (lg_sl ([.ref mo, .int v1, .int v2, .int v3])).length) Slot.unset).toArray = ls at hl ⊢
  have hl : lv_has ls 4 [(0, .ref mo), (1, .int v1), (2, .int v2), (3, .int v3)] := hl
  unfold fm_hasPart at h
  refine lv_aload_n C.1 C.2.1 dX12_hasPart_0 rfl (lv_at hl 0 rfl) ?_
  refine lv_iload_n C.1 C.2.1 dX12_hasPart_1 rfl (lv_at hl 1 rfl) ?_
  refine lv_iload_n C.1 C.2.1 dX12_hasPart_2 rfl (lv_at hl 2 rfl) ?_
  obtain ⟨r1, h_r1, h⟩ := bd_ok h
  refine m_callR (rest := []) C X hW hl.1 [.int v1, .int v2] (tm_isObject l h_r1) mw_isObject im_isObject sl_isObject rfl ⟨by decide, by decide⟩ rfl (Nat.le_of_ble_eq_true rfl) dX12_hasPart_3 ?_
  refine lv_if_eq (tgt := 33) C.1 C.2.1 dX12_hasPart_6 (by decide) (fun c2 => ?_) (fun c2 => ?_)
  · have h := if_t h c2
    exact wm_hasPart_33 C X hW h (lv_sub hl [] rfl)
  · have h := if_f h c2
    refine lv_iload_n C.1 C.2.1 dX12_hasPart_9 rfl (lv_at hl 3 rfl) ?_
    refine lv_iconst (v := 0) C.1 C.2.1 dX12_hasPart_10 (by decide) ?_
    refine lv_aload_n C.1 C.2.1 dX12_hasPart_11 rfl (lv_at hl 0 rfl) ?_
    refine gf_5 C X hW dX12_hasPart_12 ?_
    refine lv_aload_n C.1 C.2.1 dX12_hasPart_15 rfl (lv_at hl 0 rfl) ?_
    refine lv_iload_n C.1 C.2.1 dX12_hasPart_16 rfl (lv_at hl 2 rfl) ?_
    obtain ⟨r3, h_r3, h⟩ := bd_ok h
    refine m_callR (rest := [.ref (ad 5), .int (0 : Int32), .int v3]) C X hW hl.1 [.int v2] (tm_kindOf l h_r3) mw_kindOf im_kindOf sl_kindOf rfl ⟨by decide, by decide⟩ rfl (Nat.le_of_ble_eq_true rfl) dX12_hasPart_17 ?_
    obtain ⟨hin, h⟩ := ck_ok h
    refine l_5 C X hW hin dX12_hasPart_20 ?_
    refine lv_iconst (v := 1) C.1 C.2.1 dX12_hasPart_21 (by decide) ?_
    refine lv_isub C.1 C.2.1 dX12_hasPart_22 ?_
    obtain ⟨r4, h_r4, h⟩ := bd_ok h
    refine m_callS (rest := []) C hl.1 [.int v3, .int (0 : Int32), .int ((rd S 5 r3) - (1 : Int32))] (tm_within l h_r4) mw_within st_within rfl ⟨by decide, by decide⟩ rfl (Nat.le_of_ble_eq_true rfl) dX12_hasPart_23 ?_
    refine lv_if_eq (tgt := 33) C.1 C.2.1 dX12_hasPart_26 (by decide) (fun c5 => ?_) (fun c5 => ?_)
    · have h := if_t h c5
      exact wm_hasPart_33 C X hW h (lv_sub hl [] rfl)
    · have h := if_f h c5
      refine lv_iconst (v := 1) C.1 C.2.1 dX12_hasPart_29 (by decide) ?_
      refine lv_goto (tgt := 34) C.1 C.2.1 dX12_hasPart_30 (by decide) ?_
      exact wm_hasPart_34 C X hW h (lv_sub hl [] rfl)
end
theorem dX12_commit_0 : decode cX12_commit 0 = .ok (.aload_n 0, 1) := by decide +kernel
theorem dX12_commit_1 : decode cX12_commit 1 = .ok (.iconst 0, 1) := by decide +kernel
theorem dX12_commit_2 : decode cX12_commit 2 = .ok (.putfield 200, 3) := by decide +kernel
theorem dX12_commit_5 : decode cX12_commit 5 = .ok (.aload_n 0, 1) := by decide +kernel
theorem dX12_commit_6 : decode cX12_commit 6 = .ok (.getfield 203, 3) := by decide +kernel
theorem dX12_commit_9 : decode cX12_commit 9 = .ok (.istore 4, 2) := by decide +kernel
theorem dX12_commit_11 : decode cX12_commit 11 = .ok (.aload_n 0, 1) := by decide +kernel
theorem dX12_commit_12 : decode cX12_commit 12 = .ok (.iconst 0, 1) := by decide +kernel
theorem dX12_commit_13 : decode cX12_commit 13 = .ok (.putfield 203, 3) := by decide +kernel
theorem dX12_commit_16 : decode cX12_commit 16 = .ok (.aload_n 0, 1) := by decide +kernel
theorem dX12_commit_17 : decode cX12_commit 17 = .ok (.iload_n 1, 1) := by decide +kernel
theorem dX12_commit_18 : decode cX12_commit 18 = .ok (.iload_n 2, 1) := by decide +kernel
theorem dX12_commit_19 : decode cX12_commit 19 = .ok (.iload_n 3, 1) := by decide +kernel
theorem dX12_commit_20 : decode cX12_commit 20 = .ok (.invokevirtual 415, 3) := by decide +kernel
theorem dX12_commit_23 : decode cX12_commit 23 = .ok (.ifCond .ne 5, 3) := by decide +kernel
theorem dX12_commit_26 : decode cX12_commit 26 = .ok (.iconst (-1), 1) := by decide +kernel
theorem dX12_commit_27 : decode cX12_commit 27 = .ok (.ireturn, 1) := by decide +kernel
theorem dX12_commit_28 : decode cX12_commit 28 = .ok (.aload_n 0, 1) := by decide +kernel
theorem dX12_commit_29 : decode cX12_commit 29 = .ok (.iload_n 2, 1) := by decide +kernel
theorem dX12_commit_30 : decode cX12_commit 30 = .ok (.iload_n 3, 1) := by decide +kernel
theorem dX12_commit_31 : decode cX12_commit 31 = .ok (.invokevirtual 256, 3) := by decide +kernel
theorem dX12_commit_34 : decode cX12_commit 34 = .ok (.bipush 84, 2) := by decide +kernel
theorem dX12_commit_36 : decode cX12_commit 36 = .ok (.if_icmp .eq 6, 3) := by decide +kernel
theorem dX12_commit_39 : decode cX12_commit 39 = .ok (.bipush (-2), 2) := by decide +kernel
theorem dX12_commit_41 : decode cX12_commit 41 = .ok (.ireturn, 1) := by decide +kernel
theorem dX12_commit_42 : decode cX12_commit 42 = .ok (.aload_n 0, 1) := by decide +kernel
theorem dX12_commit_43 : decode cX12_commit 43 = .ok (.iload_n 1, 1) := by decide +kernel
theorem dX12_commit_44 : decode cX12_commit 44 = .ok (.iload_n 2, 1) := by decide +kernel
theorem dX12_commit_45 : decode cX12_commit 45 = .ok (.invokevirtual 365, 3) := by decide +kernel
theorem dX12_commit_48 : decode cX12_commit 48 = .ok (.ifCond .ne 6, 3) := by decide +kernel
theorem dX12_commit_51 : decode cX12_commit 51 = .ok (.bipush (-3), 2) := by decide +kernel
theorem dX12_commit_53 : decode cX12_commit 53 = .ok (.ireturn, 1) := by decide +kernel
theorem dX12_commit_54 : decode cX12_commit 54 = .ok (.aload_n 0, 1) := by decide +kernel
theorem dX12_commit_55 : decode cX12_commit 55 = .ok (.iload_n 1, 1) := by decide +kernel
theorem dX12_commit_56 : decode cX12_commit 56 = .ok (.aload_n 0, 1) := by decide +kernel
theorem dX12_commit_57 : decode cX12_commit 57 = .ok (.getfield 71, 3) := by decide +kernel
theorem dX12_commit_60 : decode cX12_commit 60 = .ok (.iload_n 1, 1) := by decide +kernel
theorem dX12_commit_61 : decode cX12_commit 61 = .ok (.iaload, 1) := by decide +kernel
theorem dX12_commit_62 : decode cX12_commit 62 = .ok (.iload_n 2, 1) := by decide +kernel
theorem dX12_commit_63 : decode cX12_commit 63 = .ok (.iload_n 3, 1) := by decide +kernel
theorem dX12_commit_64 : decode cX12_commit 64 = .ok (.invokevirtual 340, 3) := by decide +kernel
theorem dX12_commit_67 : decode cX12_commit 67 = .ok (.aload_n 0, 1) := by decide +kernel
theorem dX12_commit_68 : decode cX12_commit 68 = .ok (.getfield 253, 3) := by decide +kernel
theorem dX12_commit_71 : decode cX12_commit 71 = .ok (.istore 5, 2) := by decide +kernel
theorem dX12_commit_73 : decode cX12_commit 73 = .ok (.iconst 0, 1) := by decide +kernel
theorem dX12_commit_74 : decode cX12_commit 74 = .ok (.istore 6, 2) := by decide +kernel
theorem dX12_commit_76 : decode cX12_commit 76 = .ok (.iload 6, 2) := by decide +kernel
theorem dX12_commit_78 : decode cX12_commit 78 = .ok (.iload 5, 2) := by decide +kernel
theorem dX12_commit_80 : decode cX12_commit 80 = .ok (.if_icmp .ge 37, 3) := by decide +kernel
theorem dX12_commit_83 : decode cX12_commit 83 = .ok (.aload_n 0, 1) := by decide +kernel
theorem dX12_commit_84 : decode cX12_commit 84 = .ok (.getfield 182, 3) := by decide +kernel
theorem dX12_commit_87 : decode cX12_commit 87 = .ok (.iload 6, 2) := by decide +kernel
theorem dX12_commit_89 : decode cX12_commit 89 = .ok (.aload_n 0, 1) := by decide +kernel
theorem dX12_commit_90 : decode cX12_commit 90 = .ok (.getfield 142, 3) := by decide +kernel
theorem dX12_commit_93 : decode cX12_commit 93 = .ok (.iload 6, 2) := by decide +kernel
theorem dX12_commit_95 : decode cX12_commit 95 = .ok (.iaload, 1) := by decide +kernel
theorem dX12_commit_96 : decode cX12_commit 96 = .ok (.iastore, 1) := by decide +kernel
theorem dX12_commit_97 : decode cX12_commit 97 = .ok (.aload_n 0, 1) := by decide +kernel
theorem dX12_commit_98 : decode cX12_commit 98 = .ok (.getfield 185, 3) := by decide +kernel
theorem dX12_commit_101 : decode cX12_commit 101 = .ok (.iload 6, 2) := by decide +kernel
theorem dX12_commit_103 : decode cX12_commit 103 = .ok (.aload_n 0, 1) := by decide +kernel
theorem dX12_commit_104 : decode cX12_commit 104 = .ok (.getfield 139, 3) := by decide +kernel
theorem dX12_commit_107 : decode cX12_commit 107 = .ok (.iload 6, 2) := by decide +kernel
theorem dX12_commit_109 : decode cX12_commit 109 = .ok (.iaload, 1) := by decide +kernel
theorem dX12_commit_110 : decode cX12_commit 110 = .ok (.iastore, 1) := by decide +kernel
theorem dX12_commit_111 : decode cX12_commit 111 = .ok (.iinc 6 1, 3) := by decide +kernel
theorem dX12_commit_114 : decode cX12_commit 114 = .ok (.goto (-38), 3) := by decide +kernel
theorem dX12_commit_117 : decode cX12_commit 117 = .ok (.aload_n 0, 1) := by decide +kernel
theorem dX12_commit_118 : decode cX12_commit 118 = .ok (.iload 5, 2) := by decide +kernel
theorem dX12_commit_120 : decode cX12_commit 120 = .ok (.iload 4, 2) := by decide +kernel
theorem dX12_commit_122 : decode cX12_commit 122 = .ok (.invokevirtual 418, 3) := by decide +kernel
theorem dX12_commit_125 : decode cX12_commit 125 = .ok (.aload_n 0, 1) := by decide +kernel
theorem dX12_commit_126 : decode cX12_commit 126 = .ok (.iload_n 1, 1) := by decide +kernel
theorem dX12_commit_127 : decode cX12_commit 127 = .ok (.iload_n 2, 1) := by decide +kernel
theorem dX12_commit_128 : decode cX12_commit 128 = .ok (.iload_n 3, 1) := by decide +kernel
theorem dX12_commit_129 : decode cX12_commit 129 = .ok (.iload 5, 2) := by decide +kernel
theorem dX12_commit_131 : decode cX12_commit 131 = .ok (.iload 4, 2) := by decide +kernel
theorem dX12_commit_133 : decode cX12_commit 133 = .ok (.iconst 0, 1) := by decide +kernel
theorem dX12_commit_134 : decode cX12_commit 134 = .ok (.invokevirtual 421, 3) := by decide +kernel
theorem dX12_commit_137 : decode cX12_commit 137 = .ok (.istore 6, 2) := by decide +kernel
theorem dX12_commit_139 : decode cX12_commit 139 = .ok (.aload_n 0, 1) := by decide +kernel
theorem dX12_commit_140 : decode cX12_commit 140 = .ok (.getfield 23, 3) := by decide +kernel
theorem dX12_commit_143 : decode cX12_commit 143 = .ok (.iload_n 1, 1) := by decide +kernel
theorem dX12_commit_144 : decode cX12_commit 144 = .ok (.iaload, 1) := by decide +kernel
theorem dX12_commit_145 : decode cX12_commit 145 = .ok (.iload 6, 2) := by decide +kernel
theorem dX12_commit_147 : decode cX12_commit 147 = .ok (.iadd, 1) := by decide +kernel
theorem dX12_commit_148 : decode cX12_commit 148 = .ok (.sipush 250, 3) := by decide +kernel
theorem dX12_commit_151 : decode cX12_commit 151 = .ok (.if_icmp .le 6, 3) := by decide +kernel
theorem dX12_commit_154 : decode cX12_commit 154 = .ok (.bipush (-4), 2) := by decide +kernel
theorem dX12_commit_156 : decode cX12_commit 156 = .ok (.ireturn, 1) := by decide +kernel
theorem dX12_commit_157 : decode cX12_commit 157 = .ok (.aload_n 0, 1) := by decide +kernel
theorem dX12_commit_158 : decode cX12_commit 158 = .ok (.iload_n 1, 1) := by decide +kernel
theorem dX12_commit_159 : decode cX12_commit 159 = .ok (.iload_n 2, 1) := by decide +kernel
theorem dX12_commit_160 : decode cX12_commit 160 = .ok (.iload_n 3, 1) := by decide +kernel
theorem dX12_commit_161 : decode cX12_commit 161 = .ok (.iload 5, 2) := by decide +kernel
theorem dX12_commit_163 : decode cX12_commit 163 = .ok (.iload 4, 2) := by decide +kernel
theorem dX12_commit_165 : decode cX12_commit 165 = .ok (.iconst 1, 1) := by decide +kernel
theorem dX12_commit_166 : decode cX12_commit 166 = .ok (.invokevirtual 421, 3) := by decide +kernel
theorem dX12_commit_169 : decode cX12_commit 169 = .ok (.ireturn, 1) := by decide +kernel
theorem cd_commit : Cond.code yX12_commit cX12_commit 7 (some .int) ∈ lw_g := mt_at 2175 (by decide +kernel) rfl
section
variable {p : Program} {l : Launch} {e : Env} {R : Room} {s : State} {m : MethodId} {args : Array Value} {below : List Frame} {meth : Method} {c : Code} {cM : ClassId} {iS : Nat → Nat} {cI cZ : ClassId} {mo : Nat} {ad : Nat → Nat} {r : Int32} {S9 : mSt}
noncomputable def fm_commit_76 : Nat → mSt → Int32 → Int32 → Int32 → Int32 → Int32 → Int32 → Option (Int32 × mSt)
  | 0, _, _, _, _, _, _, _ => none
  | n + 1, S, v1, v2, v3, v4, v5, v6 =>
    if v5 ≤ v6 then (
    bd (fm_findCommon S v5 v4) fun S2 =>
    bd (fm_walk S2 v1 v2 v3 v5 v4 (0 : Int32)) fun q_r4 => lt q_r4.1 fun r4 => lt q_r4.2 fun S3 =>
    ck v1 4 (
    if ((rd S3 7 v1) + r4) ≤ (250 : Int32) then (
    bd (fm_walk S3 v1 v2 v3 v5 v4 (1 : Int32)) fun q_r7 => lt q_r7.1 fun r7 => lt q_r7.2 fun S6 =>
    some (r7, S6))
    else (
    some ((-4 : Int32), S3))))
    else (
    ck v6 1000 (
    ck v6 1000 (lt (wr S 72 v6 (rd S 51 v6)) fun S8 =>
    ck v6 1000 (
    ck v6 1000 (lt (wr S8 73 v6 (rd S8 50 v6)) fun S9 =>
    lt (v6 + (1 : Int32)) fun x10 =>
    fm_commit_76 n S9 v1 v2 v3 v4 v5 x10)))))
set_option maxRecDepth 100000 in
set_option maxHeartbeats 4000000 in
theorem wm_commit_76 (C : mY p R s m args meth c cX12_commit 7 11 283 (some .int)) (X : mX s cM iS cI cZ mo ad) : ∀ (n : Nat), ∀ {S : mSt} {v1 : Int32} {v2 : Int32} {v3 : Int32} {v4 : Int32} {v5 : Int32} {v6 : Int32} {H : Heap} {locs : List Loc} {ls : Array Slot}, fm_commit_76 n S v1 v2 v3 v4 v5 v6 = some (r, S9) → mW cM iS cI cZ mo ad S H → mS (mA mo ad) s.heap H locs → lv_has ls 7 [(0, .ref mo), (1, .int v1), (2, .int v2), (3, .int v3), (4, .int v4), (5, .int v5), (6, .int v6)] → W p l e R s m args below meth c H locs 0 0 (MQ below (mQw (some (.int r)) cM iS cI cZ mo ad S9) args s 0 0 (mA mo ad)) (F0 m 76 ls []) := by
  intro n
  induction n with
  | zero =>
    intro S v1 v2 v3 v4 v5 v6 H locs ls h hW hS hl
    exact absurd (show (none : Option (Int32 × mSt)) = _ from h) (fun q => by cases q)
  | succ n ih =>
    intro S v1 v2 v3 v4 v5 v6 H locs ls h hW hS hl
    rw [fm_commit_76] at h
    refine lv_iload C.1 C.2.1 dX12_commit_76 (lv_at hl 6 rfl) ?_
    refine lv_iload C.1 C.2.1 dX12_commit_78 (lv_at hl 5 rfl) ?_
    refine lv_icmp_ge (tgt := 117) C.1 C.2.1 dX12_commit_80 (by decide) (fun c1 => ?_) (fun c1 => ?_)
    · have h := if_t h c1
      refine lv_aload_n C.1 C.2.1 dX12_commit_117 rfl (lv_at hl 0 rfl) ?_
      refine lv_iload C.1 C.2.1 dX12_commit_118 (lv_at hl 5 rfl) ?_
      refine lv_iload C.1 C.2.1 dX12_commit_120 (lv_at hl 4 rfl) ?_
      obtain ⟨S2, h_S2, h⟩ := bd_ok h
      refine m_callW (rest := []) (ov := none) C X hW hS hl.1 [.int v5, .int v4] (tm_findCommon l h_S2) mw_findCommon im_findCommon sl_findCommon rfl ⟨by decide, by decide⟩ rfl (Nat.le_of_ble_eq_true rfl) dX12_commit_122 (fun H locs hW hS => ?_)
      refine W.eq (g2 := F0 m 125 ls []) rfl ?_
      refine lv_aload_n C.1 C.2.1 dX12_commit_125 rfl (lv_at hl 0 rfl) ?_
      refine lv_iload_n C.1 C.2.1 dX12_commit_126 rfl (lv_at hl 1 rfl) ?_
      refine lv_iload_n C.1 C.2.1 dX12_commit_127 rfl (lv_at hl 2 rfl) ?_
      refine lv_iload_n C.1 C.2.1 dX12_commit_128 rfl (lv_at hl 3 rfl) ?_
      refine lv_iload C.1 C.2.1 dX12_commit_129 (lv_at hl 5 rfl) ?_
      refine lv_iload C.1 C.2.1 dX12_commit_131 (lv_at hl 4 rfl) ?_
      refine lv_iconst (v := 0) C.1 C.2.1 dX12_commit_133 (by decide) ?_
      obtain ⟨⟨r4, S3⟩, h_S3, h⟩ := bd_ok h
      refine m_callW (rest := []) (ov := some (.int r4)) C X hW hS hl.1 [.int v1, .int v2, .int v3, .int v5, .int v4, .int (0 : Int32)] (tm_walk l h_S3) mw_walk im_walk sl_walk rfl ⟨by decide, by decide⟩ rfl (Nat.le_of_ble_eq_true rfl) dX12_commit_134 (fun H locs hW hS => ?_)
      refine W.eq (g2 := F0 m 137 ls [.int r4]) rfl ?_
      refine lv_istore (lv' := [(6, .int r4), (0, .ref mo), (1, .int v1), (2, .int v2), (3, .int v3), (4, .int v4), (5, .int v5)]) C.1 C.2.1 dX12_commit_137 hl (by decide) rfl (fun ls hl => ?_)
      refine lv_aload_n C.1 C.2.1 dX12_commit_139 rfl (lv_at hl 1 rfl) ?_
      refine gf_7 C X hW dX12_commit_140 ?_
      refine lv_iload_n C.1 C.2.1 dX12_commit_143 rfl (lv_at hl 2 rfl) ?_
      obtain ⟨hin, h⟩ := ck_ok h
      refine l_7 C X hW hin dX12_commit_144 ?_
      refine lv_iload C.1 C.2.1 dX12_commit_145 (lv_at hl 0 rfl) ?_
      refine lv_iadd C.1 C.2.1 dX12_commit_147 ?_
      refine lv_sipush (v := 250) C.1 C.2.1 dX12_commit_148 (by decide) ?_
      refine lv_icmp_le (tgt := 157) C.1 C.2.1 dX12_commit_151 (by decide) (fun c5 => ?_) (fun c5 => ?_)
      · have h := if_t h c5
        refine lv_aload_n C.1 C.2.1 dX12_commit_157 rfl (lv_at hl 1 rfl) ?_
        refine lv_iload_n C.1 C.2.1 dX12_commit_158 rfl (lv_at hl 2 rfl) ?_
        refine lv_iload_n C.1 C.2.1 dX12_commit_159 rfl (lv_at hl 3 rfl) ?_
        refine lv_iload_n C.1 C.2.1 dX12_commit_160 rfl (lv_at hl 4 rfl) ?_
        refine lv_iload C.1 C.2.1 dX12_commit_161 (lv_at hl 6 rfl) ?_
        refine lv_iload C.1 C.2.1 dX12_commit_163 (lv_at hl 5 rfl) ?_
        refine lv_iconst (v := 1) C.1 C.2.1 dX12_commit_165 (by decide) ?_
        obtain ⟨⟨r7, S6⟩, h_S6, h⟩ := bd_ok h
        refine m_callW (rest := []) (ov := some (.int r7)) C X hW hS hl.1 [.int v1, .int v2, .int v3, .int v5, .int v4, .int (1 : Int32)] (tm_walk l h_S6) mw_walk im_walk sl_walk rfl ⟨by decide, by decide⟩ rfl (Nat.le_of_ble_eq_true rfl) dX12_commit_166 (fun H locs hW hS => ?_)
        refine W.eq (g2 := F0 m 169 ls [.int r7]) rfl ?_
        cases h
        exact m_retiW C hW hS dX12_commit_169
      · have h := if_f h c5
        refine lv_bipush (v := -4) C.1 C.2.1 dX12_commit_154 (by decide) ?_
        cases h
        exact m_retiW C hW hS dX12_commit_156
    · have h := if_f h c1
      refine lv_aload_n C.1 C.2.1 dX12_commit_83 rfl (lv_at hl 0 rfl) ?_
      refine gf_72 C X hW dX12_commit_84 ?_
      refine lv_iload C.1 C.2.1 dX12_commit_87 (lv_at hl 6 rfl) ?_
      refine lv_aload_n C.1 C.2.1 dX12_commit_89 rfl (lv_at hl 0 rfl) ?_
      refine gf_51 C X hW dX12_commit_90 ?_
      refine lv_iload C.1 C.2.1 dX12_commit_93 (lv_at hl 6 rfl) ?_
      obtain ⟨hin, h⟩ := ck_ok h
      refine l_51 C X hW hin dX12_commit_95 ?_
      obtain ⟨hin, h⟩ := ck_ok h
      refine s_72 C X hW hS hin dX12_commit_96 (fun H locs hW hS => ?_)
      refine lt_ok h (fun S8 e_S8 h => ?_)
      rw [e_S8] at hW
      refine lv_aload_n C.1 C.2.1 dX12_commit_97 rfl (lv_at hl 0 rfl) ?_
      refine gf_73 C X hW dX12_commit_98 ?_
      refine lv_iload C.1 C.2.1 dX12_commit_101 (lv_at hl 6 rfl) ?_
      refine lv_aload_n C.1 C.2.1 dX12_commit_103 rfl (lv_at hl 0 rfl) ?_
      refine gf_50 C X hW dX12_commit_104 ?_
      refine lv_iload C.1 C.2.1 dX12_commit_107 (lv_at hl 6 rfl) ?_
      obtain ⟨hin, h⟩ := ck_ok h
      refine l_50 C X hW hin dX12_commit_109 ?_
      obtain ⟨hin, h⟩ := ck_ok h
      refine s_73 C X hW hS hin dX12_commit_110 (fun H locs hW hS => ?_)
      refine lt_ok h (fun S9 e_S9 h => ?_)
      rw [e_S9] at hW
      refine lt_ok h (fun x10 e_x10 h => ?_)
      refine lv_iinc (v := x10) (lv' := [(6, .int x10), (0, .ref mo), (1, .int v1), (2, .int v2), (3, .int v3), (4, .int v4), (5, .int v5)]) C.1 C.2.1 dX12_commit_111 hl (k := 6) rfl (by rw [← e_x10]; rfl) (by decide) rfl (fun ls hl => ?_)
      refine lv_goto (tgt := 76) C.1 C.2.1 dX12_commit_114 (by decide) ?_
      exact ih h hW hS (lv_sub hl [1, 2, 3, 4, 5, 6, 0] rfl)
noncomputable def fm_commit (S : mSt) (v1 : Int32) (v2 : Int32) (v3 : Int32) : Option (Int32 × mSt) :=
lt (pu S 0 (0 : Int32)) fun S1 =>
lt (S1.1 1) fun x2 =>
lt (pu S1 1 (0 : Int32)) fun S3 =>
bd (fm_hasPart S3 v1 v2 v3) fun r4 =>
if r4 = 0 then (
some ((-1 : Int32), S3))
else (
bd (fm_ruleOf S3 v2 v3) fun r6 =>
if r6 = (84 : Int32) then (
bd (fm_isThereNow S3 v1 v2) fun q_r9 => lt q_r9.1 fun r9 => lt q_r9.2 fun S8 =>
if r9 = 0 then (
some ((-3 : Int32), S8))
else (
ck v1 4 (
bd (fm_look S8 v1 (rd S8 23 v1) v2 v3) fun S11 =>
lt (S11.1 49) fun x12 =>
fm_commit_76 mFU S11 v1 v2 v3 x2 x12 (0 : Int32))))
else (
some ((-2 : Int32), S3)))
set_option maxRecDepth 100000 in
set_option maxHeartbeats 4000000 in
theorem tm_commit (l : Launch) {cM : ClassId} {iS : Nat → Nat} {cI cZ : ClassId} {mo : Nat} {ad : Nat → Nat} {S : mSt} {v1 : Int32} {v2 : Int32} {v3 : Int32} {r : Int32} {S9 : mSt} (h : fm_commit S v1 v2 v3 = some (r, S9)) : Met l yX12_commit (Cond.code yX12_commit cX12_commit 7 (some .int) :: lw_g) { frames := 11, cells := 0, slots := 0, locals := 283 } (mPi [.int v1, .int v2, .int v3] cM iS cI cZ mo ad S) (mQw (some (.int r)) cM iS cI cZ mo ad S9) 0 0 (mA mo ad) := by
  refine Met.ofW (cc := cX12_commit) (maxL := 7) (ret := (some .int)) (by decide) rfl ?_
  intro p e s m args below meth c s₁ B hml hv
  obtain ⟨rfl, hW, X⟩ := hv
  have C : mY p (headSpec (Cond.code yX12_commit cX12_commit 7 (some .int) :: lw_g) { frames := 11, cells := 0, slots := 0, locals := 283 }).room s m _ meth c cX12_commit 7 11 283 (some .int) := ⟨B.exec, B.bytes, hml, findClass_of_methodNamed B.named, fun w hw => atoms_spec (ws := Cond.code yX12_commit cX12_commit 7 (some .int) :: lw_g) B.pre w (List.mem_cons_of_mem _ hw), ⟨Nat.le_refl _, Nat.le_refl _⟩, B.returns, B.notSynchronized⟩
  have hl := lv_entry ([.ref mo, .int v1, .int v2, .int v3]) (n := 7) (Nat.le_of_ble_eq_true rfl)
  rw [lg_entry_eq]
  generalize (lg_sl ([.ref mo, .int v1, .int v2, .int v3]) ++ List.replicate (7 - (lg_sl ([.ref mo, .int v1, .int v2, .int v3])).length) Slot.unset).toArray = ls at hl ⊢
  have hl : lv_has ls 7 [(0, .ref mo), (1, .int v1), (2, .int v2), (3, .int v3)] := hl
  have hS : mS (mA mo ad) s.heap s.heap [] := mS.rf
  unfold fm_commit at h
  refine lv_aload_n C.1 C.2.1 dX12_commit_0 rfl (lv_at hl 0 rfl) ?_
  refine lv_iconst (v := 0) C.1 C.2.1 dX12_commit_1 (by decide) ?_
  refine p_0 C X hW hS dX12_commit_2 (fun H locs hW hS => ?_)
  refine lt_ok h (fun S1 e_S1 h => ?_)
  rw [e_S1] at hW
  refine lv_aload_n C.1 C.2.1 dX12_commit_5 rfl (lv_at hl 0 rfl) ?_
  refine gf_1 C X hW dX12_commit_6 ?_
  refine lt_ok h (fun x2 e_x2 h => ?_)
  refine lv_nm e_x2 ?_
  refine lv_istore (lv' := [(4, .int x2), (0, .ref mo), (1, .int v1), (2, .int v2), (3, .int v3)]) C.1 C.2.1 dX12_commit_9 hl (by decide) rfl (fun ls hl => ?_)
  refine lv_aload_n C.1 C.2.1 dX12_commit_11 rfl (lv_at hl 1 rfl) ?_
  refine lv_iconst (v := 0) C.1 C.2.1 dX12_commit_12 (by decide) ?_
  refine p_1 C X hW hS dX12_commit_13 (fun H locs hW hS => ?_)
  refine lt_ok h (fun S3 e_S3 h => ?_)
  rw [e_S3] at hW
  refine lv_aload_n C.1 C.2.1 dX12_commit_16 rfl (lv_at hl 1 rfl) ?_
  refine lv_iload_n C.1 C.2.1 dX12_commit_17 rfl (lv_at hl 2 rfl) ?_
  refine lv_iload_n C.1 C.2.1 dX12_commit_18 rfl (lv_at hl 3 rfl) ?_
  refine lv_iload_n C.1 C.2.1 dX12_commit_19 rfl (lv_at hl 4 rfl) ?_
  obtain ⟨r4, h_r4, h⟩ := bd_ok h
  refine m_callR (rest := []) C X hW hl.1 [.int v1, .int v2, .int v3] (tm_hasPart l h_r4) mw_hasPart im_hasPart sl_hasPart rfl ⟨by decide, by decide⟩ rfl (Nat.le_of_ble_eq_true rfl) dX12_commit_20 ?_
  refine lv_if_ne (tgt := 28) C.1 C.2.1 dX12_commit_23 (by decide) (fun c5 => ?_) (fun c5 => ?_)
  · have h := if_f h c5
    refine lv_aload_n C.1 C.2.1 dX12_commit_28 rfl (lv_at hl 1 rfl) ?_
    refine lv_iload_n C.1 C.2.1 dX12_commit_29 rfl (lv_at hl 3 rfl) ?_
    refine lv_iload_n C.1 C.2.1 dX12_commit_30 rfl (lv_at hl 4 rfl) ?_
    obtain ⟨r6, h_r6, h⟩ := bd_ok h
    refine m_callR (rest := []) C X hW hl.1 [.int v2, .int v3] (tm_ruleOf l h_r6) mw_ruleOf im_ruleOf sl_ruleOf rfl ⟨by decide, by decide⟩ rfl (Nat.le_of_ble_eq_true rfl) dX12_commit_31 ?_
    refine lv_bipush (v := 84) C.1 C.2.1 dX12_commit_34 (by decide) ?_
    refine lv_icmp_eq (tgt := 42) C.1 C.2.1 dX12_commit_36 (by decide) (fun c7 => ?_) (fun c7 => ?_)
    · have h := if_t h c7
      refine lv_aload_n C.1 C.2.1 dX12_commit_42 rfl (lv_at hl 1 rfl) ?_
      refine lv_iload_n C.1 C.2.1 dX12_commit_43 rfl (lv_at hl 2 rfl) ?_
      refine lv_iload_n C.1 C.2.1 dX12_commit_44 rfl (lv_at hl 3 rfl) ?_
      obtain ⟨⟨r9, S8⟩, h_S8, h⟩ := bd_ok h
      refine m_callW (rest := []) (ov := some (.int r9)) C X hW hS hl.1 [.int v1, .int v2] (tm_isThereNow l h_S8) mw_isThereNow im_isThereNow sl_isThereNow rfl ⟨by decide, by decide⟩ rfl (Nat.le_of_ble_eq_true rfl) dX12_commit_45 (fun H locs hW hS => ?_)
      refine W.eq (g2 := F0 m 48 ls [.int r9]) rfl ?_
      refine lv_if_ne (tgt := 54) C.1 C.2.1 dX12_commit_48 (by decide) (fun c10 => ?_) (fun c10 => ?_)
      · have h := if_f h c10
        refine lv_aload_n C.1 C.2.1 dX12_commit_54 rfl (lv_at hl 1 rfl) ?_
        refine lv_iload_n C.1 C.2.1 dX12_commit_55 rfl (lv_at hl 2 rfl) ?_
        refine lv_aload_n C.1 C.2.1 dX12_commit_56 rfl (lv_at hl 1 rfl) ?_
        refine gf_23 C X hW dX12_commit_57 ?_
        refine lv_iload_n C.1 C.2.1 dX12_commit_60 rfl (lv_at hl 2 rfl) ?_
        obtain ⟨hin, h⟩ := ck_ok h
        refine l_23 C X hW hin dX12_commit_61 ?_
        refine lv_iload_n C.1 C.2.1 dX12_commit_62 rfl (lv_at hl 3 rfl) ?_
        refine lv_iload_n C.1 C.2.1 dX12_commit_63 rfl (lv_at hl 4 rfl) ?_
        obtain ⟨S11, h_S11, h⟩ := bd_ok h
        refine m_callW (rest := []) (ov := none) C X hW hS hl.1 [.int v1, .int (rd S8 23 v1), .int v2, .int v3] (tm_look l h_S11) mw_look im_look sl_look rfl ⟨by decide, by decide⟩ rfl (Nat.le_of_ble_eq_true rfl) dX12_commit_64 (fun H locs hW hS => ?_)
        refine W.eq (g2 := F0 m 67 ls []) rfl ?_
        refine lv_aload_n C.1 C.2.1 dX12_commit_67 rfl (lv_at hl 1 rfl) ?_
        refine gf_49 C X hW dX12_commit_68 ?_
        refine lt_ok h (fun x12 e_x12 h => ?_)
        refine lv_nm e_x12 ?_
        refine lv_istore (lv' := [(5, .int x12), (4, .int x2), (0, .ref mo), (1, .int v1), (2, .int v2), (3, .int v3)]) C.1 C.2.1 dX12_commit_71 hl (by decide) rfl (fun ls hl => ?_)
        refine lv_iconst (v := 0) C.1 C.2.1 dX12_commit_73 (by decide) ?_
        refine lv_istore (lv' := [(6, .int (0 : Int32)), (5, .int x12), (4, .int x2), (0, .ref mo), (1, .int v1), (2, .int v2), (3, .int v3)]) C.1 C.2.1 dX12_commit_74 hl (by decide) rfl (fun ls hl => ?_)
        exact wm_commit_76 C X mFU h hW hS (lv_sub hl [3, 4, 5, 6, 2, 1, 0] rfl)
      · have h := if_t h c10
        refine lv_bipush (v := -3) C.1 C.2.1 dX12_commit_51 (by decide) ?_
        cases h
        exact m_retiW C hW hS dX12_commit_53
    · have h := if_f h c7
      refine lv_bipush (v := -2) C.1 C.2.1 dX12_commit_39 (by decide) ?_
      cases h
      exact m_retiW C hW hS dX12_commit_41
  · have h := if_t h c5
    refine lv_iconst (v := -1) C.1 C.2.1 dX12_commit_26 (by decide) ?_
    cases h
    exact m_retiW C hW hS dX12_commit_27
end
theorem dX12_cursor_0 : decode cX12_cursor 0 = .ok (.aload_n 0, 1) := by decide +kernel
theorem dX12_cursor_1 : decode cX12_cursor 1 = .ok (.iconst 0, 1) := by decide +kernel
theorem dX12_cursor_2 : decode cX12_cursor 2 = .ok (.putfield 200, 3) := by decide +kernel
theorem dX12_cursor_5 : decode cX12_cursor 5 = .ok (.aload_n 0, 1) := by decide +kernel
theorem dX12_cursor_6 : decode cX12_cursor 6 = .ok (.iload_n 1, 1) := by decide +kernel
theorem dX12_cursor_7 : decode cX12_cursor 7 = .ok (.iload_n 2, 1) := by decide +kernel
theorem dX12_cursor_8 : decode cX12_cursor 8 = .ok (.iload_n 3, 1) := by decide +kernel
theorem dX12_cursor_9 : decode cX12_cursor 9 = .ok (.invokevirtual 415, 3) := by decide +kernel
theorem dX12_cursor_12 : decode cX12_cursor 12 = .ok (.ifCond .eq 23, 3) := by decide +kernel
theorem dX12_cursor_15 : decode cX12_cursor 15 = .ok (.aload_n 0, 1) := by decide +kernel
theorem dX12_cursor_16 : decode cX12_cursor 16 = .ok (.iload_n 1, 1) := by decide +kernel
theorem dX12_cursor_17 : decode cX12_cursor 17 = .ok (.iload_n 2, 1) := by decide +kernel
theorem dX12_cursor_18 : decode cX12_cursor 18 = .ok (.invokevirtual 365, 3) := by decide +kernel
theorem dX12_cursor_21 : decode cX12_cursor 21 = .ok (.ifCond .eq 14, 3) := by decide +kernel
theorem dX12_cursor_24 : decode cX12_cursor 24 = .ok (.aload_n 0, 1) := by decide +kernel
theorem dX12_cursor_25 : decode cX12_cursor 25 = .ok (.iload_n 2, 1) := by decide +kernel
theorem dX12_cursor_26 : decode cX12_cursor 26 = .ok (.iload_n 3, 1) := by decide +kernel
theorem dX12_cursor_27 : decode cX12_cursor 27 = .ok (.invokevirtual 256, 3) := by decide +kernel
theorem dX12_cursor_30 : decode cX12_cursor 30 = .ok (.bipush 84, 2) := by decide +kernel
theorem dX12_cursor_32 : decode cX12_cursor 32 = .ok (.if_icmp .eq 5, 3) := by decide +kernel
theorem dX12_cursor_35 : decode cX12_cursor 35 = .ok (.iconst 0, 1) := by decide +kernel
theorem dX12_cursor_36 : decode cX12_cursor 36 = .ok (.ireturn, 1) := by decide +kernel
theorem dX12_cursor_37 : decode cX12_cursor 37 = .ok (.aload_n 0, 1) := by decide +kernel
theorem dX12_cursor_38 : decode cX12_cursor 38 = .ok (.iload_n 1, 1) := by decide +kernel
theorem dX12_cursor_39 : decode cX12_cursor 39 = .ok (.aload_n 0, 1) := by decide +kernel
theorem dX12_cursor_40 : decode cX12_cursor 40 = .ok (.getfield 71, 3) := by decide +kernel
theorem dX12_cursor_43 : decode cX12_cursor 43 = .ok (.iload_n 1, 1) := by decide +kernel
theorem dX12_cursor_44 : decode cX12_cursor 44 = .ok (.iaload, 1) := by decide +kernel
theorem dX12_cursor_45 : decode cX12_cursor 45 = .ok (.iload_n 2, 1) := by decide +kernel
theorem dX12_cursor_46 : decode cX12_cursor 46 = .ok (.iload_n 3, 1) := by decide +kernel
theorem dX12_cursor_47 : decode cX12_cursor 47 = .ok (.invokevirtual 340, 3) := by decide +kernel
theorem dX12_cursor_50 : decode cX12_cursor 50 = .ok (.iload 4, 2) := by decide +kernel
theorem dX12_cursor_52 : decode cX12_cursor 52 = .ok (.iconst 0, 1) := by decide +kernel
theorem dX12_cursor_53 : decode cX12_cursor 53 = .ok (.aload_n 0, 1) := by decide +kernel
theorem dX12_cursor_54 : decode cX12_cursor 54 = .ok (.getfield 253, 3) := by decide +kernel
theorem dX12_cursor_57 : decode cX12_cursor 57 = .ok (.invokestatic 215, 3) := by decide +kernel
theorem dX12_cursor_60 : decode cX12_cursor 60 = .ok (.ifCond .ne 5, 3) := by decide +kernel
theorem dX12_cursor_63 : decode cX12_cursor 63 = .ok (.iconst 0, 1) := by decide +kernel
theorem dX12_cursor_64 : decode cX12_cursor 64 = .ok (.ireturn, 1) := by decide +kernel
theorem dX12_cursor_65 : decode cX12_cursor 65 = .ok (.bipush 16, 2) := by decide +kernel
theorem dX12_cursor_67 : decode cX12_cursor 67 = .ok (.iload_n 1, 1) := by decide +kernel
theorem dX12_cursor_68 : decode cX12_cursor 68 = .ok (.imul, 1) := by decide +kernel
theorem dX12_cursor_69 : decode cX12_cursor 69 = .ok (.iconst 4, 1) := by decide +kernel
theorem dX12_cursor_70 : decode cX12_cursor 70 = .ok (.iload_n 1, 1) := by decide +kernel
theorem dX12_cursor_71 : decode cX12_cursor 71 = .ok (.imul, 1) := by decide +kernel
theorem dX12_cursor_72 : decode cX12_cursor 72 = .ok (.iadd, 1) := by decide +kernel
theorem dX12_cursor_73 : decode cX12_cursor 73 = .ok (.istore 5, 2) := by decide +kernel
theorem dX12_cursor_75 : decode cX12_cursor 75 = .ok (.aload_n 0, 1) := by decide +kernel
theorem dX12_cursor_76 : decode cX12_cursor 76 = .ok (.getfield 95, 3) := by decide +kernel
theorem dX12_cursor_79 : decode cX12_cursor 79 = .ok (.iload 5, 2) := by decide +kernel
theorem dX12_cursor_81 : decode cX12_cursor 81 = .ok (.dup2, 1) := by decide +kernel
theorem dX12_cursor_82 : decode cX12_cursor 82 = .ok (.iaload, 1) := by decide +kernel
theorem dX12_cursor_83 : decode cX12_cursor 83 = .ok (.iconst 1, 1) := by decide +kernel
theorem dX12_cursor_84 : decode cX12_cursor 84 = .ok (.iadd, 1) := by decide +kernel
theorem dX12_cursor_85 : decode cX12_cursor 85 = .ok (.iastore, 1) := by decide +kernel
theorem dX12_cursor_86 : decode cX12_cursor 86 = .ok (.aload_n 0, 1) := by decide +kernel
theorem dX12_cursor_87 : decode cX12_cursor 87 = .ok (.getfield 95, 3) := by decide +kernel
theorem dX12_cursor_90 : decode cX12_cursor 90 = .ok (.iload 5, 2) := by decide +kernel
theorem dX12_cursor_92 : decode cX12_cursor 92 = .ok (.iconst 1, 1) := by decide +kernel
theorem dX12_cursor_93 : decode cX12_cursor 93 = .ok (.iadd, 1) := by decide +kernel
theorem dX12_cursor_94 : decode cX12_cursor 94 = .ok (.iload_n 2, 1) := by decide +kernel
theorem dX12_cursor_95 : decode cX12_cursor 95 = .ok (.iastore, 1) := by decide +kernel
theorem dX12_cursor_96 : decode cX12_cursor 96 = .ok (.aload_n 0, 1) := by decide +kernel
theorem dX12_cursor_97 : decode cX12_cursor 97 = .ok (.getfield 95, 3) := by decide +kernel
theorem dX12_cursor_100 : decode cX12_cursor 100 = .ok (.iload 5, 2) := by decide +kernel
theorem dX12_cursor_102 : decode cX12_cursor 102 = .ok (.iconst 2, 1) := by decide +kernel
theorem dX12_cursor_103 : decode cX12_cursor 103 = .ok (.iadd, 1) := by decide +kernel
theorem dX12_cursor_104 : decode cX12_cursor 104 = .ok (.iload_n 3, 1) := by decide +kernel
theorem dX12_cursor_105 : decode cX12_cursor 105 = .ok (.iastore, 1) := by decide +kernel
theorem dX12_cursor_106 : decode cX12_cursor 106 = .ok (.aload_n 0, 1) := by decide +kernel
theorem dX12_cursor_107 : decode cX12_cursor 107 = .ok (.getfield 95, 3) := by decide +kernel
theorem dX12_cursor_110 : decode cX12_cursor 110 = .ok (.iload 5, 2) := by decide +kernel
theorem dX12_cursor_112 : decode cX12_cursor 112 = .ok (.iconst 3, 1) := by decide +kernel
theorem dX12_cursor_113 : decode cX12_cursor 113 = .ok (.iadd, 1) := by decide +kernel
theorem dX12_cursor_114 : decode cX12_cursor 114 = .ok (.iload 4, 2) := by decide +kernel
theorem dX12_cursor_116 : decode cX12_cursor 116 = .ok (.ifCond .ne 7, 3) := by decide +kernel
theorem dX12_cursor_119 : decode cX12_cursor 119 = .ok (.iconst 0, 1) := by decide +kernel
theorem dX12_cursor_120 : decode cX12_cursor 120 = .ok (.goto 15, 3) := by decide +kernel
theorem dX12_cursor_123 : decode cX12_cursor 123 = .ok (.aload_n 0, 1) := by decide +kernel
theorem dX12_cursor_124 : decode cX12_cursor 124 = .ok (.getfield 142, 3) := by decide +kernel
theorem dX12_cursor_127 : decode cX12_cursor 127 = .ok (.iload 4, 2) := by decide +kernel
theorem dX12_cursor_129 : decode cX12_cursor 129 = .ok (.iconst 1, 1) := by decide +kernel
theorem dX12_cursor_130 : decode cX12_cursor 130 = .ok (.isub, 1) := by decide +kernel
theorem dX12_cursor_131 : decode cX12_cursor 131 = .ok (.iaload, 1) := by decide +kernel
theorem dX12_cursor_132 : decode cX12_cursor 132 = .ok (.invokestatic 303, 3) := by decide +kernel
theorem dX12_cursor_135 : decode cX12_cursor 135 = .ok (.iastore, 1) := by decide +kernel
theorem dX12_cursor_136 : decode cX12_cursor 136 = .ok (.iconst 1, 1) := by decide +kernel
theorem dX12_cursor_137 : decode cX12_cursor 137 = .ok (.ireturn, 1) := by decide +kernel
theorem cd_cursor : Cond.code yX12_cursor cX12_cursor 6 (some .boolean) ∈ lw_g := mt_at 2195 (by decide +kernel) rfl
section
variable {p : Program} {l : Launch} {e : Env} {R : Room} {s : State} {m : MethodId} {args : Array Value} {below : List Frame} {meth : Method} {c : Code} {cM : ClassId} {iS : Nat → Nat} {cI cZ : ClassId} {mo : Nat} {ad : Nat → Nat} {r : Int32} {S9 : mSt}
noncomputable def fm_cursor_35 (S : mSt) : Option (Int32 × mSt) :=
ckz (0 : Int32) (some ((0 : Int32), S))
set_option maxRecDepth 100000 in
set_option maxHeartbeats 4000000 in
theorem wm_cursor_35 (C : mY p R s m args meth c cX12_cursor 6 5 119 (some .boolean)) (X : mX s cM iS cI cZ mo ad) : ∀ {S : mSt} {H : Heap} {locs : List Loc} {ls : Array Slot}, fm_cursor_35 S = some (r, S9) → mW cM iS cI cZ mo ad S H → mS (mA mo ad) s.heap H locs → lv_has ls 6 [] → W p l e R s m args below meth c H locs 0 0 (MQ below (mQw (some (.int r)) cM iS cI cZ mo ad S9) args s 0 0 (mA mo ad)) (F0 m 35 ls []) := by
  intro S H locs ls h hW hS hl
  unfold fm_cursor_35 at h
  refine lv_iconst (v := 0) C.1 C.2.1 dX12_cursor_35 (by decide) ?_
  obtain ⟨hzo, h⟩ := ckz_ok h
  cases h
  exact m_retzW C hzo hW hS dX12_cursor_36
noncomputable def fm_cursor_135 (S : mSt) (s1 : Int32) (s2 : Int32) : Option (Int32 × mSt) :=
ck s1 64 (lt (wr S 31 s1 s2) fun S1 =>
ckz (1 : Int32) (some ((1 : Int32), S1)))
set_option maxRecDepth 100000 in
set_option maxHeartbeats 4000000 in
theorem wm_cursor_135 (C : mY p R s m args meth c cX12_cursor 6 5 119 (some .boolean)) (X : mX s cM iS cI cZ mo ad) : ∀ {S : mSt} {s1 : Int32} {s2 : Int32} {H : Heap} {locs : List Loc} {ls : Array Slot}, fm_cursor_135 S s1 s2 = some (r, S9) → mW cM iS cI cZ mo ad S H → mS (mA mo ad) s.heap H locs → lv_has ls 6 [] → W p l e R s m args below meth c H locs 0 0 (MQ below (mQw (some (.int r)) cM iS cI cZ mo ad S9) args s 0 0 (mA mo ad)) (F0 m 135 ls [.int s2, .int s1, .ref (ad 31)]) := by
  intro S s1 s2 H locs ls h hW hS hl
  unfold fm_cursor_135 at h
  obtain ⟨hin, h⟩ := ck_ok h
  refine s_31 C X hW hS hin dX12_cursor_135 (fun H locs hW hS => ?_)
  refine lt_ok h (fun S1 e_S1 h => ?_)
  rw [e_S1] at hW
  refine lv_iconst (v := 1) C.1 C.2.1 dX12_cursor_136 (by decide) ?_
  obtain ⟨hzo, h⟩ := ckz_ok h
  cases h
  exact m_retzW C hzo hW hS dX12_cursor_137
noncomputable def fm_cursor (S : mSt) (v1 : Int32) (v2 : Int32) (v3 : Int32) (v4 : Int32) : Option (Int32 × mSt) :=
lt (pu S 0 (0 : Int32)) fun S1 =>
bd (fm_hasPart S1 v1 v2 v3) fun r2 =>
if r2 = 0 then (
fm_cursor_35 S1)
else (
bd (fm_isThereNow S1 v1 v2) fun q_r5 => lt q_r5.1 fun r5 => lt q_r5.2 fun S4 =>
if r5 = 0 then (
fm_cursor_35 S4)
else (
bd (fm_ruleOf S4 v2 v3) fun r7 =>
if r7 = (84 : Int32) then (
ck v1 4 (
bd (fm_look S4 v1 (rd S4 23 v1) v2 v3) fun S9 =>
bd (fm_within v4 (0 : Int32) (S9.1 49)) fun r10 =>
if r10 = 0 then (
ckz (0 : Int32) (some ((0 : Int32), S9)))
else (
lt (((16 : Int32) * v1) + ((4 : Int32) * v1)) fun x12 =>
ck x12 64 (
ck x12 64 (lt (wr S9 31 x12 ((rd S9 31 x12) + (1 : Int32))) fun S13 =>
ck (x12 + (1 : Int32)) 64 (lt (wr S13 31 (x12 + (1 : Int32)) v2) fun S14 =>
ck (x12 + (2 : Int32)) 64 (lt (wr S14 31 (x12 + (2 : Int32)) v3) fun S15 =>
if v4 = 0 then (
fm_cursor_135 S15 (x12 + (3 : Int32)) (0 : Int32))
else (
ck (v4 - (1 : Int32)) 1000 (
bd (fm_nameOf (rd S15 51 (v4 - (1 : Int32)))) fun r17 =>
fm_cursor_135 S15 (x12 + (3 : Int32)) r17)))))))))
else (
fm_cursor_35 S4)))
set_option maxRecDepth 100000 in
set_option maxHeartbeats 4000000 in
theorem tm_cursor (l : Launch) {cM : ClassId} {iS : Nat → Nat} {cI cZ : ClassId} {mo : Nat} {ad : Nat → Nat} {S : mSt} {v1 : Int32} {v2 : Int32} {v3 : Int32} {v4 : Int32} {r : Int32} {S9 : mSt} (h : fm_cursor S v1 v2 v3 v4 = some (r, S9)) : Met l yX12_cursor (Cond.code yX12_cursor cX12_cursor 6 (some .boolean) :: lw_g) { frames := 5, cells := 0, slots := 0, locals := 119 } (mPi [.int v1, .int v2, .int v3, .int v4] cM iS cI cZ mo ad S) (mQw (some (.int r)) cM iS cI cZ mo ad S9) 0 0 (mA mo ad) := by
  refine Met.ofW (cc := cX12_cursor) (maxL := 6) (ret := (some .boolean)) (by decide) rfl ?_
  intro p e s m args below meth c s₁ B hml hv
  obtain ⟨rfl, hW, X⟩ := hv
  have C : mY p (headSpec (Cond.code yX12_cursor cX12_cursor 6 (some .boolean) :: lw_g) { frames := 5, cells := 0, slots := 0, locals := 119 }).room s m _ meth c cX12_cursor 6 5 119 (some .boolean) := ⟨B.exec, B.bytes, hml, findClass_of_methodNamed B.named, fun w hw => atoms_spec (ws := Cond.code yX12_cursor cX12_cursor 6 (some .boolean) :: lw_g) B.pre w (List.mem_cons_of_mem _ hw), ⟨Nat.le_refl _, Nat.le_refl _⟩, B.returns, B.notSynchronized⟩
  have hl := lv_entry ([.ref mo, .int v1, .int v2, .int v3, .int v4]) (n := 6) (Nat.le_of_ble_eq_true rfl)
  rw [lg_entry_eq]
  generalize (lg_sl ([.ref mo, .int v1, .int v2, .int v3, .int v4]) ++ List.replicate (6 - (lg_sl ([.ref mo, .int v1, .int v2, .int v3, .int v4])).length) Slot.unset).toArray = ls at hl ⊢
  have hl : lv_has ls 6 [(0, .ref mo), (1, .int v1), (2, .int v2), (3, .int v3), (4, .int v4)] := hl
  have hS : mS (mA mo ad) s.heap s.heap [] := mS.rf
  unfold fm_cursor at h
  refine lv_aload_n C.1 C.2.1 dX12_cursor_0 rfl (lv_at hl 0 rfl) ?_
  refine lv_iconst (v := 0) C.1 C.2.1 dX12_cursor_1 (by decide) ?_
  refine p_0 C X hW hS dX12_cursor_2 (fun H locs hW hS => ?_)
  refine lt_ok h (fun S1 e_S1 h => ?_)
  rw [e_S1] at hW
  refine lv_aload_n C.1 C.2.1 dX12_cursor_5 rfl (lv_at hl 0 rfl) ?_
  refine lv_iload_n C.1 C.2.1 dX12_cursor_6 rfl (lv_at hl 1 rfl) ?_
  refine lv_iload_n C.1 C.2.1 dX12_cursor_7 rfl (lv_at hl 2 rfl) ?_
  refine lv_iload_n C.1 C.2.1 dX12_cursor_8 rfl (lv_at hl 3 rfl) ?_
  obtain ⟨r2, h_r2, h⟩ := bd_ok h
  refine m_callR (rest := []) C X hW hl.1 [.int v1, .int v2, .int v3] (tm_hasPart l h_r2) mw_hasPart im_hasPart sl_hasPart rfl ⟨by decide, by decide⟩ rfl (Nat.le_of_ble_eq_true rfl) dX12_cursor_9 ?_
  refine lv_if_eq (tgt := 35) C.1 C.2.1 dX12_cursor_12 (by decide) (fun c3 => ?_) (fun c3 => ?_)
  · have h := if_t h c3
    exact wm_cursor_35 C X h hW hS (lv_sub hl [] rfl)
  · have h := if_f h c3
    refine lv_aload_n C.1 C.2.1 dX12_cursor_15 rfl (lv_at hl 0 rfl) ?_
    refine lv_iload_n C.1 C.2.1 dX12_cursor_16 rfl (lv_at hl 1 rfl) ?_
    refine lv_iload_n C.1 C.2.1 dX12_cursor_17 rfl (lv_at hl 2 rfl) ?_
    obtain ⟨⟨r5, S4⟩, h_S4, h⟩ := bd_ok h
    refine m_callW (rest := []) (ov := some (.int r5)) C X hW hS hl.1 [.int v1, .int v2] (tm_isThereNow l h_S4) mw_isThereNow im_isThereNow sl_isThereNow rfl ⟨by decide, by decide⟩ rfl (Nat.le_of_ble_eq_true rfl) dX12_cursor_18 (fun H locs hW hS => ?_)
    refine W.eq (g2 := F0 m 21 ls [.int r5]) rfl ?_
    refine lv_if_eq (tgt := 35) C.1 C.2.1 dX12_cursor_21 (by decide) (fun c6 => ?_) (fun c6 => ?_)
    · have h := if_t h c6
      exact wm_cursor_35 C X h hW hS (lv_sub hl [] rfl)
    · have h := if_f h c6
      refine lv_aload_n C.1 C.2.1 dX12_cursor_24 rfl (lv_at hl 0 rfl) ?_
      refine lv_iload_n C.1 C.2.1 dX12_cursor_25 rfl (lv_at hl 2 rfl) ?_
      refine lv_iload_n C.1 C.2.1 dX12_cursor_26 rfl (lv_at hl 3 rfl) ?_
      obtain ⟨r7, h_r7, h⟩ := bd_ok h
      refine m_callR (rest := []) C X hW hl.1 [.int v2, .int v3] (tm_ruleOf l h_r7) mw_ruleOf im_ruleOf sl_ruleOf rfl ⟨by decide, by decide⟩ rfl (Nat.le_of_ble_eq_true rfl) dX12_cursor_27 ?_
      refine lv_bipush (v := 84) C.1 C.2.1 dX12_cursor_30 (by decide) ?_
      refine lv_icmp_eq (tgt := 37) C.1 C.2.1 dX12_cursor_32 (by decide) (fun c8 => ?_) (fun c8 => ?_)
      · have h := if_t h c8
        refine lv_aload_n C.1 C.2.1 dX12_cursor_37 rfl (lv_at hl 0 rfl) ?_
        refine lv_iload_n C.1 C.2.1 dX12_cursor_38 rfl (lv_at hl 1 rfl) ?_
        refine lv_aload_n C.1 C.2.1 dX12_cursor_39 rfl (lv_at hl 0 rfl) ?_
        refine gf_23 C X hW dX12_cursor_40 ?_
        refine lv_iload_n C.1 C.2.1 dX12_cursor_43 rfl (lv_at hl 1 rfl) ?_
        obtain ⟨hin, h⟩ := ck_ok h
        refine l_23 C X hW hin dX12_cursor_44 ?_
        refine lv_iload_n C.1 C.2.1 dX12_cursor_45 rfl (lv_at hl 2 rfl) ?_
        refine lv_iload_n C.1 C.2.1 dX12_cursor_46 rfl (lv_at hl 3 rfl) ?_
        obtain ⟨S9, h_S9, h⟩ := bd_ok h
        refine m_callW (rest := []) (ov := none) C X hW hS hl.1 [.int v1, .int (rd S4 23 v1), .int v2, .int v3] (tm_look l h_S9) mw_look im_look sl_look rfl ⟨by decide, by decide⟩ rfl (Nat.le_of_ble_eq_true rfl) dX12_cursor_47 (fun H locs hW hS => ?_)
        refine W.eq (g2 := F0 m 50 ls []) rfl ?_
        refine lv_iload C.1 C.2.1 dX12_cursor_50 (lv_at hl 4 rfl) ?_
        refine lv_iconst (v := 0) C.1 C.2.1 dX12_cursor_52 (by decide) ?_
        refine lv_aload_n C.1 C.2.1 dX12_cursor_53 rfl (lv_at hl 0 rfl) ?_
        refine gf_49 C X hW dX12_cursor_54 ?_
        obtain ⟨r10, h_r10, h⟩ := bd_ok h
        refine m_callS (rest := []) C hl.1 [.int v4, .int (0 : Int32), .int (S9.1 49)] (tm_within l h_r10) mw_within st_within rfl ⟨by decide, by decide⟩ rfl (Nat.le_of_ble_eq_true rfl) dX12_cursor_57 ?_
        refine lv_if_ne (tgt := 65) C.1 C.2.1 dX12_cursor_60 (by decide) (fun c11 => ?_) (fun c11 => ?_)
        · have h := if_f h c11
          refine lv_bipush (v := 16) C.1 C.2.1 dX12_cursor_65 (by decide) ?_
          refine lv_iload_n C.1 C.2.1 dX12_cursor_67 rfl (lv_at hl 1 rfl) ?_
          refine lv_imul C.1 C.2.1 dX12_cursor_68 ?_
          refine lv_iconst (v := 4) C.1 C.2.1 dX12_cursor_69 (by decide) ?_
          refine lv_iload_n C.1 C.2.1 dX12_cursor_70 rfl (lv_at hl 1 rfl) ?_
          refine lv_imul C.1 C.2.1 dX12_cursor_71 ?_
          refine lv_iadd C.1 C.2.1 dX12_cursor_72 ?_
          refine lt_ok h (fun x12 e_x12 h => ?_)
          refine lv_nm e_x12 ?_
          refine lv_istore (lv' := [(5, .int x12), (0, .ref mo), (1, .int v1), (2, .int v2), (3, .int v3), (4, .int v4)]) C.1 C.2.1 dX12_cursor_73 hl (by decide) rfl (fun ls hl => ?_)
          refine lv_aload_n C.1 C.2.1 dX12_cursor_75 rfl (lv_at hl 1 rfl) ?_
          refine gf_31 C X hW dX12_cursor_76 ?_
          refine lv_iload C.1 C.2.1 dX12_cursor_79 (lv_at hl 0 rfl) ?_
          refine lv_dup2_11 C.1 C.2.1 dX12_cursor_81 rfl rfl ?_
          obtain ⟨hin, h⟩ := ck_ok h
          refine l_31 C X hW hin dX12_cursor_82 ?_
          refine lv_iconst (v := 1) C.1 C.2.1 dX12_cursor_83 (by decide) ?_
          refine lv_iadd C.1 C.2.1 dX12_cursor_84 ?_
          obtain ⟨hin, h⟩ := ck_ok h
          refine s_31 C X hW hS hin dX12_cursor_85 (fun H locs hW hS => ?_)
          refine lt_ok h (fun S13 e_S13 h => ?_)
          rw [e_S13] at hW
          refine lv_aload_n C.1 C.2.1 dX12_cursor_86 rfl (lv_at hl 1 rfl) ?_
          refine gf_31 C X hW dX12_cursor_87 ?_
          refine lv_iload C.1 C.2.1 dX12_cursor_90 (lv_at hl 0 rfl) ?_
          refine lv_iconst (v := 1) C.1 C.2.1 dX12_cursor_92 (by decide) ?_
          refine lv_iadd C.1 C.2.1 dX12_cursor_93 ?_
          refine lv_iload_n C.1 C.2.1 dX12_cursor_94 rfl (lv_at hl 3 rfl) ?_
          obtain ⟨hin, h⟩ := ck_ok h
          refine s_31 C X hW hS hin dX12_cursor_95 (fun H locs hW hS => ?_)
          refine lt_ok h (fun S14 e_S14 h => ?_)
          rw [e_S14] at hW
          refine lv_aload_n C.1 C.2.1 dX12_cursor_96 rfl (lv_at hl 1 rfl) ?_
          refine gf_31 C X hW dX12_cursor_97 ?_
          refine lv_iload C.1 C.2.1 dX12_cursor_100 (lv_at hl 0 rfl) ?_
          refine lv_iconst (v := 2) C.1 C.2.1 dX12_cursor_102 (by decide) ?_
          refine lv_iadd C.1 C.2.1 dX12_cursor_103 ?_
          refine lv_iload_n C.1 C.2.1 dX12_cursor_104 rfl (lv_at hl 4 rfl) ?_
          obtain ⟨hin, h⟩ := ck_ok h
          refine s_31 C X hW hS hin dX12_cursor_105 (fun H locs hW hS => ?_)
          refine lt_ok h (fun S15 e_S15 h => ?_)
          rw [e_S15] at hW
          refine lv_aload_n C.1 C.2.1 dX12_cursor_106 rfl (lv_at hl 1 rfl) ?_
          refine gf_31 C X hW dX12_cursor_107 ?_
          refine lv_iload C.1 C.2.1 dX12_cursor_110 (lv_at hl 0 rfl) ?_
          refine lv_iconst (v := 3) C.1 C.2.1 dX12_cursor_112 (by decide) ?_
          refine lv_iadd C.1 C.2.1 dX12_cursor_113 ?_
          refine lv_iload C.1 C.2.1 dX12_cursor_114 (lv_at hl 5 rfl) ?_
          refine lv_if_ne (tgt := 123) C.1 C.2.1 dX12_cursor_116 (by decide) (fun c16 => ?_) (fun c16 => ?_)
          · have h := if_f h c16
            refine lv_aload_n C.1 C.2.1 dX12_cursor_123 rfl (lv_at hl 1 rfl) ?_
            refine gf_51 C X hW dX12_cursor_124 ?_
            refine lv_iload C.1 C.2.1 dX12_cursor_127 (lv_at hl 5 rfl) ?_
            refine lv_iconst (v := 1) C.1 C.2.1 dX12_cursor_129 (by decide) ?_
            refine lv_isub C.1 C.2.1 dX12_cursor_130 ?_
            obtain ⟨hin, h⟩ := ck_ok h
            refine l_51 C X hW hin dX12_cursor_131 ?_
            obtain ⟨r17, h_r17, h⟩ := bd_ok h
            refine m_callS (rest := [.int (x12 + (3 : Int32)), .ref (ad 31)]) C hl.1 [.int (rd S15 51 (v4 - (1 : Int32)))] (tm_nameOf l h_r17) mw_nameOf st_nameOf rfl ⟨by decide, by decide⟩ rfl (Nat.le_of_ble_eq_true rfl) dX12_cursor_132 ?_
            exact wm_cursor_135 C X h hW hS (lv_sub hl [] rfl)
          · have h := if_t h c16
            refine lv_iconst (v := 0) C.1 C.2.1 dX12_cursor_119 (by decide) ?_
            refine lv_goto (tgt := 135) C.1 C.2.1 dX12_cursor_120 (by decide) ?_
            exact wm_cursor_135 C X h hW hS (lv_sub hl [] rfl)
        · have h := if_t h c11
          refine lv_iconst (v := 0) C.1 C.2.1 dX12_cursor_63 (by decide) ?_
          obtain ⟨hzo, h⟩ := ckz_ok h
          cases h
          exact m_retzW C hzo hW hS dX12_cursor_64
      · have h := if_f h c8
        exact wm_cursor_35 C X h hW hS (lv_sub hl [] rfl)
end
