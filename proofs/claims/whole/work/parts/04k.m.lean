-- made by wip/whole/walk.py: the reference's where, canBeAsked, stand, listed, turned, sentOf, carry
theorem dX12_where_0 : decode cX12_where 0 = .ok (.aload_n 0, 1) := by decide +kernel
theorem dX12_where_1 : decode cX12_where 1 = .ok (.iconst 0, 1) := by decide +kernel
theorem dX12_where_2 : decode cX12_where 2 = .ok (.putfield 200, 3) := by decide +kernel
theorem dX12_where_5 : decode cX12_where 5 = .ok (.iload_n 1, 1) := by decide +kernel
theorem dX12_where_6 : decode cX12_where 6 = .ok (.iconst 0, 1) := by decide +kernel
theorem dX12_where_7 : decode cX12_where 7 = .ok (.iconst 3, 1) := by decide +kernel
theorem dX12_where_8 : decode cX12_where 8 = .ok (.invokestatic 215, 3) := by decide +kernel
theorem dX12_where_11 : decode cX12_where 11 = .ok (.ifCond .eq 21, 3) := by decide +kernel
theorem dX12_where_14 : decode cX12_where 14 = .ok (.iload_n 2, 1) := by decide +kernel
theorem dX12_where_15 : decode cX12_where 15 = .ok (.iconst 0, 1) := by decide +kernel
theorem dX12_where_16 : decode cX12_where 16 = .ok (.iconst 3, 1) := by decide +kernel
theorem dX12_where_17 : decode cX12_where 17 = .ok (.invokestatic 215, 3) := by decide +kernel
theorem dX12_where_20 : decode cX12_where 20 = .ok (.ifCond .eq 12, 3) := by decide +kernel
theorem dX12_where_23 : decode cX12_where 23 = .ok (.iload_n 3, 1) := by decide +kernel
theorem dX12_where_24 : decode cX12_where 24 = .ok (.iconst 0, 1) := by decide +kernel
theorem dX12_where_25 : decode cX12_where 25 = .ok (.iconst 3, 1) := by decide +kernel
theorem dX12_where_26 : decode cX12_where 26 = .ok (.invokestatic 215, 3) := by decide +kernel
theorem dX12_where_29 : decode cX12_where 29 = .ok (.ifCond .ne 5, 3) := by decide +kernel
theorem dX12_where_32 : decode cX12_where 32 = .ok (.iconst (-1), 1) := by decide +kernel
theorem dX12_where_33 : decode cX12_where 33 = .ok (.ireturn, 1) := by decide +kernel
theorem dX12_where_34 : decode cX12_where 34 = .ok (.bipush 16, 2) := by decide +kernel
theorem dX12_where_36 : decode cX12_where 36 = .ok (.iload_n 1, 1) := by decide +kernel
theorem dX12_where_37 : decode cX12_where 37 = .ok (.imul, 1) := by decide +kernel
theorem dX12_where_38 : decode cX12_where 38 = .ok (.iconst 4, 1) := by decide +kernel
theorem dX12_where_39 : decode cX12_where 39 = .ok (.iload_n 2, 1) := by decide +kernel
theorem dX12_where_40 : decode cX12_where 40 = .ok (.imul, 1) := by decide +kernel
theorem dX12_where_41 : decode cX12_where 41 = .ok (.iadd, 1) := by decide +kernel
theorem dX12_where_42 : decode cX12_where 42 = .ok (.istore 4, 2) := by decide +kernel
theorem dX12_where_44 : decode cX12_where 44 = .ok (.iload_n 3, 1) := by decide +kernel
theorem dX12_where_45 : decode cX12_where 45 = .ok (.ifCond .le 15, 3) := by decide +kernel
theorem dX12_where_48 : decode cX12_where 48 = .ok (.aload_n 0, 1) := by decide +kernel
theorem dX12_where_49 : decode cX12_where 49 = .ok (.getfield 95, 3) := by decide +kernel
theorem dX12_where_52 : decode cX12_where 52 = .ok (.iload 4, 2) := by decide +kernel
theorem dX12_where_54 : decode cX12_where 54 = .ok (.iaload, 1) := by decide +kernel
theorem dX12_where_55 : decode cX12_where 55 = .ok (.ifCond .ne 5, 3) := by decide +kernel
theorem dX12_where_58 : decode cX12_where 58 = .ok (.iconst (-1), 1) := by decide +kernel
theorem dX12_where_59 : decode cX12_where 59 = .ok (.ireturn, 1) := by decide +kernel
theorem dX12_where_60 : decode cX12_where 60 = .ok (.iload_n 3, 1) := by decide +kernel
theorem dX12_where_61 : decode cX12_where 61 = .ok (.iconst 3, 1) := by decide +kernel
theorem dX12_where_62 : decode cX12_where 62 = .ok (.if_icmp .ge 13, 3) := by decide +kernel
theorem dX12_where_65 : decode cX12_where 65 = .ok (.aload_n 0, 1) := by decide +kernel
theorem dX12_where_66 : decode cX12_where 66 = .ok (.getfield 95, 3) := by decide +kernel
theorem dX12_where_69 : decode cX12_where 69 = .ok (.iload 4, 2) := by decide +kernel
theorem dX12_where_71 : decode cX12_where 71 = .ok (.iload_n 3, 1) := by decide +kernel
theorem dX12_where_72 : decode cX12_where 72 = .ok (.iadd, 1) := by decide +kernel
theorem dX12_where_73 : decode cX12_where 73 = .ok (.iaload, 1) := by decide +kernel
theorem dX12_where_74 : decode cX12_where 74 = .ok (.ireturn, 1) := by decide +kernel
theorem dX12_where_75 : decode cX12_where 75 = .ok (.aload_n 0, 1) := by decide +kernel
theorem dX12_where_76 : decode cX12_where 76 = .ok (.getfield 95, 3) := by decide +kernel
theorem dX12_where_79 : decode cX12_where 79 = .ok (.iload 4, 2) := by decide +kernel
theorem dX12_where_81 : decode cX12_where 81 = .ok (.iconst 1, 1) := by decide +kernel
theorem dX12_where_82 : decode cX12_where 82 = .ok (.iadd, 1) := by decide +kernel
theorem dX12_where_83 : decode cX12_where 83 = .ok (.iaload, 1) := by decide +kernel
theorem dX12_where_84 : decode cX12_where 84 = .ok (.istore 5, 2) := by decide +kernel
theorem dX12_where_86 : decode cX12_where 86 = .ok (.aload_n 0, 1) := by decide +kernel
theorem dX12_where_87 : decode cX12_where 87 = .ok (.getfield 95, 3) := by decide +kernel
theorem dX12_where_90 : decode cX12_where 90 = .ok (.iload 4, 2) := by decide +kernel
theorem dX12_where_92 : decode cX12_where 92 = .ok (.iconst 3, 1) := by decide +kernel
theorem dX12_where_93 : decode cX12_where 93 = .ok (.iadd, 1) := by decide +kernel
theorem dX12_where_94 : decode cX12_where 94 = .ok (.iaload, 1) := by decide +kernel
theorem dX12_where_95 : decode cX12_where 95 = .ok (.istore 6, 2) := by decide +kernel
theorem dX12_where_97 : decode cX12_where 97 = .ok (.aload_n 0, 1) := by decide +kernel
theorem dX12_where_98 : decode cX12_where 98 = .ok (.iload_n 1, 1) := by decide +kernel
theorem dX12_where_99 : decode cX12_where 99 = .ok (.iload 5, 2) := by decide +kernel
theorem dX12_where_101 : decode cX12_where 101 = .ok (.invokevirtual 399, 3) := by decide +kernel
theorem dX12_where_104 : decode cX12_where 104 = .ok (.ifCond .eq 21, 3) := by decide +kernel
theorem dX12_where_107 : decode cX12_where 107 = .ok (.iload 6, 2) := by decide +kernel
theorem dX12_where_109 : decode cX12_where 109 = .ok (.ifCond .eq 18, 3) := by decide +kernel
theorem dX12_where_112 : decode cX12_where 112 = .ok (.aload_n 0, 1) := by decide +kernel
theorem dX12_where_113 : decode cX12_where 113 = .ok (.iload_n 1, 1) := by decide +kernel
theorem dX12_where_114 : decode cX12_where 114 = .ok (.iload 6, 2) := by decide +kernel
theorem dX12_where_116 : decode cX12_where 116 = .ok (.invokestatic 233, 3) := by decide +kernel
theorem dX12_where_119 : decode cX12_where 119 = .ok (.invokevirtual 236, 3) := by decide +kernel
theorem dX12_where_122 : decode cX12_where 122 = .ok (.ifCond .ne 5, 3) := by decide +kernel
theorem dX12_where_125 : decode cX12_where 125 = .ok (.iconst (-1), 1) := by decide +kernel
theorem dX12_where_126 : decode cX12_where 126 = .ok (.ireturn, 1) := by decide +kernel
theorem dX12_where_127 : decode cX12_where 127 = .ok (.iload 6, 2) := by decide +kernel
theorem dX12_where_129 : decode cX12_where 129 = .ok (.ifCond .ne 5, 3) := by decide +kernel
theorem dX12_where_132 : decode cX12_where 132 = .ok (.iconst 0, 1) := by decide +kernel
theorem dX12_where_133 : decode cX12_where 133 = .ok (.ireturn, 1) := by decide +kernel
theorem dX12_where_134 : decode cX12_where 134 = .ok (.aload_n 0, 1) := by decide +kernel
theorem dX12_where_135 : decode cX12_where 135 = .ok (.iload_n 1, 1) := by decide +kernel
theorem dX12_where_136 : decode cX12_where 136 = .ok (.aload_n 0, 1) := by decide +kernel
theorem dX12_where_137 : decode cX12_where 137 = .ok (.getfield 71, 3) := by decide +kernel
theorem dX12_where_140 : decode cX12_where 140 = .ok (.iload_n 1, 1) := by decide +kernel
theorem dX12_where_141 : decode cX12_where 141 = .ok (.iaload, 1) := by decide +kernel
theorem dX12_where_142 : decode cX12_where 142 = .ok (.iload 5, 2) := by decide +kernel
theorem dX12_where_144 : decode cX12_where 144 = .ok (.aload_n 0, 1) := by decide +kernel
theorem dX12_where_145 : decode cX12_where 145 = .ok (.getfield 95, 3) := by decide +kernel
theorem dX12_where_148 : decode cX12_where 148 = .ok (.iload 4, 2) := by decide +kernel
theorem dX12_where_150 : decode cX12_where 150 = .ok (.iconst 2, 1) := by decide +kernel
theorem dX12_where_151 : decode cX12_where 151 = .ok (.iadd, 1) := by decide +kernel
theorem dX12_where_152 : decode cX12_where 152 = .ok (.iaload, 1) := by decide +kernel
theorem dX12_where_153 : decode cX12_where 153 = .ok (.invokevirtual 340, 3) := by decide +kernel
theorem dX12_where_156 : decode cX12_where 156 = .ok (.iconst 0, 1) := by decide +kernel
theorem dX12_where_157 : decode cX12_where 157 = .ok (.istore 7, 2) := by decide +kernel
theorem dX12_where_159 : decode cX12_where 159 = .ok (.iconst 0, 1) := by decide +kernel
theorem dX12_where_160 : decode cX12_where 160 = .ok (.istore 8, 2) := by decide +kernel
theorem dX12_where_162 : decode cX12_where 162 = .ok (.iconst 0, 1) := by decide +kernel
theorem dX12_where_163 : decode cX12_where 163 = .ok (.istore 9, 2) := by decide +kernel
theorem dX12_where_165 : decode cX12_where 165 = .ok (.iload 9, 2) := by decide +kernel
theorem dX12_where_167 : decode cX12_where 167 = .ok (.aload_n 0, 1) := by decide +kernel
theorem dX12_where_168 : decode cX12_where 168 = .ok (.getfield 300, 3) := by decide +kernel
theorem dX12_where_171 : decode cX12_where 171 = .ok (.if_icmp .ge 82, 3) := by decide +kernel
theorem dX12_where_174 : decode cX12_where 174 = .ok (.iload 8, 2) := by decide +kernel
theorem dX12_where_176 : decode cX12_where 176 = .ok (.ifCond .ne 77, 3) := by decide +kernel
theorem dX12_where_179 : decode cX12_where 179 = .ok (.iload 7, 2) := by decide +kernel
theorem dX12_where_181 : decode cX12_where 181 = .ok (.aload_n 0, 1) := by decide +kernel
theorem dX12_where_182 : decode cX12_where 182 = .ok (.getfield 133, 3) := by decide +kernel
theorem dX12_where_185 : decode cX12_where 185 = .ok (.aload_n 0, 1) := by decide +kernel
theorem dX12_where_186 : decode cX12_where 186 = .ok (.getfield 145, 3) := by decide +kernel
theorem dX12_where_189 : decode cX12_where 189 = .ok (.iload 9, 2) := by decide +kernel
theorem dX12_where_191 : decode cX12_where 191 = .ok (.iaload, 1) := by decide +kernel
theorem dX12_where_192 : decode cX12_where 192 = .ok (.baload, 1) := by decide +kernel
theorem dX12_where_193 : decode cX12_where 193 = .ok (.ifCond .eq 28, 3) := by decide +kernel
theorem dX12_where_196 : decode cX12_where 196 = .ok (.aload_n 0, 1) := by decide +kernel
theorem dX12_where_197 : decode cX12_where 197 = .ok (.iload_n 1, 1) := by decide +kernel
theorem dX12_where_198 : decode cX12_where 198 = .ok (.aload_n 0, 1) := by decide +kernel
theorem dX12_where_199 : decode cX12_where 199 = .ok (.getfield 71, 3) := by decide +kernel
theorem dX12_where_202 : decode cX12_where 202 = .ok (.iload_n 1, 1) := by decide +kernel
theorem dX12_where_203 : decode cX12_where 203 = .ok (.iaload, 1) := by decide +kernel
theorem dX12_where_204 : decode cX12_where 204 = .ok (.aload_n 0, 1) := by decide +kernel
theorem dX12_where_205 : decode cX12_where 205 = .ok (.getfield 145, 3) := by decide +kernel
theorem dX12_where_208 : decode cX12_where 208 = .ok (.iload 9, 2) := by decide +kernel
theorem dX12_where_210 : decode cX12_where 210 = .ok (.iaload, 1) := by decide +kernel
theorem dX12_where_211 : decode cX12_where 211 = .ok (.invokevirtual 306, 3) := by decide +kernel
theorem dX12_where_214 : decode cX12_where 214 = .ok (.ifCond .ne 7, 3) := by decide +kernel
theorem dX12_where_217 : decode cX12_where 217 = .ok (.iconst 1, 1) := by decide +kernel
theorem dX12_where_218 : decode cX12_where 218 = .ok (.goto 4, 3) := by decide +kernel
theorem dX12_where_221 : decode cX12_where 221 = .ok (.iconst 0, 1) := by decide +kernel
theorem dX12_where_222 : decode cX12_where 222 = .ok (.iadd, 1) := by decide +kernel
theorem dX12_where_223 : decode cX12_where 223 = .ok (.istore 7, 2) := by decide +kernel
theorem dX12_where_225 : decode cX12_where 225 = .ok (.aload_n 0, 1) := by decide +kernel
theorem dX12_where_226 : decode cX12_where 226 = .ok (.getfield 145, 3) := by decide +kernel
theorem dX12_where_229 : decode cX12_where 229 = .ok (.iload 9, 2) := by decide +kernel
theorem dX12_where_231 : decode cX12_where 231 = .ok (.iaload, 1) := by decide +kernel
theorem dX12_where_232 : decode cX12_where 232 = .ok (.invokestatic 303, 3) := by decide +kernel
theorem dX12_where_235 : decode cX12_where 235 = .ok (.iload 6, 2) := by decide +kernel
theorem dX12_where_237 : decode cX12_where 237 = .ok (.if_icmp .ne 7, 3) := by decide +kernel
theorem dX12_where_240 : decode cX12_where 240 = .ok (.iconst 1, 1) := by decide +kernel
theorem dX12_where_241 : decode cX12_where 241 = .ok (.goto 4, 3) := by decide +kernel
theorem dX12_where_244 : decode cX12_where 244 = .ok (.iconst 0, 1) := by decide +kernel
theorem dX12_where_245 : decode cX12_where 245 = .ok (.istore 8, 2) := by decide +kernel
theorem dX12_where_247 : decode cX12_where 247 = .ok (.iinc 9 1, 3) := by decide +kernel
theorem dX12_where_250 : decode cX12_where 250 = .ok (.goto (-85), 3) := by decide +kernel
theorem dX12_where_253 : decode cX12_where 253 = .ok (.iload 7, 2) := by decide +kernel
theorem dX12_where_255 : decode cX12_where 255 = .ok (.ireturn, 1) := by decide +kernel
theorem cd_where : Cond.code yX12_where cX12_where 10 (some .int) ∈ lw_g := mt_at 2199 (by decide +kernel) rfl
section
variable {p : Program} {l : Launch} {e : Env} {R : Room} {s : State} {m : MethodId} {args : Array Value} {below : List Frame} {meth : Method} {c : Code} {cM : ClassId} {iS : Nat → Nat} {cI cZ : ClassId} {mo : Nat} {ad : Nat → Nat} {r : Int32} {S9 : mSt}
noncomputable def fm_where_32 (S : mSt) : Option (Int32 × mSt) :=
some ((-1 : Int32), S)
set_option maxRecDepth 100000 in
set_option maxHeartbeats 4000000 in
theorem wm_where_32 (C : mY p R s m args meth c cX12_where 10 5 119 (some .int)) (X : mX s cM iS cI cZ mo ad) : ∀ {S : mSt} {H : Heap} {locs : List Loc} {ls : Array Slot}, fm_where_32 S = some (r, S9) → mW cM iS cI cZ mo ad S H → mS (mA mo ad) s.heap H locs → lv_has ls 10 [] → W p l e R s m args below meth c H locs 0 0 (MQ below (mQw (some (.int r)) cM iS cI cZ mo ad S9) args s 0 0 (mA mo ad)) (F0 m 32 ls []) := by
  intro S H locs ls h hW hS hl
  unfold fm_where_32 at h
  refine lv_iconst (v := -1) C.1 C.2.1 dX12_where_32 (by decide) ?_
  cases h
  exact m_retiW C hW hS dX12_where_33
noncomputable def fm_where_125 (S : mSt) : Option (Int32 × mSt) :=
some ((-1 : Int32), S)
set_option maxRecDepth 100000 in
set_option maxHeartbeats 4000000 in
theorem wm_where_125 (C : mY p R s m args meth c cX12_where 10 5 119 (some .int)) (X : mX s cM iS cI cZ mo ad) : ∀ {S : mSt} {H : Heap} {locs : List Loc} {ls : Array Slot}, fm_where_125 S = some (r, S9) → mW cM iS cI cZ mo ad S H → mS (mA mo ad) s.heap H locs → lv_has ls 10 [] → W p l e R s m args below meth c H locs 0 0 (MQ below (mQw (some (.int r)) cM iS cI cZ mo ad S9) args s 0 0 (mA mo ad)) (F0 m 125 ls []) := by
  intro S H locs ls h hW hS hl
  unfold fm_where_125 at h
  refine lv_iconst (v := -1) C.1 C.2.1 dX12_where_125 (by decide) ?_
  cases h
  exact m_retiW C hW hS dX12_where_126
noncomputable def fm_where_253 (S : mSt) (v7 : Int32) : Option (Int32 × mSt) :=
some (v7, S)
set_option maxRecDepth 100000 in
set_option maxHeartbeats 4000000 in
theorem wm_where_253 (C : mY p R s m args meth c cX12_where 10 5 119 (some .int)) (X : mX s cM iS cI cZ mo ad) : ∀ {S : mSt} {v7 : Int32} {H : Heap} {locs : List Loc} {ls : Array Slot}, fm_where_253 S v7 = some (r, S9) → mW cM iS cI cZ mo ad S H → mS (mA mo ad) s.heap H locs → lv_has ls 10 [(7, .int v7)] → W p l e R s m args below meth c H locs 0 0 (MQ below (mQw (some (.int r)) cM iS cI cZ mo ad S9) args s 0 0 (mA mo ad)) (F0 m 253 ls []) := by
  intro S v7 H locs ls h hW hS hl
  unfold fm_where_253 at h
  refine lv_iload C.1 C.2.1 dX12_where_253 (lv_at hl 0 rfl) ?_
  cases h
  exact m_retiW C hW hS dX12_where_255
noncomputable def fm_where_245 (g_165 : mSt → Int32 → Int32 → Int32 → Int32 → Int32 → Option (Int32 × mSt)) (S : mSt) (v1 : Int32) (v6 : Int32) (v7 : Int32) (v9 : Int32) (s0 : Int32) : Option (Int32 × mSt) :=
lt (v9 + (1 : Int32)) fun x1 =>
g_165 S v1 v6 v7 s0 x1
set_option maxRecDepth 100000 in
set_option maxHeartbeats 4000000 in
theorem wm_where_245 (C : mY p R s m args meth c cX12_where 10 5 119 (some .int)) (X : mX s cM iS cI cZ mo ad) {g_165 : mSt → Int32 → Int32 → Int32 → Int32 → Int32 → Option (Int32 × mSt)} (hg_165 : ∀ {S : mSt} {v1 : Int32} {v6 : Int32} {v7 : Int32} {v8 : Int32} {v9 : Int32} {H : Heap} {locs : List Loc} {ls : Array Slot}, g_165 S v1 v6 v7 v8 v9 = some (r, S9) → mW cM iS cI cZ mo ad S H → mS (mA mo ad) s.heap H locs → lv_has ls 10 [(0, .ref mo), (1, .int v1), (6, .int v6), (7, .int v7), (8, .int v8), (9, .int v9)] → W p l e R s m args below meth c H locs 0 0 (MQ below (mQw (some (.int r)) cM iS cI cZ mo ad S9) args s 0 0 (mA mo ad)) (F0 m 165 ls [])) : ∀ {S : mSt} {v1 : Int32} {v6 : Int32} {v7 : Int32} {v9 : Int32} {s0 : Int32} {H : Heap} {locs : List Loc} {ls : Array Slot}, fm_where_245 g_165 S v1 v6 v7 v9 s0 = some (r, S9) → mW cM iS cI cZ mo ad S H → mS (mA mo ad) s.heap H locs → lv_has ls 10 [(0, .ref mo), (1, .int v1), (6, .int v6), (7, .int v7), (9, .int v9)] → W p l e R s m args below meth c H locs 0 0 (MQ below (mQw (some (.int r)) cM iS cI cZ mo ad S9) args s 0 0 (mA mo ad)) (F0 m 245 ls [.int s0]) := by
  intro S v1 v6 v7 v9 s0 H locs ls h hW hS hl
  unfold fm_where_245 at h
  refine lv_istore (lv' := [(8, .int s0), (0, .ref mo), (1, .int v1), (6, .int v6), (7, .int v7), (9, .int v9)]) C.1 C.2.1 dX12_where_245 hl (by decide) rfl (fun ls hl => ?_)
  refine lt_ok h (fun x1 e_x1 h => ?_)
  refine lv_iinc (v := x1) (lv' := [(9, .int x1), (8, .int s0), (0, .ref mo), (1, .int v1), (6, .int v6), (7, .int v7)]) C.1 C.2.1 dX12_where_247 hl (k := 5) rfl (by rw [← e_x1]; rfl) (by decide) rfl (fun ls hl => ?_)
  refine lv_goto (tgt := 165) C.1 C.2.1 dX12_where_250 (by decide) ?_
  exact hg_165 h hW hS (lv_sub hl [2, 3, 4, 5, 1, 0] rfl)
noncomputable def fm_where_222 (g_165 : mSt → Int32 → Int32 → Int32 → Int32 → Int32 → Option (Int32 × mSt)) (S : mSt) (v1 : Int32) (v6 : Int32) (v9 : Int32) (s0 : Int32) (s1 : Int32) : Option (Int32 × mSt) :=
lt (s0 + s1) fun x1 =>
ck v9 1000 (
bd (fm_nameOf (rd S 53 v9)) fun r2 =>
if r2 = v6 then (
fm_where_245 g_165 S v1 v6 x1 v9 (1 : Int32))
else (
fm_where_245 g_165 S v1 v6 x1 v9 (0 : Int32)))
set_option maxRecDepth 100000 in
set_option maxHeartbeats 4000000 in
theorem wm_where_222 (C : mY p R s m args meth c cX12_where 10 5 119 (some .int)) (X : mX s cM iS cI cZ mo ad) {g_165 : mSt → Int32 → Int32 → Int32 → Int32 → Int32 → Option (Int32 × mSt)} (hg_165 : ∀ {S : mSt} {v1 : Int32} {v6 : Int32} {v7 : Int32} {v8 : Int32} {v9 : Int32} {H : Heap} {locs : List Loc} {ls : Array Slot}, g_165 S v1 v6 v7 v8 v9 = some (r, S9) → mW cM iS cI cZ mo ad S H → mS (mA mo ad) s.heap H locs → lv_has ls 10 [(0, .ref mo), (1, .int v1), (6, .int v6), (7, .int v7), (8, .int v8), (9, .int v9)] → W p l e R s m args below meth c H locs 0 0 (MQ below (mQw (some (.int r)) cM iS cI cZ mo ad S9) args s 0 0 (mA mo ad)) (F0 m 165 ls [])) : ∀ {S : mSt} {v1 : Int32} {v6 : Int32} {v9 : Int32} {s0 : Int32} {s1 : Int32} {H : Heap} {locs : List Loc} {ls : Array Slot}, fm_where_222 g_165 S v1 v6 v9 s0 s1 = some (r, S9) → mW cM iS cI cZ mo ad S H → mS (mA mo ad) s.heap H locs → lv_has ls 10 [(0, .ref mo), (1, .int v1), (6, .int v6), (9, .int v9)] → W p l e R s m args below meth c H locs 0 0 (MQ below (mQw (some (.int r)) cM iS cI cZ mo ad S9) args s 0 0 (mA mo ad)) (F0 m 222 ls [.int s1, .int s0]) := by
  intro S v1 v6 v9 s0 s1 H locs ls h hW hS hl
  unfold fm_where_222 at h
  refine lv_iadd C.1 C.2.1 dX12_where_222 ?_
  refine lt_ok h (fun x1 e_x1 h => ?_)
  refine lv_nm e_x1 ?_
  refine lv_istore (lv' := [(7, .int x1), (0, .ref mo), (1, .int v1), (6, .int v6), (9, .int v9)]) C.1 C.2.1 dX12_where_223 hl (by decide) rfl (fun ls hl => ?_)
  refine lv_aload_n C.1 C.2.1 dX12_where_225 rfl (lv_at hl 1 rfl) ?_
  refine gf_53 C X hW dX12_where_226 ?_
  refine lv_iload C.1 C.2.1 dX12_where_229 (lv_at hl 4 rfl) ?_
  obtain ⟨hin, h⟩ := ck_ok h
  refine l_53 C X hW hin dX12_where_231 ?_
  obtain ⟨r2, h_r2, h⟩ := bd_ok h
  refine m_callS (rest := []) C hl.1 [.int (rd S 53 v9)] (tm_nameOf l h_r2) mw_nameOf st_nameOf rfl ⟨by decide, by decide⟩ rfl (Nat.le_of_ble_eq_true rfl) dX12_where_232 ?_
  refine lv_iload C.1 C.2.1 dX12_where_235 (lv_at hl 3 rfl) ?_
  refine lv_icmp_ne (tgt := 244) C.1 C.2.1 dX12_where_237 (by decide) (fun c3 => ?_) (fun c3 => ?_)
  · have h := if_f h c3
    refine lv_iconst (v := 0) C.1 C.2.1 dX12_where_244 (by decide) ?_
    exact wm_where_245 C X hg_165 h hW hS (lv_sub hl [1, 2, 3, 0, 4] rfl)
  · have h := if_t h c3
    refine lv_iconst (v := 1) C.1 C.2.1 dX12_where_240 (by decide) ?_
    refine lv_goto (tgt := 245) C.1 C.2.1 dX12_where_241 (by decide) ?_
    exact wm_where_245 C X hg_165 h hW hS (lv_sub hl [1, 2, 3, 0, 4] rfl)
noncomputable def fm_where_221 (g_165 : mSt → Int32 → Int32 → Int32 → Int32 → Int32 → Option (Int32 × mSt)) (S : mSt) (v1 : Int32) (v6 : Int32) (v9 : Int32) (s0 : Int32) : Option (Int32 × mSt) :=
fm_where_222 g_165 S v1 v6 v9 s0 (0 : Int32)
set_option maxRecDepth 100000 in
set_option maxHeartbeats 4000000 in
theorem wm_where_221 (C : mY p R s m args meth c cX12_where 10 5 119 (some .int)) (X : mX s cM iS cI cZ mo ad) {g_165 : mSt → Int32 → Int32 → Int32 → Int32 → Int32 → Option (Int32 × mSt)} (hg_165 : ∀ {S : mSt} {v1 : Int32} {v6 : Int32} {v7 : Int32} {v8 : Int32} {v9 : Int32} {H : Heap} {locs : List Loc} {ls : Array Slot}, g_165 S v1 v6 v7 v8 v9 = some (r, S9) → mW cM iS cI cZ mo ad S H → mS (mA mo ad) s.heap H locs → lv_has ls 10 [(0, .ref mo), (1, .int v1), (6, .int v6), (7, .int v7), (8, .int v8), (9, .int v9)] → W p l e R s m args below meth c H locs 0 0 (MQ below (mQw (some (.int r)) cM iS cI cZ mo ad S9) args s 0 0 (mA mo ad)) (F0 m 165 ls [])) : ∀ {S : mSt} {v1 : Int32} {v6 : Int32} {v9 : Int32} {s0 : Int32} {H : Heap} {locs : List Loc} {ls : Array Slot}, fm_where_221 g_165 S v1 v6 v9 s0 = some (r, S9) → mW cM iS cI cZ mo ad S H → mS (mA mo ad) s.heap H locs → lv_has ls 10 [(0, .ref mo), (1, .int v1), (6, .int v6), (9, .int v9)] → W p l e R s m args below meth c H locs 0 0 (MQ below (mQw (some (.int r)) cM iS cI cZ mo ad S9) args s 0 0 (mA mo ad)) (F0 m 221 ls [.int s0]) := by
  intro S v1 v6 v9 s0 H locs ls h hW hS hl
  unfold fm_where_221 at h
  refine lv_iconst (v := 0) C.1 C.2.1 dX12_where_221 (by decide) ?_
  exact wm_where_222 C X hg_165 h hW hS (lv_sub hl [0, 1, 2, 3] rfl)
noncomputable def fm_where_165 : Nat → mSt → Int32 → Int32 → Int32 → Int32 → Int32 → Option (Int32 × mSt)
  | 0, _, _, _, _, _, _ => none
  | n + 1, S, v1, v6, v7, v8, v9 =>
    if (S.1 52) ≤ v9 then (
    fm_where_253 S v7)
    else (
    if v8 = 0 then (
    ck v9 1000 (
    ck (rd S 53 v9) 1000 (
    if (rd S 47 (rd S 53 v9)) = 0 then (
    fm_where_221 (fm_where_165 n) S v1 v6 v9 v7)
    else (
    ck v1 4 (
    ck v9 1000 (
    bd (fm_isErased S v1 (rd S 23 v1) (rd S 53 v9)) fun r4 =>
    if r4 = 0 then (
    fm_where_222 (fm_where_165 n) S v1 v6 v9 v7 (1 : Int32))
    else (
    fm_where_221 (fm_where_165 n) S v1 v6 v9 v7)))))))
    else (
    fm_where_253 S v7))
set_option maxRecDepth 100000 in
set_option maxHeartbeats 4000000 in
theorem wm_where_165 (C : mY p R s m args meth c cX12_where 10 5 119 (some .int)) (X : mX s cM iS cI cZ mo ad) : ∀ (n : Nat), ∀ {S : mSt} {v1 : Int32} {v6 : Int32} {v7 : Int32} {v8 : Int32} {v9 : Int32} {H : Heap} {locs : List Loc} {ls : Array Slot}, fm_where_165 n S v1 v6 v7 v8 v9 = some (r, S9) → mW cM iS cI cZ mo ad S H → mS (mA mo ad) s.heap H locs → lv_has ls 10 [(0, .ref mo), (1, .int v1), (6, .int v6), (7, .int v7), (8, .int v8), (9, .int v9)] → W p l e R s m args below meth c H locs 0 0 (MQ below (mQw (some (.int r)) cM iS cI cZ mo ad S9) args s 0 0 (mA mo ad)) (F0 m 165 ls []) := by
  intro n
  induction n with
  | zero =>
    intro S v1 v6 v7 v8 v9 H locs ls h hW hS hl
    exact absurd (show (none : Option (Int32 × mSt)) = _ from h) (fun q => by cases q)
  | succ n ih =>
    intro S v1 v6 v7 v8 v9 H locs ls h hW hS hl
    rw [fm_where_165] at h
    refine lv_iload C.1 C.2.1 dX12_where_165 (lv_at hl 5 rfl) ?_
    refine lv_aload_n C.1 C.2.1 dX12_where_167 rfl (lv_at hl 0 rfl) ?_
    refine gf_52 C X hW dX12_where_168 ?_
    refine lv_icmp_ge (tgt := 253) C.1 C.2.1 dX12_where_171 (by decide) (fun c1 => ?_) (fun c1 => ?_)
    · have h := if_t h c1
      exact wm_where_253 C X h hW hS (lv_sub hl [3] rfl)
    · have h := if_f h c1
      refine lv_iload C.1 C.2.1 dX12_where_174 (lv_at hl 4 rfl) ?_
      refine lv_if_ne (tgt := 253) C.1 C.2.1 dX12_where_176 (by decide) (fun c2 => ?_) (fun c2 => ?_)
      · have h := if_f h c2
        exact wm_where_253 C X h hW hS (lv_sub hl [3] rfl)
      · have h := if_t h c2
        refine lv_iload C.1 C.2.1 dX12_where_179 (lv_at hl 3 rfl) ?_
        refine lv_aload_n C.1 C.2.1 dX12_where_181 rfl (lv_at hl 0 rfl) ?_
        refine gf_47 C X hW dX12_where_182 ?_
        refine lv_aload_n C.1 C.2.1 dX12_where_185 rfl (lv_at hl 0 rfl) ?_
        refine gf_53 C X hW dX12_where_186 ?_
        refine lv_iload C.1 C.2.1 dX12_where_189 (lv_at hl 5 rfl) ?_
        obtain ⟨hin, h⟩ := ck_ok h
        refine l_53 C X hW hin dX12_where_191 ?_
        obtain ⟨hin, h⟩ := ck_ok h
        refine l_47 C X hW hin dX12_where_192 ?_
        refine lv_if_eq (tgt := 221) C.1 C.2.1 dX12_where_193 (by decide) (fun c3 => ?_) (fun c3 => ?_)
        · have h := if_t h c3
          exact wm_where_221 C X ih h hW hS (lv_sub hl [0, 1, 2, 5] rfl)
        · have h := if_f h c3
          refine lv_aload_n C.1 C.2.1 dX12_where_196 rfl (lv_at hl 0 rfl) ?_
          refine lv_iload_n C.1 C.2.1 dX12_where_197 rfl (lv_at hl 1 rfl) ?_
          refine lv_aload_n C.1 C.2.1 dX12_where_198 rfl (lv_at hl 0 rfl) ?_
          refine gf_23 C X hW dX12_where_199 ?_
          refine lv_iload_n C.1 C.2.1 dX12_where_202 rfl (lv_at hl 1 rfl) ?_
          obtain ⟨hin, h⟩ := ck_ok h
          refine l_23 C X hW hin dX12_where_203 ?_
          refine lv_aload_n C.1 C.2.1 dX12_where_204 rfl (lv_at hl 0 rfl) ?_
          refine gf_53 C X hW dX12_where_205 ?_
          refine lv_iload C.1 C.2.1 dX12_where_208 (lv_at hl 5 rfl) ?_
          obtain ⟨hin, h⟩ := ck_ok h
          refine l_53 C X hW hin dX12_where_210 ?_
          obtain ⟨r4, h_r4, h⟩ := bd_ok h
          refine m_callR (rest := [.int v7]) C X hW hl.1 [.int v1, .int (rd S 23 v1), .int (rd S 53 v9)] (tm_isErased l h_r4) mw_isErased im_isErased sl_isErased rfl ⟨by decide, by decide⟩ rfl (Nat.le_of_ble_eq_true rfl) dX12_where_211 ?_
          refine lv_if_ne (tgt := 221) C.1 C.2.1 dX12_where_214 (by decide) (fun c5 => ?_) (fun c5 => ?_)
          · have h := if_f h c5
            exact wm_where_221 C X ih h hW hS (lv_sub hl [0, 1, 2, 5] rfl)
          · have h := if_t h c5
            refine lv_iconst (v := 1) C.1 C.2.1 dX12_where_217 (by decide) ?_
            refine lv_goto (tgt := 222) C.1 C.2.1 dX12_where_218 (by decide) ?_
            exact wm_where_222 C X ih h hW hS (lv_sub hl [0, 1, 2, 5] rfl)
noncomputable def fm_where_127 (S : mSt) (v1 : Int32) (v4 : Int32) (v5 : Int32) (v6 : Int32) : Option (Int32 × mSt) :=
if v6 = 0 then (
some ((0 : Int32), S))
else (
ck v1 4 (
ck (v4 + (2 : Int32)) 64 (
bd (fm_look S v1 (rd S 23 v1) v5 (rd S 31 (v4 + (2 : Int32)))) fun S2 =>
fm_where_165 mFU S2 v1 v6 (0 : Int32) (0 : Int32) (0 : Int32))))
set_option maxRecDepth 100000 in
set_option maxHeartbeats 4000000 in
theorem wm_where_127 (C : mY p R s m args meth c cX12_where 10 5 119 (some .int)) (X : mX s cM iS cI cZ mo ad) : ∀ {S : mSt} {v1 : Int32} {v4 : Int32} {v5 : Int32} {v6 : Int32} {H : Heap} {locs : List Loc} {ls : Array Slot}, fm_where_127 S v1 v4 v5 v6 = some (r, S9) → mW cM iS cI cZ mo ad S H → mS (mA mo ad) s.heap H locs → lv_has ls 10 [(0, .ref mo), (1, .int v1), (4, .int v4), (5, .int v5), (6, .int v6)] → W p l e R s m args below meth c H locs 0 0 (MQ below (mQw (some (.int r)) cM iS cI cZ mo ad S9) args s 0 0 (mA mo ad)) (F0 m 127 ls []) := by
  intro S v1 v4 v5 v6 H locs ls h hW hS hl
  unfold fm_where_127 at h
  refine lv_iload C.1 C.2.1 dX12_where_127 (lv_at hl 4 rfl) ?_
  refine lv_if_ne (tgt := 134) C.1 C.2.1 dX12_where_129 (by decide) (fun c1 => ?_) (fun c1 => ?_)
  · have h := if_f h c1
    refine lv_aload_n C.1 C.2.1 dX12_where_134 rfl (lv_at hl 0 rfl) ?_
    refine lv_iload_n C.1 C.2.1 dX12_where_135 rfl (lv_at hl 1 rfl) ?_
    refine lv_aload_n C.1 C.2.1 dX12_where_136 rfl (lv_at hl 0 rfl) ?_
    refine gf_23 C X hW dX12_where_137 ?_
    refine lv_iload_n C.1 C.2.1 dX12_where_140 rfl (lv_at hl 1 rfl) ?_
    obtain ⟨hin, h⟩ := ck_ok h
    refine l_23 C X hW hin dX12_where_141 ?_
    refine lv_iload C.1 C.2.1 dX12_where_142 (lv_at hl 3 rfl) ?_
    refine lv_aload_n C.1 C.2.1 dX12_where_144 rfl (lv_at hl 0 rfl) ?_
    refine gf_31 C X hW dX12_where_145 ?_
    refine lv_iload C.1 C.2.1 dX12_where_148 (lv_at hl 2 rfl) ?_
    refine lv_iconst (v := 2) C.1 C.2.1 dX12_where_150 (by decide) ?_
    refine lv_iadd C.1 C.2.1 dX12_where_151 ?_
    obtain ⟨hin, h⟩ := ck_ok h
    refine l_31 C X hW hin dX12_where_152 ?_
    obtain ⟨S2, h_S2, h⟩ := bd_ok h
    refine m_callW (rest := []) (ov := none) C X hW hS hl.1 [.int v1, .int (rd S 23 v1), .int v5, .int (rd S 31 (v4 + (2 : Int32)))] (tm_look l h_S2) mw_look im_look sl_look rfl ⟨by decide, by decide⟩ rfl (Nat.le_of_ble_eq_true rfl) dX12_where_153 (fun H locs hW hS => ?_)
    refine W.eq (g2 := F0 m 156 ls []) rfl ?_
    refine lv_iconst (v := 0) C.1 C.2.1 dX12_where_156 (by decide) ?_
    refine lv_istore (lv' := [(7, .int (0 : Int32)), (0, .ref mo), (1, .int v1), (4, .int v4), (5, .int v5), (6, .int v6)]) C.1 C.2.1 dX12_where_157 hl (by decide) rfl (fun ls hl => ?_)
    refine lv_iconst (v := 0) C.1 C.2.1 dX12_where_159 (by decide) ?_
    refine lv_istore (lv' := [(8, .int (0 : Int32)), (7, .int (0 : Int32)), (0, .ref mo), (1, .int v1), (4, .int v4), (5, .int v5), (6, .int v6)]) C.1 C.2.1 dX12_where_160 hl (by decide) rfl (fun ls hl => ?_)
    refine lv_iconst (v := 0) C.1 C.2.1 dX12_where_162 (by decide) ?_
    refine lv_istore (lv' := [(9, .int (0 : Int32)), (8, .int (0 : Int32)), (7, .int (0 : Int32)), (0, .ref mo), (1, .int v1), (4, .int v4), (5, .int v5), (6, .int v6)]) C.1 C.2.1 dX12_where_163 hl (by decide) rfl (fun ls hl => ?_)
    exact wm_where_165 C X mFU h hW hS (lv_sub hl [3, 4, 7, 2, 1, 0] rfl)
  · have h := if_t h c1
    refine lv_iconst (v := 0) C.1 C.2.1 dX12_where_132 (by decide) ?_
    cases h
    exact m_retiW C hW hS dX12_where_133
noncomputable def fm_where_60 (S : mSt) (v1 : Int32) (v3 : Int32) (v4 : Int32) : Option (Int32 × mSt) :=
if (3 : Int32) ≤ v3 then (
ck (v4 + (1 : Int32)) 64 (
lt (rd S 31 (v4 + (1 : Int32))) fun x2 =>
ck (v4 + (3 : Int32)) 64 (
lt (rd S 31 (v4 + (3 : Int32))) fun x3 =>
bd (fm_isMadeNow S v1 x2) fun r4 =>
if r4 = 0 then (
fm_where_125 S)
else (
if x3 = 0 then (
fm_where_127 S v1 v4 x2 x3)
else (
bd (fm_rowOf x3) fun r7 =>
bd (fm_isApplied S v1 r7) fun r8 =>
if r8 = 0 then (
fm_where_125 S)
else (
fm_where_127 S v1 v4 x2 x3))))))
else (
ck (v4 + v3) 64 (
some (rd S 31 (v4 + v3), S)))
set_option maxRecDepth 100000 in
set_option maxHeartbeats 4000000 in
theorem wm_where_60 (C : mY p R s m args meth c cX12_where 10 5 119 (some .int)) (X : mX s cM iS cI cZ mo ad) : ∀ {S : mSt} {v1 : Int32} {v3 : Int32} {v4 : Int32} {H : Heap} {locs : List Loc} {ls : Array Slot}, fm_where_60 S v1 v3 v4 = some (r, S9) → mW cM iS cI cZ mo ad S H → mS (mA mo ad) s.heap H locs → lv_has ls 10 [(0, .ref mo), (1, .int v1), (3, .int v3), (4, .int v4)] → W p l e R s m args below meth c H locs 0 0 (MQ below (mQw (some (.int r)) cM iS cI cZ mo ad S9) args s 0 0 (mA mo ad)) (F0 m 60 ls []) := by
  intro S v1 v3 v4 H locs ls h hW hS hl
  unfold fm_where_60 at h
  refine lv_iload_n C.1 C.2.1 dX12_where_60 rfl (lv_at hl 2 rfl) ?_
  refine lv_iconst (v := 3) C.1 C.2.1 dX12_where_61 (by decide) ?_
  refine lv_icmp_ge (tgt := 75) C.1 C.2.1 dX12_where_62 (by decide) (fun c1 => ?_) (fun c1 => ?_)
  · have h := if_t h c1
    refine lv_aload_n C.1 C.2.1 dX12_where_75 rfl (lv_at hl 0 rfl) ?_
    refine gf_31 C X hW dX12_where_76 ?_
    refine lv_iload C.1 C.2.1 dX12_where_79 (lv_at hl 3 rfl) ?_
    refine lv_iconst (v := 1) C.1 C.2.1 dX12_where_81 (by decide) ?_
    refine lv_iadd C.1 C.2.1 dX12_where_82 ?_
    obtain ⟨hin, h⟩ := ck_ok h
    refine l_31 C X hW hin dX12_where_83 ?_
    refine lt_ok h (fun x2 e_x2 h => ?_)
    refine lv_nm e_x2 ?_
    refine lv_istore (lv' := [(5, .int x2), (0, .ref mo), (1, .int v1), (3, .int v3), (4, .int v4)]) C.1 C.2.1 dX12_where_84 hl (by decide) rfl (fun ls hl => ?_)
    refine lv_aload_n C.1 C.2.1 dX12_where_86 rfl (lv_at hl 1 rfl) ?_
    refine gf_31 C X hW dX12_where_87 ?_
    refine lv_iload C.1 C.2.1 dX12_where_90 (lv_at hl 4 rfl) ?_
    refine lv_iconst (v := 3) C.1 C.2.1 dX12_where_92 (by decide) ?_
    refine lv_iadd C.1 C.2.1 dX12_where_93 ?_
    obtain ⟨hin, h⟩ := ck_ok h
    refine l_31 C X hW hin dX12_where_94 ?_
    refine lt_ok h (fun x3 e_x3 h => ?_)
    refine lv_nm e_x3 ?_
    refine lv_istore (lv' := [(6, .int x3), (5, .int x2), (0, .ref mo), (1, .int v1), (3, .int v3), (4, .int v4)]) C.1 C.2.1 dX12_where_95 hl (by decide) rfl (fun ls hl => ?_)
    refine lv_aload_n C.1 C.2.1 dX12_where_97 rfl (lv_at hl 2 rfl) ?_
    refine lv_iload_n C.1 C.2.1 dX12_where_98 rfl (lv_at hl 3 rfl) ?_
    refine lv_iload C.1 C.2.1 dX12_where_99 (lv_at hl 1 rfl) ?_
    obtain ⟨r4, h_r4, h⟩ := bd_ok h
    refine m_callR (rest := []) C X hW hl.1 [.int v1, .int x2] (tm_isMadeNow l h_r4) mw_isMadeNow im_isMadeNow sl_isMadeNow rfl ⟨by decide, by decide⟩ rfl (Nat.le_of_ble_eq_true rfl) dX12_where_101 ?_
    refine lv_if_eq (tgt := 125) C.1 C.2.1 dX12_where_104 (by decide) (fun c5 => ?_) (fun c5 => ?_)
    · have h := if_t h c5
      exact wm_where_125 C X h hW hS (lv_sub hl [] rfl)
    · have h := if_f h c5
      refine lv_iload C.1 C.2.1 dX12_where_107 (lv_at hl 0 rfl) ?_
      refine lv_if_eq (tgt := 127) C.1 C.2.1 dX12_where_109 (by decide) (fun c6 => ?_) (fun c6 => ?_)
      · have h := if_t h c6
        exact wm_where_127 C X h hW hS (lv_sub hl [2, 3, 5, 1, 0] rfl)
      · have h := if_f h c6
        refine lv_aload_n C.1 C.2.1 dX12_where_112 rfl (lv_at hl 2 rfl) ?_
        refine lv_iload_n C.1 C.2.1 dX12_where_113 rfl (lv_at hl 3 rfl) ?_
        refine lv_iload C.1 C.2.1 dX12_where_114 (lv_at hl 0 rfl) ?_
        obtain ⟨r7, h_r7, h⟩ := bd_ok h
        refine m_callS (rest := [.int v1, .ref mo]) C hl.1 [.int x3] (tm_rowOf l h_r7) mw_rowOf st_rowOf rfl ⟨by decide, by decide⟩ rfl (Nat.le_of_ble_eq_true rfl) dX12_where_116 ?_
        obtain ⟨r8, h_r8, h⟩ := bd_ok h
        refine m_callR (rest := []) C X hW hl.1 [.int v1, .int r7] (tm_isApplied l h_r8) mw_isApplied im_isApplied sl_isApplied rfl ⟨by decide, by decide⟩ rfl (Nat.le_of_ble_eq_true rfl) dX12_where_119 ?_
        refine lv_if_ne (tgt := 127) C.1 C.2.1 dX12_where_122 (by decide) (fun c9 => ?_) (fun c9 => ?_)
        · have h := if_f h c9
          exact wm_where_127 C X h hW hS (lv_sub hl [2, 3, 5, 1, 0] rfl)
        · have h := if_t h c9
          exact wm_where_125 C X h hW hS (lv_sub hl [] rfl)
  · have h := if_f h c1
    refine lv_aload_n C.1 C.2.1 dX12_where_65 rfl (lv_at hl 0 rfl) ?_
    refine gf_31 C X hW dX12_where_66 ?_
    refine lv_iload C.1 C.2.1 dX12_where_69 (lv_at hl 3 rfl) ?_
    refine lv_iload_n C.1 C.2.1 dX12_where_71 rfl (lv_at hl 2 rfl) ?_
    refine lv_iadd C.1 C.2.1 dX12_where_72 ?_
    obtain ⟨hin, h⟩ := ck_ok h
    refine l_31 C X hW hin dX12_where_73 ?_
    cases h
    exact m_retiW C hW hS dX12_where_74
noncomputable def fm_where (S : mSt) (v1 : Int32) (v2 : Int32) (v3 : Int32) : Option (Int32 × mSt) :=
lt (pu S 0 (0 : Int32)) fun S1 =>
bd (fm_within v1 (0 : Int32) (3 : Int32)) fun r2 =>
if r2 = 0 then (
fm_where_32 S1)
else (
bd (fm_within v2 (0 : Int32) (3 : Int32)) fun r4 =>
if r4 = 0 then (
fm_where_32 S1)
else (
bd (fm_within v3 (0 : Int32) (3 : Int32)) fun r6 =>
if r6 = 0 then (
fm_where_32 S1)
else (
lt (((16 : Int32) * v1) + ((4 : Int32) * v2)) fun x8 =>
if v3 ≤ 0 then (
fm_where_60 S1 v1 v3 x8)
else (
ck x8 64 (
if (rd S1 31 x8) = 0 then (
some ((-1 : Int32), S1))
else (
fm_where_60 S1 v1 v3 x8))))))
set_option maxRecDepth 100000 in
set_option maxHeartbeats 4000000 in
theorem tm_where (l : Launch) {cM : ClassId} {iS : Nat → Nat} {cI cZ : ClassId} {mo : Nat} {ad : Nat → Nat} {S : mSt} {v1 : Int32} {v2 : Int32} {v3 : Int32} {r : Int32} {S9 : mSt} (h : fm_where S v1 v2 v3 = some (r, S9)) : Met l yX12_where (Cond.code yX12_where cX12_where 10 (some .int) :: lw_g) { frames := 5, cells := 0, slots := 0, locals := 119 } (mPi [.int v1, .int v2, .int v3] cM iS cI cZ mo ad S) (mQw (some (.int r)) cM iS cI cZ mo ad S9) 0 0 (mA mo ad) := by
  refine Met.ofW (cc := cX12_where) (maxL := 10) (ret := (some .int)) (by decide) rfl ?_
  intro p e s m args below meth c s₁ B hml hv
  obtain ⟨rfl, hW, X⟩ := hv
  have C : mY p (headSpec (Cond.code yX12_where cX12_where 10 (some .int) :: lw_g) { frames := 5, cells := 0, slots := 0, locals := 119 }).room s m _ meth c cX12_where 10 5 119 (some .int) := ⟨B.exec, B.bytes, hml, findClass_of_methodNamed B.named, fun w hw => atoms_spec (ws := Cond.code yX12_where cX12_where 10 (some .int) :: lw_g) B.pre w (List.mem_cons_of_mem _ hw), ⟨Nat.le_refl _, Nat.le_refl _⟩, B.returns, B.notSynchronized⟩
  have hl := lv_entry ([.ref mo, .int v1, .int v2, .int v3]) (n := 10) (Nat.le_of_ble_eq_true rfl)
  rw [lg_entry_eq]
  generalize (lg_sl ([.ref mo, .int v1, .int v2, .int v3]) ++ List.replicate (10 - (lg_sl ([.ref mo, .int v1, .int v2, .int v3])).length) Slot.unset).toArray = ls at hl ⊢
  have hl : lv_has ls 10 [(0, .ref mo), (1, .int v1), (2, .int v2), (3, .int v3)] := hl
  have hS : mS (mA mo ad) s.heap s.heap [] := mS.rf
  unfold fm_where at h
  refine lv_aload_n C.1 C.2.1 dX12_where_0 rfl (lv_at hl 0 rfl) ?_
  refine lv_iconst (v := 0) C.1 C.2.1 dX12_where_1 (by decide) ?_
  refine p_0 C X hW hS dX12_where_2 (fun H locs hW hS => ?_)
  refine lt_ok h (fun S1 e_S1 h => ?_)
  rw [e_S1] at hW
  refine lv_iload_n C.1 C.2.1 dX12_where_5 rfl (lv_at hl 1 rfl) ?_
  refine lv_iconst (v := 0) C.1 C.2.1 dX12_where_6 (by decide) ?_
  refine lv_iconst (v := 3) C.1 C.2.1 dX12_where_7 (by decide) ?_
  obtain ⟨r2, h_r2, h⟩ := bd_ok h
  refine m_callS (rest := []) C hl.1 [.int v1, .int (0 : Int32), .int (3 : Int32)] (tm_within l h_r2) mw_within st_within rfl ⟨by decide, by decide⟩ rfl (Nat.le_of_ble_eq_true rfl) dX12_where_8 ?_
  refine lv_if_eq (tgt := 32) C.1 C.2.1 dX12_where_11 (by decide) (fun c3 => ?_) (fun c3 => ?_)
  · have h := if_t h c3
    exact wm_where_32 C X h hW hS (lv_sub hl [] rfl)
  · have h := if_f h c3
    refine lv_iload_n C.1 C.2.1 dX12_where_14 rfl (lv_at hl 2 rfl) ?_
    refine lv_iconst (v := 0) C.1 C.2.1 dX12_where_15 (by decide) ?_
    refine lv_iconst (v := 3) C.1 C.2.1 dX12_where_16 (by decide) ?_
    obtain ⟨r4, h_r4, h⟩ := bd_ok h
    refine m_callS (rest := []) C hl.1 [.int v2, .int (0 : Int32), .int (3 : Int32)] (tm_within l h_r4) mw_within st_within rfl ⟨by decide, by decide⟩ rfl (Nat.le_of_ble_eq_true rfl) dX12_where_17 ?_
    refine lv_if_eq (tgt := 32) C.1 C.2.1 dX12_where_20 (by decide) (fun c5 => ?_) (fun c5 => ?_)
    · have h := if_t h c5
      exact wm_where_32 C X h hW hS (lv_sub hl [] rfl)
    · have h := if_f h c5
      refine lv_iload_n C.1 C.2.1 dX12_where_23 rfl (lv_at hl 3 rfl) ?_
      refine lv_iconst (v := 0) C.1 C.2.1 dX12_where_24 (by decide) ?_
      refine lv_iconst (v := 3) C.1 C.2.1 dX12_where_25 (by decide) ?_
      obtain ⟨r6, h_r6, h⟩ := bd_ok h
      refine m_callS (rest := []) C hl.1 [.int v3, .int (0 : Int32), .int (3 : Int32)] (tm_within l h_r6) mw_within st_within rfl ⟨by decide, by decide⟩ rfl (Nat.le_of_ble_eq_true rfl) dX12_where_26 ?_
      refine lv_if_ne (tgt := 34) C.1 C.2.1 dX12_where_29 (by decide) (fun c7 => ?_) (fun c7 => ?_)
      · have h := if_f h c7
        refine lv_bipush (v := 16) C.1 C.2.1 dX12_where_34 (by decide) ?_
        refine lv_iload_n C.1 C.2.1 dX12_where_36 rfl (lv_at hl 1 rfl) ?_
        refine lv_imul C.1 C.2.1 dX12_where_37 ?_
        refine lv_iconst (v := 4) C.1 C.2.1 dX12_where_38 (by decide) ?_
        refine lv_iload_n C.1 C.2.1 dX12_where_39 rfl (lv_at hl 2 rfl) ?_
        refine lv_imul C.1 C.2.1 dX12_where_40 ?_
        refine lv_iadd C.1 C.2.1 dX12_where_41 ?_
        refine lt_ok h (fun x8 e_x8 h => ?_)
        refine lv_nm e_x8 ?_
        refine lv_istore (lv' := [(4, .int x8), (0, .ref mo), (1, .int v1), (2, .int v2), (3, .int v3)]) C.1 C.2.1 dX12_where_42 hl (by decide) rfl (fun ls hl => ?_)
        refine lv_iload_n C.1 C.2.1 dX12_where_44 rfl (lv_at hl 4 rfl) ?_
        refine lv_if_le (tgt := 60) C.1 C.2.1 dX12_where_45 (by decide) (fun c9 => ?_) (fun c9 => ?_)
        · have h := if_t h c9
          exact wm_where_60 C X h hW hS (lv_sub hl [1, 2, 4, 0] rfl)
        · have h := if_f h c9
          refine lv_aload_n C.1 C.2.1 dX12_where_48 rfl (lv_at hl 1 rfl) ?_
          refine gf_31 C X hW dX12_where_49 ?_
          refine lv_iload C.1 C.2.1 dX12_where_52 (lv_at hl 0 rfl) ?_
          obtain ⟨hin, h⟩ := ck_ok h
          refine l_31 C X hW hin dX12_where_54 ?_
          refine lv_if_ne (tgt := 60) C.1 C.2.1 dX12_where_55 (by decide) (fun c10 => ?_) (fun c10 => ?_)
          · have h := if_f h c10
            exact wm_where_60 C X h hW hS (lv_sub hl [1, 2, 4, 0] rfl)
          · have h := if_t h c10
            refine lv_iconst (v := -1) C.1 C.2.1 dX12_where_58 (by decide) ?_
            cases h
            exact m_retiW C hW hS dX12_where_59
      · have h := if_t h c7
        exact wm_where_32 C X h hW hS (lv_sub hl [] rfl)
end
theorem dX12_canBeAsked_0 : decode cX12_canBeAsked 0 = .ok (.iload_n 1, 1) := by decide +kernel
theorem dX12_canBeAsked_1 : decode cX12_canBeAsked 1 = .ok (.iconst 0, 1) := by decide +kernel
theorem dX12_canBeAsked_2 : decode cX12_canBeAsked 2 = .ok (.iconst 3, 1) := by decide +kernel
theorem dX12_canBeAsked_3 : decode cX12_canBeAsked 3 = .ok (.invokestatic 215, 3) := by decide +kernel
theorem dX12_canBeAsked_6 : decode cX12_canBeAsked 6 = .ok (.ifCond .eq 53, 3) := by decide +kernel
theorem dX12_canBeAsked_9 : decode cX12_canBeAsked 9 = .ok (.iload_n 2, 1) := by decide +kernel
theorem dX12_canBeAsked_10 : decode cX12_canBeAsked 10 = .ok (.iconst 0, 1) := by decide +kernel
theorem dX12_canBeAsked_11 : decode cX12_canBeAsked 11 = .ok (.aload_n 0, 1) := by decide +kernel
theorem dX12_canBeAsked_12 : decode cX12_canBeAsked 12 = .ok (.getfield 212, 3) := by decide +kernel
theorem dX12_canBeAsked_15 : decode cX12_canBeAsked 15 = .ok (.iconst 1, 1) := by decide +kernel
theorem dX12_canBeAsked_16 : decode cX12_canBeAsked 16 = .ok (.isub, 1) := by decide +kernel
theorem dX12_canBeAsked_17 : decode cX12_canBeAsked 17 = .ok (.invokestatic 215, 3) := by decide +kernel
theorem dX12_canBeAsked_20 : decode cX12_canBeAsked 20 = .ok (.ifCond .eq 39, 3) := by decide +kernel
theorem dX12_canBeAsked_23 : decode cX12_canBeAsked 23 = .ok (.iload_n 3, 1) := by decide +kernel
theorem dX12_canBeAsked_24 : decode cX12_canBeAsked 24 = .ok (.iconst 0, 1) := by decide +kernel
theorem dX12_canBeAsked_25 : decode cX12_canBeAsked 25 = .ok (.aload_n 0, 1) := by decide +kernel
theorem dX12_canBeAsked_26 : decode cX12_canBeAsked 26 = .ok (.getfield 17, 3) := by decide +kernel
theorem dX12_canBeAsked_29 : decode cX12_canBeAsked 29 = .ok (.iload_n 2, 1) := by decide +kernel
theorem dX12_canBeAsked_30 : decode cX12_canBeAsked 30 = .ok (.iaload, 1) := by decide +kernel
theorem dX12_canBeAsked_31 : decode cX12_canBeAsked 31 = .ok (.iconst 1, 1) := by decide +kernel
theorem dX12_canBeAsked_32 : decode cX12_canBeAsked 32 = .ok (.isub, 1) := by decide +kernel
theorem dX12_canBeAsked_33 : decode cX12_canBeAsked 33 = .ok (.invokestatic 215, 3) := by decide +kernel
theorem dX12_canBeAsked_36 : decode cX12_canBeAsked 36 = .ok (.ifCond .eq 23, 3) := by decide +kernel
theorem dX12_canBeAsked_39 : decode cX12_canBeAsked 39 = .ok (.aload_n 0, 1) := by decide +kernel
theorem dX12_canBeAsked_40 : decode cX12_canBeAsked 40 = .ok (.getfield 20, 3) := by decide +kernel
theorem dX12_canBeAsked_43 : decode cX12_canBeAsked 43 = .ok (.bipush 6, 2) := by decide +kernel
theorem dX12_canBeAsked_45 : decode cX12_canBeAsked 45 = .ok (.iload_n 2, 1) := by decide +kernel
theorem dX12_canBeAsked_46 : decode cX12_canBeAsked 46 = .ok (.imul, 1) := by decide +kernel
theorem dX12_canBeAsked_47 : decode cX12_canBeAsked 47 = .ok (.iload_n 3, 1) := by decide +kernel
theorem dX12_canBeAsked_48 : decode cX12_canBeAsked 48 = .ok (.iadd, 1) := by decide +kernel
theorem dX12_canBeAsked_49 : decode cX12_canBeAsked 49 = .ok (.iaload, 1) := by decide +kernel
theorem dX12_canBeAsked_50 : decode cX12_canBeAsked 50 = .ok (.bipush 76, 2) := by decide +kernel
theorem dX12_canBeAsked_52 : decode cX12_canBeAsked 52 = .ok (.if_icmp .ne 7, 3) := by decide +kernel
theorem dX12_canBeAsked_55 : decode cX12_canBeAsked 55 = .ok (.iconst 1, 1) := by decide +kernel
theorem dX12_canBeAsked_56 : decode cX12_canBeAsked 56 = .ok (.goto 4, 3) := by decide +kernel
theorem dX12_canBeAsked_59 : decode cX12_canBeAsked 59 = .ok (.iconst 0, 1) := by decide +kernel
theorem dX12_canBeAsked_60 : decode cX12_canBeAsked 60 = .ok (.ireturn, 1) := by decide +kernel
theorem cd_canBeAsked : Cond.code yX12_canBeAsked cX12_canBeAsked 4 (some .boolean) ∈ lw_g := mt_at 2207 (by decide +kernel) rfl
theorem mw_canBeAsked : mCw 425 yX12_canBeAsked cX12_canBeAsked 4 (some .boolean) 3 := ⟨cd_canBeAsked, mt_at 2204 (by decide +kernel) rfl, in_M, by decide +kernel⟩
theorem im_canBeAsked : Cond.instanceMethod yX12_canBeAsked ∈ lw_g := mt_at 2206 (by decide +kernel) rfl
theorem sl_canBeAsked : Cond.selects RX12 yX12_canBeAsked yX12_canBeAsked ∈ lw_g := mt_sel 93 (by decide +kernel) rfl
section
variable {p : Program} {l : Launch} {e : Env} {R : Room} {s : State} {m : MethodId} {args : Array Value} {below : List Frame} {meth : Method} {c : Code} {cM : ClassId} {iS : Nat → Nat} {cI cZ : ClassId} {mo : Nat} {ad : Nat → Nat} {S : mSt} {r : Int32}
noncomputable def fm_canBeAsked_60 (S : mSt) (s0 : Int32) : Option (Int32) :=
ckz s0 (some s0)
set_option maxRecDepth 100000 in
set_option maxHeartbeats 4000000 in
theorem wm_canBeAsked_60 (C : mY p R s m args meth c cX12_canBeAsked 4 1 22 (some .boolean)) (X : mX s cM iS cI cZ mo ad) (hW : mW cM iS cI cZ mo ad S s.heap) : ∀ {s0 : Int32} {ls : Array Slot}, fm_canBeAsked_60 S s0 = some r → lv_has ls 4 [] → W p l e R s m args below meth c s.heap [] 0 0 (MQ below (mQi r) args s 0 0 mNo) (F0 m 60 ls [.int s0]) := by
  intro s0 ls h hl
  unfold fm_canBeAsked_60 at h
  obtain ⟨hzo, h⟩ := ckz_ok h
  cases h
  exact m_retz C hzo rfl rfl dX12_canBeAsked_60
noncomputable def fm_canBeAsked_59 (S : mSt) : Option (Int32) :=
fm_canBeAsked_60 S (0 : Int32)
set_option maxRecDepth 100000 in
set_option maxHeartbeats 4000000 in
theorem wm_canBeAsked_59 (C : mY p R s m args meth c cX12_canBeAsked 4 1 22 (some .boolean)) (X : mX s cM iS cI cZ mo ad) (hW : mW cM iS cI cZ mo ad S s.heap) : ∀ {ls : Array Slot}, fm_canBeAsked_59 S = some r → lv_has ls 4 [] → W p l e R s m args below meth c s.heap [] 0 0 (MQ below (mQi r) args s 0 0 mNo) (F0 m 59 ls []) := by
  intro ls h hl
  unfold fm_canBeAsked_59 at h
  refine lv_iconst (v := 0) C.1 C.2.1 dX12_canBeAsked_59 (by decide) ?_
  exact wm_canBeAsked_60 C X hW h (lv_sub hl [] rfl)
noncomputable def fm_canBeAsked (S : mSt) (v1 : Int32) (v2 : Int32) (v3 : Int32) : Option (Int32) :=
bd (fm_within v1 (0 : Int32) (3 : Int32)) fun r1 =>
if r1 = 0 then (
fm_canBeAsked_59 S)
else (
bd (fm_within v2 (0 : Int32) ((S.1 4) - (1 : Int32))) fun r3 =>
if r3 = 0 then (
fm_canBeAsked_59 S)
else (
ck v2 8 (
bd (fm_within v3 (0 : Int32) ((rd S 5 v2) - (1 : Int32))) fun r5 =>
if r5 = 0 then (
fm_canBeAsked_59 S)
else (
ck (((6 : Int32) * v2) + v3) 48 (
if (rd S 6 (((6 : Int32) * v2) + v3)) = (76 : Int32) then (
fm_canBeAsked_60 S (1 : Int32))
else (
fm_canBeAsked_59 S))))))
set_option maxRecDepth 100000 in
set_option maxHeartbeats 4000000 in
theorem tm_canBeAsked (l : Launch) {cM : ClassId} {iS : Nat → Nat} {cI cZ : ClassId} {mo : Nat} {ad : Nat → Nat} {S : mSt} {v1 : Int32} {v2 : Int32} {v3 : Int32} {r : Int32} (h : fm_canBeAsked S v1 v2 v3 = some r) : Met l yX12_canBeAsked (Cond.code yX12_canBeAsked cX12_canBeAsked 4 (some .boolean) :: lw_g) { frames := 1, cells := 0, slots := 0, locals := 22 } (mPi [.int v1, .int v2, .int v3] cM iS cI cZ mo ad S) (mQi r) 0 0 (mNo) := by
  refine Met.ofW (cc := cX12_canBeAsked) (maxL := 4) (ret := (some .boolean)) (by decide) rfl ?_
  intro p e s m args below meth c s₁ B hml hv
  obtain ⟨rfl, hW, X⟩ := hv
  have C : mY p (headSpec (Cond.code yX12_canBeAsked cX12_canBeAsked 4 (some .boolean) :: lw_g) { frames := 1, cells := 0, slots := 0, locals := 22 }).room s m _ meth c cX12_canBeAsked 4 1 22 (some .boolean) := ⟨B.exec, B.bytes, hml, findClass_of_methodNamed B.named, fun w hw => atoms_spec (ws := Cond.code yX12_canBeAsked cX12_canBeAsked 4 (some .boolean) :: lw_g) B.pre w (List.mem_cons_of_mem _ hw), ⟨Nat.le_refl _, Nat.le_refl _⟩, B.returns, B.notSynchronized⟩
  have hl := lv_entry ([.ref mo, .int v1, .int v2, .int v3]) (n := 4) (Nat.le_of_ble_eq_true rfl)
  rw [lg_entry_eq]
  generalize (lg_sl ([.ref mo, .int v1, .int v2, .int v3]) ++ List.replicate (4 - (lg_sl ([.ref mo, .int v1, .int v2, .int v3])).length) Slot.unset).toArray = ls at hl ⊢
  have hl : lv_has ls 4 [(0, .ref mo), (1, .int v1), (2, .int v2), (3, .int v3)] := hl
  unfold fm_canBeAsked at h
  refine lv_iload_n C.1 C.2.1 dX12_canBeAsked_0 rfl (lv_at hl 1 rfl) ?_
  refine lv_iconst (v := 0) C.1 C.2.1 dX12_canBeAsked_1 (by decide) ?_
  refine lv_iconst (v := 3) C.1 C.2.1 dX12_canBeAsked_2 (by decide) ?_
  obtain ⟨r1, h_r1, h⟩ := bd_ok h
  refine m_callS (rest := []) C hl.1 [.int v1, .int (0 : Int32), .int (3 : Int32)] (tm_within l h_r1) mw_within st_within rfl ⟨by decide, by decide⟩ rfl (Nat.le_of_ble_eq_true rfl) dX12_canBeAsked_3 ?_
  refine lv_if_eq (tgt := 59) C.1 C.2.1 dX12_canBeAsked_6 (by decide) (fun c2 => ?_) (fun c2 => ?_)
  · have h := if_t h c2
    exact wm_canBeAsked_59 C X hW h (lv_sub hl [] rfl)
  · have h := if_f h c2
    refine lv_iload_n C.1 C.2.1 dX12_canBeAsked_9 rfl (lv_at hl 2 rfl) ?_
    refine lv_iconst (v := 0) C.1 C.2.1 dX12_canBeAsked_10 (by decide) ?_
    refine lv_aload_n C.1 C.2.1 dX12_canBeAsked_11 rfl (lv_at hl 0 rfl) ?_
    refine gf_4 C X hW dX12_canBeAsked_12 ?_
    refine lv_iconst (v := 1) C.1 C.2.1 dX12_canBeAsked_15 (by decide) ?_
    refine lv_isub C.1 C.2.1 dX12_canBeAsked_16 ?_
    obtain ⟨r3, h_r3, h⟩ := bd_ok h
    refine m_callS (rest := []) C hl.1 [.int v2, .int (0 : Int32), .int ((S.1 4) - (1 : Int32))] (tm_within l h_r3) mw_within st_within rfl ⟨by decide, by decide⟩ rfl (Nat.le_of_ble_eq_true rfl) dX12_canBeAsked_17 ?_
    refine lv_if_eq (tgt := 59) C.1 C.2.1 dX12_canBeAsked_20 (by decide) (fun c4 => ?_) (fun c4 => ?_)
    · have h := if_t h c4
      exact wm_canBeAsked_59 C X hW h (lv_sub hl [] rfl)
    · have h := if_f h c4
      refine lv_iload_n C.1 C.2.1 dX12_canBeAsked_23 rfl (lv_at hl 3 rfl) ?_
      refine lv_iconst (v := 0) C.1 C.2.1 dX12_canBeAsked_24 (by decide) ?_
      refine lv_aload_n C.1 C.2.1 dX12_canBeAsked_25 rfl (lv_at hl 0 rfl) ?_
      refine gf_5 C X hW dX12_canBeAsked_26 ?_
      refine lv_iload_n C.1 C.2.1 dX12_canBeAsked_29 rfl (lv_at hl 2 rfl) ?_
      obtain ⟨hin, h⟩ := ck_ok h
      refine l_5 C X hW hin dX12_canBeAsked_30 ?_
      refine lv_iconst (v := 1) C.1 C.2.1 dX12_canBeAsked_31 (by decide) ?_
      refine lv_isub C.1 C.2.1 dX12_canBeAsked_32 ?_
      obtain ⟨r5, h_r5, h⟩ := bd_ok h
      refine m_callS (rest := []) C hl.1 [.int v3, .int (0 : Int32), .int ((rd S 5 v2) - (1 : Int32))] (tm_within l h_r5) mw_within st_within rfl ⟨by decide, by decide⟩ rfl (Nat.le_of_ble_eq_true rfl) dX12_canBeAsked_33 ?_
      refine lv_if_eq (tgt := 59) C.1 C.2.1 dX12_canBeAsked_36 (by decide) (fun c6 => ?_) (fun c6 => ?_)
      · have h := if_t h c6
        exact wm_canBeAsked_59 C X hW h (lv_sub hl [] rfl)
      · have h := if_f h c6
        refine lv_aload_n C.1 C.2.1 dX12_canBeAsked_39 rfl (lv_at hl 0 rfl) ?_
        refine gf_6 C X hW dX12_canBeAsked_40 ?_
        refine lv_bipush (v := 6) C.1 C.2.1 dX12_canBeAsked_43 (by decide) ?_
        refine lv_iload_n C.1 C.2.1 dX12_canBeAsked_45 rfl (lv_at hl 2 rfl) ?_
        refine lv_imul C.1 C.2.1 dX12_canBeAsked_46 ?_
        refine lv_iload_n C.1 C.2.1 dX12_canBeAsked_47 rfl (lv_at hl 3 rfl) ?_
        refine lv_iadd C.1 C.2.1 dX12_canBeAsked_48 ?_
        obtain ⟨hin, h⟩ := ck_ok h
        refine l_6 C X hW hin dX12_canBeAsked_49 ?_
        refine lv_bipush (v := 76) C.1 C.2.1 dX12_canBeAsked_50 (by decide) ?_
        refine lv_icmp_ne (tgt := 59) C.1 C.2.1 dX12_canBeAsked_52 (by decide) (fun c7 => ?_) (fun c7 => ?_)
        · have h := if_f h c7
          exact wm_canBeAsked_59 C X hW h (lv_sub hl [] rfl)
        · have h := if_t h c7
          refine lv_iconst (v := 1) C.1 C.2.1 dX12_canBeAsked_55 (by decide) ?_
          refine lv_goto (tgt := 60) C.1 C.2.1 dX12_canBeAsked_56 (by decide) ?_
          exact wm_canBeAsked_60 C X hW h (lv_sub hl [] rfl)
end
theorem dX12_stand_0 : decode cX12_stand 0 = .ok (.aload_n 0, 1) := by decide +kernel
theorem dX12_stand_1 : decode cX12_stand 1 = .ok (.iconst 0, 1) := by decide +kernel
theorem dX12_stand_2 : decode cX12_stand 2 = .ok (.putfield 200, 3) := by decide +kernel
theorem dX12_stand_5 : decode cX12_stand 5 = .ok (.aload_n 0, 1) := by decide +kernel
theorem dX12_stand_6 : decode cX12_stand 6 = .ok (.iload_n 1, 1) := by decide +kernel
theorem dX12_stand_7 : decode cX12_stand 7 = .ok (.iload_n 3, 1) := by decide +kernel
theorem dX12_stand_8 : decode cX12_stand 8 = .ok (.iload 4, 2) := by decide +kernel
theorem dX12_stand_10 : decode cX12_stand 10 = .ok (.invokevirtual 425, 3) := by decide +kernel
theorem dX12_stand_13 : decode cX12_stand 13 = .ok (.ifCond .eq 12, 3) := by decide +kernel
theorem dX12_stand_16 : decode cX12_stand 16 = .ok (.iload_n 2, 1) := by decide +kernel
theorem dX12_stand_17 : decode cX12_stand 17 = .ok (.iconst 0, 1) := by decide +kernel
theorem dX12_stand_18 : decode cX12_stand 18 = .ok (.iconst 3, 1) := by decide +kernel
theorem dX12_stand_19 : decode cX12_stand 19 = .ok (.invokestatic 215, 3) := by decide +kernel
theorem dX12_stand_22 : decode cX12_stand 22 = .ok (.ifCond .ne 5, 3) := by decide +kernel
theorem dX12_stand_25 : decode cX12_stand 25 = .ok (.iconst 0, 1) := by decide +kernel
theorem dX12_stand_26 : decode cX12_stand 26 = .ok (.ireturn, 1) := by decide +kernel
theorem dX12_stand_27 : decode cX12_stand 27 = .ok (.iconst 4, 1) := by decide +kernel
theorem dX12_stand_28 : decode cX12_stand 28 = .ok (.iload_n 1, 1) := by decide +kernel
theorem dX12_stand_29 : decode cX12_stand 29 = .ok (.imul, 1) := by decide +kernel
theorem dX12_stand_30 : decode cX12_stand 30 = .ok (.iload_n 2, 1) := by decide +kernel
theorem dX12_stand_31 : decode cX12_stand 31 = .ok (.iadd, 1) := by decide +kernel
theorem dX12_stand_32 : decode cX12_stand 32 = .ok (.istore 7, 2) := by decide +kernel
theorem dX12_stand_34 : decode cX12_stand 34 = .ok (.aload_n 0, 1) := by decide +kernel
theorem dX12_stand_35 : decode cX12_stand 35 = .ok (.getfield 98, 3) := by decide +kernel
theorem dX12_stand_38 : decode cX12_stand 38 = .ok (.iload 7, 2) := by decide +kernel
theorem dX12_stand_40 : decode cX12_stand 40 = .ok (.iconst 1, 1) := by decide +kernel
theorem dX12_stand_41 : decode cX12_stand 41 = .ok (.bastore, 1) := by decide +kernel
theorem dX12_stand_42 : decode cX12_stand 42 = .ok (.aload_n 0, 1) := by decide +kernel
theorem dX12_stand_43 : decode cX12_stand 43 = .ok (.getfield 102, 3) := by decide +kernel
theorem dX12_stand_46 : decode cX12_stand 46 = .ok (.iload 7, 2) := by decide +kernel
theorem dX12_stand_48 : decode cX12_stand 48 = .ok (.iload_n 3, 1) := by decide +kernel
theorem dX12_stand_49 : decode cX12_stand 49 = .ok (.iastore, 1) := by decide +kernel
theorem dX12_stand_50 : decode cX12_stand 50 = .ok (.aload_n 0, 1) := by decide +kernel
theorem dX12_stand_51 : decode cX12_stand 51 = .ok (.getfield 105, 3) := by decide +kernel
theorem dX12_stand_54 : decode cX12_stand 54 = .ok (.iload 7, 2) := by decide +kernel
theorem dX12_stand_56 : decode cX12_stand 56 = .ok (.iload 4, 2) := by decide +kernel
theorem dX12_stand_58 : decode cX12_stand 58 = .ok (.iastore, 1) := by decide +kernel
theorem dX12_stand_59 : decode cX12_stand 59 = .ok (.aload_n 0, 1) := by decide +kernel
theorem dX12_stand_60 : decode cX12_stand 60 = .ok (.getfield 108, 3) := by decide +kernel
theorem dX12_stand_63 : decode cX12_stand 63 = .ok (.iload 7, 2) := by decide +kernel
theorem dX12_stand_65 : decode cX12_stand 65 = .ok (.iload 5, 2) := by decide +kernel
theorem dX12_stand_67 : decode cX12_stand 67 = .ok (.iastore, 1) := by decide +kernel
theorem dX12_stand_68 : decode cX12_stand 68 = .ok (.aload_n 0, 1) := by decide +kernel
theorem dX12_stand_69 : decode cX12_stand 69 = .ok (.getfield 111, 3) := by decide +kernel
theorem dX12_stand_72 : decode cX12_stand 72 = .ok (.iload 7, 2) := by decide +kernel
theorem dX12_stand_74 : decode cX12_stand 74 = .ok (.iload 6, 2) := by decide +kernel
theorem dX12_stand_76 : decode cX12_stand 76 = .ok (.iastore, 1) := by decide +kernel
theorem dX12_stand_77 : decode cX12_stand 77 = .ok (.iconst 1, 1) := by decide +kernel
theorem dX12_stand_78 : decode cX12_stand 78 = .ok (.ireturn, 1) := by decide +kernel
theorem cd_stand : Cond.code yX12_stand cX12_stand 8 (some .boolean) ∈ lw_g := mt_at 2203 (by decide +kernel) rfl
section
variable {p : Program} {l : Launch} {e : Env} {R : Room} {s : State} {m : MethodId} {args : Array Value} {below : List Frame} {meth : Method} {c : Code} {cM : ClassId} {iS : Nat → Nat} {cI cZ : ClassId} {mo : Nat} {ad : Nat → Nat} {r : Int32} {S9 : mSt}
noncomputable def fm_stand_25 (S : mSt) : Option (Int32 × mSt) :=
ckz (0 : Int32) (some ((0 : Int32), S))
set_option maxRecDepth 100000 in
set_option maxHeartbeats 4000000 in
theorem wm_stand_25 (C : mY p R s m args meth c cX12_stand 8 2 45 (some .boolean)) (X : mX s cM iS cI cZ mo ad) : ∀ {S : mSt} {H : Heap} {locs : List Loc} {ls : Array Slot}, fm_stand_25 S = some (r, S9) → mW cM iS cI cZ mo ad S H → mS (mA mo ad) s.heap H locs → lv_has ls 8 [] → W p l e R s m args below meth c H locs 0 0 (MQ below (mQw (some (.int r)) cM iS cI cZ mo ad S9) args s 0 0 (mA mo ad)) (F0 m 25 ls []) := by
  intro S H locs ls h hW hS hl
  unfold fm_stand_25 at h
  refine lv_iconst (v := 0) C.1 C.2.1 dX12_stand_25 (by decide) ?_
  obtain ⟨hzo, h⟩ := ckz_ok h
  cases h
  exact m_retzW C hzo hW hS dX12_stand_26
noncomputable def fm_stand (S : mSt) (v1 : Int32) (v2 : Int32) (v3 : Int32) (v4 : Int32) (v5 : Int32) (v6 : Int32) : Option (Int32 × mSt) :=
lt (pu S 0 (0 : Int32)) fun S1 =>
bd (fm_canBeAsked S1 v1 v3 v4) fun r2 =>
if r2 = 0 then (
fm_stand_25 S1)
else (
bd (fm_within v2 (0 : Int32) (3 : Int32)) fun r4 =>
if r4 = 0 then (
fm_stand_25 S1)
else (
lt (((4 : Int32) * v1) + v2) fun x6 =>
ckz (1 : Int32) (ck x6 16 (lt (wr S1 32 x6 (1 : Int32)) fun S7 =>
ck x6 16 (lt (wr S7 33 x6 v3) fun S8 =>
ck x6 16 (lt (wr S8 34 x6 v4) fun S9 =>
ck x6 16 (lt (wr S9 35 x6 v5) fun S10 =>
ck x6 16 (lt (wr S10 36 x6 v6) fun S11 =>
ckz (1 : Int32) (some ((1 : Int32), S11))))))))))
set_option maxRecDepth 100000 in
set_option maxHeartbeats 4000000 in
theorem tm_stand (l : Launch) {cM : ClassId} {iS : Nat → Nat} {cI cZ : ClassId} {mo : Nat} {ad : Nat → Nat} {S : mSt} {v1 : Int32} {v2 : Int32} {v3 : Int32} {v4 : Int32} {v5 : Int32} {v6 : Int32} {r : Int32} {S9 : mSt} (h : fm_stand S v1 v2 v3 v4 v5 v6 = some (r, S9)) : Met l yX12_stand (Cond.code yX12_stand cX12_stand 8 (some .boolean) :: lw_g) { frames := 2, cells := 0, slots := 0, locals := 45 } (mPi [.int v1, .int v2, .int v3, .int v4, .int v5, .int v6] cM iS cI cZ mo ad S) (mQw (some (.int r)) cM iS cI cZ mo ad S9) 0 0 (mA mo ad) := by
  refine Met.ofW (cc := cX12_stand) (maxL := 8) (ret := (some .boolean)) (by decide) rfl ?_
  intro p e s m args below meth c s₁ B hml hv
  obtain ⟨rfl, hW, X⟩ := hv
  have C : mY p (headSpec (Cond.code yX12_stand cX12_stand 8 (some .boolean) :: lw_g) { frames := 2, cells := 0, slots := 0, locals := 45 }).room s m _ meth c cX12_stand 8 2 45 (some .boolean) := ⟨B.exec, B.bytes, hml, findClass_of_methodNamed B.named, fun w hw => atoms_spec (ws := Cond.code yX12_stand cX12_stand 8 (some .boolean) :: lw_g) B.pre w (List.mem_cons_of_mem _ hw), ⟨Nat.le_refl _, Nat.le_refl _⟩, B.returns, B.notSynchronized⟩
  have hl := lv_entry ([.ref mo, .int v1, .int v2, .int v3, .int v4, .int v5, .int v6]) (n := 8) (Nat.le_of_ble_eq_true rfl)
  rw [lg_entry_eq]
  generalize (lg_sl ([.ref mo, .int v1, .int v2, .int v3, .int v4, .int v5, .int v6]) ++ List.replicate (8 - (lg_sl ([.ref mo, .int v1, .int v2, .int v3, .int v4, .int v5, .int v6])).length) Slot.unset).toArray = ls at hl ⊢
  have hl : lv_has ls 8 [(0, .ref mo), (1, .int v1), (2, .int v2), (3, .int v3), (4, .int v4), (5, .int v5), (6, .int v6)] := hl
  have hS : mS (mA mo ad) s.heap s.heap [] := mS.rf
  unfold fm_stand at h
  refine lv_aload_n C.1 C.2.1 dX12_stand_0 rfl (lv_at hl 0 rfl) ?_
  refine lv_iconst (v := 0) C.1 C.2.1 dX12_stand_1 (by decide) ?_
  refine p_0 C X hW hS dX12_stand_2 (fun H locs hW hS => ?_)
  refine lt_ok h (fun S1 e_S1 h => ?_)
  rw [e_S1] at hW
  refine lv_aload_n C.1 C.2.1 dX12_stand_5 rfl (lv_at hl 0 rfl) ?_
  refine lv_iload_n C.1 C.2.1 dX12_stand_6 rfl (lv_at hl 1 rfl) ?_
  refine lv_iload_n C.1 C.2.1 dX12_stand_7 rfl (lv_at hl 3 rfl) ?_
  refine lv_iload C.1 C.2.1 dX12_stand_8 (lv_at hl 4 rfl) ?_
  obtain ⟨r2, h_r2, h⟩ := bd_ok h
  refine m_callR (rest := []) C X hW hl.1 [.int v1, .int v3, .int v4] (tm_canBeAsked l h_r2) mw_canBeAsked im_canBeAsked sl_canBeAsked rfl ⟨by decide, by decide⟩ rfl (Nat.le_of_ble_eq_true rfl) dX12_stand_10 ?_
  refine lv_if_eq (tgt := 25) C.1 C.2.1 dX12_stand_13 (by decide) (fun c3 => ?_) (fun c3 => ?_)
  · have h := if_t h c3
    exact wm_stand_25 C X h hW hS (lv_sub hl [] rfl)
  · have h := if_f h c3
    refine lv_iload_n C.1 C.2.1 dX12_stand_16 rfl (lv_at hl 2 rfl) ?_
    refine lv_iconst (v := 0) C.1 C.2.1 dX12_stand_17 (by decide) ?_
    refine lv_iconst (v := 3) C.1 C.2.1 dX12_stand_18 (by decide) ?_
    obtain ⟨r4, h_r4, h⟩ := bd_ok h
    refine m_callS (rest := []) C hl.1 [.int v2, .int (0 : Int32), .int (3 : Int32)] (tm_within l h_r4) mw_within st_within rfl ⟨by decide, by decide⟩ rfl (Nat.le_of_ble_eq_true rfl) dX12_stand_19 ?_
    refine lv_if_ne (tgt := 27) C.1 C.2.1 dX12_stand_22 (by decide) (fun c5 => ?_) (fun c5 => ?_)
    · have h := if_f h c5
      refine lv_iconst (v := 4) C.1 C.2.1 dX12_stand_27 (by decide) ?_
      refine lv_iload_n C.1 C.2.1 dX12_stand_28 rfl (lv_at hl 1 rfl) ?_
      refine lv_imul C.1 C.2.1 dX12_stand_29 ?_
      refine lv_iload_n C.1 C.2.1 dX12_stand_30 rfl (lv_at hl 2 rfl) ?_
      refine lv_iadd C.1 C.2.1 dX12_stand_31 ?_
      refine lt_ok h (fun x6 e_x6 h => ?_)
      refine lv_nm e_x6 ?_
      refine lv_istore (lv' := [(7, .int x6), (0, .ref mo), (1, .int v1), (2, .int v2), (3, .int v3), (4, .int v4), (5, .int v5), (6, .int v6)]) C.1 C.2.1 dX12_stand_32 hl (by decide) rfl (fun ls hl => ?_)
      refine lv_aload_n C.1 C.2.1 dX12_stand_34 rfl (lv_at hl 1 rfl) ?_
      refine gf_32 C X hW dX12_stand_35 ?_
      refine lv_iload C.1 C.2.1 dX12_stand_38 (lv_at hl 0 rfl) ?_
      refine lv_iconst (v := 1) C.1 C.2.1 dX12_stand_40 (by decide) ?_
      obtain ⟨hzo, h⟩ := ckz_ok h
      obtain ⟨hin, h⟩ := ck_ok h
      refine s_32 C X hW hS hzo hin dX12_stand_41 (fun H locs hW hS => ?_)
      refine lt_ok h (fun S7 e_S7 h => ?_)
      rw [e_S7] at hW
      refine lv_aload_n C.1 C.2.1 dX12_stand_42 rfl (lv_at hl 1 rfl) ?_
      refine gf_33 C X hW dX12_stand_43 ?_
      refine lv_iload C.1 C.2.1 dX12_stand_46 (lv_at hl 0 rfl) ?_
      refine lv_iload_n C.1 C.2.1 dX12_stand_48 rfl (lv_at hl 4 rfl) ?_
      obtain ⟨hin, h⟩ := ck_ok h
      refine s_33 C X hW hS hin dX12_stand_49 (fun H locs hW hS => ?_)
      refine lt_ok h (fun S8 e_S8 h => ?_)
      rw [e_S8] at hW
      refine lv_aload_n C.1 C.2.1 dX12_stand_50 rfl (lv_at hl 1 rfl) ?_
      refine gf_34 C X hW dX12_stand_51 ?_
      refine lv_iload C.1 C.2.1 dX12_stand_54 (lv_at hl 0 rfl) ?_
      refine lv_iload C.1 C.2.1 dX12_stand_56 (lv_at hl 5 rfl) ?_
      obtain ⟨hin, h⟩ := ck_ok h
      refine s_34 C X hW hS hin dX12_stand_58 (fun H locs hW hS => ?_)
      refine lt_ok h (fun S9 e_S9 h => ?_)
      rw [e_S9] at hW
      refine lv_aload_n C.1 C.2.1 dX12_stand_59 rfl (lv_at hl 1 rfl) ?_
      refine gf_35 C X hW dX12_stand_60 ?_
      refine lv_iload C.1 C.2.1 dX12_stand_63 (lv_at hl 0 rfl) ?_
      refine lv_iload C.1 C.2.1 dX12_stand_65 (lv_at hl 6 rfl) ?_
      obtain ⟨hin, h⟩ := ck_ok h
      refine s_35 C X hW hS hin dX12_stand_67 (fun H locs hW hS => ?_)
      refine lt_ok h (fun S10 e_S10 h => ?_)
      rw [e_S10] at hW
      refine lv_aload_n C.1 C.2.1 dX12_stand_68 rfl (lv_at hl 1 rfl) ?_
      refine gf_36 C X hW dX12_stand_69 ?_
      refine lv_iload C.1 C.2.1 dX12_stand_72 (lv_at hl 0 rfl) ?_
      refine lv_iload C.1 C.2.1 dX12_stand_74 (lv_at hl 7 rfl) ?_
      obtain ⟨hin, h⟩ := ck_ok h
      refine s_36 C X hW hS hin dX12_stand_76 (fun H locs hW hS => ?_)
      refine lt_ok h (fun S11 e_S11 h => ?_)
      rw [e_S11] at hW
      refine lv_iconst (v := 1) C.1 C.2.1 dX12_stand_77 (by decide) ?_
      obtain ⟨hzo, h⟩ := ckz_ok h
      cases h
      exact m_retzW C hzo hW hS dX12_stand_78
    · have h := if_t h c5
      exact wm_stand_25 C X h hW hS (lv_sub hl [] rfl)
end
theorem dX12_listed_0 : decode cX12_listed 0 = .ok (.aload_n 0, 1) := by decide +kernel
theorem dX12_listed_1 : decode cX12_listed 1 = .ok (.iconst 0, 1) := by decide +kernel
theorem dX12_listed_2 : decode cX12_listed 2 = .ok (.putfield 200, 3) := by decide +kernel
theorem dX12_listed_5 : decode cX12_listed 5 = .ok (.iload_n 1, 1) := by decide +kernel
theorem dX12_listed_6 : decode cX12_listed 6 = .ok (.iconst 0, 1) := by decide +kernel
theorem dX12_listed_7 : decode cX12_listed 7 = .ok (.iconst 3, 1) := by decide +kernel
theorem dX12_listed_8 : decode cX12_listed 8 = .ok (.invokestatic 215, 3) := by decide +kernel
theorem dX12_listed_11 : decode cX12_listed 11 = .ok (.ifCond .eq 12, 3) := by decide +kernel
theorem dX12_listed_14 : decode cX12_listed 14 = .ok (.iload_n 2, 1) := by decide +kernel
theorem dX12_listed_15 : decode cX12_listed 15 = .ok (.iconst 0, 1) := by decide +kernel
theorem dX12_listed_16 : decode cX12_listed 16 = .ok (.iconst 3, 1) := by decide +kernel
theorem dX12_listed_17 : decode cX12_listed 17 = .ok (.invokestatic 215, 3) := by decide +kernel
theorem dX12_listed_20 : decode cX12_listed 20 = .ok (.ifCond .ne 5, 3) := by decide +kernel
theorem dX12_listed_23 : decode cX12_listed 23 = .ok (.iconst (-1), 1) := by decide +kernel
theorem dX12_listed_24 : decode cX12_listed 24 = .ok (.ireturn, 1) := by decide +kernel
theorem dX12_listed_25 : decode cX12_listed 25 = .ok (.aload_n 0, 1) := by decide +kernel
theorem dX12_listed_26 : decode cX12_listed 26 = .ok (.iload_n 1, 1) := by decide +kernel
theorem dX12_listed_27 : decode cX12_listed 27 = .ok (.iload_n 2, 1) := by decide +kernel
theorem dX12_listed_28 : decode cX12_listed 28 = .ok (.invokevirtual 371, 3) := by decide +kernel
theorem dX12_listed_31 : decode cX12_listed 31 = .ok (.iload_n 3, 1) := by decide +kernel
theorem dX12_listed_32 : decode cX12_listed 32 = .ok (.iconst (-1), 1) := by decide +kernel
theorem dX12_listed_33 : decode cX12_listed 33 = .ok (.if_icmp .ne 10, 3) := by decide +kernel
theorem dX12_listed_36 : decode cX12_listed 36 = .ok (.aload_n 0, 1) := by decide +kernel
theorem dX12_listed_37 : decode cX12_listed 37 = .ok (.getfield 362, 3) := by decide +kernel
theorem dX12_listed_40 : decode cX12_listed 40 = .ok (.goto 27, 3) := by decide +kernel
theorem dX12_listed_43 : decode cX12_listed 43 = .ok (.iload_n 3, 1) := by decide +kernel
theorem dX12_listed_44 : decode cX12_listed 44 = .ok (.iconst 0, 1) := by decide +kernel
theorem dX12_listed_45 : decode cX12_listed 45 = .ok (.aload_n 0, 1) := by decide +kernel
theorem dX12_listed_46 : decode cX12_listed 46 = .ok (.getfield 362, 3) := by decide +kernel
theorem dX12_listed_49 : decode cX12_listed 49 = .ok (.iconst 1, 1) := by decide +kernel
theorem dX12_listed_50 : decode cX12_listed 50 = .ok (.isub, 1) := by decide +kernel
theorem dX12_listed_51 : decode cX12_listed 51 = .ok (.invokestatic 215, 3) := by decide +kernel
theorem dX12_listed_54 : decode cX12_listed 54 = .ok (.ifCond .eq 12, 3) := by decide +kernel
theorem dX12_listed_57 : decode cX12_listed 57 = .ok (.aload_n 0, 1) := by decide +kernel
theorem dX12_listed_58 : decode cX12_listed 58 = .ok (.getfield 175, 3) := by decide +kernel
theorem dX12_listed_61 : decode cX12_listed 61 = .ok (.iload_n 3, 1) := by decide +kernel
theorem dX12_listed_62 : decode cX12_listed 62 = .ok (.iaload, 1) := by decide +kernel
theorem dX12_listed_63 : decode cX12_listed 63 = .ok (.goto 4, 3) := by decide +kernel
theorem dX12_listed_66 : decode cX12_listed 66 = .ok (.iconst (-1), 1) := by decide +kernel
theorem dX12_listed_67 : decode cX12_listed 67 = .ok (.ireturn, 1) := by decide +kernel
theorem cd_listed : Cond.code yX12_listed cX12_listed 4 (some .int) ∈ lw_g := mt_at 2211 (by decide +kernel) rfl
section
variable {p : Program} {l : Launch} {e : Env} {R : Room} {s : State} {m : MethodId} {args : Array Value} {below : List Frame} {meth : Method} {c : Code} {cM : ClassId} {iS : Nat → Nat} {cI cZ : ClassId} {mo : Nat} {ad : Nat → Nat} {r : Int32} {S9 : mSt}
noncomputable def fm_listed_23 (S : mSt) : Option (Int32 × mSt) :=
some ((-1 : Int32), S)
set_option maxRecDepth 100000 in
set_option maxHeartbeats 4000000 in
theorem wm_listed_23 (C : mY p R s m args meth c cX12_listed 4 7 167 (some .int)) (X : mX s cM iS cI cZ mo ad) : ∀ {S : mSt} {H : Heap} {locs : List Loc} {ls : Array Slot}, fm_listed_23 S = some (r, S9) → mW cM iS cI cZ mo ad S H → mS (mA mo ad) s.heap H locs → lv_has ls 4 [] → W p l e R s m args below meth c H locs 0 0 (MQ below (mQw (some (.int r)) cM iS cI cZ mo ad S9) args s 0 0 (mA mo ad)) (F0 m 23 ls []) := by
  intro S H locs ls h hW hS hl
  unfold fm_listed_23 at h
  refine lv_iconst (v := -1) C.1 C.2.1 dX12_listed_23 (by decide) ?_
  cases h
  exact m_retiW C hW hS dX12_listed_24
noncomputable def fm_listed_67 (S : mSt) (s0 : Int32) : Option (Int32 × mSt) :=
some (s0, S)
set_option maxRecDepth 100000 in
set_option maxHeartbeats 4000000 in
theorem wm_listed_67 (C : mY p R s m args meth c cX12_listed 4 7 167 (some .int)) (X : mX s cM iS cI cZ mo ad) : ∀ {S : mSt} {s0 : Int32} {H : Heap} {locs : List Loc} {ls : Array Slot}, fm_listed_67 S s0 = some (r, S9) → mW cM iS cI cZ mo ad S H → mS (mA mo ad) s.heap H locs → lv_has ls 4 [] → W p l e R s m args below meth c H locs 0 0 (MQ below (mQw (some (.int r)) cM iS cI cZ mo ad S9) args s 0 0 (mA mo ad)) (F0 m 67 ls [.int s0]) := by
  intro S s0 H locs ls h hW hS hl
  unfold fm_listed_67 at h
  cases h
  exact m_retiW C hW hS dX12_listed_67
noncomputable def fm_listed (S : mSt) (v1 : Int32) (v2 : Int32) (v3 : Int32) : Option (Int32 × mSt) :=
lt (pu S 0 (0 : Int32)) fun S1 =>
bd (fm_within v1 (0 : Int32) (3 : Int32)) fun r2 =>
if r2 = 0 then (
fm_listed_23 S1)
else (
bd (fm_within v2 (0 : Int32) (3 : Int32)) fun r4 =>
if r4 = 0 then (
fm_listed_23 S1)
else (
bd (fm_findList S1 v1 v2) fun S6 =>
if v3 = (-1 : Int32) then (
fm_listed_67 S6 (S6.1 67))
else (
bd (fm_within v3 (0 : Int32) ((S6.1 67) - (1 : Int32))) fun r8 =>
if r8 = 0 then (
fm_listed_67 S6 (-1 : Int32))
else (
ck v3 48 (
fm_listed_67 S6 (rd S6 68 v3))))))
set_option maxRecDepth 100000 in
set_option maxHeartbeats 4000000 in
theorem tm_listed (l : Launch) {cM : ClassId} {iS : Nat → Nat} {cI cZ : ClassId} {mo : Nat} {ad : Nat → Nat} {S : mSt} {v1 : Int32} {v2 : Int32} {v3 : Int32} {r : Int32} {S9 : mSt} (h : fm_listed S v1 v2 v3 = some (r, S9)) : Met l yX12_listed (Cond.code yX12_listed cX12_listed 4 (some .int) :: lw_g) { frames := 7, cells := 0, slots := 0, locals := 167 } (mPi [.int v1, .int v2, .int v3] cM iS cI cZ mo ad S) (mQw (some (.int r)) cM iS cI cZ mo ad S9) 0 0 (mA mo ad) := by
  refine Met.ofW (cc := cX12_listed) (maxL := 4) (ret := (some .int)) (by decide) rfl ?_
  intro p e s m args below meth c s₁ B hml hv
  obtain ⟨rfl, hW, X⟩ := hv
  have C : mY p (headSpec (Cond.code yX12_listed cX12_listed 4 (some .int) :: lw_g) { frames := 7, cells := 0, slots := 0, locals := 167 }).room s m _ meth c cX12_listed 4 7 167 (some .int) := ⟨B.exec, B.bytes, hml, findClass_of_methodNamed B.named, fun w hw => atoms_spec (ws := Cond.code yX12_listed cX12_listed 4 (some .int) :: lw_g) B.pre w (List.mem_cons_of_mem _ hw), ⟨Nat.le_refl _, Nat.le_refl _⟩, B.returns, B.notSynchronized⟩
  have hl := lv_entry ([.ref mo, .int v1, .int v2, .int v3]) (n := 4) (Nat.le_of_ble_eq_true rfl)
  rw [lg_entry_eq]
  generalize (lg_sl ([.ref mo, .int v1, .int v2, .int v3]) ++ List.replicate (4 - (lg_sl ([.ref mo, .int v1, .int v2, .int v3])).length) Slot.unset).toArray = ls at hl ⊢
  have hl : lv_has ls 4 [(0, .ref mo), (1, .int v1), (2, .int v2), (3, .int v3)] := hl
  have hS : mS (mA mo ad) s.heap s.heap [] := mS.rf
  unfold fm_listed at h
  refine lv_aload_n C.1 C.2.1 dX12_listed_0 rfl (lv_at hl 0 rfl) ?_
  refine lv_iconst (v := 0) C.1 C.2.1 dX12_listed_1 (by decide) ?_
  refine p_0 C X hW hS dX12_listed_2 (fun H locs hW hS => ?_)
  refine lt_ok h (fun S1 e_S1 h => ?_)
  rw [e_S1] at hW
  refine lv_iload_n C.1 C.2.1 dX12_listed_5 rfl (lv_at hl 1 rfl) ?_
  refine lv_iconst (v := 0) C.1 C.2.1 dX12_listed_6 (by decide) ?_
  refine lv_iconst (v := 3) C.1 C.2.1 dX12_listed_7 (by decide) ?_
  obtain ⟨r2, h_r2, h⟩ := bd_ok h
  refine m_callS (rest := []) C hl.1 [.int v1, .int (0 : Int32), .int (3 : Int32)] (tm_within l h_r2) mw_within st_within rfl ⟨by decide, by decide⟩ rfl (Nat.le_of_ble_eq_true rfl) dX12_listed_8 ?_
  refine lv_if_eq (tgt := 23) C.1 C.2.1 dX12_listed_11 (by decide) (fun c3 => ?_) (fun c3 => ?_)
  · have h := if_t h c3
    exact wm_listed_23 C X h hW hS (lv_sub hl [] rfl)
  · have h := if_f h c3
    refine lv_iload_n C.1 C.2.1 dX12_listed_14 rfl (lv_at hl 2 rfl) ?_
    refine lv_iconst (v := 0) C.1 C.2.1 dX12_listed_15 (by decide) ?_
    refine lv_iconst (v := 3) C.1 C.2.1 dX12_listed_16 (by decide) ?_
    obtain ⟨r4, h_r4, h⟩ := bd_ok h
    refine m_callS (rest := []) C hl.1 [.int v2, .int (0 : Int32), .int (3 : Int32)] (tm_within l h_r4) mw_within st_within rfl ⟨by decide, by decide⟩ rfl (Nat.le_of_ble_eq_true rfl) dX12_listed_17 ?_
    refine lv_if_ne (tgt := 25) C.1 C.2.1 dX12_listed_20 (by decide) (fun c5 => ?_) (fun c5 => ?_)
    · have h := if_f h c5
      refine lv_aload_n C.1 C.2.1 dX12_listed_25 rfl (lv_at hl 0 rfl) ?_
      refine lv_iload_n C.1 C.2.1 dX12_listed_26 rfl (lv_at hl 1 rfl) ?_
      refine lv_iload_n C.1 C.2.1 dX12_listed_27 rfl (lv_at hl 2 rfl) ?_
      obtain ⟨S6, h_S6, h⟩ := bd_ok h
      refine m_callW (rest := []) (ov := none) C X hW hS hl.1 [.int v1, .int v2] (tm_findList l h_S6) mw_findList im_findList sl_findList rfl ⟨by decide, by decide⟩ rfl (Nat.le_of_ble_eq_true rfl) dX12_listed_28 (fun H locs hW hS => ?_)
      refine W.eq (g2 := F0 m 31 ls []) rfl ?_
      refine lv_iload_n C.1 C.2.1 dX12_listed_31 rfl (lv_at hl 3 rfl) ?_
      refine lv_iconst (v := -1) C.1 C.2.1 dX12_listed_32 (by decide) ?_
      refine lv_icmp_ne (tgt := 43) C.1 C.2.1 dX12_listed_33 (by decide) (fun c7 => ?_) (fun c7 => ?_)
      · have h := if_f h c7
        refine lv_iload_n C.1 C.2.1 dX12_listed_43 rfl (lv_at hl 3 rfl) ?_
        refine lv_iconst (v := 0) C.1 C.2.1 dX12_listed_44 (by decide) ?_
        refine lv_aload_n C.1 C.2.1 dX12_listed_45 rfl (lv_at hl 0 rfl) ?_
        refine gf_67 C X hW dX12_listed_46 ?_
        refine lv_iconst (v := 1) C.1 C.2.1 dX12_listed_49 (by decide) ?_
        refine lv_isub C.1 C.2.1 dX12_listed_50 ?_
        obtain ⟨r8, h_r8, h⟩ := bd_ok h
        refine m_callS (rest := []) C hl.1 [.int v3, .int (0 : Int32), .int ((S6.1 67) - (1 : Int32))] (tm_within l h_r8) mw_within st_within rfl ⟨by decide, by decide⟩ rfl (Nat.le_of_ble_eq_true rfl) dX12_listed_51 ?_
        refine lv_if_eq (tgt := 66) C.1 C.2.1 dX12_listed_54 (by decide) (fun c9 => ?_) (fun c9 => ?_)
        · have h := if_t h c9
          refine lv_iconst (v := -1) C.1 C.2.1 dX12_listed_66 (by decide) ?_
          exact wm_listed_67 C X h hW hS (lv_sub hl [] rfl)
        · have h := if_f h c9
          refine lv_aload_n C.1 C.2.1 dX12_listed_57 rfl (lv_at hl 0 rfl) ?_
          refine gf_68 C X hW dX12_listed_58 ?_
          refine lv_iload_n C.1 C.2.1 dX12_listed_61 rfl (lv_at hl 3 rfl) ?_
          obtain ⟨hin, h⟩ := ck_ok h
          refine l_68 C X hW hin dX12_listed_62 ?_
          refine lv_goto (tgt := 67) C.1 C.2.1 dX12_listed_63 (by decide) ?_
          exact wm_listed_67 C X h hW hS (lv_sub hl [] rfl)
      · have h := if_t h c7
        refine lv_aload_n C.1 C.2.1 dX12_listed_36 rfl (lv_at hl 0 rfl) ?_
        refine gf_67 C X hW dX12_listed_37 ?_
        refine lv_goto (tgt := 67) C.1 C.2.1 dX12_listed_40 (by decide) ?_
        exact wm_listed_67 C X h hW hS (lv_sub hl [] rfl)
    · have h := if_t h c5
      exact wm_listed_23 C X h hW hS (lv_sub hl [] rfl)
end
theorem dX12_turned_0 : decode cX12_turned 0 = .ok (.aload_n 0, 1) := by decide +kernel
theorem dX12_turned_1 : decode cX12_turned 1 = .ok (.iconst 0, 1) := by decide +kernel
theorem dX12_turned_2 : decode cX12_turned 2 = .ok (.putfield 200, 3) := by decide +kernel
theorem dX12_turned_5 : decode cX12_turned 5 = .ok (.iload_n 1, 1) := by decide +kernel
theorem dX12_turned_6 : decode cX12_turned 6 = .ok (.iconst 0, 1) := by decide +kernel
theorem dX12_turned_7 : decode cX12_turned 7 = .ok (.iconst 3, 1) := by decide +kernel
theorem dX12_turned_8 : decode cX12_turned 8 = .ok (.invokestatic 215, 3) := by decide +kernel
theorem dX12_turned_11 : decode cX12_turned 11 = .ok (.ifCond .eq 19, 3) := by decide +kernel
theorem dX12_turned_14 : decode cX12_turned 14 = .ok (.iload_n 2, 1) := by decide +kernel
theorem dX12_turned_15 : decode cX12_turned 15 = .ok (.iconst 0, 1) := by decide +kernel
theorem dX12_turned_16 : decode cX12_turned 16 = .ok (.aload_n 0, 1) := by decide +kernel
theorem dX12_turned_17 : decode cX12_turned 17 = .ok (.getfield 114, 3) := by decide +kernel
theorem dX12_turned_20 : decode cX12_turned 20 = .ok (.iload_n 1, 1) := by decide +kernel
theorem dX12_turned_21 : decode cX12_turned 21 = .ok (.iaload, 1) := by decide +kernel
theorem dX12_turned_22 : decode cX12_turned 22 = .ok (.iconst 1, 1) := by decide +kernel
theorem dX12_turned_23 : decode cX12_turned 23 = .ok (.isub, 1) := by decide +kernel
theorem dX12_turned_24 : decode cX12_turned 24 = .ok (.invokestatic 215, 3) := by decide +kernel
theorem dX12_turned_27 : decode cX12_turned 27 = .ok (.ifCond .ne 5, 3) := by decide +kernel
theorem dX12_turned_30 : decode cX12_turned 30 = .ok (.iconst (-1), 1) := by decide +kernel
theorem dX12_turned_31 : decode cX12_turned 31 = .ok (.ireturn, 1) := by decide +kernel
theorem dX12_turned_32 : decode cX12_turned 32 = .ok (.sipush 200, 3) := by decide +kernel
theorem dX12_turned_35 : decode cX12_turned 35 = .ok (.iload_n 1, 1) := by decide +kernel
theorem dX12_turned_36 : decode cX12_turned 36 = .ok (.imul, 1) := by decide +kernel
theorem dX12_turned_37 : decode cX12_turned 37 = .ok (.iload_n 2, 1) := by decide +kernel
theorem dX12_turned_38 : decode cX12_turned 38 = .ok (.iadd, 1) := by decide +kernel
theorem dX12_turned_39 : decode cX12_turned 39 = .ok (.istore 4, 2) := by decide +kernel
theorem dX12_turned_41 : decode cX12_turned 41 = .ok (.iload_n 3, 1) := by decide +kernel
theorem dX12_turned_42 : decode cX12_turned 42 = .ok (.tableswitch 62 0 3 #[30, 38, 46, 54], 30) := by decide +kernel
theorem dX12_turned_72 : decode cX12_turned 72 = .ok (.aload_n 0, 1) := by decide +kernel
theorem dX12_turned_73 : decode cX12_turned 73 = .ok (.getfield 117, 3) := by decide +kernel
theorem dX12_turned_76 : decode cX12_turned 76 = .ok (.iload 4, 2) := by decide +kernel
theorem dX12_turned_78 : decode cX12_turned 78 = .ok (.iaload, 1) := by decide +kernel
theorem dX12_turned_79 : decode cX12_turned 79 = .ok (.ireturn, 1) := by decide +kernel
theorem dX12_turned_80 : decode cX12_turned 80 = .ok (.aload_n 0, 1) := by decide +kernel
theorem dX12_turned_81 : decode cX12_turned 81 = .ok (.getfield 120, 3) := by decide +kernel
theorem dX12_turned_84 : decode cX12_turned 84 = .ok (.iload 4, 2) := by decide +kernel
theorem dX12_turned_86 : decode cX12_turned 86 = .ok (.iaload, 1) := by decide +kernel
theorem dX12_turned_87 : decode cX12_turned 87 = .ok (.ireturn, 1) := by decide +kernel
theorem dX12_turned_88 : decode cX12_turned 88 = .ok (.aload_n 0, 1) := by decide +kernel
theorem dX12_turned_89 : decode cX12_turned 89 = .ok (.getfield 123, 3) := by decide +kernel
theorem dX12_turned_92 : decode cX12_turned 92 = .ok (.iload 4, 2) := by decide +kernel
theorem dX12_turned_94 : decode cX12_turned 94 = .ok (.iaload, 1) := by decide +kernel
theorem dX12_turned_95 : decode cX12_turned 95 = .ok (.ireturn, 1) := by decide +kernel
theorem dX12_turned_96 : decode cX12_turned 96 = .ok (.aload_n 0, 1) := by decide +kernel
theorem dX12_turned_97 : decode cX12_turned 97 = .ok (.getfield 126, 3) := by decide +kernel
theorem dX12_turned_100 : decode cX12_turned 100 = .ok (.iload 4, 2) := by decide +kernel
theorem dX12_turned_102 : decode cX12_turned 102 = .ok (.iaload, 1) := by decide +kernel
theorem dX12_turned_103 : decode cX12_turned 103 = .ok (.ireturn, 1) := by decide +kernel
theorem dX12_turned_104 : decode cX12_turned 104 = .ok (.iconst (-1), 1) := by decide +kernel
theorem dX12_turned_105 : decode cX12_turned 105 = .ok (.ireturn, 1) := by decide +kernel
theorem cd_turned : Cond.code yX12_turned cX12_turned 5 (some .int) ∈ lw_g := mt_at 2215 (by decide +kernel) rfl
section
variable {p : Program} {l : Launch} {e : Env} {R : Room} {s : State} {m : MethodId} {args : Array Value} {below : List Frame} {meth : Method} {c : Code} {cM : ClassId} {iS : Nat → Nat} {cI cZ : ClassId} {mo : Nat} {ad : Nat → Nat} {r : Int32} {S9 : mSt}
noncomputable def fm_turned_30 (S : mSt) : Option (Int32 × mSt) :=
some ((-1 : Int32), S)
set_option maxRecDepth 100000 in
set_option maxHeartbeats 4000000 in
theorem wm_turned_30 (C : mY p R s m args meth c cX12_turned 5 1 22 (some .int)) (X : mX s cM iS cI cZ mo ad) : ∀ {S : mSt} {H : Heap} {locs : List Loc} {ls : Array Slot}, fm_turned_30 S = some (r, S9) → mW cM iS cI cZ mo ad S H → mS (mA mo ad) s.heap H locs → lv_has ls 5 [] → W p l e R s m args below meth c H locs 0 0 (MQ below (mQw (some (.int r)) cM iS cI cZ mo ad S9) args s 0 0 (mA mo ad)) (F0 m 30 ls []) := by
  intro S H locs ls h hW hS hl
  unfold fm_turned_30 at h
  refine lv_iconst (v := -1) C.1 C.2.1 dX12_turned_30 (by decide) ?_
  cases h
  exact m_retiW C hW hS dX12_turned_31
noncomputable def fm_turned (S : mSt) (v1 : Int32) (v2 : Int32) (v3 : Int32) : Option (Int32 × mSt) :=
lt (pu S 0 (0 : Int32)) fun S1 =>
bd (fm_within v1 (0 : Int32) (3 : Int32)) fun r2 =>
if r2 = 0 then (
fm_turned_30 S1)
else (
ck v1 4 (
bd (fm_within v2 (0 : Int32) ((rd S1 37 v1) - (1 : Int32))) fun r4 =>
if r4 = 0 then (
fm_turned_30 S1)
else (
lt (((200 : Int32) * v1) + v2) fun x6 =>
if v3 = (0 : Int32) then (
ck x6 800 (
some (rd S1 38 x6, S1)))
else if v3 = (1 : Int32) then (
ck x6 800 (
some (rd S1 39 x6, S1)))
else if v3 = (2 : Int32) then (
ck x6 800 (
some (rd S1 40 x6, S1)))
else if v3 = (3 : Int32) then (
ck x6 800 (
some (rd S1 41 x6, S1)))
else (
some ((-1 : Int32), S1)))))
set_option maxRecDepth 100000 in
set_option maxHeartbeats 4000000 in
theorem tm_turned (l : Launch) {cM : ClassId} {iS : Nat → Nat} {cI cZ : ClassId} {mo : Nat} {ad : Nat → Nat} {S : mSt} {v1 : Int32} {v2 : Int32} {v3 : Int32} {r : Int32} {S9 : mSt} (h : fm_turned S v1 v2 v3 = some (r, S9)) : Met l yX12_turned (Cond.code yX12_turned cX12_turned 5 (some .int) :: lw_g) { frames := 1, cells := 0, slots := 0, locals := 22 } (mPi [.int v1, .int v2, .int v3] cM iS cI cZ mo ad S) (mQw (some (.int r)) cM iS cI cZ mo ad S9) 0 0 (mA mo ad) := by
  refine Met.ofW (cc := cX12_turned) (maxL := 5) (ret := (some .int)) (by decide) rfl ?_
  intro p e s m args below meth c s₁ B hml hv
  obtain ⟨rfl, hW, X⟩ := hv
  have C : mY p (headSpec (Cond.code yX12_turned cX12_turned 5 (some .int) :: lw_g) { frames := 1, cells := 0, slots := 0, locals := 22 }).room s m _ meth c cX12_turned 5 1 22 (some .int) := ⟨B.exec, B.bytes, hml, findClass_of_methodNamed B.named, fun w hw => atoms_spec (ws := Cond.code yX12_turned cX12_turned 5 (some .int) :: lw_g) B.pre w (List.mem_cons_of_mem _ hw), ⟨Nat.le_refl _, Nat.le_refl _⟩, B.returns, B.notSynchronized⟩
  have hl := lv_entry ([.ref mo, .int v1, .int v2, .int v3]) (n := 5) (Nat.le_of_ble_eq_true rfl)
  rw [lg_entry_eq]
  generalize (lg_sl ([.ref mo, .int v1, .int v2, .int v3]) ++ List.replicate (5 - (lg_sl ([.ref mo, .int v1, .int v2, .int v3])).length) Slot.unset).toArray = ls at hl ⊢
  have hl : lv_has ls 5 [(0, .ref mo), (1, .int v1), (2, .int v2), (3, .int v3)] := hl
  have hS : mS (mA mo ad) s.heap s.heap [] := mS.rf
  unfold fm_turned at h
  refine lv_aload_n C.1 C.2.1 dX12_turned_0 rfl (lv_at hl 0 rfl) ?_
  refine lv_iconst (v := 0) C.1 C.2.1 dX12_turned_1 (by decide) ?_
  refine p_0 C X hW hS dX12_turned_2 (fun H locs hW hS => ?_)
  refine lt_ok h (fun S1 e_S1 h => ?_)
  rw [e_S1] at hW
  refine lv_iload_n C.1 C.2.1 dX12_turned_5 rfl (lv_at hl 1 rfl) ?_
  refine lv_iconst (v := 0) C.1 C.2.1 dX12_turned_6 (by decide) ?_
  refine lv_iconst (v := 3) C.1 C.2.1 dX12_turned_7 (by decide) ?_
  obtain ⟨r2, h_r2, h⟩ := bd_ok h
  refine m_callS (rest := []) C hl.1 [.int v1, .int (0 : Int32), .int (3 : Int32)] (tm_within l h_r2) mw_within st_within rfl ⟨by decide, by decide⟩ rfl (Nat.le_of_ble_eq_true rfl) dX12_turned_8 ?_
  refine lv_if_eq (tgt := 30) C.1 C.2.1 dX12_turned_11 (by decide) (fun c3 => ?_) (fun c3 => ?_)
  · have h := if_t h c3
    exact wm_turned_30 C X h hW hS (lv_sub hl [] rfl)
  · have h := if_f h c3
    refine lv_iload_n C.1 C.2.1 dX12_turned_14 rfl (lv_at hl 2 rfl) ?_
    refine lv_iconst (v := 0) C.1 C.2.1 dX12_turned_15 (by decide) ?_
    refine lv_aload_n C.1 C.2.1 dX12_turned_16 rfl (lv_at hl 0 rfl) ?_
    refine gf_37 C X hW dX12_turned_17 ?_
    refine lv_iload_n C.1 C.2.1 dX12_turned_20 rfl (lv_at hl 1 rfl) ?_
    obtain ⟨hin, h⟩ := ck_ok h
    refine l_37 C X hW hin dX12_turned_21 ?_
    refine lv_iconst (v := 1) C.1 C.2.1 dX12_turned_22 (by decide) ?_
    refine lv_isub C.1 C.2.1 dX12_turned_23 ?_
    obtain ⟨r4, h_r4, h⟩ := bd_ok h
    refine m_callS (rest := []) C hl.1 [.int v2, .int (0 : Int32), .int ((rd S1 37 v1) - (1 : Int32))] (tm_within l h_r4) mw_within st_within rfl ⟨by decide, by decide⟩ rfl (Nat.le_of_ble_eq_true rfl) dX12_turned_24 ?_
    refine lv_if_ne (tgt := 32) C.1 C.2.1 dX12_turned_27 (by decide) (fun c5 => ?_) (fun c5 => ?_)
    · have h := if_f h c5
      refine lv_sipush (v := 200) C.1 C.2.1 dX12_turned_32 (by decide) ?_
      refine lv_iload_n C.1 C.2.1 dX12_turned_35 rfl (lv_at hl 1 rfl) ?_
      refine lv_imul C.1 C.2.1 dX12_turned_36 ?_
      refine lv_iload_n C.1 C.2.1 dX12_turned_37 rfl (lv_at hl 2 rfl) ?_
      refine lv_iadd C.1 C.2.1 dX12_turned_38 ?_
      refine lt_ok h (fun x6 e_x6 h => ?_)
      refine lv_nm e_x6 ?_
      refine lv_istore (lv' := [(4, .int x6), (0, .ref mo), (1, .int v1), (2, .int v2), (3, .int v3)]) C.1 C.2.1 dX12_turned_39 hl (by decide) rfl (fun ls hl => ?_)
      refine lv_iload_n C.1 C.2.1 dX12_turned_41 rfl (lv_at hl 4 rfl) ?_
      by_cases c7 : v3 = (0 : Int32)
      · have h := if_t h c7
        refine lv_tableIn (off := 30) (tgt := 72) C.1 C.2.1 dX12_turned_42 (by rw [c7]; decide) (by rw [c7]; decide) (by rw [c7]; rfl) (by decide) ?_
        refine lv_aload_n C.1 C.2.1 dX12_turned_72 rfl (lv_at hl 1 rfl) ?_
        refine gf_38 C X hW dX12_turned_73 ?_
        refine lv_iload C.1 C.2.1 dX12_turned_76 (lv_at hl 0 rfl) ?_
        obtain ⟨hin, h⟩ := ck_ok h
        refine l_38 C X hW hin dX12_turned_78 ?_
        cases h
        exact m_retiW C hW hS dX12_turned_79
      · have h := if_f h c7
        by_cases c8 : v3 = (1 : Int32)
        · have h := if_t h c8
          refine lv_tableIn (off := 38) (tgt := 80) C.1 C.2.1 dX12_turned_42 (by rw [c8]; decide) (by rw [c8]; decide) (by rw [c8]; rfl) (by decide) ?_
          refine lv_aload_n C.1 C.2.1 dX12_turned_80 rfl (lv_at hl 1 rfl) ?_
          refine gf_39 C X hW dX12_turned_81 ?_
          refine lv_iload C.1 C.2.1 dX12_turned_84 (lv_at hl 0 rfl) ?_
          obtain ⟨hin, h⟩ := ck_ok h
          refine l_39 C X hW hin dX12_turned_86 ?_
          cases h
          exact m_retiW C hW hS dX12_turned_87
        · have h := if_f h c8
          by_cases c9 : v3 = (2 : Int32)
          · have h := if_t h c9
            refine lv_tableIn (off := 46) (tgt := 88) C.1 C.2.1 dX12_turned_42 (by rw [c9]; decide) (by rw [c9]; decide) (by rw [c9]; rfl) (by decide) ?_
            refine lv_aload_n C.1 C.2.1 dX12_turned_88 rfl (lv_at hl 1 rfl) ?_
            refine gf_40 C X hW dX12_turned_89 ?_
            refine lv_iload C.1 C.2.1 dX12_turned_92 (lv_at hl 0 rfl) ?_
            obtain ⟨hin, h⟩ := ck_ok h
            refine l_40 C X hW hin dX12_turned_94 ?_
            cases h
            exact m_retiW C hW hS dX12_turned_95
          · have h := if_f h c9
            by_cases c10 : v3 = (3 : Int32)
            · have h := if_t h c10
              refine lv_tableIn (off := 54) (tgt := 96) C.1 C.2.1 dX12_turned_42 (by rw [c10]; decide) (by rw [c10]; decide) (by rw [c10]; rfl) (by decide) ?_
              refine lv_aload_n C.1 C.2.1 dX12_turned_96 rfl (lv_at hl 1 rfl) ?_
              refine gf_41 C X hW dX12_turned_97 ?_
              refine lv_iload C.1 C.2.1 dX12_turned_100 (lv_at hl 0 rfl) ?_
              obtain ⟨hin, h⟩ := ck_ok h
              refine l_41 C X hW hin dX12_turned_102 ?_
              cases h
              exact m_retiW C hW hS dX12_turned_103
            · have h := if_f h c10
              have n_c7 := lv_neT c7 (a := 0) rfl
              have n_c8 := lv_neT c8 (a := 1) rfl
              have n_c9 := lv_neT c9 (a := 2) rfl
              have n_c10 := lv_neT c10 (a := 3) rfl
              refine lv_tableOut (tgt := 104) C.1 C.2.1 dX12_turned_42 (by omega) (by decide) ?_
              refine lv_iconst (v := -1) C.1 C.2.1 dX12_turned_104 (by decide) ?_
              cases h
              exact m_retiW C hW hS dX12_turned_105
    · have h := if_t h c5
      exact wm_turned_30 C X h hW hS (lv_sub hl [] rfl)
end
theorem dX12_sentOf_0 : decode cX12_sentOf 0 = .ok (.aload_n 0, 1) := by decide +kernel
theorem dX12_sentOf_1 : decode cX12_sentOf 1 = .ok (.getfield 68, 3) := by decide +kernel
theorem dX12_sentOf_4 : decode cX12_sentOf 4 = .ok (.bipush 16, 2) := by decide +kernel
theorem dX12_sentOf_6 : decode cX12_sentOf 6 = .ok (.iload_n 1, 1) := by decide +kernel
theorem dX12_sentOf_7 : decode cX12_sentOf 7 = .ok (.imul, 1) := by decide +kernel
theorem dX12_sentOf_8 : decode cX12_sentOf 8 = .ok (.iconst 4, 1) := by decide +kernel
theorem dX12_sentOf_9 : decode cX12_sentOf 9 = .ok (.iload_n 2, 1) := by decide +kernel
theorem dX12_sentOf_10 : decode cX12_sentOf 10 = .ok (.imul, 1) := by decide +kernel
theorem dX12_sentOf_11 : decode cX12_sentOf 11 = .ok (.iadd, 1) := by decide +kernel
theorem dX12_sentOf_12 : decode cX12_sentOf 12 = .ok (.iload_n 3, 1) := by decide +kernel
theorem dX12_sentOf_13 : decode cX12_sentOf 13 = .ok (.iadd, 1) := by decide +kernel
theorem dX12_sentOf_14 : decode cX12_sentOf 14 = .ok (.iaload, 1) := by decide +kernel
theorem dX12_sentOf_15 : decode cX12_sentOf 15 = .ok (.ireturn, 1) := by decide +kernel
theorem cd_sentOf : Cond.code yX12_sentOf cX12_sentOf 4 (some .int) ∈ lw_g := mt_at 2227 (by decide +kernel) rfl
theorem mw_sentOf : mCw 431 yX12_sentOf cX12_sentOf 4 (some .int) 3 := ⟨cd_sentOf, mt_at 2224 (by decide +kernel) rfl, in_M, by decide +kernel⟩
theorem im_sentOf : Cond.instanceMethod yX12_sentOf ∈ lw_g := mt_at 2226 (by decide +kernel) rfl
theorem sl_sentOf : Cond.selects RX12 yX12_sentOf yX12_sentOf ∈ lw_g := mt_sel 95 (by decide +kernel) rfl
section
variable {p : Program} {l : Launch} {e : Env} {R : Room} {s : State} {m : MethodId} {args : Array Value} {below : List Frame} {meth : Method} {c : Code} {cM : ClassId} {iS : Nat → Nat} {cI cZ : ClassId} {mo : Nat} {ad : Nat → Nat} {S : mSt} {r : Int32}
noncomputable def fm_sentOf (S : mSt) (v1 : Int32) (v2 : Int32) (v3 : Int32) : Option (Int32) :=
ck ((((16 : Int32) * v1) + ((4 : Int32) * v2)) + v3) 64 (
some (rd S 22 ((((16 : Int32) * v1) + ((4 : Int32) * v2)) + v3)))
set_option maxRecDepth 100000 in
set_option maxHeartbeats 4000000 in
theorem tm_sentOf (l : Launch) {cM : ClassId} {iS : Nat → Nat} {cI cZ : ClassId} {mo : Nat} {ad : Nat → Nat} {S : mSt} {v1 : Int32} {v2 : Int32} {v3 : Int32} {r : Int32} (h : fm_sentOf S v1 v2 v3 = some r) : Met l yX12_sentOf (Cond.code yX12_sentOf cX12_sentOf 4 (some .int) :: lw_g) { frames := 0, cells := 0, slots := 0, locals := 0 } (mPi [.int v1, .int v2, .int v3] cM iS cI cZ mo ad S) (mQi r) 0 0 (mNo) := by
  refine Met.ofW (cc := cX12_sentOf) (maxL := 4) (ret := (some .int)) (by decide) rfl ?_
  intro p e s m args below meth c s₁ B hml hv
  obtain ⟨rfl, hW, X⟩ := hv
  have C : mY p (headSpec (Cond.code yX12_sentOf cX12_sentOf 4 (some .int) :: lw_g) { frames := 0, cells := 0, slots := 0, locals := 0 }).room s m _ meth c cX12_sentOf 4 0 0 (some .int) := ⟨B.exec, B.bytes, hml, findClass_of_methodNamed B.named, fun w hw => atoms_spec (ws := Cond.code yX12_sentOf cX12_sentOf 4 (some .int) :: lw_g) B.pre w (List.mem_cons_of_mem _ hw), ⟨Nat.le_refl _, Nat.le_refl _⟩, B.returns, B.notSynchronized⟩
  have hl := lv_entry ([.ref mo, .int v1, .int v2, .int v3]) (n := 4) (Nat.le_of_ble_eq_true rfl)
  rw [lg_entry_eq]
  generalize (lg_sl ([.ref mo, .int v1, .int v2, .int v3]) ++ List.replicate (4 - (lg_sl ([.ref mo, .int v1, .int v2, .int v3])).length) Slot.unset).toArray = ls at hl ⊢
  have hl : lv_has ls 4 [(0, .ref mo), (1, .int v1), (2, .int v2), (3, .int v3)] := hl
  unfold fm_sentOf at h
  refine lv_aload_n C.1 C.2.1 dX12_sentOf_0 rfl (lv_at hl 0 rfl) ?_
  refine gf_22 C X hW dX12_sentOf_1 ?_
  refine lv_bipush (v := 16) C.1 C.2.1 dX12_sentOf_4 (by decide) ?_
  refine lv_iload_n C.1 C.2.1 dX12_sentOf_6 rfl (lv_at hl 1 rfl) ?_
  refine lv_imul C.1 C.2.1 dX12_sentOf_7 ?_
  refine lv_iconst (v := 4) C.1 C.2.1 dX12_sentOf_8 (by decide) ?_
  refine lv_iload_n C.1 C.2.1 dX12_sentOf_9 rfl (lv_at hl 2 rfl) ?_
  refine lv_imul C.1 C.2.1 dX12_sentOf_10 ?_
  refine lv_iadd C.1 C.2.1 dX12_sentOf_11 ?_
  refine lv_iload_n C.1 C.2.1 dX12_sentOf_12 rfl (lv_at hl 3 rfl) ?_
  refine lv_iadd C.1 C.2.1 dX12_sentOf_13 ?_
  obtain ⟨hin, h⟩ := ck_ok h
  refine l_22 C X hW hin dX12_sentOf_14 ?_
  cases h
  exact m_reti C rfl rfl dX12_sentOf_15
end
theorem dX12_carry_0 : decode cX12_carry 0 = .ok (.aload_n 0, 1) := by decide +kernel
theorem dX12_carry_1 : decode cX12_carry 1 = .ok (.getfield 130, 3) := by decide +kernel
theorem dX12_carry_4 : decode cX12_carry 4 = .ok (.iload_n 1, 1) := by decide +kernel
theorem dX12_carry_5 : decode cX12_carry 5 = .ok (.iconst 3, 1) := by decide +kernel
theorem dX12_carry_6 : decode cX12_carry 6 = .ok (.iadd, 1) := by decide +kernel
theorem dX12_carry_7 : decode cX12_carry 7 = .ok (.iaload, 1) := by decide +kernel
theorem dX12_carry_8 : decode cX12_carry 8 = .ok (.istore_n 3, 1) := by decide +kernel
theorem dX12_carry_9 : decode cX12_carry 9 = .ok (.iload_n 3, 1) := by decide +kernel
theorem dX12_carry_10 : decode cX12_carry 10 = .ok (.bipush 8, 2) := by decide +kernel
theorem dX12_carry_12 : decode cX12_carry 12 = .ok (.if_icmp .ne 32, 3) := by decide +kernel
theorem dX12_carry_15 : decode cX12_carry 15 = .ok (.aload_n 0, 1) := by decide +kernel
theorem dX12_carry_16 : decode cX12_carry 16 = .ok (.aload_n 0, 1) := by decide +kernel
theorem dX12_carry_17 : decode cX12_carry 17 = .ok (.getfield 130, 3) := by decide +kernel
theorem dX12_carry_20 : decode cX12_carry 20 = .ok (.iload_n 1, 1) := by decide +kernel
theorem dX12_carry_21 : decode cX12_carry 21 = .ok (.bipush 8, 2) := by decide +kernel
theorem dX12_carry_23 : decode cX12_carry 23 = .ok (.iadd, 1) := by decide +kernel
theorem dX12_carry_24 : decode cX12_carry 24 = .ok (.bipush 8, 2) := by decide +kernel
theorem dX12_carry_26 : decode cX12_carry 26 = .ok (.iadd, 1) := by decide +kernel
theorem dX12_carry_27 : decode cX12_carry 27 = .ok (.iconst 1, 1) := by decide +kernel
theorem dX12_carry_28 : decode cX12_carry 28 = .ok (.isub, 1) := by decide +kernel
theorem dX12_carry_29 : decode cX12_carry 29 = .ok (.iaload, 1) := by decide +kernel
theorem dX12_carry_30 : decode cX12_carry 30 = .ok (.iload_n 2, 1) := by decide +kernel
theorem dX12_carry_31 : decode cX12_carry 31 = .ok (.invokevirtual 285, 3) := by decide +kernel
theorem dX12_carry_34 : decode cX12_carry 34 = .ok (.ifCond .eq 4, 3) := by decide +kernel
theorem dX12_carry_37 : decode cX12_carry 37 = .ok (.return_, 1) := by decide +kernel
theorem dX12_carry_38 : decode cX12_carry 38 = .ok (.iinc 3 (-1), 3) := by decide +kernel
theorem dX12_carry_41 : decode cX12_carry 41 = .ok (.goto 15, 3) := by decide +kernel
theorem dX12_carry_44 : decode cX12_carry 44 = .ok (.aload_n 0, 1) := by decide +kernel
theorem dX12_carry_45 : decode cX12_carry 45 = .ok (.getfield 130, 3) := by decide +kernel
theorem dX12_carry_48 : decode cX12_carry 48 = .ok (.iload_n 1, 1) := by decide +kernel
theorem dX12_carry_49 : decode cX12_carry 49 = .ok (.iconst 3, 1) := by decide +kernel
theorem dX12_carry_50 : decode cX12_carry 50 = .ok (.iadd, 1) := by decide +kernel
theorem dX12_carry_51 : decode cX12_carry 51 = .ok (.dup2, 1) := by decide +kernel
theorem dX12_carry_52 : decode cX12_carry 52 = .ok (.iaload, 1) := by decide +kernel
theorem dX12_carry_53 : decode cX12_carry 53 = .ok (.iconst 1, 1) := by decide +kernel
theorem dX12_carry_54 : decode cX12_carry 54 = .ok (.iadd, 1) := by decide +kernel
theorem dX12_carry_55 : decode cX12_carry 55 = .ok (.iastore, 1) := by decide +kernel
theorem dX12_carry_56 : decode cX12_carry 56 = .ok (.iload_n 3, 1) := by decide +kernel
theorem dX12_carry_57 : decode cX12_carry 57 = .ok (.ifCond .le 54, 3) := by decide +kernel
theorem dX12_carry_60 : decode cX12_carry 60 = .ok (.aload_n 0, 1) := by decide +kernel
theorem dX12_carry_61 : decode cX12_carry 61 = .ok (.iload_n 2, 1) := by decide +kernel
theorem dX12_carry_62 : decode cX12_carry 62 = .ok (.aload_n 0, 1) := by decide +kernel
theorem dX12_carry_63 : decode cX12_carry 63 = .ok (.getfield 130, 3) := by decide +kernel
theorem dX12_carry_66 : decode cX12_carry 66 = .ok (.iload_n 1, 1) := by decide +kernel
theorem dX12_carry_67 : decode cX12_carry 67 = .ok (.bipush 8, 2) := by decide +kernel
theorem dX12_carry_69 : decode cX12_carry 69 = .ok (.iadd, 1) := by decide +kernel
theorem dX12_carry_70 : decode cX12_carry 70 = .ok (.iload_n 3, 1) := by decide +kernel
theorem dX12_carry_71 : decode cX12_carry 71 = .ok (.iadd, 1) := by decide +kernel
theorem dX12_carry_72 : decode cX12_carry 72 = .ok (.iconst 1, 1) := by decide +kernel
theorem dX12_carry_73 : decode cX12_carry 73 = .ok (.isub, 1) := by decide +kernel
theorem dX12_carry_74 : decode cX12_carry 74 = .ok (.iaload, 1) := by decide +kernel
theorem dX12_carry_75 : decode cX12_carry 75 = .ok (.invokevirtual 285, 3) := by decide +kernel
theorem dX12_carry_78 : decode cX12_carry 78 = .ok (.ifCond .eq 33, 3) := by decide +kernel
theorem dX12_carry_81 : decode cX12_carry 81 = .ok (.aload_n 0, 1) := by decide +kernel
theorem dX12_carry_82 : decode cX12_carry 82 = .ok (.getfield 130, 3) := by decide +kernel
theorem dX12_carry_85 : decode cX12_carry 85 = .ok (.iload_n 1, 1) := by decide +kernel
theorem dX12_carry_86 : decode cX12_carry 86 = .ok (.bipush 8, 2) := by decide +kernel
theorem dX12_carry_88 : decode cX12_carry 88 = .ok (.iadd, 1) := by decide +kernel
theorem dX12_carry_89 : decode cX12_carry 89 = .ok (.iload_n 3, 1) := by decide +kernel
theorem dX12_carry_90 : decode cX12_carry 90 = .ok (.iadd, 1) := by decide +kernel
theorem dX12_carry_91 : decode cX12_carry 91 = .ok (.aload_n 0, 1) := by decide +kernel
theorem dX12_carry_92 : decode cX12_carry 92 = .ok (.getfield 130, 3) := by decide +kernel
theorem dX12_carry_95 : decode cX12_carry 95 = .ok (.iload_n 1, 1) := by decide +kernel
theorem dX12_carry_96 : decode cX12_carry 96 = .ok (.bipush 8, 2) := by decide +kernel
theorem dX12_carry_98 : decode cX12_carry 98 = .ok (.iadd, 1) := by decide +kernel
theorem dX12_carry_99 : decode cX12_carry 99 = .ok (.iload_n 3, 1) := by decide +kernel
theorem dX12_carry_100 : decode cX12_carry 100 = .ok (.iadd, 1) := by decide +kernel
theorem dX12_carry_101 : decode cX12_carry 101 = .ok (.iconst 1, 1) := by decide +kernel
theorem dX12_carry_102 : decode cX12_carry 102 = .ok (.isub, 1) := by decide +kernel
theorem dX12_carry_103 : decode cX12_carry 103 = .ok (.iaload, 1) := by decide +kernel
theorem dX12_carry_104 : decode cX12_carry 104 = .ok (.iastore, 1) := by decide +kernel
theorem dX12_carry_105 : decode cX12_carry 105 = .ok (.iinc 3 (-1), 3) := by decide +kernel
theorem dX12_carry_108 : decode cX12_carry 108 = .ok (.goto (-52), 3) := by decide +kernel
theorem dX12_carry_111 : decode cX12_carry 111 = .ok (.aload_n 0, 1) := by decide +kernel
theorem dX12_carry_112 : decode cX12_carry 112 = .ok (.getfield 130, 3) := by decide +kernel
theorem dX12_carry_115 : decode cX12_carry 115 = .ok (.iload_n 1, 1) := by decide +kernel
theorem dX12_carry_116 : decode cX12_carry 116 = .ok (.bipush 8, 2) := by decide +kernel
theorem dX12_carry_118 : decode cX12_carry 118 = .ok (.iadd, 1) := by decide +kernel
theorem dX12_carry_119 : decode cX12_carry 119 = .ok (.iload_n 3, 1) := by decide +kernel
theorem dX12_carry_120 : decode cX12_carry 120 = .ok (.iadd, 1) := by decide +kernel
theorem dX12_carry_121 : decode cX12_carry 121 = .ok (.iload_n 2, 1) := by decide +kernel
theorem dX12_carry_122 : decode cX12_carry 122 = .ok (.iastore, 1) := by decide +kernel
theorem dX12_carry_123 : decode cX12_carry 123 = .ok (.return_, 1) := by decide +kernel
theorem cd_carry : Cond.code yX12_carry cX12_carry 4 none ∈ lw_g := mt_at 2231 (by decide +kernel) rfl
theorem mw_carry : mCw 434 yX12_carry cX12_carry 4 none 2 := ⟨cd_carry, mt_at 2228 (by decide +kernel) rfl, in_M, by decide +kernel⟩
theorem im_carry : Cond.instanceMethod yX12_carry ∈ lw_g := mt_at 2230 (by decide +kernel) rfl
theorem sl_carry : Cond.selects RX12 yX12_carry yX12_carry ∈ lw_g := mt_sel 96 (by decide +kernel) rfl
section
variable {p : Program} {l : Launch} {e : Env} {R : Room} {s : State} {m : MethodId} {args : Array Value} {below : List Frame} {meth : Method} {c : Code} {cM : ClassId} {iS : Nat → Nat} {cI cZ : ClassId} {mo : Nat} {ad : Nat → Nat} {r : Int32} {S9 : mSt}
noncomputable def fm_carry_111 (S : mSt) (v1 : Int32) (v2 : Int32) (v3 : Int32) : Option (mSt) :=
ck ((v1 + (8 : Int32)) + v3) 38400 (lt (wr S 46 ((v1 + (8 : Int32)) + v3) v2) fun S1 =>
some S1)
set_option maxRecDepth 100000 in
set_option maxHeartbeats 4000000 in
theorem wm_carry_111 (C : mY p R s m args meth c cX12_carry 4 2 42 none) (X : mX s cM iS cI cZ mo ad) : ∀ {S : mSt} {v1 : Int32} {v2 : Int32} {v3 : Int32} {H : Heap} {locs : List Loc} {ls : Array Slot}, fm_carry_111 S v1 v2 v3 = some S9 → mW cM iS cI cZ mo ad S H → mS (mA mo ad) s.heap H locs → lv_has ls 4 [(0, .ref mo), (1, .int v1), (2, .int v2), (3, .int v3)] → W p l e R s m args below meth c H locs 0 0 (MQ below (mQw none cM iS cI cZ mo ad S9) args s 0 0 (mA mo ad)) (F0 m 111 ls []) := by
  intro S v1 v2 v3 H locs ls h hW hS hl
  unfold fm_carry_111 at h
  refine lv_aload_n C.1 C.2.1 dX12_carry_111 rfl (lv_at hl 0 rfl) ?_
  refine gf_46 C X hW dX12_carry_112 ?_
  refine lv_iload_n C.1 C.2.1 dX12_carry_115 rfl (lv_at hl 1 rfl) ?_
  refine lv_bipush (v := 8) C.1 C.2.1 dX12_carry_116 (by decide) ?_
  refine lv_iadd C.1 C.2.1 dX12_carry_118 ?_
  refine lv_iload_n C.1 C.2.1 dX12_carry_119 rfl (lv_at hl 3 rfl) ?_
  refine lv_iadd C.1 C.2.1 dX12_carry_120 ?_
  refine lv_iload_n C.1 C.2.1 dX12_carry_121 rfl (lv_at hl 2 rfl) ?_
  obtain ⟨hin, h⟩ := ck_ok h
  refine s_46 C X hW hS hin dX12_carry_122 (fun H locs hW hS => ?_)
  refine lt_ok h (fun S1 e_S1 h => ?_)
  rw [e_S1] at hW
  cases h
  exact m_retvW C hW hS dX12_carry_123
noncomputable def fm_carry_56 : Nat → mSt → Int32 → Int32 → Int32 → Option (mSt)
  | 0, _, _, _, _ => none
  | n + 1, S, v1, v2, v3 =>
    if v3 ≤ 0 then (
    fm_carry_111 S v1 v2 v3)
    else (
    ck (((v1 + (8 : Int32)) + v3) - (1 : Int32)) 38400 (
    bd (fm_isBefore S v2 (rd S 46 (((v1 + (8 : Int32)) + v3) - (1 : Int32)))) fun r2 =>
    if r2 = 0 then (
    fm_carry_111 S v1 v2 v3)
    else (
    ck (((v1 + (8 : Int32)) + v3) - (1 : Int32)) 38400 (
    ck ((v1 + (8 : Int32)) + v3) 38400 (lt (wr S 46 ((v1 + (8 : Int32)) + v3) (rd S 46 (((v1 + (8 : Int32)) + v3) - (1 : Int32)))) fun S4 =>
    lt (v3 + (-1 : Int32)) fun x5 =>
    fm_carry_56 n S4 v1 v2 x5)))))
set_option maxRecDepth 100000 in
set_option maxHeartbeats 4000000 in
theorem wm_carry_56 (C : mY p R s m args meth c cX12_carry 4 2 42 none) (X : mX s cM iS cI cZ mo ad) : ∀ (n : Nat), ∀ {S : mSt} {v1 : Int32} {v2 : Int32} {v3 : Int32} {H : Heap} {locs : List Loc} {ls : Array Slot}, fm_carry_56 n S v1 v2 v3 = some S9 → mW cM iS cI cZ mo ad S H → mS (mA mo ad) s.heap H locs → lv_has ls 4 [(0, .ref mo), (1, .int v1), (2, .int v2), (3, .int v3)] → W p l e R s m args below meth c H locs 0 0 (MQ below (mQw none cM iS cI cZ mo ad S9) args s 0 0 (mA mo ad)) (F0 m 56 ls []) := by
  intro n
  induction n with
  | zero =>
    intro S v1 v2 v3 H locs ls h hW hS hl
    exact absurd (show (none : Option (mSt)) = _ from h) (fun q => by cases q)
  | succ n ih =>
    intro S v1 v2 v3 H locs ls h hW hS hl
    rw [fm_carry_56] at h
    refine lv_iload_n C.1 C.2.1 dX12_carry_56 rfl (lv_at hl 3 rfl) ?_
    refine lv_if_le (tgt := 111) C.1 C.2.1 dX12_carry_57 (by decide) (fun c1 => ?_) (fun c1 => ?_)
    · have h := if_t h c1
      exact wm_carry_111 C X h hW hS (lv_sub hl [0, 1, 2, 3] rfl)
    · have h := if_f h c1
      refine lv_aload_n C.1 C.2.1 dX12_carry_60 rfl (lv_at hl 0 rfl) ?_
      refine lv_iload_n C.1 C.2.1 dX12_carry_61 rfl (lv_at hl 2 rfl) ?_
      refine lv_aload_n C.1 C.2.1 dX12_carry_62 rfl (lv_at hl 0 rfl) ?_
      refine gf_46 C X hW dX12_carry_63 ?_
      refine lv_iload_n C.1 C.2.1 dX12_carry_66 rfl (lv_at hl 1 rfl) ?_
      refine lv_bipush (v := 8) C.1 C.2.1 dX12_carry_67 (by decide) ?_
      refine lv_iadd C.1 C.2.1 dX12_carry_69 ?_
      refine lv_iload_n C.1 C.2.1 dX12_carry_70 rfl (lv_at hl 3 rfl) ?_
      refine lv_iadd C.1 C.2.1 dX12_carry_71 ?_
      refine lv_iconst (v := 1) C.1 C.2.1 dX12_carry_72 (by decide) ?_
      refine lv_isub C.1 C.2.1 dX12_carry_73 ?_
      obtain ⟨hin, h⟩ := ck_ok h
      refine l_46 C X hW hin dX12_carry_74 ?_
      obtain ⟨r2, h_r2, h⟩ := bd_ok h
      refine m_callR (rest := []) C X hW hl.1 [.int v2, .int (rd S 46 (((v1 + (8 : Int32)) + v3) - (1 : Int32)))] (tm_isBefore l h_r2) mw_isBefore im_isBefore sl_isBefore rfl ⟨by decide, by decide⟩ rfl (Nat.le_of_ble_eq_true rfl) dX12_carry_75 ?_
      refine lv_if_eq (tgt := 111) C.1 C.2.1 dX12_carry_78 (by decide) (fun c3 => ?_) (fun c3 => ?_)
      · have h := if_t h c3
        exact wm_carry_111 C X h hW hS (lv_sub hl [0, 1, 2, 3] rfl)
      · have h := if_f h c3
        refine lv_aload_n C.1 C.2.1 dX12_carry_81 rfl (lv_at hl 0 rfl) ?_
        refine gf_46 C X hW dX12_carry_82 ?_
        refine lv_iload_n C.1 C.2.1 dX12_carry_85 rfl (lv_at hl 1 rfl) ?_
        refine lv_bipush (v := 8) C.1 C.2.1 dX12_carry_86 (by decide) ?_
        refine lv_iadd C.1 C.2.1 dX12_carry_88 ?_
        refine lv_iload_n C.1 C.2.1 dX12_carry_89 rfl (lv_at hl 3 rfl) ?_
        refine lv_iadd C.1 C.2.1 dX12_carry_90 ?_
        refine lv_aload_n C.1 C.2.1 dX12_carry_91 rfl (lv_at hl 0 rfl) ?_
        refine gf_46 C X hW dX12_carry_92 ?_
        refine lv_iload_n C.1 C.2.1 dX12_carry_95 rfl (lv_at hl 1 rfl) ?_
        refine lv_bipush (v := 8) C.1 C.2.1 dX12_carry_96 (by decide) ?_
        refine lv_iadd C.1 C.2.1 dX12_carry_98 ?_
        refine lv_iload_n C.1 C.2.1 dX12_carry_99 rfl (lv_at hl 3 rfl) ?_
        refine lv_iadd C.1 C.2.1 dX12_carry_100 ?_
        refine lv_iconst (v := 1) C.1 C.2.1 dX12_carry_101 (by decide) ?_
        refine lv_isub C.1 C.2.1 dX12_carry_102 ?_
        obtain ⟨hin, h⟩ := ck_ok h
        refine l_46 C X hW hin dX12_carry_103 ?_
        obtain ⟨hin, h⟩ := ck_ok h
        refine s_46 C X hW hS hin dX12_carry_104 (fun H locs hW hS => ?_)
        refine lt_ok h (fun S4 e_S4 h => ?_)
        rw [e_S4] at hW
        refine lt_ok h (fun x5 e_x5 h => ?_)
        refine lv_iinc (v := x5) (lv' := [(3, .int x5), (0, .ref mo), (1, .int v1), (2, .int v2)]) C.1 C.2.1 dX12_carry_105 hl (k := 3) rfl (by rw [← e_x5]; rfl) (by decide) rfl (fun ls hl => ?_)
        refine lv_goto (tgt := 56) C.1 C.2.1 dX12_carry_108 (by decide) ?_
        exact ih h hW hS (lv_sub hl [1, 2, 3, 0] rfl)
noncomputable def fm_carry (S : mSt) (v1 : Int32) (v2 : Int32) : Option (mSt) :=
ck (v1 + (3 : Int32)) 38400 (
lt (rd S 46 (v1 + (3 : Int32))) fun x1 =>
if x1 = (8 : Int32) then (
ck (((v1 + (8 : Int32)) + (8 : Int32)) - (1 : Int32)) 38400 (
bd (fm_isBefore S (rd S 46 (((v1 + (8 : Int32)) + (8 : Int32)) - (1 : Int32))) v2) fun r4 =>
if r4 = 0 then (
lt (x1 + (-1 : Int32)) fun x6 =>
fm_carry_56 mFU S v1 v2 x6)
else (
some S)))
else (
ck (v1 + (3 : Int32)) 38400 (
ck (v1 + (3 : Int32)) 38400 (lt (wr S 46 (v1 + (3 : Int32)) ((rd S 46 (v1 + (3 : Int32))) + (1 : Int32))) fun S3 =>
fm_carry_56 mFU S3 v1 v2 x1))))
set_option maxRecDepth 100000 in
set_option maxHeartbeats 4000000 in
theorem tm_carry (l : Launch) {cM : ClassId} {iS : Nat → Nat} {cI cZ : ClassId} {mo : Nat} {ad : Nat → Nat} {S : mSt} {v1 : Int32} {v2 : Int32} {S9 : mSt} (h : fm_carry S v1 v2 = some S9) : Met l yX12_carry (Cond.code yX12_carry cX12_carry 4 none :: lw_g) { frames := 2, cells := 0, slots := 0, locals := 42 } (mPi [.int v1, .int v2] cM iS cI cZ mo ad S) (mQw none cM iS cI cZ mo ad S9) 0 0 (mA mo ad) := by
  refine Met.ofW (cc := cX12_carry) (maxL := 4) (ret := none) (by decide) rfl ?_
  intro p e s m args below meth c s₁ B hml hv
  obtain ⟨rfl, hW, X⟩ := hv
  have C : mY p (headSpec (Cond.code yX12_carry cX12_carry 4 none :: lw_g) { frames := 2, cells := 0, slots := 0, locals := 42 }).room s m _ meth c cX12_carry 4 2 42 none := ⟨B.exec, B.bytes, hml, findClass_of_methodNamed B.named, fun w hw => atoms_spec (ws := Cond.code yX12_carry cX12_carry 4 none :: lw_g) B.pre w (List.mem_cons_of_mem _ hw), ⟨Nat.le_refl _, Nat.le_refl _⟩, B.returns, B.notSynchronized⟩
  have hl := lv_entry ([.ref mo, .int v1, .int v2]) (n := 4) (Nat.le_of_ble_eq_true rfl)
  rw [lg_entry_eq]
  generalize (lg_sl ([.ref mo, .int v1, .int v2]) ++ List.replicate (4 - (lg_sl ([.ref mo, .int v1, .int v2])).length) Slot.unset).toArray = ls at hl ⊢
  have hl : lv_has ls 4 [(0, .ref mo), (1, .int v1), (2, .int v2)] := hl
  have hS : mS (mA mo ad) s.heap s.heap [] := mS.rf
  unfold fm_carry at h
  refine lv_aload_n C.1 C.2.1 dX12_carry_0 rfl (lv_at hl 0 rfl) ?_
  refine gf_46 C X hW dX12_carry_1 ?_
  refine lv_iload_n C.1 C.2.1 dX12_carry_4 rfl (lv_at hl 1 rfl) ?_
  refine lv_iconst (v := 3) C.1 C.2.1 dX12_carry_5 (by decide) ?_
  refine lv_iadd C.1 C.2.1 dX12_carry_6 ?_
  obtain ⟨hin, h⟩ := ck_ok h
  refine l_46 C X hW hin dX12_carry_7 ?_
  refine lt_ok h (fun x1 e_x1 h => ?_)
  refine lv_nm e_x1 ?_
  refine lv_istore_n (lv' := [(3, .int x1), (0, .ref mo), (1, .int v1), (2, .int v2)]) C.1 C.2.1 dX12_carry_8 rfl hl (by decide) rfl (fun ls hl => ?_)
  refine lv_iload_n C.1 C.2.1 dX12_carry_9 rfl (lv_at hl 0 rfl) ?_
  refine lv_bipush (v := 8) C.1 C.2.1 dX12_carry_10 (by decide) ?_
  refine lv_icmp_ne (tgt := 44) C.1 C.2.1 dX12_carry_12 (by decide) (fun c2 => ?_) (fun c2 => ?_)
  · have h := if_f h c2
    refine lv_aload_n C.1 C.2.1 dX12_carry_44 rfl (lv_at hl 1 rfl) ?_
    refine gf_46 C X hW dX12_carry_45 ?_
    refine lv_iload_n C.1 C.2.1 dX12_carry_48 rfl (lv_at hl 2 rfl) ?_
    refine lv_iconst (v := 3) C.1 C.2.1 dX12_carry_49 (by decide) ?_
    refine lv_iadd C.1 C.2.1 dX12_carry_50 ?_
    refine lv_dup2_11 C.1 C.2.1 dX12_carry_51 rfl rfl ?_
    obtain ⟨hin, h⟩ := ck_ok h
    refine l_46 C X hW hin dX12_carry_52 ?_
    refine lv_iconst (v := 1) C.1 C.2.1 dX12_carry_53 (by decide) ?_
    refine lv_iadd C.1 C.2.1 dX12_carry_54 ?_
    obtain ⟨hin, h⟩ := ck_ok h
    refine s_46 C X hW hS hin dX12_carry_55 (fun H locs hW hS => ?_)
    refine lt_ok h (fun S3 e_S3 h => ?_)
    rw [e_S3] at hW
    exact wm_carry_56 C X mFU h hW hS (lv_sub hl [1, 2, 3, 0] rfl)
  · have h := if_t h c2
    refine lv_aload_n C.1 C.2.1 dX12_carry_15 rfl (lv_at hl 1 rfl) ?_
    refine lv_aload_n C.1 C.2.1 dX12_carry_16 rfl (lv_at hl 1 rfl) ?_
    refine gf_46 C X hW dX12_carry_17 ?_
    refine lv_iload_n C.1 C.2.1 dX12_carry_20 rfl (lv_at hl 2 rfl) ?_
    refine lv_bipush (v := 8) C.1 C.2.1 dX12_carry_21 (by decide) ?_
    refine lv_iadd C.1 C.2.1 dX12_carry_23 ?_
    refine lv_bipush (v := 8) C.1 C.2.1 dX12_carry_24 (by decide) ?_
    refine lv_iadd C.1 C.2.1 dX12_carry_26 ?_
    refine lv_iconst (v := 1) C.1 C.2.1 dX12_carry_27 (by decide) ?_
    refine lv_isub C.1 C.2.1 dX12_carry_28 ?_
    obtain ⟨hin, h⟩ := ck_ok h
    refine l_46 C X hW hin dX12_carry_29 ?_
    refine lv_iload_n C.1 C.2.1 dX12_carry_30 rfl (lv_at hl 3 rfl) ?_
    obtain ⟨r4, h_r4, h⟩ := bd_ok h
    refine m_callR (rest := []) C X hW hl.1 [.int (rd S 46 (((v1 + (8 : Int32)) + (8 : Int32)) - (1 : Int32))), .int v2] (tm_isBefore l h_r4) mw_isBefore im_isBefore sl_isBefore rfl ⟨by decide, by decide⟩ rfl (Nat.le_of_ble_eq_true rfl) dX12_carry_31 ?_
    refine lv_if_eq (tgt := 38) C.1 C.2.1 dX12_carry_34 (by decide) (fun c5 => ?_) (fun c5 => ?_)
    · have h := if_t h c5
      refine lt_ok h (fun x6 e_x6 h => ?_)
      refine lv_iinc (v := x6) (lv' := [(3, .int x6), (0, .ref mo), (1, .int v1), (2, .int v2)]) C.1 C.2.1 dX12_carry_38 hl (k := 0) rfl (by rw [← e_x6]; rfl) (by decide) rfl (fun ls hl => ?_)
      refine lv_goto (tgt := 56) C.1 C.2.1 dX12_carry_41 (by decide) ?_
      exact wm_carry_56 C X mFU h hW hS (lv_sub hl [1, 2, 3, 0] rfl)
    · have h := if_f h c5
      cases h
      exact m_retvW C hW hS dX12_carry_37
end
