-- made by wip/whole/walk.py: the reference's write, octet, bend, isBent, remove, nextReady, keep
theorem dX12_write_0 : decode cX12_write 0 = .ok (.sipush 640, 3) := by decide +kernel
theorem dX12_write_3 : decode cX12_write 3 = .ok (.iload_n 1, 1) := by decide +kernel
theorem dX12_write_4 : decode cX12_write 4 = .ok (.imul, 1) := by decide +kernel
theorem dX12_write_5 : decode cX12_write 5 = .ok (.istore_n 2, 1) := by decide +kernel
theorem dX12_write_6 : decode cX12_write 6 = .ok (.aload_n 0, 1) := by decide +kernel
theorem dX12_write_7 : decode cX12_write 7 = .ok (.iconst 0, 1) := by decide +kernel
theorem dX12_write_8 : decode cX12_write 8 = .ok (.putfield 441, 3) := by decide +kernel
theorem dX12_write_11 : decode cX12_write 11 = .ok (.aload_n 0, 1) := by decide +kernel
theorem dX12_write_12 : decode cX12_write 12 = .ok (.aload_n 0, 1) := by decide +kernel
theorem dX12_write_13 : decode cX12_write 13 = .ok (.getfield 130, 3) := by decide +kernel
theorem dX12_write_16 : decode cX12_write 16 = .ok (.iload_n 2, 1) := by decide +kernel
theorem dX12_write_17 : decode cX12_write 17 = .ok (.iaload, 1) := by decide +kernel
theorem dX12_write_18 : decode cX12_write 18 = .ok (.iconst 4, 1) := by decide +kernel
theorem dX12_write_19 : decode cX12_write 19 = .ok (.aload_n 0, 1) := by decide +kernel
theorem dX12_write_20 : decode cX12_write 20 = .ok (.getfield 130, 3) := by decide +kernel
theorem dX12_write_23 : decode cX12_write 23 = .ok (.iload_n 2, 1) := by decide +kernel
theorem dX12_write_24 : decode cX12_write 24 = .ok (.iconst 1, 1) := by decide +kernel
theorem dX12_write_25 : decode cX12_write 25 = .ok (.iadd, 1) := by decide +kernel
theorem dX12_write_26 : decode cX12_write 26 = .ok (.iaload, 1) := by decide +kernel
theorem dX12_write_27 : decode cX12_write 27 = .ok (.imul, 1) := by decide +kernel
theorem dX12_write_28 : decode cX12_write 28 = .ok (.iadd, 1) := by decide +kernel
theorem dX12_write_29 : decode cX12_write 29 = .ok (.bipush 16, 2) := by decide +kernel
theorem dX12_write_31 : decode cX12_write 31 = .ok (.aload_n 0, 1) := by decide +kernel
theorem dX12_write_32 : decode cX12_write 32 = .ok (.getfield 130, 3) := by decide +kernel
theorem dX12_write_35 : decode cX12_write 35 = .ok (.iload_n 2, 1) := by decide +kernel
theorem dX12_write_36 : decode cX12_write 36 = .ok (.iconst 2, 1) := by decide +kernel
theorem dX12_write_37 : decode cX12_write 37 = .ok (.iadd, 1) := by decide +kernel
theorem dX12_write_38 : decode cX12_write 38 = .ok (.iaload, 1) := by decide +kernel
theorem dX12_write_39 : decode cX12_write 39 = .ok (.imul, 1) := by decide +kernel
theorem dX12_write_40 : decode cX12_write 40 = .ok (.iadd, 1) := by decide +kernel
theorem dX12_write_41 : decode cX12_write 41 = .ok (.invokevirtual 450, 3) := by decide +kernel
theorem dX12_write_44 : decode cX12_write 44 = .ok (.iconst 0, 1) := by decide +kernel
theorem dX12_write_45 : decode cX12_write 45 = .ok (.istore_n 3, 1) := by decide +kernel
theorem dX12_write_46 : decode cX12_write 46 = .ok (.iload_n 3, 1) := by decide +kernel
theorem dX12_write_47 : decode cX12_write 47 = .ok (.iconst 4, 1) := by decide +kernel
theorem dX12_write_48 : decode cX12_write 48 = .ok (.if_icmp .ge 23, 3) := by decide +kernel
theorem dX12_write_51 : decode cX12_write 51 = .ok (.aload_n 0, 1) := by decide +kernel
theorem dX12_write_52 : decode cX12_write 52 = .ok (.aload_n 0, 1) := by decide +kernel
theorem dX12_write_53 : decode cX12_write 53 = .ok (.getfield 130, 3) := by decide +kernel
theorem dX12_write_56 : decode cX12_write 56 = .ok (.iload_n 2, 1) := by decide +kernel
theorem dX12_write_57 : decode cX12_write 57 = .ok (.iconst 4, 1) := by decide +kernel
theorem dX12_write_58 : decode cX12_write 58 = .ok (.iadd, 1) := by decide +kernel
theorem dX12_write_59 : decode cX12_write 59 = .ok (.iload_n 3, 1) := by decide +kernel
theorem dX12_write_60 : decode cX12_write 60 = .ok (.iadd, 1) := by decide +kernel
theorem dX12_write_61 : decode cX12_write 61 = .ok (.iaload, 1) := by decide +kernel
theorem dX12_write_62 : decode cX12_write 62 = .ok (.invokevirtual 453, 3) := by decide +kernel
theorem dX12_write_65 : decode cX12_write 65 = .ok (.iinc 3 1, 3) := by decide +kernel
theorem dX12_write_68 : decode cX12_write 68 = .ok (.goto (-22), 3) := by decide +kernel
theorem dX12_write_71 : decode cX12_write 71 = .ok (.iconst 0, 1) := by decide +kernel
theorem dX12_write_72 : decode cX12_write 72 = .ok (.istore_n 3, 1) := by decide +kernel
theorem dX12_write_73 : decode cX12_write 73 = .ok (.iload_n 3, 1) := by decide +kernel
theorem dX12_write_74 : decode cX12_write 74 = .ok (.iconst 4, 1) := by decide +kernel
theorem dX12_write_75 : decode cX12_write 75 = .ok (.if_icmp .ge 69, 3) := by decide +kernel
theorem dX12_write_78 : decode cX12_write 78 = .ok (.iload_n 2, 1) := by decide +kernel
theorem dX12_write_79 : decode cX12_write 79 = .ok (.bipush 16, 2) := by decide +kernel
theorem dX12_write_81 : decode cX12_write 81 = .ok (.iadd, 1) := by decide +kernel
theorem dX12_write_82 : decode cX12_write 82 = .ok (.iconst 4, 1) := by decide +kernel
theorem dX12_write_83 : decode cX12_write 83 = .ok (.iload_n 3, 1) := by decide +kernel
theorem dX12_write_84 : decode cX12_write 84 = .ok (.imul, 1) := by decide +kernel
theorem dX12_write_85 : decode cX12_write 85 = .ok (.iadd, 1) := by decide +kernel
theorem dX12_write_86 : decode cX12_write 86 = .ok (.istore 4, 2) := by decide +kernel
theorem dX12_write_88 : decode cX12_write 88 = .ok (.aload_n 0, 1) := by decide +kernel
theorem dX12_write_89 : decode cX12_write 89 = .ok (.aload_n 0, 1) := by decide +kernel
theorem dX12_write_90 : decode cX12_write 90 = .ok (.getfield 130, 3) := by decide +kernel
theorem dX12_write_93 : decode cX12_write 93 = .ok (.iload 4, 2) := by decide +kernel
theorem dX12_write_95 : decode cX12_write 95 = .ok (.iaload, 1) := by decide +kernel
theorem dX12_write_96 : decode cX12_write 96 = .ok (.invokevirtual 453, 3) := by decide +kernel
theorem dX12_write_99 : decode cX12_write 99 = .ok (.iconst 1, 1) := by decide +kernel
theorem dX12_write_100 : decode cX12_write 100 = .ok (.istore 5, 2) := by decide +kernel
theorem dX12_write_102 : decode cX12_write 102 = .ok (.iload 5, 2) := by decide +kernel
theorem dX12_write_104 : decode cX12_write 104 = .ok (.iconst 4, 1) := by decide +kernel
theorem dX12_write_105 : decode cX12_write 105 = .ok (.if_icmp .ge 33, 3) := by decide +kernel
theorem dX12_write_108 : decode cX12_write 108 = .ok (.aload_n 0, 1) := by decide +kernel
theorem dX12_write_109 : decode cX12_write 109 = .ok (.getfield 130, 3) := by decide +kernel
theorem dX12_write_112 : decode cX12_write 112 = .ok (.iload 4, 2) := by decide +kernel
theorem dX12_write_114 : decode cX12_write 114 = .ok (.iaload, 1) := by decide +kernel
theorem dX12_write_115 : decode cX12_write 115 = .ok (.ifCond .eq 23, 3) := by decide +kernel
theorem dX12_write_118 : decode cX12_write 118 = .ok (.aload_n 0, 1) := by decide +kernel
theorem dX12_write_119 : decode cX12_write 119 = .ok (.aload_n 0, 1) := by decide +kernel
theorem dX12_write_120 : decode cX12_write 120 = .ok (.getfield 130, 3) := by decide +kernel
theorem dX12_write_123 : decode cX12_write 123 = .ok (.iload 4, 2) := by decide +kernel
theorem dX12_write_125 : decode cX12_write 125 = .ok (.iload 5, 2) := by decide +kernel
theorem dX12_write_127 : decode cX12_write 127 = .ok (.iadd, 1) := by decide +kernel
theorem dX12_write_128 : decode cX12_write 128 = .ok (.iaload, 1) := by decide +kernel
theorem dX12_write_129 : decode cX12_write 129 = .ok (.invokevirtual 453, 3) := by decide +kernel
theorem dX12_write_132 : decode cX12_write 132 = .ok (.iinc 5 1, 3) := by decide +kernel
theorem dX12_write_135 : decode cX12_write 135 = .ok (.goto (-33), 3) := by decide +kernel
theorem dX12_write_138 : decode cX12_write 138 = .ok (.iinc 3 1, 3) := by decide +kernel
theorem dX12_write_141 : decode cX12_write 141 = .ok (.goto (-68), 3) := by decide +kernel
theorem dX12_write_144 : decode cX12_write 144 = .ok (.aload_n 0, 1) := by decide +kernel
theorem dX12_write_145 : decode cX12_write 145 = .ok (.aload_n 0, 1) := by decide +kernel
theorem dX12_write_146 : decode cX12_write 146 = .ok (.getfield 130, 3) := by decide +kernel
theorem dX12_write_149 : decode cX12_write 149 = .ok (.iload_n 2, 1) := by decide +kernel
theorem dX12_write_150 : decode cX12_write 150 = .ok (.iconst 3, 1) := by decide +kernel
theorem dX12_write_151 : decode cX12_write 151 = .ok (.iadd, 1) := by decide +kernel
theorem dX12_write_152 : decode cX12_write 152 = .ok (.iaload, 1) := by decide +kernel
theorem dX12_write_153 : decode cX12_write 153 = .ok (.invokevirtual 453, 3) := by decide +kernel
theorem dX12_write_156 : decode cX12_write 156 = .ok (.iconst 0, 1) := by decide +kernel
theorem dX12_write_157 : decode cX12_write 157 = .ok (.istore_n 3, 1) := by decide +kernel
theorem dX12_write_158 : decode cX12_write 158 = .ok (.iload_n 3, 1) := by decide +kernel
theorem dX12_write_159 : decode cX12_write 159 = .ok (.aload_n 0, 1) := by decide +kernel
theorem dX12_write_160 : decode cX12_write 160 = .ok (.getfield 130, 3) := by decide +kernel
theorem dX12_write_163 : decode cX12_write 163 = .ok (.iload_n 2, 1) := by decide +kernel
theorem dX12_write_164 : decode cX12_write 164 = .ok (.iconst 3, 1) := by decide +kernel
theorem dX12_write_165 : decode cX12_write 165 = .ok (.iadd, 1) := by decide +kernel
theorem dX12_write_166 : decode cX12_write 166 = .ok (.iaload, 1) := by decide +kernel
theorem dX12_write_167 : decode cX12_write 167 = .ok (.if_icmp .ge 24, 3) := by decide +kernel
theorem dX12_write_170 : decode cX12_write 170 = .ok (.aload_n 0, 1) := by decide +kernel
theorem dX12_write_171 : decode cX12_write 171 = .ok (.aload_n 0, 1) := by decide +kernel
theorem dX12_write_172 : decode cX12_write 172 = .ok (.getfield 130, 3) := by decide +kernel
theorem dX12_write_175 : decode cX12_write 175 = .ok (.iload_n 2, 1) := by decide +kernel
theorem dX12_write_176 : decode cX12_write 176 = .ok (.bipush 8, 2) := by decide +kernel
theorem dX12_write_178 : decode cX12_write 178 = .ok (.iadd, 1) := by decide +kernel
theorem dX12_write_179 : decode cX12_write 179 = .ok (.iload_n 3, 1) := by decide +kernel
theorem dX12_write_180 : decode cX12_write 180 = .ok (.iadd, 1) := by decide +kernel
theorem dX12_write_181 : decode cX12_write 181 = .ok (.iaload, 1) := by decide +kernel
theorem dX12_write_182 : decode cX12_write 182 = .ok (.invokevirtual 456, 3) := by decide +kernel
theorem dX12_write_185 : decode cX12_write 185 = .ok (.iinc 3 1, 3) := by decide +kernel
theorem dX12_write_188 : decode cX12_write 188 = .ok (.goto (-30), 3) := by decide +kernel
theorem dX12_write_191 : decode cX12_write 191 = .ok (.ldc_w 459, 3) := by decide +kernel
theorem dX12_write_194 : decode cX12_write 194 = .ok (.istore_n 3, 1) := by decide +kernel
theorem dX12_write_195 : decode cX12_write 195 = .ok (.iconst 0, 1) := by decide +kernel
theorem dX12_write_196 : decode cX12_write 196 = .ok (.istore 4, 2) := by decide +kernel
theorem dX12_write_198 : decode cX12_write 198 = .ok (.iload 4, 2) := by decide +kernel
theorem dX12_write_200 : decode cX12_write 200 = .ok (.aload_n 0, 1) := by decide +kernel
theorem dX12_write_201 : decode cX12_write 201 = .ok (.getfield 441, 3) := by decide +kernel
theorem dX12_write_204 : decode cX12_write 204 = .ok (.if_icmp .ge 56, 3) := by decide +kernel
theorem dX12_write_207 : decode cX12_write 207 = .ok (.iload_n 3, 1) := by decide +kernel
theorem dX12_write_208 : decode cX12_write 208 = .ok (.sipush 256, 3) := by decide +kernel
theorem dX12_write_211 : decode cX12_write 211 = .ok (.aload_n 0, 1) := by decide +kernel
theorem dX12_write_212 : decode cX12_write 212 = .ok (.getfield 188, 3) := by decide +kernel
theorem dX12_write_215 : decode cX12_write 215 = .ok (.iload 4, 2) := by decide +kernel
theorem dX12_write_217 : decode cX12_write 217 = .ok (.iaload, 1) := by decide +kernel
theorem dX12_write_218 : decode cX12_write 218 = .ok (.imul, 1) := by decide +kernel
theorem dX12_write_219 : decode cX12_write 219 = .ok (.ixor, 1) := by decide +kernel
theorem dX12_write_220 : decode cX12_write 220 = .ok (.istore_n 3, 1) := by decide +kernel
theorem dX12_write_221 : decode cX12_write 221 = .ok (.iconst 0, 1) := by decide +kernel
theorem dX12_write_222 : decode cX12_write 222 = .ok (.istore 5, 2) := by decide +kernel
theorem dX12_write_224 : decode cX12_write 224 = .ok (.iload 5, 2) := by decide +kernel
theorem dX12_write_226 : decode cX12_write 226 = .ok (.bipush 8, 2) := by decide +kernel
theorem dX12_write_228 : decode cX12_write 228 = .ok (.if_icmp .ge 26, 3) := by decide +kernel
theorem dX12_write_231 : decode cX12_write 231 = .ok (.iconst 2, 1) := by decide +kernel
theorem dX12_write_232 : decode cX12_write 232 = .ok (.iload_n 3, 1) := by decide +kernel
theorem dX12_write_233 : decode cX12_write 233 = .ok (.imul, 1) := by decide +kernel
theorem dX12_write_234 : decode cX12_write 234 = .ok (.istore_n 3, 1) := by decide +kernel
theorem dX12_write_235 : decode cX12_write 235 = .ok (.iload_n 3, 1) := by decide +kernel
theorem dX12_write_236 : decode cX12_write 236 = .ok (.ldc_w 459, 3) := by decide +kernel
theorem dX12_write_239 : decode cX12_write 239 = .ok (.if_icmp .le 9, 3) := by decide +kernel
theorem dX12_write_242 : decode cX12_write 242 = .ok (.iload_n 3, 1) := by decide +kernel
theorem dX12_write_243 : decode cX12_write 243 = .ok (.ldc_w 460, 3) := by decide +kernel
theorem dX12_write_246 : decode cX12_write 246 = .ok (.ixor, 1) := by decide +kernel
theorem dX12_write_247 : decode cX12_write 247 = .ok (.istore_n 3, 1) := by decide +kernel
theorem dX12_write_248 : decode cX12_write 248 = .ok (.iinc 5 1, 3) := by decide +kernel
theorem dX12_write_251 : decode cX12_write 251 = .ok (.goto (-27), 3) := by decide +kernel
theorem dX12_write_254 : decode cX12_write 254 = .ok (.iinc 4 1, 3) := by decide +kernel
theorem dX12_write_257 : decode cX12_write 257 = .ok (.goto (-59), 3) := by decide +kernel
theorem dX12_write_260 : decode cX12_write 260 = .ok (.aload_n 0, 1) := by decide +kernel
theorem dX12_write_261 : decode cX12_write 261 = .ok (.iload_n 3, 1) := by decide +kernel
theorem dX12_write_262 : decode cX12_write 262 = .ok (.bipush 8, 2) := by decide +kernel
theorem dX12_write_264 : decode cX12_write 264 = .ok (.ishr, 1) := by decide +kernel
theorem dX12_write_265 : decode cX12_write 265 = .ok (.invokevirtual 450, 3) := by decide +kernel
theorem dX12_write_268 : decode cX12_write 268 = .ok (.aload_n 0, 1) := by decide +kernel
theorem dX12_write_269 : decode cX12_write 269 = .ok (.iload_n 3, 1) := by decide +kernel
theorem dX12_write_270 : decode cX12_write 270 = .ok (.invokevirtual 450, 3) := by decide +kernel
theorem dX12_write_273 : decode cX12_write 273 = .ok (.return_, 1) := by decide +kernel
theorem cd_write : Cond.code yX12_write cX12_write 6 none ∈ lw_g := mt_at 2239 (by decide +kernel) rfl
theorem mw_write : mCw 461 yX12_write cX12_write 6 none 1 := ⟨cd_write, mt_at 2236 (by decide +kernel) rfl, in_M, by decide +kernel⟩
theorem im_write : Cond.instanceMethod yX12_write ∈ lw_g := mt_at 2238 (by decide +kernel) rfl
theorem sl_write : Cond.selects RX12 yX12_write yX12_write ∈ lw_g := mt_sel 97 (by decide +kernel) rfl
section
variable {p : Program} {l : Launch} {e : Env} {R : Room} {s : State} {m : MethodId} {args : Array Value} {below : List Frame} {meth : Method} {c : Code} {cM : ClassId} {iS : Nat → Nat} {cI cZ : ClassId} {mo : Nat} {ad : Nat → Nat} {r : Int32} {S9 : mSt}
noncomputable def fm_write_248 (g_198 : mSt → Int32 → Int32 → Option (mSt)) (g_224 : mSt → Int32 → Int32 → Int32 → Option (mSt)) (S : mSt) (v3 : Int32) (v4 : Int32) (v5 : Int32) : Option (mSt) :=
lt (v5 + (1 : Int32)) fun x1 =>
g_224 S v3 v4 x1
set_option maxRecDepth 100000 in
set_option maxHeartbeats 4000000 in
theorem wm_write_248 (C : mY p R s m args meth c cX12_write 6 3 66 none) (X : mX s cM iS cI cZ mo ad) {g_198 : mSt → Int32 → Int32 → Option (mSt)} {g_224 : mSt → Int32 → Int32 → Int32 → Option (mSt)} (hg_198 : ∀ {S : mSt} {v3 : Int32} {v4 : Int32} {H : Heap} {locs : List Loc} {ls : Array Slot}, g_198 S v3 v4 = some S9 → mW cM iS cI cZ mo ad S H → mS (mA mo ad) s.heap H locs → lv_has ls 6 [(0, .ref mo), (3, .int v3), (4, .int v4)] → W p l e R s m args below meth c H locs 0 0 (MQ below (mQw none cM iS cI cZ mo ad S9) args s 0 0 (mA mo ad)) (F0 m 198 ls [])) (hg_224 : ∀ {S : mSt} {v3 : Int32} {v4 : Int32} {v5 : Int32} {H : Heap} {locs : List Loc} {ls : Array Slot}, g_224 S v3 v4 v5 = some S9 → mW cM iS cI cZ mo ad S H → mS (mA mo ad) s.heap H locs → lv_has ls 6 [(0, .ref mo), (3, .int v3), (4, .int v4), (5, .int v5)] → W p l e R s m args below meth c H locs 0 0 (MQ below (mQw none cM iS cI cZ mo ad S9) args s 0 0 (mA mo ad)) (F0 m 224 ls [])) : ∀ {S : mSt} {v3 : Int32} {v4 : Int32} {v5 : Int32} {H : Heap} {locs : List Loc} {ls : Array Slot}, fm_write_248 g_198 g_224 S v3 v4 v5 = some S9 → mW cM iS cI cZ mo ad S H → mS (mA mo ad) s.heap H locs → lv_has ls 6 [(0, .ref mo), (3, .int v3), (4, .int v4), (5, .int v5)] → W p l e R s m args below meth c H locs 0 0 (MQ below (mQw none cM iS cI cZ mo ad S9) args s 0 0 (mA mo ad)) (F0 m 248 ls []) := by
  intro S v3 v4 v5 H locs ls h hW hS hl
  unfold fm_write_248 at h
  refine lt_ok h (fun x1 e_x1 h => ?_)
  refine lv_iinc (v := x1) (lv' := [(5, .int x1), (0, .ref mo), (3, .int v3), (4, .int v4)]) C.1 C.2.1 dX12_write_248 hl (k := 3) rfl (by rw [← e_x1]; rfl) (by decide) rfl (fun ls hl => ?_)
  refine lv_goto (tgt := 224) C.1 C.2.1 dX12_write_251 (by decide) ?_
  exact hg_224 h hW hS (lv_sub hl [1, 2, 3, 0] rfl)
noncomputable def fm_write_224 (g_198 : mSt → Int32 → Int32 → Option (mSt)) : Nat → mSt → Int32 → Int32 → Int32 → Option (mSt)
  | 0, _, _, _, _ => none
  | n + 1, S, v3, v4, v5 =>
    if (8 : Int32) ≤ v5 then (
    lt (v4 + (1 : Int32)) fun x2 =>
    g_198 S v3 x2)
    else (
    lt ((2 : Int32) * v3) fun x3 =>
    if x3 ≤ (65535 : Int32) then (
    fm_write_248 g_198 (fm_write_224 g_198 n) S x3 v4 v5)
    else (
    lt (x3 ^^^ (69665 : Int32)) fun x5 =>
    fm_write_248 g_198 (fm_write_224 g_198 n) S x5 v4 v5))
set_option maxRecDepth 100000 in
set_option maxHeartbeats 4000000 in
theorem wm_write_224 (C : mY p R s m args meth c cX12_write 6 3 66 none) (X : mX s cM iS cI cZ mo ad) {g_198 : mSt → Int32 → Int32 → Option (mSt)} (hg_198 : ∀ {S : mSt} {v3 : Int32} {v4 : Int32} {H : Heap} {locs : List Loc} {ls : Array Slot}, g_198 S v3 v4 = some S9 → mW cM iS cI cZ mo ad S H → mS (mA mo ad) s.heap H locs → lv_has ls 6 [(0, .ref mo), (3, .int v3), (4, .int v4)] → W p l e R s m args below meth c H locs 0 0 (MQ below (mQw none cM iS cI cZ mo ad S9) args s 0 0 (mA mo ad)) (F0 m 198 ls [])) : ∀ (n : Nat), ∀ {S : mSt} {v3 : Int32} {v4 : Int32} {v5 : Int32} {H : Heap} {locs : List Loc} {ls : Array Slot}, fm_write_224 g_198 n S v3 v4 v5 = some S9 → mW cM iS cI cZ mo ad S H → mS (mA mo ad) s.heap H locs → lv_has ls 6 [(0, .ref mo), (3, .int v3), (4, .int v4), (5, .int v5)] → W p l e R s m args below meth c H locs 0 0 (MQ below (mQw none cM iS cI cZ mo ad S9) args s 0 0 (mA mo ad)) (F0 m 224 ls []) := by
  intro n
  induction n with
  | zero =>
    intro S v3 v4 v5 H locs ls h hW hS hl
    exact absurd (show (none : Option (mSt)) = _ from h) (fun q => by cases q)
  | succ n ih =>
    intro S v3 v4 v5 H locs ls h hW hS hl
    rw [fm_write_224] at h
    refine lv_iload C.1 C.2.1 dX12_write_224 (lv_at hl 3 rfl) ?_
    refine lv_bipush (v := 8) C.1 C.2.1 dX12_write_226 (by decide) ?_
    refine lv_icmp_ge (tgt := 254) C.1 C.2.1 dX12_write_228 (by decide) (fun c1 => ?_) (fun c1 => ?_)
    · have h := if_t h c1
      refine lt_ok h (fun x2 e_x2 h => ?_)
      refine lv_iinc (v := x2) (lv' := [(4, .int x2), (0, .ref mo), (3, .int v3), (5, .int v5)]) C.1 C.2.1 dX12_write_254 hl (k := 2) rfl (by rw [← e_x2]; rfl) (by decide) rfl (fun ls hl => ?_)
      refine lv_goto (tgt := 198) C.1 C.2.1 dX12_write_257 (by decide) ?_
      exact hg_198 h hW hS (lv_sub hl [1, 2, 0] rfl)
    · have h := if_f h c1
      refine lv_iconst (v := 2) C.1 C.2.1 dX12_write_231 (by decide) ?_
      refine lv_iload_n C.1 C.2.1 dX12_write_232 rfl (lv_at hl 1 rfl) ?_
      refine lv_imul C.1 C.2.1 dX12_write_233 ?_
      refine lt_ok h (fun x3 e_x3 h => ?_)
      refine lv_nm e_x3 ?_
      refine lv_istore_n (lv' := [(3, .int x3), (0, .ref mo), (4, .int v4), (5, .int v5)]) C.1 C.2.1 dX12_write_234 rfl hl (by decide) rfl (fun ls hl => ?_)
      refine lv_iload_n C.1 C.2.1 dX12_write_235 rfl (lv_at hl 0 rfl) ?_
      refine lv_ldcw (own := RX12) (v := 65535) C.1 C.2.1 C.2.2.2.1 (C.2.2.2.2.1 _ kc_459) dX12_write_236 ?_
      refine lv_icmp_le (tgt := 248) C.1 C.2.1 dX12_write_239 (by decide) (fun c4 => ?_) (fun c4 => ?_)
      · have h := if_t h c4
        exact wm_write_248 C X hg_198 ih h hW hS (lv_sub hl [1, 0, 2, 3] rfl)
      · have h := if_f h c4
        refine lv_iload_n C.1 C.2.1 dX12_write_242 rfl (lv_at hl 0 rfl) ?_
        refine lv_ldcw (own := RX12) (v := 69665) C.1 C.2.1 C.2.2.2.1 (C.2.2.2.2.1 _ kc_460) dX12_write_243 ?_
        refine lv_ixor C.1 C.2.1 dX12_write_246 ?_
        refine lt_ok h (fun x5 e_x5 h => ?_)
        refine lv_nm e_x5 ?_
        refine lv_istore_n (lv' := [(3, .int x5), (0, .ref mo), (4, .int v4), (5, .int v5)]) C.1 C.2.1 dX12_write_247 rfl hl (by decide) rfl (fun ls hl => ?_)
        exact wm_write_248 C X hg_198 ih h hW hS (lv_sub hl [1, 0, 2, 3] rfl)
noncomputable def fm_write_198 : Nat → mSt → Int32 → Int32 → Option (mSt)
  | 0, _, _, _ => none
  | n + 1, S, v3, v4 =>
    if (S.1 74) ≤ v4 then (
    bd (fm_addOctet S (v3 >>> ((8 : Int32) &&& 31))) fun S2 =>
    bd (fm_addOctet S2 v3) fun S3 =>
    some S3)
    else (
    ck v4 640 (
    lt (v3 ^^^ ((256 : Int32) * (rd S 75 v4))) fun x4 =>
    fm_write_224 (fm_write_198 n) mFU S x4 v4 (0 : Int32)))
set_option maxRecDepth 100000 in
set_option maxHeartbeats 4000000 in
theorem wm_write_198 (C : mY p R s m args meth c cX12_write 6 3 66 none) (X : mX s cM iS cI cZ mo ad) : ∀ (n : Nat), ∀ {S : mSt} {v3 : Int32} {v4 : Int32} {H : Heap} {locs : List Loc} {ls : Array Slot}, fm_write_198 n S v3 v4 = some S9 → mW cM iS cI cZ mo ad S H → mS (mA mo ad) s.heap H locs → lv_has ls 6 [(0, .ref mo), (3, .int v3), (4, .int v4)] → W p l e R s m args below meth c H locs 0 0 (MQ below (mQw none cM iS cI cZ mo ad S9) args s 0 0 (mA mo ad)) (F0 m 198 ls []) := by
  intro n
  induction n with
  | zero =>
    intro S v3 v4 H locs ls h hW hS hl
    exact absurd (show (none : Option (mSt)) = _ from h) (fun q => by cases q)
  | succ n ih =>
    intro S v3 v4 H locs ls h hW hS hl
    rw [fm_write_198] at h
    refine lv_iload C.1 C.2.1 dX12_write_198 (lv_at hl 2 rfl) ?_
    refine lv_aload_n C.1 C.2.1 dX12_write_200 rfl (lv_at hl 0 rfl) ?_
    refine gf_74 C X hW dX12_write_201 ?_
    refine lv_icmp_ge (tgt := 260) C.1 C.2.1 dX12_write_204 (by decide) (fun c1 => ?_) (fun c1 => ?_)
    · have h := if_t h c1
      refine lv_aload_n C.1 C.2.1 dX12_write_260 rfl (lv_at hl 0 rfl) ?_
      refine lv_iload_n C.1 C.2.1 dX12_write_261 rfl (lv_at hl 1 rfl) ?_
      refine lv_bipush (v := 8) C.1 C.2.1 dX12_write_262 (by decide) ?_
      refine lv_ishr C.1 C.2.1 dX12_write_264 ?_
      obtain ⟨S2, h_S2, h⟩ := bd_ok h
      refine m_callW (rest := []) (ov := none) C X hW hS hl.1 [.int (v3 >>> ((8 : Int32) &&& 31))] (tm_addOctet l h_S2) mw_addOctet im_addOctet sl_addOctet rfl ⟨by decide, by decide⟩ rfl (Nat.le_of_ble_eq_true rfl) dX12_write_265 (fun H locs hW hS => ?_)
      refine W.eq (g2 := F0 m 268 ls []) rfl ?_
      refine lv_aload_n C.1 C.2.1 dX12_write_268 rfl (lv_at hl 0 rfl) ?_
      refine lv_iload_n C.1 C.2.1 dX12_write_269 rfl (lv_at hl 1 rfl) ?_
      obtain ⟨S3, h_S3, h⟩ := bd_ok h
      refine m_callW (rest := []) (ov := none) C X hW hS hl.1 [.int v3] (tm_addOctet l h_S3) mw_addOctet im_addOctet sl_addOctet rfl ⟨by decide, by decide⟩ rfl (Nat.le_of_ble_eq_true rfl) dX12_write_270 (fun H locs hW hS => ?_)
      refine W.eq (g2 := F0 m 273 ls []) rfl ?_
      cases h
      exact m_retvW C hW hS dX12_write_273
    · have h := if_f h c1
      refine lv_iload_n C.1 C.2.1 dX12_write_207 rfl (lv_at hl 1 rfl) ?_
      refine lv_sipush (v := 256) C.1 C.2.1 dX12_write_208 (by decide) ?_
      refine lv_aload_n C.1 C.2.1 dX12_write_211 rfl (lv_at hl 0 rfl) ?_
      refine gf_75 C X hW dX12_write_212 ?_
      refine lv_iload C.1 C.2.1 dX12_write_215 (lv_at hl 2 rfl) ?_
      obtain ⟨hin, h⟩ := ck_ok h
      refine l_75 C X hW hin dX12_write_217 ?_
      refine lv_imul C.1 C.2.1 dX12_write_218 ?_
      refine lv_ixor C.1 C.2.1 dX12_write_219 ?_
      refine lt_ok h (fun x4 e_x4 h => ?_)
      refine lv_nm e_x4 ?_
      refine lv_istore_n (lv' := [(3, .int x4), (0, .ref mo), (4, .int v4)]) C.1 C.2.1 dX12_write_220 rfl hl (by decide) rfl (fun ls hl => ?_)
      refine lv_iconst (v := 0) C.1 C.2.1 dX12_write_221 (by decide) ?_
      refine lv_istore (lv' := [(5, .int (0 : Int32)), (3, .int x4), (0, .ref mo), (4, .int v4)]) C.1 C.2.1 dX12_write_222 hl (by decide) rfl (fun ls hl => ?_)
      exact wm_write_224 C X ih mFU h hW hS (lv_sub hl [2, 1, 3, 0] rfl)
noncomputable def fm_write_158 : Nat → mSt → Int32 → Int32 → Option (mSt)
  | 0, _, _, _ => none
  | n + 1, S, v2, v3 =>
    ck (v2 + (3 : Int32)) 38400 (
    if (rd S 46 (v2 + (3 : Int32))) ≤ v3 then (
    fm_write_198 mFU S (65535 : Int32) (0 : Int32))
    else (
    ck ((v2 + (8 : Int32)) + v3) 38400 (
    bd (fm_writeRow S (rd S 46 ((v2 + (8 : Int32)) + v3))) fun S2 =>
    lt (v3 + (1 : Int32)) fun x3 =>
    fm_write_158 n S2 v2 x3)))
set_option maxRecDepth 100000 in
set_option maxHeartbeats 4000000 in
theorem wm_write_158 (C : mY p R s m args meth c cX12_write 6 3 66 none) (X : mX s cM iS cI cZ mo ad) : ∀ (n : Nat), ∀ {S : mSt} {v2 : Int32} {v3 : Int32} {H : Heap} {locs : List Loc} {ls : Array Slot}, fm_write_158 n S v2 v3 = some S9 → mW cM iS cI cZ mo ad S H → mS (mA mo ad) s.heap H locs → lv_has ls 6 [(0, .ref mo), (2, .int v2), (3, .int v3)] → W p l e R s m args below meth c H locs 0 0 (MQ below (mQw none cM iS cI cZ mo ad S9) args s 0 0 (mA mo ad)) (F0 m 158 ls []) := by
  intro n
  induction n with
  | zero =>
    intro S v2 v3 H locs ls h hW hS hl
    exact absurd (show (none : Option (mSt)) = _ from h) (fun q => by cases q)
  | succ n ih =>
    intro S v2 v3 H locs ls h hW hS hl
    rw [fm_write_158] at h
    refine lv_iload_n C.1 C.2.1 dX12_write_158 rfl (lv_at hl 2 rfl) ?_
    refine lv_aload_n C.1 C.2.1 dX12_write_159 rfl (lv_at hl 0 rfl) ?_
    refine gf_46 C X hW dX12_write_160 ?_
    refine lv_iload_n C.1 C.2.1 dX12_write_163 rfl (lv_at hl 1 rfl) ?_
    refine lv_iconst (v := 3) C.1 C.2.1 dX12_write_164 (by decide) ?_
    refine lv_iadd C.1 C.2.1 dX12_write_165 ?_
    obtain ⟨hin, h⟩ := ck_ok h
    refine l_46 C X hW hin dX12_write_166 ?_
    refine lv_icmp_ge (tgt := 191) C.1 C.2.1 dX12_write_167 (by decide) (fun c1 => ?_) (fun c1 => ?_)
    · have h := if_t h c1
      refine lv_ldcw (own := RX12) (v := 65535) C.1 C.2.1 C.2.2.2.1 (C.2.2.2.2.1 _ kc_459) dX12_write_191 ?_
      refine lv_istore_n (lv' := [(3, .int (65535 : Int32)), (0, .ref mo), (2, .int v2)]) C.1 C.2.1 dX12_write_194 rfl hl (by decide) rfl (fun ls hl => ?_)
      refine lv_iconst (v := 0) C.1 C.2.1 dX12_write_195 (by decide) ?_
      refine lv_istore (lv' := [(4, .int (0 : Int32)), (3, .int (65535 : Int32)), (0, .ref mo), (2, .int v2)]) C.1 C.2.1 dX12_write_196 hl (by decide) rfl (fun ls hl => ?_)
      exact wm_write_198 C X mFU h hW hS (lv_sub hl [2, 1, 0] rfl)
    · have h := if_f h c1
      refine lv_aload_n C.1 C.2.1 dX12_write_170 rfl (lv_at hl 0 rfl) ?_
      refine lv_aload_n C.1 C.2.1 dX12_write_171 rfl (lv_at hl 0 rfl) ?_
      refine gf_46 C X hW dX12_write_172 ?_
      refine lv_iload_n C.1 C.2.1 dX12_write_175 rfl (lv_at hl 1 rfl) ?_
      refine lv_bipush (v := 8) C.1 C.2.1 dX12_write_176 (by decide) ?_
      refine lv_iadd C.1 C.2.1 dX12_write_178 ?_
      refine lv_iload_n C.1 C.2.1 dX12_write_179 rfl (lv_at hl 2 rfl) ?_
      refine lv_iadd C.1 C.2.1 dX12_write_180 ?_
      obtain ⟨hin, h⟩ := ck_ok h
      refine l_46 C X hW hin dX12_write_181 ?_
      obtain ⟨S2, h_S2, h⟩ := bd_ok h
      refine m_callW (rest := []) (ov := none) C X hW hS hl.1 [.int (rd S 46 ((v2 + (8 : Int32)) + v3))] (tm_writeRow l h_S2) mw_writeRow im_writeRow sl_writeRow rfl ⟨by decide, by decide⟩ rfl (Nat.le_of_ble_eq_true rfl) dX12_write_182 (fun H locs hW hS => ?_)
      refine W.eq (g2 := F0 m 185 ls []) rfl ?_
      refine lt_ok h (fun x3 e_x3 h => ?_)
      refine lv_iinc (v := x3) (lv' := [(3, .int x3), (0, .ref mo), (2, .int v2)]) C.1 C.2.1 dX12_write_185 hl (k := 2) rfl (by rw [← e_x3]; rfl) (by decide) rfl (fun ls hl => ?_)
      refine lv_goto (tgt := 158) C.1 C.2.1 dX12_write_188 (by decide) ?_
      exact ih h hW hS (lv_sub hl [1, 2, 0] rfl)
noncomputable def fm_write_138 (g_73 : mSt → Int32 → Int32 → Option (mSt)) (S : mSt) (v2 : Int32) (v3 : Int32) : Option (mSt) :=
lt (v3 + (1 : Int32)) fun x1 =>
g_73 S v2 x1
set_option maxRecDepth 100000 in
set_option maxHeartbeats 4000000 in
theorem wm_write_138 (C : mY p R s m args meth c cX12_write 6 3 66 none) (X : mX s cM iS cI cZ mo ad) {g_73 : mSt → Int32 → Int32 → Option (mSt)} (hg_73 : ∀ {S : mSt} {v2 : Int32} {v3 : Int32} {H : Heap} {locs : List Loc} {ls : Array Slot}, g_73 S v2 v3 = some S9 → mW cM iS cI cZ mo ad S H → mS (mA mo ad) s.heap H locs → lv_has ls 6 [(0, .ref mo), (2, .int v2), (3, .int v3)] → W p l e R s m args below meth c H locs 0 0 (MQ below (mQw none cM iS cI cZ mo ad S9) args s 0 0 (mA mo ad)) (F0 m 73 ls [])) : ∀ {S : mSt} {v2 : Int32} {v3 : Int32} {H : Heap} {locs : List Loc} {ls : Array Slot}, fm_write_138 g_73 S v2 v3 = some S9 → mW cM iS cI cZ mo ad S H → mS (mA mo ad) s.heap H locs → lv_has ls 6 [(0, .ref mo), (2, .int v2), (3, .int v3)] → W p l e R s m args below meth c H locs 0 0 (MQ below (mQw none cM iS cI cZ mo ad S9) args s 0 0 (mA mo ad)) (F0 m 138 ls []) := by
  intro S v2 v3 H locs ls h hW hS hl
  unfold fm_write_138 at h
  refine lt_ok h (fun x1 e_x1 h => ?_)
  refine lv_iinc (v := x1) (lv' := [(3, .int x1), (0, .ref mo), (2, .int v2)]) C.1 C.2.1 dX12_write_138 hl (k := 2) rfl (by rw [← e_x1]; rfl) (by decide) rfl (fun ls hl => ?_)
  refine lv_goto (tgt := 73) C.1 C.2.1 dX12_write_141 (by decide) ?_
  exact hg_73 h hW hS (lv_sub hl [1, 2, 0] rfl)
noncomputable def fm_write_102 (g_73 : mSt → Int32 → Int32 → Option (mSt)) : Nat → mSt → Int32 → Int32 → Int32 → Int32 → Option (mSt)
  | 0, _, _, _, _, _ => none
  | n + 1, S, v2, v3, v4, v5 =>
    if (4 : Int32) ≤ v5 then (
    fm_write_138 g_73 S v2 v3)
    else (
    ck v4 38400 (
    if (rd S 46 v4) = 0 then (
    fm_write_138 g_73 S v2 v3)
    else (
    ck (v4 + v5) 38400 (
    bd (fm_number S (rd S 46 (v4 + v5))) fun S3 =>
    lt (v5 + (1 : Int32)) fun x4 =>
    fm_write_102 g_73 n S3 v2 v3 v4 x4))))
set_option maxRecDepth 100000 in
set_option maxHeartbeats 4000000 in
theorem wm_write_102 (C : mY p R s m args meth c cX12_write 6 3 66 none) (X : mX s cM iS cI cZ mo ad) {g_73 : mSt → Int32 → Int32 → Option (mSt)} (hg_73 : ∀ {S : mSt} {v2 : Int32} {v3 : Int32} {H : Heap} {locs : List Loc} {ls : Array Slot}, g_73 S v2 v3 = some S9 → mW cM iS cI cZ mo ad S H → mS (mA mo ad) s.heap H locs → lv_has ls 6 [(0, .ref mo), (2, .int v2), (3, .int v3)] → W p l e R s m args below meth c H locs 0 0 (MQ below (mQw none cM iS cI cZ mo ad S9) args s 0 0 (mA mo ad)) (F0 m 73 ls [])) : ∀ (n : Nat), ∀ {S : mSt} {v2 : Int32} {v3 : Int32} {v4 : Int32} {v5 : Int32} {H : Heap} {locs : List Loc} {ls : Array Slot}, fm_write_102 g_73 n S v2 v3 v4 v5 = some S9 → mW cM iS cI cZ mo ad S H → mS (mA mo ad) s.heap H locs → lv_has ls 6 [(0, .ref mo), (2, .int v2), (3, .int v3), (4, .int v4), (5, .int v5)] → W p l e R s m args below meth c H locs 0 0 (MQ below (mQw none cM iS cI cZ mo ad S9) args s 0 0 (mA mo ad)) (F0 m 102 ls []) := by
  intro n
  induction n with
  | zero =>
    intro S v2 v3 v4 v5 H locs ls h hW hS hl
    exact absurd (show (none : Option (mSt)) = _ from h) (fun q => by cases q)
  | succ n ih =>
    intro S v2 v3 v4 v5 H locs ls h hW hS hl
    rw [fm_write_102] at h
    refine lv_iload C.1 C.2.1 dX12_write_102 (lv_at hl 4 rfl) ?_
    refine lv_iconst (v := 4) C.1 C.2.1 dX12_write_104 (by decide) ?_
    refine lv_icmp_ge (tgt := 138) C.1 C.2.1 dX12_write_105 (by decide) (fun c1 => ?_) (fun c1 => ?_)
    · have h := if_t h c1
      exact wm_write_138 C X hg_73 h hW hS (lv_sub hl [0, 1, 2] rfl)
    · have h := if_f h c1
      refine lv_aload_n C.1 C.2.1 dX12_write_108 rfl (lv_at hl 0 rfl) ?_
      refine gf_46 C X hW dX12_write_109 ?_
      refine lv_iload C.1 C.2.1 dX12_write_112 (lv_at hl 3 rfl) ?_
      obtain ⟨hin, h⟩ := ck_ok h
      refine l_46 C X hW hin dX12_write_114 ?_
      refine lv_if_eq (tgt := 138) C.1 C.2.1 dX12_write_115 (by decide) (fun c2 => ?_) (fun c2 => ?_)
      · have h := if_t h c2
        exact wm_write_138 C X hg_73 h hW hS (lv_sub hl [0, 1, 2] rfl)
      · have h := if_f h c2
        refine lv_aload_n C.1 C.2.1 dX12_write_118 rfl (lv_at hl 0 rfl) ?_
        refine lv_aload_n C.1 C.2.1 dX12_write_119 rfl (lv_at hl 0 rfl) ?_
        refine gf_46 C X hW dX12_write_120 ?_
        refine lv_iload C.1 C.2.1 dX12_write_123 (lv_at hl 3 rfl) ?_
        refine lv_iload C.1 C.2.1 dX12_write_125 (lv_at hl 4 rfl) ?_
        refine lv_iadd C.1 C.2.1 dX12_write_127 ?_
        obtain ⟨hin, h⟩ := ck_ok h
        refine l_46 C X hW hin dX12_write_128 ?_
        obtain ⟨S3, h_S3, h⟩ := bd_ok h
        refine m_callW (rest := []) (ov := none) C X hW hS hl.1 [.int (rd S 46 (v4 + v5))] (tm_number l h_S3) mw_number im_number sl_number rfl ⟨by decide, by decide⟩ rfl (Nat.le_of_ble_eq_true rfl) dX12_write_129 (fun H locs hW hS => ?_)
        refine W.eq (g2 := F0 m 132 ls []) rfl ?_
        refine lt_ok h (fun x4 e_x4 h => ?_)
        refine lv_iinc (v := x4) (lv' := [(5, .int x4), (0, .ref mo), (2, .int v2), (3, .int v3), (4, .int v4)]) C.1 C.2.1 dX12_write_132 hl (k := 4) rfl (by rw [← e_x4]; rfl) (by decide) rfl (fun ls hl => ?_)
        refine lv_goto (tgt := 102) C.1 C.2.1 dX12_write_135 (by decide) ?_
        exact ih h hW hS (lv_sub hl [1, 2, 3, 4, 0] rfl)
noncomputable def fm_write_73 : Nat → mSt → Int32 → Int32 → Option (mSt)
  | 0, _, _, _ => none
  | n + 1, S, v2, v3 =>
    if (4 : Int32) ≤ v3 then (
    ck (v2 + (3 : Int32)) 38400 (
    bd (fm_number S (rd S 46 (v2 + (3 : Int32)))) fun S2 =>
    fm_write_158 mFU S2 v2 (0 : Int32)))
    else (
    lt ((v2 + (16 : Int32)) + ((4 : Int32) * v3)) fun x3 =>
    ck x3 38400 (
    bd (fm_number S (rd S 46 x3)) fun S4 =>
    fm_write_102 (fm_write_73 n) mFU S4 v2 v3 x3 (1 : Int32)))
set_option maxRecDepth 100000 in
set_option maxHeartbeats 4000000 in
theorem wm_write_73 (C : mY p R s m args meth c cX12_write 6 3 66 none) (X : mX s cM iS cI cZ mo ad) : ∀ (n : Nat), ∀ {S : mSt} {v2 : Int32} {v3 : Int32} {H : Heap} {locs : List Loc} {ls : Array Slot}, fm_write_73 n S v2 v3 = some S9 → mW cM iS cI cZ mo ad S H → mS (mA mo ad) s.heap H locs → lv_has ls 6 [(0, .ref mo), (2, .int v2), (3, .int v3)] → W p l e R s m args below meth c H locs 0 0 (MQ below (mQw none cM iS cI cZ mo ad S9) args s 0 0 (mA mo ad)) (F0 m 73 ls []) := by
  intro n
  induction n with
  | zero =>
    intro S v2 v3 H locs ls h hW hS hl
    exact absurd (show (none : Option (mSt)) = _ from h) (fun q => by cases q)
  | succ n ih =>
    intro S v2 v3 H locs ls h hW hS hl
    rw [fm_write_73] at h
    refine lv_iload_n C.1 C.2.1 dX12_write_73 rfl (lv_at hl 2 rfl) ?_
    refine lv_iconst (v := 4) C.1 C.2.1 dX12_write_74 (by decide) ?_
    refine lv_icmp_ge (tgt := 144) C.1 C.2.1 dX12_write_75 (by decide) (fun c1 => ?_) (fun c1 => ?_)
    · have h := if_t h c1
      refine lv_aload_n C.1 C.2.1 dX12_write_144 rfl (lv_at hl 0 rfl) ?_
      refine lv_aload_n C.1 C.2.1 dX12_write_145 rfl (lv_at hl 0 rfl) ?_
      refine gf_46 C X hW dX12_write_146 ?_
      refine lv_iload_n C.1 C.2.1 dX12_write_149 rfl (lv_at hl 1 rfl) ?_
      refine lv_iconst (v := 3) C.1 C.2.1 dX12_write_150 (by decide) ?_
      refine lv_iadd C.1 C.2.1 dX12_write_151 ?_
      obtain ⟨hin, h⟩ := ck_ok h
      refine l_46 C X hW hin dX12_write_152 ?_
      obtain ⟨S2, h_S2, h⟩ := bd_ok h
      refine m_callW (rest := []) (ov := none) C X hW hS hl.1 [.int (rd S 46 (v2 + (3 : Int32)))] (tm_number l h_S2) mw_number im_number sl_number rfl ⟨by decide, by decide⟩ rfl (Nat.le_of_ble_eq_true rfl) dX12_write_153 (fun H locs hW hS => ?_)
      refine W.eq (g2 := F0 m 156 ls []) rfl ?_
      refine lv_iconst (v := 0) C.1 C.2.1 dX12_write_156 (by decide) ?_
      refine lv_istore_n (lv' := [(3, .int (0 : Int32)), (0, .ref mo), (2, .int v2)]) C.1 C.2.1 dX12_write_157 rfl hl (by decide) rfl (fun ls hl => ?_)
      exact wm_write_158 C X mFU h hW hS (lv_sub hl [1, 2, 0] rfl)
    · have h := if_f h c1
      refine lv_iload_n C.1 C.2.1 dX12_write_78 rfl (lv_at hl 1 rfl) ?_
      refine lv_bipush (v := 16) C.1 C.2.1 dX12_write_79 (by decide) ?_
      refine lv_iadd C.1 C.2.1 dX12_write_81 ?_
      refine lv_iconst (v := 4) C.1 C.2.1 dX12_write_82 (by decide) ?_
      refine lv_iload_n C.1 C.2.1 dX12_write_83 rfl (lv_at hl 2 rfl) ?_
      refine lv_imul C.1 C.2.1 dX12_write_84 ?_
      refine lv_iadd C.1 C.2.1 dX12_write_85 ?_
      refine lt_ok h (fun x3 e_x3 h => ?_)
      refine lv_nm e_x3 ?_
      refine lv_istore (lv' := [(4, .int x3), (0, .ref mo), (2, .int v2), (3, .int v3)]) C.1 C.2.1 dX12_write_86 hl (by decide) rfl (fun ls hl => ?_)
      refine lv_aload_n C.1 C.2.1 dX12_write_88 rfl (lv_at hl 1 rfl) ?_
      refine lv_aload_n C.1 C.2.1 dX12_write_89 rfl (lv_at hl 1 rfl) ?_
      refine gf_46 C X hW dX12_write_90 ?_
      refine lv_iload C.1 C.2.1 dX12_write_93 (lv_at hl 0 rfl) ?_
      obtain ⟨hin, h⟩ := ck_ok h
      refine l_46 C X hW hin dX12_write_95 ?_
      obtain ⟨S4, h_S4, h⟩ := bd_ok h
      refine m_callW (rest := []) (ov := none) C X hW hS hl.1 [.int (rd S 46 x3)] (tm_number l h_S4) mw_number im_number sl_number rfl ⟨by decide, by decide⟩ rfl (Nat.le_of_ble_eq_true rfl) dX12_write_96 (fun H locs hW hS => ?_)
      refine W.eq (g2 := F0 m 99 ls []) rfl ?_
      refine lv_iconst (v := 1) C.1 C.2.1 dX12_write_99 (by decide) ?_
      refine lv_istore (lv' := [(5, .int (1 : Int32)), (4, .int x3), (0, .ref mo), (2, .int v2), (3, .int v3)]) C.1 C.2.1 dX12_write_100 hl (by decide) rfl (fun ls hl => ?_)
      exact wm_write_102 C X ih mFU h hW hS (lv_sub hl [2, 3, 4, 1, 0] rfl)
noncomputable def fm_write_46 : Nat → mSt → Int32 → Int32 → Option (mSt)
  | 0, _, _, _ => none
  | n + 1, S, v2, v3 =>
    if (4 : Int32) ≤ v3 then (
    fm_write_73 mFU S v2 (0 : Int32))
    else (
    ck ((v2 + (4 : Int32)) + v3) 38400 (
    bd (fm_number S (rd S 46 ((v2 + (4 : Int32)) + v3))) fun S2 =>
    lt (v3 + (1 : Int32)) fun x3 =>
    fm_write_46 n S2 v2 x3))
set_option maxRecDepth 100000 in
set_option maxHeartbeats 4000000 in
theorem wm_write_46 (C : mY p R s m args meth c cX12_write 6 3 66 none) (X : mX s cM iS cI cZ mo ad) : ∀ (n : Nat), ∀ {S : mSt} {v2 : Int32} {v3 : Int32} {H : Heap} {locs : List Loc} {ls : Array Slot}, fm_write_46 n S v2 v3 = some S9 → mW cM iS cI cZ mo ad S H → mS (mA mo ad) s.heap H locs → lv_has ls 6 [(0, .ref mo), (2, .int v2), (3, .int v3)] → W p l e R s m args below meth c H locs 0 0 (MQ below (mQw none cM iS cI cZ mo ad S9) args s 0 0 (mA mo ad)) (F0 m 46 ls []) := by
  intro n
  induction n with
  | zero =>
    intro S v2 v3 H locs ls h hW hS hl
    exact absurd (show (none : Option (mSt)) = _ from h) (fun q => by cases q)
  | succ n ih =>
    intro S v2 v3 H locs ls h hW hS hl
    rw [fm_write_46] at h
    refine lv_iload_n C.1 C.2.1 dX12_write_46 rfl (lv_at hl 2 rfl) ?_
    refine lv_iconst (v := 4) C.1 C.2.1 dX12_write_47 (by decide) ?_
    refine lv_icmp_ge (tgt := 71) C.1 C.2.1 dX12_write_48 (by decide) (fun c1 => ?_) (fun c1 => ?_)
    · have h := if_t h c1
      refine lv_iconst (v := 0) C.1 C.2.1 dX12_write_71 (by decide) ?_
      refine lv_istore_n (lv' := [(3, .int (0 : Int32)), (0, .ref mo), (2, .int v2)]) C.1 C.2.1 dX12_write_72 rfl hl (by decide) rfl (fun ls hl => ?_)
      exact wm_write_73 C X mFU h hW hS (lv_sub hl [1, 2, 0] rfl)
    · have h := if_f h c1
      refine lv_aload_n C.1 C.2.1 dX12_write_51 rfl (lv_at hl 0 rfl) ?_
      refine lv_aload_n C.1 C.2.1 dX12_write_52 rfl (lv_at hl 0 rfl) ?_
      refine gf_46 C X hW dX12_write_53 ?_
      refine lv_iload_n C.1 C.2.1 dX12_write_56 rfl (lv_at hl 1 rfl) ?_
      refine lv_iconst (v := 4) C.1 C.2.1 dX12_write_57 (by decide) ?_
      refine lv_iadd C.1 C.2.1 dX12_write_58 ?_
      refine lv_iload_n C.1 C.2.1 dX12_write_59 rfl (lv_at hl 2 rfl) ?_
      refine lv_iadd C.1 C.2.1 dX12_write_60 ?_
      obtain ⟨hin, h⟩ := ck_ok h
      refine l_46 C X hW hin dX12_write_61 ?_
      obtain ⟨S2, h_S2, h⟩ := bd_ok h
      refine m_callW (rest := []) (ov := none) C X hW hS hl.1 [.int (rd S 46 ((v2 + (4 : Int32)) + v3))] (tm_number l h_S2) mw_number im_number sl_number rfl ⟨by decide, by decide⟩ rfl (Nat.le_of_ble_eq_true rfl) dX12_write_62 (fun H locs hW hS => ?_)
      refine W.eq (g2 := F0 m 65 ls []) rfl ?_
      refine lt_ok h (fun x3 e_x3 h => ?_)
      refine lv_iinc (v := x3) (lv' := [(3, .int x3), (0, .ref mo), (2, .int v2)]) C.1 C.2.1 dX12_write_65 hl (k := 2) rfl (by rw [← e_x3]; rfl) (by decide) rfl (fun ls hl => ?_)
      refine lv_goto (tgt := 46) C.1 C.2.1 dX12_write_68 (by decide) ?_
      exact ih h hW hS (lv_sub hl [1, 2, 0] rfl)
noncomputable def fm_write (S : mSt) (v1 : Int32) : Option (mSt) :=
lt ((640 : Int32) * v1) fun x1 =>
lt (pu S 74 (0 : Int32)) fun S2 =>
ck x1 38400 (
ck (x1 + (1 : Int32)) 38400 (
ck (x1 + (2 : Int32)) 38400 (
bd (fm_addOctet S2 (((rd S2 46 x1) + ((4 : Int32) * (rd S2 46 (x1 + (1 : Int32))))) + ((16 : Int32) * (rd S2 46 (x1 + (2 : Int32)))))) fun S3 =>
fm_write_46 mFU S3 x1 (0 : Int32))))
set_option maxRecDepth 100000 in
set_option maxHeartbeats 4000000 in
theorem tm_write (l : Launch) {cM : ClassId} {iS : Nat → Nat} {cI cZ : ClassId} {mo : Nat} {ad : Nat → Nat} {S : mSt} {v1 : Int32} {S9 : mSt} (h : fm_write S v1 = some S9) : Met l yX12_write (Cond.code yX12_write cX12_write 6 none :: lw_g) { frames := 3, cells := 0, slots := 0, locals := 66 } (mPi [.int v1] cM iS cI cZ mo ad S) (mQw none cM iS cI cZ mo ad S9) 0 0 (mA mo ad) := by
  refine Met.ofW (cc := cX12_write) (maxL := 6) (ret := none) (by decide) rfl ?_
  intro p e s m args below meth c s₁ B hml hv
  obtain ⟨rfl, hW, X⟩ := hv
  have C : mY p (headSpec (Cond.code yX12_write cX12_write 6 none :: lw_g) { frames := 3, cells := 0, slots := 0, locals := 66 }).room s m _ meth c cX12_write 6 3 66 none := ⟨B.exec, B.bytes, hml, findClass_of_methodNamed B.named, fun w hw => atoms_spec (ws := Cond.code yX12_write cX12_write 6 none :: lw_g) B.pre w (List.mem_cons_of_mem _ hw), ⟨Nat.le_refl _, Nat.le_refl _⟩, B.returns, B.notSynchronized⟩
  have hl := lv_entry ([.ref mo, .int v1]) (n := 6) (Nat.le_of_ble_eq_true rfl)
  rw [lg_entry_eq]
  generalize (lg_sl ([.ref mo, .int v1]) ++ List.replicate (6 - (lg_sl ([.ref mo, .int v1])).length) Slot.unset).toArray = ls at hl ⊢
  have hl : lv_has ls 6 [(0, .ref mo), (1, .int v1)] := hl
  have hS : mS (mA mo ad) s.heap s.heap [] := mS.rf
  unfold fm_write at h
  refine lv_sipush (v := 640) C.1 C.2.1 dX12_write_0 (by decide) ?_
  refine lv_iload_n C.1 C.2.1 dX12_write_3 rfl (lv_at hl 1 rfl) ?_
  refine lv_imul C.1 C.2.1 dX12_write_4 ?_
  refine lt_ok h (fun x1 e_x1 h => ?_)
  refine lv_nm e_x1 ?_
  refine lv_istore_n (lv' := [(2, .int x1), (0, .ref mo), (1, .int v1)]) C.1 C.2.1 dX12_write_5 rfl hl (by decide) rfl (fun ls hl => ?_)
  refine lv_aload_n C.1 C.2.1 dX12_write_6 rfl (lv_at hl 1 rfl) ?_
  refine lv_iconst (v := 0) C.1 C.2.1 dX12_write_7 (by decide) ?_
  refine p_74 C X hW hS dX12_write_8 (fun H locs hW hS => ?_)
  refine lt_ok h (fun S2 e_S2 h => ?_)
  rw [e_S2] at hW
  refine lv_aload_n C.1 C.2.1 dX12_write_11 rfl (lv_at hl 1 rfl) ?_
  refine lv_aload_n C.1 C.2.1 dX12_write_12 rfl (lv_at hl 1 rfl) ?_
  refine gf_46 C X hW dX12_write_13 ?_
  refine lv_iload_n C.1 C.2.1 dX12_write_16 rfl (lv_at hl 0 rfl) ?_
  obtain ⟨hin, h⟩ := ck_ok h
  refine l_46 C X hW hin dX12_write_17 ?_
  refine lv_iconst (v := 4) C.1 C.2.1 dX12_write_18 (by decide) ?_
  refine lv_aload_n C.1 C.2.1 dX12_write_19 rfl (lv_at hl 1 rfl) ?_
  refine gf_46 C X hW dX12_write_20 ?_
  refine lv_iload_n C.1 C.2.1 dX12_write_23 rfl (lv_at hl 0 rfl) ?_
  refine lv_iconst (v := 1) C.1 C.2.1 dX12_write_24 (by decide) ?_
  refine lv_iadd C.1 C.2.1 dX12_write_25 ?_
  obtain ⟨hin, h⟩ := ck_ok h
  refine l_46 C X hW hin dX12_write_26 ?_
  refine lv_imul C.1 C.2.1 dX12_write_27 ?_
  refine lv_iadd C.1 C.2.1 dX12_write_28 ?_
  refine lv_bipush (v := 16) C.1 C.2.1 dX12_write_29 (by decide) ?_
  refine lv_aload_n C.1 C.2.1 dX12_write_31 rfl (lv_at hl 1 rfl) ?_
  refine gf_46 C X hW dX12_write_32 ?_
  refine lv_iload_n C.1 C.2.1 dX12_write_35 rfl (lv_at hl 0 rfl) ?_
  refine lv_iconst (v := 2) C.1 C.2.1 dX12_write_36 (by decide) ?_
  refine lv_iadd C.1 C.2.1 dX12_write_37 ?_
  obtain ⟨hin, h⟩ := ck_ok h
  refine l_46 C X hW hin dX12_write_38 ?_
  refine lv_imul C.1 C.2.1 dX12_write_39 ?_
  refine lv_iadd C.1 C.2.1 dX12_write_40 ?_
  obtain ⟨S3, h_S3, h⟩ := bd_ok h
  refine m_callW (rest := []) (ov := none) C X hW hS hl.1 [.int (((rd S2 46 x1) + ((4 : Int32) * (rd S2 46 (x1 + (1 : Int32))))) + ((16 : Int32) * (rd S2 46 (x1 + (2 : Int32)))))] (tm_addOctet l h_S3) mw_addOctet im_addOctet sl_addOctet rfl ⟨by decide, by decide⟩ rfl (Nat.le_of_ble_eq_true rfl) dX12_write_41 (fun H locs hW hS => ?_)
  refine W.eq (g2 := F0 m 44 ls []) rfl ?_
  refine lv_iconst (v := 0) C.1 C.2.1 dX12_write_44 (by decide) ?_
  refine lv_istore_n (lv' := [(3, .int (0 : Int32)), (2, .int x1), (0, .ref mo), (1, .int v1)]) C.1 C.2.1 dX12_write_45 rfl hl (by decide) rfl (fun ls hl => ?_)
  exact wm_write_46 C X mFU h hW hS (lv_sub hl [2, 1, 0] rfl)
end
theorem dX12_octet_0 : decode cX12_octet 0 = .ok (.aload_n 0, 1) := by decide +kernel
theorem dX12_octet_1 : decode cX12_octet 1 = .ok (.iconst 0, 1) := by decide +kernel
theorem dX12_octet_2 : decode cX12_octet 2 = .ok (.putfield 200, 3) := by decide +kernel
theorem dX12_octet_5 : decode cX12_octet 5 = .ok (.iload_n 1, 1) := by decide +kernel
theorem dX12_octet_6 : decode cX12_octet 6 = .ok (.iconst 0, 1) := by decide +kernel
theorem dX12_octet_7 : decode cX12_octet 7 = .ok (.aload_n 0, 1) := by decide +kernel
theorem dX12_octet_8 : decode cX12_octet 8 = .ok (.getfield 428, 3) := by decide +kernel
theorem dX12_octet_11 : decode cX12_octet 11 = .ok (.iconst 1, 1) := by decide +kernel
theorem dX12_octet_12 : decode cX12_octet 12 = .ok (.isub, 1) := by decide +kernel
theorem dX12_octet_13 : decode cX12_octet 13 = .ok (.invokestatic 215, 3) := by decide +kernel
theorem dX12_octet_16 : decode cX12_octet 16 = .ok (.ifCond .ne 5, 3) := by decide +kernel
theorem dX12_octet_19 : decode cX12_octet 19 = .ok (.iconst (-1), 1) := by decide +kernel
theorem dX12_octet_20 : decode cX12_octet 20 = .ok (.ireturn, 1) := by decide +kernel
theorem dX12_octet_21 : decode cX12_octet 21 = .ok (.aload_n 0, 1) := by decide +kernel
theorem dX12_octet_22 : decode cX12_octet 22 = .ok (.iload_n 1, 1) := by decide +kernel
theorem dX12_octet_23 : decode cX12_octet 23 = .ok (.invokevirtual 461, 3) := by decide +kernel
theorem dX12_octet_26 : decode cX12_octet 26 = .ok (.iload_n 2, 1) := by decide +kernel
theorem dX12_octet_27 : decode cX12_octet 27 = .ok (.iconst (-1), 1) := by decide +kernel
theorem dX12_octet_28 : decode cX12_octet 28 = .ok (.if_icmp .ne 8, 3) := by decide +kernel
theorem dX12_octet_31 : decode cX12_octet 31 = .ok (.aload_n 0, 1) := by decide +kernel
theorem dX12_octet_32 : decode cX12_octet 32 = .ok (.getfield 441, 3) := by decide +kernel
theorem dX12_octet_35 : decode cX12_octet 35 = .ok (.ireturn, 1) := by decide +kernel
theorem dX12_octet_36 : decode cX12_octet 36 = .ok (.iload_n 2, 1) := by decide +kernel
theorem dX12_octet_37 : decode cX12_octet 37 = .ok (.iconst 0, 1) := by decide +kernel
theorem dX12_octet_38 : decode cX12_octet 38 = .ok (.aload_n 0, 1) := by decide +kernel
theorem dX12_octet_39 : decode cX12_octet 39 = .ok (.getfield 441, 3) := by decide +kernel
theorem dX12_octet_42 : decode cX12_octet 42 = .ok (.iconst 1, 1) := by decide +kernel
theorem dX12_octet_43 : decode cX12_octet 43 = .ok (.isub, 1) := by decide +kernel
theorem dX12_octet_44 : decode cX12_octet 44 = .ok (.invokestatic 215, 3) := by decide +kernel
theorem dX12_octet_47 : decode cX12_octet 47 = .ok (.ifCond .eq 28, 3) := by decide +kernel
theorem dX12_octet_50 : decode cX12_octet 50 = .ok (.aload_n 0, 1) := by decide +kernel
theorem dX12_octet_51 : decode cX12_octet 51 = .ok (.getfield 188, 3) := by decide +kernel
theorem dX12_octet_54 : decode cX12_octet 54 = .ok (.iload_n 2, 1) := by decide +kernel
theorem dX12_octet_55 : decode cX12_octet 55 = .ok (.iaload, 1) := by decide +kernel
theorem dX12_octet_56 : decode cX12_octet 56 = .ok (.aload_n 0, 1) := by decide +kernel
theorem dX12_octet_57 : decode cX12_octet 57 = .ok (.getfield 130, 3) := by decide +kernel
theorem dX12_octet_60 : decode cX12_octet 60 = .ok (.sipush 640, 3) := by decide +kernel
theorem dX12_octet_63 : decode cX12_octet 63 = .ok (.iload_n 1, 1) := by decide +kernel
theorem dX12_octet_64 : decode cX12_octet 64 = .ok (.imul, 1) := by decide +kernel
theorem dX12_octet_65 : decode cX12_octet 65 = .ok (.bipush 32, 2) := by decide +kernel
theorem dX12_octet_67 : decode cX12_octet 67 = .ok (.iadd, 1) := by decide +kernel
theorem dX12_octet_68 : decode cX12_octet 68 = .ok (.iload_n 2, 1) := by decide +kernel
theorem dX12_octet_69 : decode cX12_octet 69 = .ok (.iadd, 1) := by decide +kernel
theorem dX12_octet_70 : decode cX12_octet 70 = .ok (.iaload, 1) := by decide +kernel
theorem dX12_octet_71 : decode cX12_octet 71 = .ok (.ixor, 1) := by decide +kernel
theorem dX12_octet_72 : decode cX12_octet 72 = .ok (.goto 4, 3) := by decide +kernel
theorem dX12_octet_75 : decode cX12_octet 75 = .ok (.iconst (-1), 1) := by decide +kernel
theorem dX12_octet_76 : decode cX12_octet 76 = .ok (.ireturn, 1) := by decide +kernel
theorem cd_octet : Cond.code yX12_octet cX12_octet 3 (some .int) ∈ lw_g := mt_at 2235 (by decide +kernel) rfl
section
variable {p : Program} {l : Launch} {e : Env} {R : Room} {s : State} {m : MethodId} {args : Array Value} {below : List Frame} {meth : Method} {c : Code} {cM : ClassId} {iS : Nat → Nat} {cI cZ : ClassId} {mo : Nat} {ad : Nat → Nat} {r : Int32} {S9 : mSt}
noncomputable def fm_octet_76 (S : mSt) (s0 : Int32) : Option (Int32 × mSt) :=
some (s0, S)
set_option maxRecDepth 100000 in
set_option maxHeartbeats 4000000 in
theorem wm_octet_76 (C : mY p R s m args meth c cX12_octet 3 4 91 (some .int)) (X : mX s cM iS cI cZ mo ad) : ∀ {S : mSt} {s0 : Int32} {H : Heap} {locs : List Loc} {ls : Array Slot}, fm_octet_76 S s0 = some (r, S9) → mW cM iS cI cZ mo ad S H → mS (mA mo ad) s.heap H locs → lv_has ls 3 [] → W p l e R s m args below meth c H locs 0 0 (MQ below (mQw (some (.int r)) cM iS cI cZ mo ad S9) args s 0 0 (mA mo ad)) (F0 m 76 ls [.int s0]) := by
  intro S s0 H locs ls h hW hS hl
  unfold fm_octet_76 at h
  cases h
  exact m_retiW C hW hS dX12_octet_76
noncomputable def fm_octet (S : mSt) (v1 : Int32) (v2 : Int32) : Option (Int32 × mSt) :=
lt (pu S 0 (0 : Int32)) fun S1 =>
bd (fm_within v1 (0 : Int32) ((S1.1 42) - (1 : Int32))) fun r2 =>
if r2 = 0 then (
some ((-1 : Int32), S1))
else (
bd (fm_write S1 v1) fun S4 =>
if v2 = (-1 : Int32) then (
some (S4.1 74, S4))
else (
bd (fm_within v2 (0 : Int32) ((S4.1 74) - (1 : Int32))) fun r6 =>
if r6 = 0 then (
fm_octet_76 S4 (-1 : Int32))
else (
ck v2 640 (
ck ((((640 : Int32) * v1) + (32 : Int32)) + v2) 38400 (
fm_octet_76 S4 ((rd S4 75 v2) ^^^ (rd S4 46 ((((640 : Int32) * v1) + (32 : Int32)) + v2))))))))
set_option maxRecDepth 100000 in
set_option maxHeartbeats 4000000 in
theorem tm_octet (l : Launch) {cM : ClassId} {iS : Nat → Nat} {cI cZ : ClassId} {mo : Nat} {ad : Nat → Nat} {S : mSt} {v1 : Int32} {v2 : Int32} {r : Int32} {S9 : mSt} (h : fm_octet S v1 v2 = some (r, S9)) : Met l yX12_octet (Cond.code yX12_octet cX12_octet 3 (some .int) :: lw_g) { frames := 4, cells := 0, slots := 0, locals := 91 } (mPi [.int v1, .int v2] cM iS cI cZ mo ad S) (mQw (some (.int r)) cM iS cI cZ mo ad S9) 0 0 (mA mo ad) := by
  refine Met.ofW (cc := cX12_octet) (maxL := 3) (ret := (some .int)) (by decide) rfl ?_
  intro p e s m args below meth c s₁ B hml hv
  obtain ⟨rfl, hW, X⟩ := hv
  have C : mY p (headSpec (Cond.code yX12_octet cX12_octet 3 (some .int) :: lw_g) { frames := 4, cells := 0, slots := 0, locals := 91 }).room s m _ meth c cX12_octet 3 4 91 (some .int) := ⟨B.exec, B.bytes, hml, findClass_of_methodNamed B.named, fun w hw => atoms_spec (ws := Cond.code yX12_octet cX12_octet 3 (some .int) :: lw_g) B.pre w (List.mem_cons_of_mem _ hw), ⟨Nat.le_refl _, Nat.le_refl _⟩, B.returns, B.notSynchronized⟩
  have hl := lv_entry ([.ref mo, .int v1, .int v2]) (n := 3) (Nat.le_of_ble_eq_true rfl)
  rw [lg_entry_eq]
  generalize (lg_sl ([.ref mo, .int v1, .int v2]) ++ List.replicate (3 - (lg_sl ([.ref mo, .int v1, .int v2])).length) Slot.unset).toArray = ls at hl ⊢
  have hl : lv_has ls 3 [(0, .ref mo), (1, .int v1), (2, .int v2)] := hl
  have hS : mS (mA mo ad) s.heap s.heap [] := mS.rf
  unfold fm_octet at h
  refine lv_aload_n C.1 C.2.1 dX12_octet_0 rfl (lv_at hl 0 rfl) ?_
  refine lv_iconst (v := 0) C.1 C.2.1 dX12_octet_1 (by decide) ?_
  refine p_0 C X hW hS dX12_octet_2 (fun H locs hW hS => ?_)
  refine lt_ok h (fun S1 e_S1 h => ?_)
  rw [e_S1] at hW
  refine lv_iload_n C.1 C.2.1 dX12_octet_5 rfl (lv_at hl 1 rfl) ?_
  refine lv_iconst (v := 0) C.1 C.2.1 dX12_octet_6 (by decide) ?_
  refine lv_aload_n C.1 C.2.1 dX12_octet_7 rfl (lv_at hl 0 rfl) ?_
  refine gf_42 C X hW dX12_octet_8 ?_
  refine lv_iconst (v := 1) C.1 C.2.1 dX12_octet_11 (by decide) ?_
  refine lv_isub C.1 C.2.1 dX12_octet_12 ?_
  obtain ⟨r2, h_r2, h⟩ := bd_ok h
  refine m_callS (rest := []) C hl.1 [.int v1, .int (0 : Int32), .int ((S1.1 42) - (1 : Int32))] (tm_within l h_r2) mw_within st_within rfl ⟨by decide, by decide⟩ rfl (Nat.le_of_ble_eq_true rfl) dX12_octet_13 ?_
  refine lv_if_ne (tgt := 21) C.1 C.2.1 dX12_octet_16 (by decide) (fun c3 => ?_) (fun c3 => ?_)
  · have h := if_f h c3
    refine lv_aload_n C.1 C.2.1 dX12_octet_21 rfl (lv_at hl 0 rfl) ?_
    refine lv_iload_n C.1 C.2.1 dX12_octet_22 rfl (lv_at hl 1 rfl) ?_
    obtain ⟨S4, h_S4, h⟩ := bd_ok h
    refine m_callW (rest := []) (ov := none) C X hW hS hl.1 [.int v1] (tm_write l h_S4) mw_write im_write sl_write rfl ⟨by decide, by decide⟩ rfl (Nat.le_of_ble_eq_true rfl) dX12_octet_23 (fun H locs hW hS => ?_)
    refine W.eq (g2 := F0 m 26 ls []) rfl ?_
    refine lv_iload_n C.1 C.2.1 dX12_octet_26 rfl (lv_at hl 2 rfl) ?_
    refine lv_iconst (v := -1) C.1 C.2.1 dX12_octet_27 (by decide) ?_
    refine lv_icmp_ne (tgt := 36) C.1 C.2.1 dX12_octet_28 (by decide) (fun c5 => ?_) (fun c5 => ?_)
    · have h := if_f h c5
      refine lv_iload_n C.1 C.2.1 dX12_octet_36 rfl (lv_at hl 2 rfl) ?_
      refine lv_iconst (v := 0) C.1 C.2.1 dX12_octet_37 (by decide) ?_
      refine lv_aload_n C.1 C.2.1 dX12_octet_38 rfl (lv_at hl 0 rfl) ?_
      refine gf_74 C X hW dX12_octet_39 ?_
      refine lv_iconst (v := 1) C.1 C.2.1 dX12_octet_42 (by decide) ?_
      refine lv_isub C.1 C.2.1 dX12_octet_43 ?_
      obtain ⟨r6, h_r6, h⟩ := bd_ok h
      refine m_callS (rest := []) C hl.1 [.int v2, .int (0 : Int32), .int ((S4.1 74) - (1 : Int32))] (tm_within l h_r6) mw_within st_within rfl ⟨by decide, by decide⟩ rfl (Nat.le_of_ble_eq_true rfl) dX12_octet_44 ?_
      refine lv_if_eq (tgt := 75) C.1 C.2.1 dX12_octet_47 (by decide) (fun c7 => ?_) (fun c7 => ?_)
      · have h := if_t h c7
        refine lv_iconst (v := -1) C.1 C.2.1 dX12_octet_75 (by decide) ?_
        exact wm_octet_76 C X h hW hS (lv_sub hl [] rfl)
      · have h := if_f h c7
        refine lv_aload_n C.1 C.2.1 dX12_octet_50 rfl (lv_at hl 0 rfl) ?_
        refine gf_75 C X hW dX12_octet_51 ?_
        refine lv_iload_n C.1 C.2.1 dX12_octet_54 rfl (lv_at hl 2 rfl) ?_
        obtain ⟨hin, h⟩ := ck_ok h
        refine l_75 C X hW hin dX12_octet_55 ?_
        refine lv_aload_n C.1 C.2.1 dX12_octet_56 rfl (lv_at hl 0 rfl) ?_
        refine gf_46 C X hW dX12_octet_57 ?_
        refine lv_sipush (v := 640) C.1 C.2.1 dX12_octet_60 (by decide) ?_
        refine lv_iload_n C.1 C.2.1 dX12_octet_63 rfl (lv_at hl 1 rfl) ?_
        refine lv_imul C.1 C.2.1 dX12_octet_64 ?_
        refine lv_bipush (v := 32) C.1 C.2.1 dX12_octet_65 (by decide) ?_
        refine lv_iadd C.1 C.2.1 dX12_octet_67 ?_
        refine lv_iload_n C.1 C.2.1 dX12_octet_68 rfl (lv_at hl 2 rfl) ?_
        refine lv_iadd C.1 C.2.1 dX12_octet_69 ?_
        obtain ⟨hin, h⟩ := ck_ok h
        refine l_46 C X hW hin dX12_octet_70 ?_
        refine lv_ixor C.1 C.2.1 dX12_octet_71 ?_
        refine lv_goto (tgt := 76) C.1 C.2.1 dX12_octet_72 (by decide) ?_
        exact wm_octet_76 C X h hW hS (lv_sub hl [] rfl)
    · have h := if_t h c5
      refine lv_aload_n C.1 C.2.1 dX12_octet_31 rfl (lv_at hl 0 rfl) ?_
      refine gf_74 C X hW dX12_octet_32 ?_
      cases h
      exact m_retiW C hW hS dX12_octet_35
  · have h := if_t h c3
    refine lv_iconst (v := -1) C.1 C.2.1 dX12_octet_19 (by decide) ?_
    cases h
    exact m_retiW C hW hS dX12_octet_20
end
theorem dX12_bend_0 : decode cX12_bend 0 = .ok (.aload_n 0, 1) := by decide +kernel
theorem dX12_bend_1 : decode cX12_bend 1 = .ok (.iconst 0, 1) := by decide +kernel
theorem dX12_bend_2 : decode cX12_bend 2 = .ok (.putfield 200, 3) := by decide +kernel
theorem dX12_bend_5 : decode cX12_bend 5 = .ok (.iload_n 1, 1) := by decide +kernel
theorem dX12_bend_6 : decode cX12_bend 6 = .ok (.iconst 0, 1) := by decide +kernel
theorem dX12_bend_7 : decode cX12_bend 7 = .ok (.aload_n 0, 1) := by decide +kernel
theorem dX12_bend_8 : decode cX12_bend 8 = .ok (.getfield 428, 3) := by decide +kernel
theorem dX12_bend_11 : decode cX12_bend 11 = .ok (.iconst 1, 1) := by decide +kernel
theorem dX12_bend_12 : decode cX12_bend 12 = .ok (.isub, 1) := by decide +kernel
theorem dX12_bend_13 : decode cX12_bend 13 = .ok (.invokestatic 215, 3) := by decide +kernel
theorem dX12_bend_16 : decode cX12_bend 16 = .ok (.ifCond .eq 14, 3) := by decide +kernel
theorem dX12_bend_19 : decode cX12_bend 19 = .ok (.iload_n 3, 1) := by decide +kernel
theorem dX12_bend_20 : decode cX12_bend 20 = .ok (.iconst 1, 1) := by decide +kernel
theorem dX12_bend_21 : decode cX12_bend 21 = .ok (.sipush 255, 3) := by decide +kernel
theorem dX12_bend_24 : decode cX12_bend 24 = .ok (.invokestatic 215, 3) := by decide +kernel
theorem dX12_bend_27 : decode cX12_bend 27 = .ok (.ifCond .ne 5, 3) := by decide +kernel
theorem dX12_bend_30 : decode cX12_bend 30 = .ok (.iconst 0, 1) := by decide +kernel
theorem dX12_bend_31 : decode cX12_bend 31 = .ok (.ireturn, 1) := by decide +kernel
theorem dX12_bend_32 : decode cX12_bend 32 = .ok (.aload_n 0, 1) := by decide +kernel
theorem dX12_bend_33 : decode cX12_bend 33 = .ok (.iload_n 1, 1) := by decide +kernel
theorem dX12_bend_34 : decode cX12_bend 34 = .ok (.invokevirtual 461, 3) := by decide +kernel
theorem dX12_bend_37 : decode cX12_bend 37 = .ok (.iload_n 2, 1) := by decide +kernel
theorem dX12_bend_38 : decode cX12_bend 38 = .ok (.iconst 0, 1) := by decide +kernel
theorem dX12_bend_39 : decode cX12_bend 39 = .ok (.aload_n 0, 1) := by decide +kernel
theorem dX12_bend_40 : decode cX12_bend 40 = .ok (.getfield 441, 3) := by decide +kernel
theorem dX12_bend_43 : decode cX12_bend 43 = .ok (.iconst 1, 1) := by decide +kernel
theorem dX12_bend_44 : decode cX12_bend 44 = .ok (.isub, 1) := by decide +kernel
theorem dX12_bend_45 : decode cX12_bend 45 = .ok (.invokestatic 215, 3) := by decide +kernel
theorem dX12_bend_48 : decode cX12_bend 48 = .ok (.ifCond .ne 5, 3) := by decide +kernel
theorem dX12_bend_51 : decode cX12_bend 51 = .ok (.iconst 0, 1) := by decide +kernel
theorem dX12_bend_52 : decode cX12_bend 52 = .ok (.ireturn, 1) := by decide +kernel
theorem dX12_bend_53 : decode cX12_bend 53 = .ok (.aload_n 0, 1) := by decide +kernel
theorem dX12_bend_54 : decode cX12_bend 54 = .ok (.getfield 130, 3) := by decide +kernel
theorem dX12_bend_57 : decode cX12_bend 57 = .ok (.sipush 640, 3) := by decide +kernel
theorem dX12_bend_60 : decode cX12_bend 60 = .ok (.iload_n 1, 1) := by decide +kernel
theorem dX12_bend_61 : decode cX12_bend 61 = .ok (.imul, 1) := by decide +kernel
theorem dX12_bend_62 : decode cX12_bend 62 = .ok (.bipush 32, 2) := by decide +kernel
theorem dX12_bend_64 : decode cX12_bend 64 = .ok (.iadd, 1) := by decide +kernel
theorem dX12_bend_65 : decode cX12_bend 65 = .ok (.iload_n 2, 1) := by decide +kernel
theorem dX12_bend_66 : decode cX12_bend 66 = .ok (.iadd, 1) := by decide +kernel
theorem dX12_bend_67 : decode cX12_bend 67 = .ok (.dup2, 1) := by decide +kernel
theorem dX12_bend_68 : decode cX12_bend 68 = .ok (.iaload, 1) := by decide +kernel
theorem dX12_bend_69 : decode cX12_bend 69 = .ok (.iload_n 3, 1) := by decide +kernel
theorem dX12_bend_70 : decode cX12_bend 70 = .ok (.ixor, 1) := by decide +kernel
theorem dX12_bend_71 : decode cX12_bend 71 = .ok (.iastore, 1) := by decide +kernel
theorem dX12_bend_72 : decode cX12_bend 72 = .ok (.iconst 1, 1) := by decide +kernel
theorem dX12_bend_73 : decode cX12_bend 73 = .ok (.ireturn, 1) := by decide +kernel
theorem cd_bend : Cond.code yX12_bend cX12_bend 4 (some .boolean) ∈ lw_g := mt_at 2260 (by decide +kernel) rfl
section
variable {p : Program} {l : Launch} {e : Env} {R : Room} {s : State} {m : MethodId} {args : Array Value} {below : List Frame} {meth : Method} {c : Code} {cM : ClassId} {iS : Nat → Nat} {cI cZ : ClassId} {mo : Nat} {ad : Nat → Nat} {r : Int32} {S9 : mSt}
noncomputable def fm_bend_30 (S : mSt) : Option (Int32 × mSt) :=
ckz (0 : Int32) (some ((0 : Int32), S))
set_option maxRecDepth 100000 in
set_option maxHeartbeats 4000000 in
theorem wm_bend_30 (C : mY p R s m args meth c cX12_bend 4 4 91 (some .boolean)) (X : mX s cM iS cI cZ mo ad) : ∀ {S : mSt} {H : Heap} {locs : List Loc} {ls : Array Slot}, fm_bend_30 S = some (r, S9) → mW cM iS cI cZ mo ad S H → mS (mA mo ad) s.heap H locs → lv_has ls 4 [] → W p l e R s m args below meth c H locs 0 0 (MQ below (mQw (some (.int r)) cM iS cI cZ mo ad S9) args s 0 0 (mA mo ad)) (F0 m 30 ls []) := by
  intro S H locs ls h hW hS hl
  unfold fm_bend_30 at h
  refine lv_iconst (v := 0) C.1 C.2.1 dX12_bend_30 (by decide) ?_
  obtain ⟨hzo, h⟩ := ckz_ok h
  cases h
  exact m_retzW C hzo hW hS dX12_bend_31
noncomputable def fm_bend (S : mSt) (v1 : Int32) (v2 : Int32) (v3 : Int32) : Option (Int32 × mSt) :=
lt (pu S 0 (0 : Int32)) fun S1 =>
bd (fm_within v1 (0 : Int32) ((S1.1 42) - (1 : Int32))) fun r2 =>
if r2 = 0 then (
fm_bend_30 S1)
else (
bd (fm_within v3 (1 : Int32) (255 : Int32)) fun r4 =>
if r4 = 0 then (
fm_bend_30 S1)
else (
bd (fm_write S1 v1) fun S6 =>
bd (fm_within v2 (0 : Int32) ((S6.1 74) - (1 : Int32))) fun r7 =>
if r7 = 0 then (
ckz (0 : Int32) (some ((0 : Int32), S6)))
else (
ck ((((640 : Int32) * v1) + (32 : Int32)) + v2) 38400 (
ck ((((640 : Int32) * v1) + (32 : Int32)) + v2) 38400 (lt (wr S6 46 ((((640 : Int32) * v1) + (32 : Int32)) + v2) ((rd S6 46 ((((640 : Int32) * v1) + (32 : Int32)) + v2)) ^^^ v3)) fun S9 =>
ckz (1 : Int32) (some ((1 : Int32), S9)))))))
set_option maxRecDepth 100000 in
set_option maxHeartbeats 4000000 in
theorem tm_bend (l : Launch) {cM : ClassId} {iS : Nat → Nat} {cI cZ : ClassId} {mo : Nat} {ad : Nat → Nat} {S : mSt} {v1 : Int32} {v2 : Int32} {v3 : Int32} {r : Int32} {S9 : mSt} (h : fm_bend S v1 v2 v3 = some (r, S9)) : Met l yX12_bend (Cond.code yX12_bend cX12_bend 4 (some .boolean) :: lw_g) { frames := 4, cells := 0, slots := 0, locals := 91 } (mPi [.int v1, .int v2, .int v3] cM iS cI cZ mo ad S) (mQw (some (.int r)) cM iS cI cZ mo ad S9) 0 0 (mA mo ad) := by
  refine Met.ofW (cc := cX12_bend) (maxL := 4) (ret := (some .boolean)) (by decide) rfl ?_
  intro p e s m args below meth c s₁ B hml hv
  obtain ⟨rfl, hW, X⟩ := hv
  have C : mY p (headSpec (Cond.code yX12_bend cX12_bend 4 (some .boolean) :: lw_g) { frames := 4, cells := 0, slots := 0, locals := 91 }).room s m _ meth c cX12_bend 4 4 91 (some .boolean) := ⟨B.exec, B.bytes, hml, findClass_of_methodNamed B.named, fun w hw => atoms_spec (ws := Cond.code yX12_bend cX12_bend 4 (some .boolean) :: lw_g) B.pre w (List.mem_cons_of_mem _ hw), ⟨Nat.le_refl _, Nat.le_refl _⟩, B.returns, B.notSynchronized⟩
  have hl := lv_entry ([.ref mo, .int v1, .int v2, .int v3]) (n := 4) (Nat.le_of_ble_eq_true rfl)
  rw [lg_entry_eq]
  generalize (lg_sl ([.ref mo, .int v1, .int v2, .int v3]) ++ List.replicate (4 - (lg_sl ([.ref mo, .int v1, .int v2, .int v3])).length) Slot.unset).toArray = ls at hl ⊢
  have hl : lv_has ls 4 [(0, .ref mo), (1, .int v1), (2, .int v2), (3, .int v3)] := hl
  have hS : mS (mA mo ad) s.heap s.heap [] := mS.rf
  unfold fm_bend at h
  refine lv_aload_n C.1 C.2.1 dX12_bend_0 rfl (lv_at hl 0 rfl) ?_
  refine lv_iconst (v := 0) C.1 C.2.1 dX12_bend_1 (by decide) ?_
  refine p_0 C X hW hS dX12_bend_2 (fun H locs hW hS => ?_)
  refine lt_ok h (fun S1 e_S1 h => ?_)
  rw [e_S1] at hW
  refine lv_iload_n C.1 C.2.1 dX12_bend_5 rfl (lv_at hl 1 rfl) ?_
  refine lv_iconst (v := 0) C.1 C.2.1 dX12_bend_6 (by decide) ?_
  refine lv_aload_n C.1 C.2.1 dX12_bend_7 rfl (lv_at hl 0 rfl) ?_
  refine gf_42 C X hW dX12_bend_8 ?_
  refine lv_iconst (v := 1) C.1 C.2.1 dX12_bend_11 (by decide) ?_
  refine lv_isub C.1 C.2.1 dX12_bend_12 ?_
  obtain ⟨r2, h_r2, h⟩ := bd_ok h
  refine m_callS (rest := []) C hl.1 [.int v1, .int (0 : Int32), .int ((S1.1 42) - (1 : Int32))] (tm_within l h_r2) mw_within st_within rfl ⟨by decide, by decide⟩ rfl (Nat.le_of_ble_eq_true rfl) dX12_bend_13 ?_
  refine lv_if_eq (tgt := 30) C.1 C.2.1 dX12_bend_16 (by decide) (fun c3 => ?_) (fun c3 => ?_)
  · have h := if_t h c3
    exact wm_bend_30 C X h hW hS (lv_sub hl [] rfl)
  · have h := if_f h c3
    refine lv_iload_n C.1 C.2.1 dX12_bend_19 rfl (lv_at hl 3 rfl) ?_
    refine lv_iconst (v := 1) C.1 C.2.1 dX12_bend_20 (by decide) ?_
    refine lv_sipush (v := 255) C.1 C.2.1 dX12_bend_21 (by decide) ?_
    obtain ⟨r4, h_r4, h⟩ := bd_ok h
    refine m_callS (rest := []) C hl.1 [.int v3, .int (1 : Int32), .int (255 : Int32)] (tm_within l h_r4) mw_within st_within rfl ⟨by decide, by decide⟩ rfl (Nat.le_of_ble_eq_true rfl) dX12_bend_24 ?_
    refine lv_if_ne (tgt := 32) C.1 C.2.1 dX12_bend_27 (by decide) (fun c5 => ?_) (fun c5 => ?_)
    · have h := if_f h c5
      refine lv_aload_n C.1 C.2.1 dX12_bend_32 rfl (lv_at hl 0 rfl) ?_
      refine lv_iload_n C.1 C.2.1 dX12_bend_33 rfl (lv_at hl 1 rfl) ?_
      obtain ⟨S6, h_S6, h⟩ := bd_ok h
      refine m_callW (rest := []) (ov := none) C X hW hS hl.1 [.int v1] (tm_write l h_S6) mw_write im_write sl_write rfl ⟨by decide, by decide⟩ rfl (Nat.le_of_ble_eq_true rfl) dX12_bend_34 (fun H locs hW hS => ?_)
      refine W.eq (g2 := F0 m 37 ls []) rfl ?_
      refine lv_iload_n C.1 C.2.1 dX12_bend_37 rfl (lv_at hl 2 rfl) ?_
      refine lv_iconst (v := 0) C.1 C.2.1 dX12_bend_38 (by decide) ?_
      refine lv_aload_n C.1 C.2.1 dX12_bend_39 rfl (lv_at hl 0 rfl) ?_
      refine gf_74 C X hW dX12_bend_40 ?_
      refine lv_iconst (v := 1) C.1 C.2.1 dX12_bend_43 (by decide) ?_
      refine lv_isub C.1 C.2.1 dX12_bend_44 ?_
      obtain ⟨r7, h_r7, h⟩ := bd_ok h
      refine m_callS (rest := []) C hl.1 [.int v2, .int (0 : Int32), .int ((S6.1 74) - (1 : Int32))] (tm_within l h_r7) mw_within st_within rfl ⟨by decide, by decide⟩ rfl (Nat.le_of_ble_eq_true rfl) dX12_bend_45 ?_
      refine lv_if_ne (tgt := 53) C.1 C.2.1 dX12_bend_48 (by decide) (fun c8 => ?_) (fun c8 => ?_)
      · have h := if_f h c8
        refine lv_aload_n C.1 C.2.1 dX12_bend_53 rfl (lv_at hl 0 rfl) ?_
        refine gf_46 C X hW dX12_bend_54 ?_
        refine lv_sipush (v := 640) C.1 C.2.1 dX12_bend_57 (by decide) ?_
        refine lv_iload_n C.1 C.2.1 dX12_bend_60 rfl (lv_at hl 1 rfl) ?_
        refine lv_imul C.1 C.2.1 dX12_bend_61 ?_
        refine lv_bipush (v := 32) C.1 C.2.1 dX12_bend_62 (by decide) ?_
        refine lv_iadd C.1 C.2.1 dX12_bend_64 ?_
        refine lv_iload_n C.1 C.2.1 dX12_bend_65 rfl (lv_at hl 2 rfl) ?_
        refine lv_iadd C.1 C.2.1 dX12_bend_66 ?_
        refine lv_dup2_11 C.1 C.2.1 dX12_bend_67 rfl rfl ?_
        obtain ⟨hin, h⟩ := ck_ok h
        refine l_46 C X hW hin dX12_bend_68 ?_
        refine lv_iload_n C.1 C.2.1 dX12_bend_69 rfl (lv_at hl 3 rfl) ?_
        refine lv_ixor C.1 C.2.1 dX12_bend_70 ?_
        obtain ⟨hin, h⟩ := ck_ok h
        refine s_46 C X hW hS hin dX12_bend_71 (fun H locs hW hS => ?_)
        refine lt_ok h (fun S9 e_S9 h => ?_)
        rw [e_S9] at hW
        refine lv_iconst (v := 1) C.1 C.2.1 dX12_bend_72 (by decide) ?_
        obtain ⟨hzo, h⟩ := ckz_ok h
        cases h
        exact m_retzW C hzo hW hS dX12_bend_73
      · have h := if_t h c8
        refine lv_iconst (v := 0) C.1 C.2.1 dX12_bend_51 (by decide) ?_
        obtain ⟨hzo, h⟩ := ckz_ok h
        cases h
        exact m_retzW C hzo hW hS dX12_bend_52
    · have h := if_t h c5
      exact wm_bend_30 C X h hW hS (lv_sub hl [] rfl)
end
theorem dX12_isBent_0 : decode cX12_isBent 0 = .ok (.bipush 32, 2) := by decide +kernel
theorem dX12_isBent_2 : decode cX12_isBent 2 = .ok (.istore_n 2, 1) := by decide +kernel
theorem dX12_isBent_3 : decode cX12_isBent 3 = .ok (.iload_n 2, 1) := by decide +kernel
theorem dX12_isBent_4 : decode cX12_isBent 4 = .ok (.sipush 640, 3) := by decide +kernel
theorem dX12_isBent_7 : decode cX12_isBent 7 = .ok (.if_icmp .ge 26, 3) := by decide +kernel
theorem dX12_isBent_10 : decode cX12_isBent 10 = .ok (.aload_n 0, 1) := by decide +kernel
theorem dX12_isBent_11 : decode cX12_isBent 11 = .ok (.getfield 130, 3) := by decide +kernel
theorem dX12_isBent_14 : decode cX12_isBent 14 = .ok (.sipush 640, 3) := by decide +kernel
theorem dX12_isBent_17 : decode cX12_isBent 17 = .ok (.iload_n 1, 1) := by decide +kernel
theorem dX12_isBent_18 : decode cX12_isBent 18 = .ok (.imul, 1) := by decide +kernel
theorem dX12_isBent_19 : decode cX12_isBent 19 = .ok (.iload_n 2, 1) := by decide +kernel
theorem dX12_isBent_20 : decode cX12_isBent 20 = .ok (.iadd, 1) := by decide +kernel
theorem dX12_isBent_21 : decode cX12_isBent 21 = .ok (.iaload, 1) := by decide +kernel
theorem dX12_isBent_22 : decode cX12_isBent 22 = .ok (.ifCond .eq 5, 3) := by decide +kernel
theorem dX12_isBent_25 : decode cX12_isBent 25 = .ok (.iconst 1, 1) := by decide +kernel
theorem dX12_isBent_26 : decode cX12_isBent 26 = .ok (.ireturn, 1) := by decide +kernel
theorem dX12_isBent_27 : decode cX12_isBent 27 = .ok (.iinc 2 1, 3) := by decide +kernel
theorem dX12_isBent_30 : decode cX12_isBent 30 = .ok (.goto (-27), 3) := by decide +kernel
theorem dX12_isBent_33 : decode cX12_isBent 33 = .ok (.iconst 0, 1) := by decide +kernel
theorem dX12_isBent_34 : decode cX12_isBent 34 = .ok (.ireturn, 1) := by decide +kernel
theorem cd_isBent : Cond.code yX12_isBent cX12_isBent 3 (some .boolean) ∈ lw_g := mt_at 2268 (by decide +kernel) rfl
theorem mw_isBent : mCw 467 yX12_isBent cX12_isBent 3 (some .boolean) 1 := ⟨cd_isBent, mt_at 2265 (by decide +kernel) rfl, in_M, by decide +kernel⟩
theorem im_isBent : Cond.instanceMethod yX12_isBent ∈ lw_g := mt_at 2267 (by decide +kernel) rfl
theorem sl_isBent : Cond.selects RX12 yX12_isBent yX12_isBent ∈ lw_g := mt_sel 101 (by decide +kernel) rfl
section
variable {p : Program} {l : Launch} {e : Env} {R : Room} {s : State} {m : MethodId} {args : Array Value} {below : List Frame} {meth : Method} {c : Code} {cM : ClassId} {iS : Nat → Nat} {cI cZ : ClassId} {mo : Nat} {ad : Nat → Nat} {S : mSt} {r : Int32}
noncomputable def fm_isBent_3 (S : mSt) : Nat → Int32 → Int32 → Option (Int32)
  | 0, _, _ => none
  | n + 1, v1, v2 =>
    if (640 : Int32) ≤ v2 then (
    ckz (0 : Int32) (some (0 : Int32)))
    else (
    ck (((640 : Int32) * v1) + v2) 38400 (
    if (rd S 46 (((640 : Int32) * v1) + v2)) = 0 then (
    lt (v2 + (1 : Int32)) fun x3 =>
    fm_isBent_3 S n v1 x3)
    else (
    ckz (1 : Int32) (some (1 : Int32)))))
set_option maxRecDepth 100000 in
set_option maxHeartbeats 4000000 in
theorem wm_isBent_3 (C : mY p R s m args meth c cX12_isBent 3 0 0 (some .boolean)) (X : mX s cM iS cI cZ mo ad) (hW : mW cM iS cI cZ mo ad S s.heap) : ∀ (n : Nat), ∀ {v1 : Int32} {v2 : Int32} {ls : Array Slot}, fm_isBent_3 S n v1 v2 = some r → lv_has ls 3 [(0, .ref mo), (1, .int v1), (2, .int v2)] → W p l e R s m args below meth c s.heap [] 0 0 (MQ below (mQi r) args s 0 0 mNo) (F0 m 3 ls []) := by
  intro n
  induction n with
  | zero =>
    intro v1 v2 ls h hl
    exact absurd (show (none : Option (Int32)) = _ from h) (fun q => by cases q)
  | succ n ih =>
    intro v1 v2 ls h hl
    rw [fm_isBent_3] at h
    refine lv_iload_n C.1 C.2.1 dX12_isBent_3 rfl (lv_at hl 2 rfl) ?_
    refine lv_sipush (v := 640) C.1 C.2.1 dX12_isBent_4 (by decide) ?_
    refine lv_icmp_ge (tgt := 33) C.1 C.2.1 dX12_isBent_7 (by decide) (fun c1 => ?_) (fun c1 => ?_)
    · have h := if_t h c1
      refine lv_iconst (v := 0) C.1 C.2.1 dX12_isBent_33 (by decide) ?_
      obtain ⟨hzo, h⟩ := ckz_ok h
      cases h
      exact m_retz C hzo rfl rfl dX12_isBent_34
    · have h := if_f h c1
      refine lv_aload_n C.1 C.2.1 dX12_isBent_10 rfl (lv_at hl 0 rfl) ?_
      refine gf_46 C X hW dX12_isBent_11 ?_
      refine lv_sipush (v := 640) C.1 C.2.1 dX12_isBent_14 (by decide) ?_
      refine lv_iload_n C.1 C.2.1 dX12_isBent_17 rfl (lv_at hl 1 rfl) ?_
      refine lv_imul C.1 C.2.1 dX12_isBent_18 ?_
      refine lv_iload_n C.1 C.2.1 dX12_isBent_19 rfl (lv_at hl 2 rfl) ?_
      refine lv_iadd C.1 C.2.1 dX12_isBent_20 ?_
      obtain ⟨hin, h⟩ := ck_ok h
      refine l_46 C X hW hin dX12_isBent_21 ?_
      refine lv_if_eq (tgt := 27) C.1 C.2.1 dX12_isBent_22 (by decide) (fun c2 => ?_) (fun c2 => ?_)
      · have h := if_t h c2
        refine lt_ok h (fun x3 e_x3 h => ?_)
        refine lv_iinc (v := x3) (lv' := [(2, .int x3), (0, .ref mo), (1, .int v1)]) C.1 C.2.1 dX12_isBent_27 hl (k := 2) rfl (by rw [← e_x3]; rfl) (by decide) rfl (fun ls hl => ?_)
        refine lv_goto (tgt := 3) C.1 C.2.1 dX12_isBent_30 (by decide) ?_
        exact ih h (lv_sub hl [1, 2, 0] rfl)
      · have h := if_f h c2
        refine lv_iconst (v := 1) C.1 C.2.1 dX12_isBent_25 (by decide) ?_
        obtain ⟨hzo, h⟩ := ckz_ok h
        cases h
        exact m_retz C hzo rfl rfl dX12_isBent_26
noncomputable def fm_isBent (S : mSt) (v1 : Int32) : Option (Int32) :=
fm_isBent_3 S mFU v1 (32 : Int32)
set_option maxRecDepth 100000 in
set_option maxHeartbeats 4000000 in
theorem tm_isBent (l : Launch) {cM : ClassId} {iS : Nat → Nat} {cI cZ : ClassId} {mo : Nat} {ad : Nat → Nat} {S : mSt} {v1 : Int32} {r : Int32} (h : fm_isBent S v1 = some r) : Met l yX12_isBent (Cond.code yX12_isBent cX12_isBent 3 (some .boolean) :: lw_g) { frames := 0, cells := 0, slots := 0, locals := 0 } (mPi [.int v1] cM iS cI cZ mo ad S) (mQi r) 0 0 (mNo) := by
  refine Met.ofW (cc := cX12_isBent) (maxL := 3) (ret := (some .boolean)) (by decide) rfl ?_
  intro p e s m args below meth c s₁ B hml hv
  obtain ⟨rfl, hW, X⟩ := hv
  have C : mY p (headSpec (Cond.code yX12_isBent cX12_isBent 3 (some .boolean) :: lw_g) { frames := 0, cells := 0, slots := 0, locals := 0 }).room s m _ meth c cX12_isBent 3 0 0 (some .boolean) := ⟨B.exec, B.bytes, hml, findClass_of_methodNamed B.named, fun w hw => atoms_spec (ws := Cond.code yX12_isBent cX12_isBent 3 (some .boolean) :: lw_g) B.pre w (List.mem_cons_of_mem _ hw), ⟨Nat.le_refl _, Nat.le_refl _⟩, B.returns, B.notSynchronized⟩
  have hl := lv_entry ([.ref mo, .int v1]) (n := 3) (Nat.le_of_ble_eq_true rfl)
  rw [lg_entry_eq]
  generalize (lg_sl ([.ref mo, .int v1]) ++ List.replicate (3 - (lg_sl ([.ref mo, .int v1])).length) Slot.unset).toArray = ls at hl ⊢
  have hl : lv_has ls 3 [(0, .ref mo), (1, .int v1)] := hl
  unfold fm_isBent at h
  refine lv_bipush (v := 32) C.1 C.2.1 dX12_isBent_0 (by decide) ?_
  refine lv_istore_n (lv' := [(2, .int (32 : Int32)), (0, .ref mo), (1, .int v1)]) C.1 C.2.1 dX12_isBent_2 rfl hl (by decide) rfl (fun ls hl => ?_)
  exact wm_isBent_3 C X hW mFU h (lv_sub hl [1, 2, 0] rfl)
end
theorem dX12_remove_0 : decode cX12_remove 0 = .ok (.iconst 0, 1) := by decide +kernel
theorem dX12_remove_1 : decode cX12_remove 1 = .ok (.istore_n 2, 1) := by decide +kernel
theorem dX12_remove_2 : decode cX12_remove 2 = .ok (.iload_n 2, 1) := by decide +kernel
theorem dX12_remove_3 : decode cX12_remove 3 = .ok (.sipush 640, 3) := by decide +kernel
theorem dX12_remove_6 : decode cX12_remove 6 = .ok (.if_icmp .ge 27, 3) := by decide +kernel
theorem dX12_remove_9 : decode cX12_remove 9 = .ok (.aload_n 0, 1) := by decide +kernel
theorem dX12_remove_10 : decode cX12_remove 10 = .ok (.getfield 191, 3) := by decide +kernel
theorem dX12_remove_13 : decode cX12_remove 13 = .ok (.iload_n 2, 1) := by decide +kernel
theorem dX12_remove_14 : decode cX12_remove 14 = .ok (.aload_n 0, 1) := by decide +kernel
theorem dX12_remove_15 : decode cX12_remove 15 = .ok (.getfield 130, 3) := by decide +kernel
theorem dX12_remove_18 : decode cX12_remove 18 = .ok (.sipush 640, 3) := by decide +kernel
theorem dX12_remove_21 : decode cX12_remove 21 = .ok (.iload_n 1, 1) := by decide +kernel
theorem dX12_remove_22 : decode cX12_remove 22 = .ok (.imul, 1) := by decide +kernel
theorem dX12_remove_23 : decode cX12_remove 23 = .ok (.iload_n 2, 1) := by decide +kernel
theorem dX12_remove_24 : decode cX12_remove 24 = .ok (.iadd, 1) := by decide +kernel
theorem dX12_remove_25 : decode cX12_remove 25 = .ok (.iaload, 1) := by decide +kernel
theorem dX12_remove_26 : decode cX12_remove 26 = .ok (.iastore, 1) := by decide +kernel
theorem dX12_remove_27 : decode cX12_remove 27 = .ok (.iinc 2 1, 3) := by decide +kernel
theorem dX12_remove_30 : decode cX12_remove 30 = .ok (.goto (-28), 3) := by decide +kernel
theorem dX12_remove_33 : decode cX12_remove 33 = .ok (.sipush 640, 3) := by decide +kernel
theorem dX12_remove_36 : decode cX12_remove 36 = .ok (.iload_n 1, 1) := by decide +kernel
theorem dX12_remove_37 : decode cX12_remove 37 = .ok (.imul, 1) := by decide +kernel
theorem dX12_remove_38 : decode cX12_remove 38 = .ok (.istore_n 2, 1) := by decide +kernel
theorem dX12_remove_39 : decode cX12_remove 39 = .ok (.iload_n 2, 1) := by decide +kernel
theorem dX12_remove_40 : decode cX12_remove 40 = .ok (.sipush 640, 3) := by decide +kernel
theorem dX12_remove_43 : decode cX12_remove 43 = .ok (.aload_n 0, 1) := by decide +kernel
theorem dX12_remove_44 : decode cX12_remove 44 = .ok (.getfield 428, 3) := by decide +kernel
theorem dX12_remove_47 : decode cX12_remove 47 = .ok (.iconst 1, 1) := by decide +kernel
theorem dX12_remove_48 : decode cX12_remove 48 = .ok (.isub, 1) := by decide +kernel
theorem dX12_remove_49 : decode cX12_remove 49 = .ok (.imul, 1) := by decide +kernel
theorem dX12_remove_50 : decode cX12_remove 50 = .ok (.if_icmp .ge 25, 3) := by decide +kernel
theorem dX12_remove_53 : decode cX12_remove 53 = .ok (.aload_n 0, 1) := by decide +kernel
theorem dX12_remove_54 : decode cX12_remove 54 = .ok (.getfield 130, 3) := by decide +kernel
theorem dX12_remove_57 : decode cX12_remove 57 = .ok (.iload_n 2, 1) := by decide +kernel
theorem dX12_remove_58 : decode cX12_remove 58 = .ok (.aload_n 0, 1) := by decide +kernel
theorem dX12_remove_59 : decode cX12_remove 59 = .ok (.getfield 130, 3) := by decide +kernel
theorem dX12_remove_62 : decode cX12_remove 62 = .ok (.iload_n 2, 1) := by decide +kernel
theorem dX12_remove_63 : decode cX12_remove 63 = .ok (.sipush 640, 3) := by decide +kernel
theorem dX12_remove_66 : decode cX12_remove 66 = .ok (.iadd, 1) := by decide +kernel
theorem dX12_remove_67 : decode cX12_remove 67 = .ok (.iaload, 1) := by decide +kernel
theorem dX12_remove_68 : decode cX12_remove 68 = .ok (.iastore, 1) := by decide +kernel
theorem dX12_remove_69 : decode cX12_remove 69 = .ok (.iinc 2 1, 3) := by decide +kernel
theorem dX12_remove_72 : decode cX12_remove 72 = .ok (.goto (-33), 3) := by decide +kernel
theorem dX12_remove_75 : decode cX12_remove 75 = .ok (.aload_n 0, 1) := by decide +kernel
theorem dX12_remove_76 : decode cX12_remove 76 = .ok (.dup, 1) := by decide +kernel
theorem dX12_remove_77 : decode cX12_remove 77 = .ok (.getfield 428, 3) := by decide +kernel
theorem dX12_remove_80 : decode cX12_remove 80 = .ok (.iconst 1, 1) := by decide +kernel
theorem dX12_remove_81 : decode cX12_remove 81 = .ok (.isub, 1) := by decide +kernel
theorem dX12_remove_82 : decode cX12_remove 82 = .ok (.putfield 428, 3) := by decide +kernel
theorem dX12_remove_85 : decode cX12_remove 85 = .ok (.return_, 1) := by decide +kernel
theorem cd_remove : Cond.code yX12_remove cX12_remove 3 none ∈ lw_g := mt_at 2272 (by decide +kernel) rfl
theorem mw_remove : mCw 470 yX12_remove cX12_remove 3 none 1 := ⟨cd_remove, mt_at 2269 (by decide +kernel) rfl, in_M, by decide +kernel⟩
theorem im_remove : Cond.instanceMethod yX12_remove ∈ lw_g := mt_at 2271 (by decide +kernel) rfl
theorem sl_remove : Cond.selects RX12 yX12_remove yX12_remove ∈ lw_g := mt_sel 102 (by decide +kernel) rfl
section
variable {p : Program} {l : Launch} {e : Env} {R : Room} {s : State} {m : MethodId} {args : Array Value} {below : List Frame} {meth : Method} {c : Code} {cM : ClassId} {iS : Nat → Nat} {cI cZ : ClassId} {mo : Nat} {ad : Nat → Nat} {r : Int32} {S9 : mSt}
noncomputable def fm_remove_39 : Nat → mSt → Int32 → Option (mSt)
  | 0, _, _ => none
  | n + 1, S, v2 =>
    if ((640 : Int32) * ((S.1 42) - (1 : Int32))) ≤ v2 then (
    lt (pu S 42 ((S.1 42) - (1 : Int32))) fun S2 =>
    some S2)
    else (
    ck (v2 + (640 : Int32)) 38400 (
    ck v2 38400 (lt (wr S 46 v2 (rd S 46 (v2 + (640 : Int32)))) fun S3 =>
    lt (v2 + (1 : Int32)) fun x4 =>
    fm_remove_39 n S3 x4)))
set_option maxRecDepth 100000 in
set_option maxHeartbeats 4000000 in
theorem wm_remove_39 (C : mY p R s m args meth c cX12_remove 3 0 0 none) (X : mX s cM iS cI cZ mo ad) : ∀ (n : Nat), ∀ {S : mSt} {v2 : Int32} {H : Heap} {locs : List Loc} {ls : Array Slot}, fm_remove_39 n S v2 = some S9 → mW cM iS cI cZ mo ad S H → mS (mA mo ad) s.heap H locs → lv_has ls 3 [(0, .ref mo), (2, .int v2)] → W p l e R s m args below meth c H locs 0 0 (MQ below (mQw none cM iS cI cZ mo ad S9) args s 0 0 (mA mo ad)) (F0 m 39 ls []) := by
  intro n
  induction n with
  | zero =>
    intro S v2 H locs ls h hW hS hl
    exact absurd (show (none : Option (mSt)) = _ from h) (fun q => by cases q)
  | succ n ih =>
    intro S v2 H locs ls h hW hS hl
    rw [fm_remove_39] at h
    refine lv_iload_n C.1 C.2.1 dX12_remove_39 rfl (lv_at hl 1 rfl) ?_
    refine lv_sipush (v := 640) C.1 C.2.1 dX12_remove_40 (by decide) ?_
    refine lv_aload_n C.1 C.2.1 dX12_remove_43 rfl (lv_at hl 0 rfl) ?_
    refine gf_42 C X hW dX12_remove_44 ?_
    refine lv_iconst (v := 1) C.1 C.2.1 dX12_remove_47 (by decide) ?_
    refine lv_isub C.1 C.2.1 dX12_remove_48 ?_
    refine lv_imul C.1 C.2.1 dX12_remove_49 ?_
    refine lv_icmp_ge (tgt := 75) C.1 C.2.1 dX12_remove_50 (by decide) (fun c1 => ?_) (fun c1 => ?_)
    · have h := if_t h c1
      refine lv_aload_n C.1 C.2.1 dX12_remove_75 rfl (lv_at hl 0 rfl) ?_
      refine lv_dup C.1 C.2.1 dX12_remove_76 rfl ?_
      refine gf_42 C X hW dX12_remove_77 ?_
      refine lv_iconst (v := 1) C.1 C.2.1 dX12_remove_80 (by decide) ?_
      refine lv_isub C.1 C.2.1 dX12_remove_81 ?_
      refine p_42 C X hW hS dX12_remove_82 (fun H locs hW hS => ?_)
      refine lt_ok h (fun S2 e_S2 h => ?_)
      rw [e_S2] at hW
      cases h
      exact m_retvW C hW hS dX12_remove_85
    · have h := if_f h c1
      refine lv_aload_n C.1 C.2.1 dX12_remove_53 rfl (lv_at hl 0 rfl) ?_
      refine gf_46 C X hW dX12_remove_54 ?_
      refine lv_iload_n C.1 C.2.1 dX12_remove_57 rfl (lv_at hl 1 rfl) ?_
      refine lv_aload_n C.1 C.2.1 dX12_remove_58 rfl (lv_at hl 0 rfl) ?_
      refine gf_46 C X hW dX12_remove_59 ?_
      refine lv_iload_n C.1 C.2.1 dX12_remove_62 rfl (lv_at hl 1 rfl) ?_
      refine lv_sipush (v := 640) C.1 C.2.1 dX12_remove_63 (by decide) ?_
      refine lv_iadd C.1 C.2.1 dX12_remove_66 ?_
      obtain ⟨hin, h⟩ := ck_ok h
      refine l_46 C X hW hin dX12_remove_67 ?_
      obtain ⟨hin, h⟩ := ck_ok h
      refine s_46 C X hW hS hin dX12_remove_68 (fun H locs hW hS => ?_)
      refine lt_ok h (fun S3 e_S3 h => ?_)
      rw [e_S3] at hW
      refine lt_ok h (fun x4 e_x4 h => ?_)
      refine lv_iinc (v := x4) (lv' := [(2, .int x4), (0, .ref mo)]) C.1 C.2.1 dX12_remove_69 hl (k := 1) rfl (by rw [← e_x4]; rfl) (by decide) rfl (fun ls hl => ?_)
      refine lv_goto (tgt := 39) C.1 C.2.1 dX12_remove_72 (by decide) ?_
      exact ih h hW hS (lv_sub hl [1, 0] rfl)
noncomputable def fm_remove_2 : Nat → mSt → Int32 → Int32 → Option (mSt)
  | 0, _, _, _ => none
  | n + 1, S, v1, v2 =>
    if (640 : Int32) ≤ v2 then (
    lt ((640 : Int32) * v1) fun x2 =>
    fm_remove_39 mFU S x2)
    else (
    ck (((640 : Int32) * v1) + v2) 38400 (
    ck v2 640 (lt (wr S 76 v2 (rd S 46 (((640 : Int32) * v1) + v2))) fun S3 =>
    lt (v2 + (1 : Int32)) fun x4 =>
    fm_remove_2 n S3 v1 x4)))
set_option maxRecDepth 100000 in
set_option maxHeartbeats 4000000 in
theorem wm_remove_2 (C : mY p R s m args meth c cX12_remove 3 0 0 none) (X : mX s cM iS cI cZ mo ad) : ∀ (n : Nat), ∀ {S : mSt} {v1 : Int32} {v2 : Int32} {H : Heap} {locs : List Loc} {ls : Array Slot}, fm_remove_2 n S v1 v2 = some S9 → mW cM iS cI cZ mo ad S H → mS (mA mo ad) s.heap H locs → lv_has ls 3 [(0, .ref mo), (1, .int v1), (2, .int v2)] → W p l e R s m args below meth c H locs 0 0 (MQ below (mQw none cM iS cI cZ mo ad S9) args s 0 0 (mA mo ad)) (F0 m 2 ls []) := by
  intro n
  induction n with
  | zero =>
    intro S v1 v2 H locs ls h hW hS hl
    exact absurd (show (none : Option (mSt)) = _ from h) (fun q => by cases q)
  | succ n ih =>
    intro S v1 v2 H locs ls h hW hS hl
    rw [fm_remove_2] at h
    refine lv_iload_n C.1 C.2.1 dX12_remove_2 rfl (lv_at hl 2 rfl) ?_
    refine lv_sipush (v := 640) C.1 C.2.1 dX12_remove_3 (by decide) ?_
    refine lv_icmp_ge (tgt := 33) C.1 C.2.1 dX12_remove_6 (by decide) (fun c1 => ?_) (fun c1 => ?_)
    · have h := if_t h c1
      refine lv_sipush (v := 640) C.1 C.2.1 dX12_remove_33 (by decide) ?_
      refine lv_iload_n C.1 C.2.1 dX12_remove_36 rfl (lv_at hl 1 rfl) ?_
      refine lv_imul C.1 C.2.1 dX12_remove_37 ?_
      refine lt_ok h (fun x2 e_x2 h => ?_)
      refine lv_nm e_x2 ?_
      refine lv_istore_n (lv' := [(2, .int x2), (0, .ref mo), (1, .int v1)]) C.1 C.2.1 dX12_remove_38 rfl hl (by decide) rfl (fun ls hl => ?_)
      exact wm_remove_39 C X mFU h hW hS (lv_sub hl [1, 0] rfl)
    · have h := if_f h c1
      refine lv_aload_n C.1 C.2.1 dX12_remove_9 rfl (lv_at hl 0 rfl) ?_
      refine gf_76 C X hW dX12_remove_10 ?_
      refine lv_iload_n C.1 C.2.1 dX12_remove_13 rfl (lv_at hl 2 rfl) ?_
      refine lv_aload_n C.1 C.2.1 dX12_remove_14 rfl (lv_at hl 0 rfl) ?_
      refine gf_46 C X hW dX12_remove_15 ?_
      refine lv_sipush (v := 640) C.1 C.2.1 dX12_remove_18 (by decide) ?_
      refine lv_iload_n C.1 C.2.1 dX12_remove_21 rfl (lv_at hl 1 rfl) ?_
      refine lv_imul C.1 C.2.1 dX12_remove_22 ?_
      refine lv_iload_n C.1 C.2.1 dX12_remove_23 rfl (lv_at hl 2 rfl) ?_
      refine lv_iadd C.1 C.2.1 dX12_remove_24 ?_
      obtain ⟨hin, h⟩ := ck_ok h
      refine l_46 C X hW hin dX12_remove_25 ?_
      obtain ⟨hin, h⟩ := ck_ok h
      refine s_76 C X hW hS hin dX12_remove_26 (fun H locs hW hS => ?_)
      refine lt_ok h (fun S3 e_S3 h => ?_)
      rw [e_S3] at hW
      refine lt_ok h (fun x4 e_x4 h => ?_)
      refine lv_iinc (v := x4) (lv' := [(2, .int x4), (0, .ref mo), (1, .int v1)]) C.1 C.2.1 dX12_remove_27 hl (k := 2) rfl (by rw [← e_x4]; rfl) (by decide) rfl (fun ls hl => ?_)
      refine lv_goto (tgt := 2) C.1 C.2.1 dX12_remove_30 (by decide) ?_
      exact ih h hW hS (lv_sub hl [1, 2, 0] rfl)
noncomputable def fm_remove (S : mSt) (v1 : Int32) : Option (mSt) :=
fm_remove_2 mFU S v1 (0 : Int32)
set_option maxRecDepth 100000 in
set_option maxHeartbeats 4000000 in
theorem tm_remove (l : Launch) {cM : ClassId} {iS : Nat → Nat} {cI cZ : ClassId} {mo : Nat} {ad : Nat → Nat} {S : mSt} {v1 : Int32} {S9 : mSt} (h : fm_remove S v1 = some S9) : Met l yX12_remove (Cond.code yX12_remove cX12_remove 3 none :: lw_g) { frames := 0, cells := 0, slots := 0, locals := 0 } (mPi [.int v1] cM iS cI cZ mo ad S) (mQw none cM iS cI cZ mo ad S9) 0 0 (mA mo ad) := by
  refine Met.ofW (cc := cX12_remove) (maxL := 3) (ret := none) (by decide) rfl ?_
  intro p e s m args below meth c s₁ B hml hv
  obtain ⟨rfl, hW, X⟩ := hv
  have C : mY p (headSpec (Cond.code yX12_remove cX12_remove 3 none :: lw_g) { frames := 0, cells := 0, slots := 0, locals := 0 }).room s m _ meth c cX12_remove 3 0 0 none := ⟨B.exec, B.bytes, hml, findClass_of_methodNamed B.named, fun w hw => atoms_spec (ws := Cond.code yX12_remove cX12_remove 3 none :: lw_g) B.pre w (List.mem_cons_of_mem _ hw), ⟨Nat.le_refl _, Nat.le_refl _⟩, B.returns, B.notSynchronized⟩
  have hl := lv_entry ([.ref mo, .int v1]) (n := 3) (Nat.le_of_ble_eq_true rfl)
  rw [lg_entry_eq]
  generalize (lg_sl ([.ref mo, .int v1]) ++ List.replicate (3 - (lg_sl ([.ref mo, .int v1])).length) Slot.unset).toArray = ls at hl ⊢
  have hl : lv_has ls 3 [(0, .ref mo), (1, .int v1)] := hl
  have hS : mS (mA mo ad) s.heap s.heap [] := mS.rf
  unfold fm_remove at h
  refine lv_iconst (v := 0) C.1 C.2.1 dX12_remove_0 (by decide) ?_
  refine lv_istore_n (lv' := [(2, .int (0 : Int32)), (0, .ref mo), (1, .int v1)]) C.1 C.2.1 dX12_remove_1 rfl hl (by decide) rfl (fun ls hl => ?_)
  exact wm_remove_2 C X mFU h hW hS (lv_sub hl [1, 2, 0] rfl)
end
theorem dX12_nextReady_0 : decode cX12_nextReady 0 = .ok (.iconst (-1), 1) := by decide +kernel
theorem dX12_nextReady_1 : decode cX12_nextReady 1 = .ok (.istore_n 2, 1) := by decide +kernel
theorem dX12_nextReady_2 : decode cX12_nextReady 2 = .ok (.iconst 0, 1) := by decide +kernel
theorem dX12_nextReady_3 : decode cX12_nextReady 3 = .ok (.istore_n 3, 1) := by decide +kernel
theorem dX12_nextReady_4 : decode cX12_nextReady 4 = .ok (.iload_n 3, 1) := by decide +kernel
theorem dX12_nextReady_5 : decode cX12_nextReady 5 = .ok (.aload_n 0, 1) := by decide +kernel
theorem dX12_nextReady_6 : decode cX12_nextReady 6 = .ok (.getfield 77, 3) := by decide +kernel
theorem dX12_nextReady_9 : decode cX12_nextReady 9 = .ok (.iload_n 1, 1) := by decide +kernel
theorem dX12_nextReady_10 : decode cX12_nextReady 10 = .ok (.iaload, 1) := by decide +kernel
theorem dX12_nextReady_11 : decode cX12_nextReady 11 = .ok (.if_icmp .ge 50, 3) := by decide +kernel
theorem dX12_nextReady_14 : decode cX12_nextReady 14 = .ok (.aload_n 0, 1) := by decide +kernel
theorem dX12_nextReady_15 : decode cX12_nextReady 15 = .ok (.getfield 80, 3) := by decide +kernel
theorem dX12_nextReady_18 : decode cX12_nextReady 18 = .ok (.bipush 30, 2) := by decide +kernel
theorem dX12_nextReady_20 : decode cX12_nextReady 20 = .ok (.iload_n 1, 1) := by decide +kernel
theorem dX12_nextReady_21 : decode cX12_nextReady 21 = .ok (.imul, 1) := by decide +kernel
theorem dX12_nextReady_22 : decode cX12_nextReady 22 = .ok (.iload_n 3, 1) := by decide +kernel
theorem dX12_nextReady_23 : decode cX12_nextReady 23 = .ok (.iadd, 1) := by decide +kernel
theorem dX12_nextReady_24 : decode cX12_nextReady 24 = .ok (.iaload, 1) := by decide +kernel
theorem dX12_nextReady_25 : decode cX12_nextReady 25 = .ok (.istore 4, 2) := by decide +kernel
theorem dX12_nextReady_27 : decode cX12_nextReady 27 = .ok (.aload_n 0, 1) := by decide +kernel
theorem dX12_nextReady_28 : decode cX12_nextReady 28 = .ok (.iload_n 1, 1) := by decide +kernel
theorem dX12_nextReady_29 : decode cX12_nextReady 29 = .ok (.iload 4, 2) := by decide +kernel
theorem dX12_nextReady_31 : decode cX12_nextReady 31 = .ok (.invokevirtual 464, 3) := by decide +kernel
theorem dX12_nextReady_34 : decode cX12_nextReady 34 = .ok (.ifCond .eq 21, 3) := by decide +kernel
theorem dX12_nextReady_37 : decode cX12_nextReady 37 = .ok (.iload_n 2, 1) := by decide +kernel
theorem dX12_nextReady_38 : decode cX12_nextReady 38 = .ok (.iconst (-1), 1) := by decide +kernel
theorem dX12_nextReady_39 : decode cX12_nextReady 39 = .ok (.if_icmp .eq 13, 3) := by decide +kernel
theorem dX12_nextReady_42 : decode cX12_nextReady 42 = .ok (.aload_n 0, 1) := by decide +kernel
theorem dX12_nextReady_43 : decode cX12_nextReady 43 = .ok (.iload 4, 2) := by decide +kernel
theorem dX12_nextReady_45 : decode cX12_nextReady 45 = .ok (.iload_n 2, 1) := by decide +kernel
theorem dX12_nextReady_46 : decode cX12_nextReady 46 = .ok (.invokevirtual 285, 3) := by decide +kernel
theorem dX12_nextReady_49 : decode cX12_nextReady 49 = .ok (.ifCond .eq 6, 3) := by decide +kernel
theorem dX12_nextReady_52 : decode cX12_nextReady 52 = .ok (.iload 4, 2) := by decide +kernel
theorem dX12_nextReady_54 : decode cX12_nextReady 54 = .ok (.istore_n 2, 1) := by decide +kernel
theorem dX12_nextReady_55 : decode cX12_nextReady 55 = .ok (.iinc 3 1, 3) := by decide +kernel
theorem dX12_nextReady_58 : decode cX12_nextReady 58 = .ok (.goto (-54), 3) := by decide +kernel
theorem dX12_nextReady_61 : decode cX12_nextReady 61 = .ok (.iload_n 2, 1) := by decide +kernel
theorem dX12_nextReady_62 : decode cX12_nextReady 62 = .ok (.ireturn, 1) := by decide +kernel
theorem cd_nextReady : Cond.code yX12_nextReady cX12_nextReady 5 (some .int) ∈ lw_g := mt_at 2284 (by decide +kernel) rfl
theorem mw_nextReady : mCw 479 yX12_nextReady cX12_nextReady 5 (some .int) 1 := ⟨cd_nextReady, mt_at 2281 (by decide +kernel) rfl, in_M, by decide +kernel⟩
theorem im_nextReady : Cond.instanceMethod yX12_nextReady ∈ lw_g := mt_at 2283 (by decide +kernel) rfl
theorem sl_nextReady : Cond.selects RX12 yX12_nextReady yX12_nextReady ∈ lw_g := mt_sel 105 (by decide +kernel) rfl
section
variable {p : Program} {l : Launch} {e : Env} {R : Room} {s : State} {m : MethodId} {args : Array Value} {below : List Frame} {meth : Method} {c : Code} {cM : ClassId} {iS : Nat → Nat} {cI cZ : ClassId} {mo : Nat} {ad : Nat → Nat} {S : mSt} {r : Int32}
noncomputable def fm_nextReady_55 (g_4 : Int32 → Int32 → Int32 → Option (Int32)) (S : mSt) (v1 : Int32) (v2 : Int32) (v3 : Int32) : Option (Int32) :=
lt (v3 + (1 : Int32)) fun x1 =>
g_4 v1 v2 x1
set_option maxRecDepth 100000 in
set_option maxHeartbeats 4000000 in
theorem wm_nextReady_55 (C : mY p R s m args meth c cX12_nextReady 5 2 46 (some .int)) (X : mX s cM iS cI cZ mo ad) (hW : mW cM iS cI cZ mo ad S s.heap) {g_4 : Int32 → Int32 → Int32 → Option (Int32)} (hg_4 : ∀ {v1 : Int32} {v2 : Int32} {v3 : Int32} {ls : Array Slot}, g_4 v1 v2 v3 = some r → lv_has ls 5 [(0, .ref mo), (1, .int v1), (2, .int v2), (3, .int v3)] → W p l e R s m args below meth c s.heap [] 0 0 (MQ below (mQi r) args s 0 0 mNo) (F0 m 4 ls [])) : ∀ {v1 : Int32} {v2 : Int32} {v3 : Int32} {ls : Array Slot}, fm_nextReady_55 g_4 S v1 v2 v3 = some r → lv_has ls 5 [(0, .ref mo), (1, .int v1), (2, .int v2), (3, .int v3)] → W p l e R s m args below meth c s.heap [] 0 0 (MQ below (mQi r) args s 0 0 mNo) (F0 m 55 ls []) := by
  intro v1 v2 v3 ls h hl
  unfold fm_nextReady_55 at h
  refine lt_ok h (fun x1 e_x1 h => ?_)
  refine lv_iinc (v := x1) (lv' := [(3, .int x1), (0, .ref mo), (1, .int v1), (2, .int v2)]) C.1 C.2.1 dX12_nextReady_55 hl (k := 3) rfl (by rw [← e_x1]; rfl) (by decide) rfl (fun ls hl => ?_)
  refine lv_goto (tgt := 4) C.1 C.2.1 dX12_nextReady_58 (by decide) ?_
  exact hg_4 h (lv_sub hl [1, 2, 3, 0] rfl)
noncomputable def fm_nextReady_52 (g_4 : Int32 → Int32 → Int32 → Option (Int32)) (S : mSt) (v1 : Int32) (v3 : Int32) (v4 : Int32) : Option (Int32) :=
fm_nextReady_55 g_4 S v1 v4 v3
set_option maxRecDepth 100000 in
set_option maxHeartbeats 4000000 in
theorem wm_nextReady_52 (C : mY p R s m args meth c cX12_nextReady 5 2 46 (some .int)) (X : mX s cM iS cI cZ mo ad) (hW : mW cM iS cI cZ mo ad S s.heap) {g_4 : Int32 → Int32 → Int32 → Option (Int32)} (hg_4 : ∀ {v1 : Int32} {v2 : Int32} {v3 : Int32} {ls : Array Slot}, g_4 v1 v2 v3 = some r → lv_has ls 5 [(0, .ref mo), (1, .int v1), (2, .int v2), (3, .int v3)] → W p l e R s m args below meth c s.heap [] 0 0 (MQ below (mQi r) args s 0 0 mNo) (F0 m 4 ls [])) : ∀ {v1 : Int32} {v3 : Int32} {v4 : Int32} {ls : Array Slot}, fm_nextReady_52 g_4 S v1 v3 v4 = some r → lv_has ls 5 [(0, .ref mo), (1, .int v1), (3, .int v3), (4, .int v4)] → W p l e R s m args below meth c s.heap [] 0 0 (MQ below (mQi r) args s 0 0 mNo) (F0 m 52 ls []) := by
  intro v1 v3 v4 ls h hl
  unfold fm_nextReady_52 at h
  refine lv_iload C.1 C.2.1 dX12_nextReady_52 (lv_at hl 3 rfl) ?_
  refine lv_istore_n (lv' := [(2, .int v4), (0, .ref mo), (1, .int v1), (3, .int v3), (4, .int v4)]) C.1 C.2.1 dX12_nextReady_54 rfl hl (by decide) rfl (fun ls hl => ?_)
  exact wm_nextReady_55 C X hW hg_4 h (lv_sub hl [1, 2, 0, 3] rfl)
noncomputable def fm_nextReady_4 (S : mSt) : Nat → Int32 → Int32 → Int32 → Option (Int32)
  | 0, _, _, _ => none
  | n + 1, v1, v2, v3 =>
    ck v1 4 (
    if (rd S 25 v1) ≤ v3 then (
    some v2)
    else (
    ck (((30 : Int32) * v1) + v3) 120 (
    lt (rd S 26 (((30 : Int32) * v1) + v3)) fun x2 =>
    bd (fm_isReady S v1 x2) fun r3 =>
    if r3 = 0 then (
    fm_nextReady_55 (fm_nextReady_4 S n) S v1 v2 v3)
    else (
    if v2 = (-1 : Int32) then (
    fm_nextReady_52 (fm_nextReady_4 S n) S v1 v3 x2)
    else (
    bd (fm_isBefore S x2 v2) fun r6 =>
    if r6 = 0 then (
    fm_nextReady_55 (fm_nextReady_4 S n) S v1 v2 v3)
    else (
    fm_nextReady_52 (fm_nextReady_4 S n) S v1 v3 x2))))))
set_option maxRecDepth 100000 in
set_option maxHeartbeats 4000000 in
theorem wm_nextReady_4 (C : mY p R s m args meth c cX12_nextReady 5 2 46 (some .int)) (X : mX s cM iS cI cZ mo ad) (hW : mW cM iS cI cZ mo ad S s.heap) : ∀ (n : Nat), ∀ {v1 : Int32} {v2 : Int32} {v3 : Int32} {ls : Array Slot}, fm_nextReady_4 S n v1 v2 v3 = some r → lv_has ls 5 [(0, .ref mo), (1, .int v1), (2, .int v2), (3, .int v3)] → W p l e R s m args below meth c s.heap [] 0 0 (MQ below (mQi r) args s 0 0 mNo) (F0 m 4 ls []) := by
  intro n
  induction n with
  | zero =>
    intro v1 v2 v3 ls h hl
    exact absurd (show (none : Option (Int32)) = _ from h) (fun q => by cases q)
  | succ n ih =>
    intro v1 v2 v3 ls h hl
    rw [fm_nextReady_4] at h
    refine lv_iload_n C.1 C.2.1 dX12_nextReady_4 rfl (lv_at hl 3 rfl) ?_
    refine lv_aload_n C.1 C.2.1 dX12_nextReady_5 rfl (lv_at hl 0 rfl) ?_
    refine gf_25 C X hW dX12_nextReady_6 ?_
    refine lv_iload_n C.1 C.2.1 dX12_nextReady_9 rfl (lv_at hl 1 rfl) ?_
    obtain ⟨hin, h⟩ := ck_ok h
    refine l_25 C X hW hin dX12_nextReady_10 ?_
    refine lv_icmp_ge (tgt := 61) C.1 C.2.1 dX12_nextReady_11 (by decide) (fun c1 => ?_) (fun c1 => ?_)
    · have h := if_t h c1
      refine lv_iload_n C.1 C.2.1 dX12_nextReady_61 rfl (lv_at hl 2 rfl) ?_
      cases h
      exact m_reti C rfl rfl dX12_nextReady_62
    · have h := if_f h c1
      refine lv_aload_n C.1 C.2.1 dX12_nextReady_14 rfl (lv_at hl 0 rfl) ?_
      refine gf_26 C X hW dX12_nextReady_15 ?_
      refine lv_bipush (v := 30) C.1 C.2.1 dX12_nextReady_18 (by decide) ?_
      refine lv_iload_n C.1 C.2.1 dX12_nextReady_20 rfl (lv_at hl 1 rfl) ?_
      refine lv_imul C.1 C.2.1 dX12_nextReady_21 ?_
      refine lv_iload_n C.1 C.2.1 dX12_nextReady_22 rfl (lv_at hl 3 rfl) ?_
      refine lv_iadd C.1 C.2.1 dX12_nextReady_23 ?_
      obtain ⟨hin, h⟩ := ck_ok h
      refine l_26 C X hW hin dX12_nextReady_24 ?_
      refine lt_ok h (fun x2 e_x2 h => ?_)
      refine lv_nm e_x2 ?_
      refine lv_istore (lv' := [(4, .int x2), (0, .ref mo), (1, .int v1), (2, .int v2), (3, .int v3)]) C.1 C.2.1 dX12_nextReady_25 hl (by decide) rfl (fun ls hl => ?_)
      refine lv_aload_n C.1 C.2.1 dX12_nextReady_27 rfl (lv_at hl 1 rfl) ?_
      refine lv_iload_n C.1 C.2.1 dX12_nextReady_28 rfl (lv_at hl 2 rfl) ?_
      refine lv_iload C.1 C.2.1 dX12_nextReady_29 (lv_at hl 0 rfl) ?_
      obtain ⟨r3, h_r3, h⟩ := bd_ok h
      refine m_callR (rest := []) C X hW hl.1 [.int v1, .int x2] (tm_isReady l h_r3) mw_isReady im_isReady sl_isReady rfl ⟨by decide, by decide⟩ rfl (Nat.le_of_ble_eq_true rfl) dX12_nextReady_31 ?_
      refine lv_if_eq (tgt := 55) C.1 C.2.1 dX12_nextReady_34 (by decide) (fun c4 => ?_) (fun c4 => ?_)
      · have h := if_t h c4
        exact wm_nextReady_55 C X hW ih h (lv_sub hl [1, 2, 3, 4] rfl)
      · have h := if_f h c4
        refine lv_iload_n C.1 C.2.1 dX12_nextReady_37 rfl (lv_at hl 3 rfl) ?_
        refine lv_iconst (v := -1) C.1 C.2.1 dX12_nextReady_38 (by decide) ?_
        refine lv_icmp_eq (tgt := 52) C.1 C.2.1 dX12_nextReady_39 (by decide) (fun c5 => ?_) (fun c5 => ?_)
        · have h := if_t h c5
          exact wm_nextReady_52 C X hW ih h (lv_sub hl [1, 2, 4, 0] rfl)
        · have h := if_f h c5
          refine lv_aload_n C.1 C.2.1 dX12_nextReady_42 rfl (lv_at hl 1 rfl) ?_
          refine lv_iload C.1 C.2.1 dX12_nextReady_43 (lv_at hl 0 rfl) ?_
          refine lv_iload_n C.1 C.2.1 dX12_nextReady_45 rfl (lv_at hl 3 rfl) ?_
          obtain ⟨r6, h_r6, h⟩ := bd_ok h
          refine m_callR (rest := []) C X hW hl.1 [.int x2, .int v2] (tm_isBefore l h_r6) mw_isBefore im_isBefore sl_isBefore rfl ⟨by decide, by decide⟩ rfl (Nat.le_of_ble_eq_true rfl) dX12_nextReady_46 ?_
          refine lv_if_eq (tgt := 55) C.1 C.2.1 dX12_nextReady_49 (by decide) (fun c7 => ?_) (fun c7 => ?_)
          · have h := if_t h c7
            exact wm_nextReady_55 C X hW ih h (lv_sub hl [1, 2, 3, 4] rfl)
          · have h := if_f h c7
            exact wm_nextReady_52 C X hW ih h (lv_sub hl [1, 2, 4, 0] rfl)
noncomputable def fm_nextReady (S : mSt) (v1 : Int32) : Option (Int32) :=
fm_nextReady_4 S mFU v1 (-1 : Int32) (0 : Int32)
set_option maxRecDepth 100000 in
set_option maxHeartbeats 4000000 in
theorem tm_nextReady (l : Launch) {cM : ClassId} {iS : Nat → Nat} {cI cZ : ClassId} {mo : Nat} {ad : Nat → Nat} {S : mSt} {v1 : Int32} {r : Int32} (h : fm_nextReady S v1 = some r) : Met l yX12_nextReady (Cond.code yX12_nextReady cX12_nextReady 5 (some .int) :: lw_g) { frames := 2, cells := 0, slots := 0, locals := 46 } (mPi [.int v1] cM iS cI cZ mo ad S) (mQi r) 0 0 (mNo) := by
  refine Met.ofW (cc := cX12_nextReady) (maxL := 5) (ret := (some .int)) (by decide) rfl ?_
  intro p e s m args below meth c s₁ B hml hv
  obtain ⟨rfl, hW, X⟩ := hv
  have C : mY p (headSpec (Cond.code yX12_nextReady cX12_nextReady 5 (some .int) :: lw_g) { frames := 2, cells := 0, slots := 0, locals := 46 }).room s m _ meth c cX12_nextReady 5 2 46 (some .int) := ⟨B.exec, B.bytes, hml, findClass_of_methodNamed B.named, fun w hw => atoms_spec (ws := Cond.code yX12_nextReady cX12_nextReady 5 (some .int) :: lw_g) B.pre w (List.mem_cons_of_mem _ hw), ⟨Nat.le_refl _, Nat.le_refl _⟩, B.returns, B.notSynchronized⟩
  have hl := lv_entry ([.ref mo, .int v1]) (n := 5) (Nat.le_of_ble_eq_true rfl)
  rw [lg_entry_eq]
  generalize (lg_sl ([.ref mo, .int v1]) ++ List.replicate (5 - (lg_sl ([.ref mo, .int v1])).length) Slot.unset).toArray = ls at hl ⊢
  have hl : lv_has ls 5 [(0, .ref mo), (1, .int v1)] := hl
  unfold fm_nextReady at h
  refine lv_iconst (v := -1) C.1 C.2.1 dX12_nextReady_0 (by decide) ?_
  refine lv_istore_n (lv' := [(2, .int (-1 : Int32)), (0, .ref mo), (1, .int v1)]) C.1 C.2.1 dX12_nextReady_1 rfl hl (by decide) rfl (fun ls hl => ?_)
  refine lv_iconst (v := 0) C.1 C.2.1 dX12_nextReady_2 (by decide) ?_
  refine lv_istore_n (lv' := [(3, .int (0 : Int32)), (2, .int (-1 : Int32)), (0, .ref mo), (1, .int v1)]) C.1 C.2.1 dX12_nextReady_3 rfl hl (by decide) rfl (fun ls hl => ?_)
  exact wm_nextReady_4 C X hW mFU h (lv_sub hl [2, 3, 1, 0] rfl)
end
theorem dX12_keep_0 : decode cX12_keep 0 = .ok (.iconst 0, 1) := by decide +kernel
theorem dX12_keep_1 : decode cX12_keep 1 = .ok (.istore_n 3, 1) := by decide +kernel
theorem dX12_keep_2 : decode cX12_keep 2 = .ok (.iload_n 3, 1) := by decide +kernel
theorem dX12_keep_3 : decode cX12_keep 3 = .ok (.aload_n 0, 1) := by decide +kernel
theorem dX12_keep_4 : decode cX12_keep 4 = .ok (.getfield 77, 3) := by decide +kernel
theorem dX12_keep_7 : decode cX12_keep 7 = .ok (.iload_n 1, 1) := by decide +kernel
theorem dX12_keep_8 : decode cX12_keep 8 = .ok (.iaload, 1) := by decide +kernel
theorem dX12_keep_9 : decode cX12_keep 9 = .ok (.if_icmp .ge 25, 3) := by decide +kernel
theorem dX12_keep_12 : decode cX12_keep 12 = .ok (.aload_n 0, 1) := by decide +kernel
theorem dX12_keep_13 : decode cX12_keep 13 = .ok (.getfield 80, 3) := by decide +kernel
theorem dX12_keep_16 : decode cX12_keep 16 = .ok (.bipush 30, 2) := by decide +kernel
theorem dX12_keep_18 : decode cX12_keep 18 = .ok (.iload_n 1, 1) := by decide +kernel
theorem dX12_keep_19 : decode cX12_keep 19 = .ok (.imul, 1) := by decide +kernel
theorem dX12_keep_20 : decode cX12_keep 20 = .ok (.iload_n 3, 1) := by decide +kernel
theorem dX12_keep_21 : decode cX12_keep 21 = .ok (.iadd, 1) := by decide +kernel
theorem dX12_keep_22 : decode cX12_keep 22 = .ok (.iaload, 1) := by decide +kernel
theorem dX12_keep_23 : decode cX12_keep 23 = .ok (.iload_n 2, 1) := by decide +kernel
theorem dX12_keep_24 : decode cX12_keep 24 = .ok (.if_icmp .ne 4, 3) := by decide +kernel
theorem dX12_keep_27 : decode cX12_keep 27 = .ok (.return_, 1) := by decide +kernel
theorem dX12_keep_28 : decode cX12_keep 28 = .ok (.iinc 3 1, 3) := by decide +kernel
theorem dX12_keep_31 : decode cX12_keep 31 = .ok (.goto (-29), 3) := by decide +kernel
theorem dX12_keep_34 : decode cX12_keep 34 = .ok (.aload_n 0, 1) := by decide +kernel
theorem dX12_keep_35 : decode cX12_keep 35 = .ok (.getfield 77, 3) := by decide +kernel
theorem dX12_keep_38 : decode cX12_keep 38 = .ok (.iload_n 1, 1) := by decide +kernel
theorem dX12_keep_39 : decode cX12_keep 39 = .ok (.iaload, 1) := by decide +kernel
theorem dX12_keep_40 : decode cX12_keep 40 = .ok (.bipush 30, 2) := by decide +kernel
theorem dX12_keep_42 : decode cX12_keep 42 = .ok (.if_icmp .ne 4, 3) := by decide +kernel
theorem dX12_keep_45 : decode cX12_keep 45 = .ok (.return_, 1) := by decide +kernel
theorem dX12_keep_46 : decode cX12_keep 46 = .ok (.aload_n 0, 1) := by decide +kernel
theorem dX12_keep_47 : decode cX12_keep 47 = .ok (.getfield 80, 3) := by decide +kernel
theorem dX12_keep_50 : decode cX12_keep 50 = .ok (.bipush 30, 2) := by decide +kernel
theorem dX12_keep_52 : decode cX12_keep 52 = .ok (.iload_n 1, 1) := by decide +kernel
theorem dX12_keep_53 : decode cX12_keep 53 = .ok (.imul, 1) := by decide +kernel
theorem dX12_keep_54 : decode cX12_keep 54 = .ok (.aload_n 0, 1) := by decide +kernel
theorem dX12_keep_55 : decode cX12_keep 55 = .ok (.getfield 77, 3) := by decide +kernel
theorem dX12_keep_58 : decode cX12_keep 58 = .ok (.iload_n 1, 1) := by decide +kernel
theorem dX12_keep_59 : decode cX12_keep 59 = .ok (.iaload, 1) := by decide +kernel
theorem dX12_keep_60 : decode cX12_keep 60 = .ok (.iadd, 1) := by decide +kernel
theorem dX12_keep_61 : decode cX12_keep 61 = .ok (.iload_n 2, 1) := by decide +kernel
theorem dX12_keep_62 : decode cX12_keep 62 = .ok (.iastore, 1) := by decide +kernel
theorem dX12_keep_63 : decode cX12_keep 63 = .ok (.aload_n 0, 1) := by decide +kernel
theorem dX12_keep_64 : decode cX12_keep 64 = .ok (.getfield 77, 3) := by decide +kernel
theorem dX12_keep_67 : decode cX12_keep 67 = .ok (.iload_n 1, 1) := by decide +kernel
theorem dX12_keep_68 : decode cX12_keep 68 = .ok (.dup2, 1) := by decide +kernel
theorem dX12_keep_69 : decode cX12_keep 69 = .ok (.iaload, 1) := by decide +kernel
theorem dX12_keep_70 : decode cX12_keep 70 = .ok (.iconst 1, 1) := by decide +kernel
theorem dX12_keep_71 : decode cX12_keep 71 = .ok (.iadd, 1) := by decide +kernel
theorem dX12_keep_72 : decode cX12_keep 72 = .ok (.iastore, 1) := by decide +kernel
theorem dX12_keep_73 : decode cX12_keep 73 = .ok (.return_, 1) := by decide +kernel
theorem cd_keep : Cond.code yX12_keep cX12_keep 4 none ∈ lw_g := mt_at 2280 (by decide +kernel) rfl
theorem mw_keep : mCw 476 yX12_keep cX12_keep 4 none 2 := ⟨cd_keep, mt_at 2277 (by decide +kernel) rfl, in_M, by decide +kernel⟩
theorem im_keep : Cond.instanceMethod yX12_keep ∈ lw_g := mt_at 2279 (by decide +kernel) rfl
theorem sl_keep : Cond.selects RX12 yX12_keep yX12_keep ∈ lw_g := mt_sel 104 (by decide +kernel) rfl
section
variable {p : Program} {l : Launch} {e : Env} {R : Room} {s : State} {m : MethodId} {args : Array Value} {below : List Frame} {meth : Method} {c : Code} {cM : ClassId} {iS : Nat → Nat} {cI cZ : ClassId} {mo : Nat} {ad : Nat → Nat} {r : Int32} {S9 : mSt}
noncomputable def fm_keep_2 : Nat → mSt → Int32 → Int32 → Int32 → Option (mSt)
  | 0, _, _, _, _ => none
  | n + 1, S, v1, v2, v3 =>
    ck v1 4 (
    if (rd S 25 v1) ≤ v3 then (
    ck v1 4 (
    if (rd S 25 v1) = (30 : Int32) then (
    some S)
    else (
    ck v1 4 (
    ck (((30 : Int32) * v1) + (rd S 25 v1)) 120 (lt (wr S 26 (((30 : Int32) * v1) + (rd S 25 v1)) v2) fun S3 =>
    ck v1 4 (
    ck v1 4 (lt (wr S3 25 v1 ((rd S3 25 v1) + (1 : Int32))) fun S4 =>
    some S4)))))))
    else (
    ck (((30 : Int32) * v1) + v3) 120 (
    if (rd S 26 (((30 : Int32) * v1) + v3)) = v2 then (
    some S)
    else (
    lt (v3 + (1 : Int32)) fun x6 =>
    fm_keep_2 n S v1 v2 x6))))
set_option maxRecDepth 100000 in
set_option maxHeartbeats 4000000 in
theorem wm_keep_2 (C : mY p R s m args meth c cX12_keep 4 0 0 none) (X : mX s cM iS cI cZ mo ad) : ∀ (n : Nat), ∀ {S : mSt} {v1 : Int32} {v2 : Int32} {v3 : Int32} {H : Heap} {locs : List Loc} {ls : Array Slot}, fm_keep_2 n S v1 v2 v3 = some S9 → mW cM iS cI cZ mo ad S H → mS (mA mo ad) s.heap H locs → lv_has ls 4 [(0, .ref mo), (1, .int v1), (2, .int v2), (3, .int v3)] → W p l e R s m args below meth c H locs 0 0 (MQ below (mQw none cM iS cI cZ mo ad S9) args s 0 0 (mA mo ad)) (F0 m 2 ls []) := by
  intro n
  induction n with
  | zero =>
    intro S v1 v2 v3 H locs ls h hW hS hl
    exact absurd (show (none : Option (mSt)) = _ from h) (fun q => by cases q)
  | succ n ih =>
    intro S v1 v2 v3 H locs ls h hW hS hl
    rw [fm_keep_2] at h
    refine lv_iload_n C.1 C.2.1 dX12_keep_2 rfl (lv_at hl 3 rfl) ?_
    refine lv_aload_n C.1 C.2.1 dX12_keep_3 rfl (lv_at hl 0 rfl) ?_
    refine gf_25 C X hW dX12_keep_4 ?_
    refine lv_iload_n C.1 C.2.1 dX12_keep_7 rfl (lv_at hl 1 rfl) ?_
    obtain ⟨hin, h⟩ := ck_ok h
    refine l_25 C X hW hin dX12_keep_8 ?_
    refine lv_icmp_ge (tgt := 34) C.1 C.2.1 dX12_keep_9 (by decide) (fun c1 => ?_) (fun c1 => ?_)
    · have h := if_t h c1
      refine lv_aload_n C.1 C.2.1 dX12_keep_34 rfl (lv_at hl 0 rfl) ?_
      refine gf_25 C X hW dX12_keep_35 ?_
      refine lv_iload_n C.1 C.2.1 dX12_keep_38 rfl (lv_at hl 1 rfl) ?_
      obtain ⟨hin, h⟩ := ck_ok h
      refine l_25 C X hW hin dX12_keep_39 ?_
      refine lv_bipush (v := 30) C.1 C.2.1 dX12_keep_40 (by decide) ?_
      refine lv_icmp_ne (tgt := 46) C.1 C.2.1 dX12_keep_42 (by decide) (fun c2 => ?_) (fun c2 => ?_)
      · have h := if_f h c2
        refine lv_aload_n C.1 C.2.1 dX12_keep_46 rfl (lv_at hl 0 rfl) ?_
        refine gf_26 C X hW dX12_keep_47 ?_
        refine lv_bipush (v := 30) C.1 C.2.1 dX12_keep_50 (by decide) ?_
        refine lv_iload_n C.1 C.2.1 dX12_keep_52 rfl (lv_at hl 1 rfl) ?_
        refine lv_imul C.1 C.2.1 dX12_keep_53 ?_
        refine lv_aload_n C.1 C.2.1 dX12_keep_54 rfl (lv_at hl 0 rfl) ?_
        refine gf_25 C X hW dX12_keep_55 ?_
        refine lv_iload_n C.1 C.2.1 dX12_keep_58 rfl (lv_at hl 1 rfl) ?_
        obtain ⟨hin, h⟩ := ck_ok h
        refine l_25 C X hW hin dX12_keep_59 ?_
        refine lv_iadd C.1 C.2.1 dX12_keep_60 ?_
        refine lv_iload_n C.1 C.2.1 dX12_keep_61 rfl (lv_at hl 2 rfl) ?_
        obtain ⟨hin, h⟩ := ck_ok h
        refine s_26 C X hW hS hin dX12_keep_62 (fun H locs hW hS => ?_)
        refine lt_ok h (fun S3 e_S3 h => ?_)
        rw [e_S3] at hW
        refine lv_aload_n C.1 C.2.1 dX12_keep_63 rfl (lv_at hl 0 rfl) ?_
        refine gf_25 C X hW dX12_keep_64 ?_
        refine lv_iload_n C.1 C.2.1 dX12_keep_67 rfl (lv_at hl 1 rfl) ?_
        refine lv_dup2_11 C.1 C.2.1 dX12_keep_68 rfl rfl ?_
        obtain ⟨hin, h⟩ := ck_ok h
        refine l_25 C X hW hin dX12_keep_69 ?_
        refine lv_iconst (v := 1) C.1 C.2.1 dX12_keep_70 (by decide) ?_
        refine lv_iadd C.1 C.2.1 dX12_keep_71 ?_
        obtain ⟨hin, h⟩ := ck_ok h
        refine s_25 C X hW hS hin dX12_keep_72 (fun H locs hW hS => ?_)
        refine lt_ok h (fun S4 e_S4 h => ?_)
        rw [e_S4] at hW
        cases h
        exact m_retvW C hW hS dX12_keep_73
      · have h := if_t h c2
        cases h
        exact m_retvW C hW hS dX12_keep_45
    · have h := if_f h c1
      refine lv_aload_n C.1 C.2.1 dX12_keep_12 rfl (lv_at hl 0 rfl) ?_
      refine gf_26 C X hW dX12_keep_13 ?_
      refine lv_bipush (v := 30) C.1 C.2.1 dX12_keep_16 (by decide) ?_
      refine lv_iload_n C.1 C.2.1 dX12_keep_18 rfl (lv_at hl 1 rfl) ?_
      refine lv_imul C.1 C.2.1 dX12_keep_19 ?_
      refine lv_iload_n C.1 C.2.1 dX12_keep_20 rfl (lv_at hl 3 rfl) ?_
      refine lv_iadd C.1 C.2.1 dX12_keep_21 ?_
      obtain ⟨hin, h⟩ := ck_ok h
      refine l_26 C X hW hin dX12_keep_22 ?_
      refine lv_iload_n C.1 C.2.1 dX12_keep_23 rfl (lv_at hl 2 rfl) ?_
      refine lv_icmp_ne (tgt := 28) C.1 C.2.1 dX12_keep_24 (by decide) (fun c5 => ?_) (fun c5 => ?_)
      · have h := if_f h c5
        refine lt_ok h (fun x6 e_x6 h => ?_)
        refine lv_iinc (v := x6) (lv' := [(3, .int x6), (0, .ref mo), (1, .int v1), (2, .int v2)]) C.1 C.2.1 dX12_keep_28 hl (k := 3) rfl (by rw [← e_x6]; rfl) (by decide) rfl (fun ls hl => ?_)
        refine lv_goto (tgt := 2) C.1 C.2.1 dX12_keep_31 (by decide) ?_
        exact ih h hW hS (lv_sub hl [1, 2, 3, 0] rfl)
      · have h := if_t h c5
        cases h
        exact m_retvW C hW hS dX12_keep_27
noncomputable def fm_keep (S : mSt) (v1 : Int32) (v2 : Int32) : Option (mSt) :=
fm_keep_2 mFU S v1 v2 (0 : Int32)
set_option maxRecDepth 100000 in
set_option maxHeartbeats 4000000 in
theorem tm_keep (l : Launch) {cM : ClassId} {iS : Nat → Nat} {cI cZ : ClassId} {mo : Nat} {ad : Nat → Nat} {S : mSt} {v1 : Int32} {v2 : Int32} {S9 : mSt} (h : fm_keep S v1 v2 = some S9) : Met l yX12_keep (Cond.code yX12_keep cX12_keep 4 none :: lw_g) { frames := 0, cells := 0, slots := 0, locals := 0 } (mPi [.int v1, .int v2] cM iS cI cZ mo ad S) (mQw none cM iS cI cZ mo ad S9) 0 0 (mA mo ad) := by
  refine Met.ofW (cc := cX12_keep) (maxL := 4) (ret := none) (by decide) rfl ?_
  intro p e s m args below meth c s₁ B hml hv
  obtain ⟨rfl, hW, X⟩ := hv
  have C : mY p (headSpec (Cond.code yX12_keep cX12_keep 4 none :: lw_g) { frames := 0, cells := 0, slots := 0, locals := 0 }).room s m _ meth c cX12_keep 4 0 0 none := ⟨B.exec, B.bytes, hml, findClass_of_methodNamed B.named, fun w hw => atoms_spec (ws := Cond.code yX12_keep cX12_keep 4 none :: lw_g) B.pre w (List.mem_cons_of_mem _ hw), ⟨Nat.le_refl _, Nat.le_refl _⟩, B.returns, B.notSynchronized⟩
  have hl := lv_entry ([.ref mo, .int v1, .int v2]) (n := 4) (Nat.le_of_ble_eq_true rfl)
  rw [lg_entry_eq]
  generalize (lg_sl ([.ref mo, .int v1, .int v2]) ++ List.replicate (4 - (lg_sl ([.ref mo, .int v1, .int v2])).length) Slot.unset).toArray = ls at hl ⊢
  have hl : lv_has ls 4 [(0, .ref mo), (1, .int v1), (2, .int v2)] := hl
  have hS : mS (mA mo ad) s.heap s.heap [] := mS.rf
  unfold fm_keep at h
  refine lv_iconst (v := 0) C.1 C.2.1 dX12_keep_0 (by decide) ?_
  refine lv_istore_n (lv' := [(3, .int (0 : Int32)), (0, .ref mo), (1, .int v1), (2, .int v2)]) C.1 C.2.1 dX12_keep_1 rfl hl (by decide) rfl (fun ls hl => ?_)
  exact wm_keep_2 C X mFU h hW hS (lv_sub hl [1, 2, 3, 0] rfl)
end
