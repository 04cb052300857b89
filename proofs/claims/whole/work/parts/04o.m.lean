-- made by wip/whole/walk.py: the reference's join, children, object, size, value, bound, by
theorem dX12_join_0 : decode cX12_join 0 = .ok (.aload_n 0, 1) := by decide +kernel
theorem dX12_join_1 : decode cX12_join 1 = .ok (.iconst 0, 1) := by decide +kernel
theorem dX12_join_2 : decode cX12_join 2 = .ok (.putfield 200, 3) := by decide +kernel
theorem dX12_join_5 : decode cX12_join 5 = .ok (.iload_n 1, 1) := by decide +kernel
theorem dX12_join_6 : decode cX12_join 6 = .ok (.iconst 0, 1) := by decide +kernel
theorem dX12_join_7 : decode cX12_join 7 = .ok (.iconst 3, 1) := by decide +kernel
theorem dX12_join_8 : decode cX12_join 8 = .ok (.invokestatic 215, 3) := by decide +kernel
theorem dX12_join_11 : decode cX12_join 11 = .ok (.ifCond .eq 26, 3) := by decide +kernel
theorem dX12_join_14 : decode cX12_join 14 = .ok (.iload_n 2, 1) := by decide +kernel
theorem dX12_join_15 : decode cX12_join 15 = .ok (.iconst 0, 1) := by decide +kernel
theorem dX12_join_16 : decode cX12_join 16 = .ok (.iconst 3, 1) := by decide +kernel
theorem dX12_join_17 : decode cX12_join 17 = .ok (.invokestatic 215, 3) := by decide +kernel
theorem dX12_join_20 : decode cX12_join 20 = .ok (.ifCond .eq 17, 3) := by decide +kernel
theorem dX12_join_23 : decode cX12_join 23 = .ok (.iload_n 1, 1) := by decide +kernel
theorem dX12_join_24 : decode cX12_join 24 = .ok (.iload_n 2, 1) := by decide +kernel
theorem dX12_join_25 : decode cX12_join 25 = .ok (.if_icmp .eq 12, 3) := by decide +kernel
theorem dX12_join_28 : decode cX12_join 28 = .ok (.aload_n 0, 1) := by decide +kernel
theorem dX12_join_29 : decode cX12_join 29 = .ok (.getfield 485, 3) := by decide +kernel
theorem dX12_join_32 : decode cX12_join 32 = .ok (.bipush 40, 2) := by decide +kernel
theorem dX12_join_34 : decode cX12_join 34 = .ok (.if_icmp .ne 5, 3) := by decide +kernel
theorem dX12_join_37 : decode cX12_join 37 = .ok (.iconst 0, 1) := by decide +kernel
theorem dX12_join_38 : decode cX12_join 38 = .ok (.ireturn, 1) := by decide +kernel
theorem dX12_join_39 : decode cX12_join 39 = .ok (.iconst 0, 1) := by decide +kernel
theorem dX12_join_40 : decode cX12_join 40 = .ok (.istore_n 3, 1) := by decide +kernel
theorem dX12_join_41 : decode cX12_join 41 = .ok (.iload_n 3, 1) := by decide +kernel
theorem dX12_join_42 : decode cX12_join 42 = .ok (.iconst 4, 1) := by decide +kernel
theorem dX12_join_43 : decode cX12_join 43 = .ok (.if_icmp .ge 26, 3) := by decide +kernel
theorem dX12_join_46 : decode cX12_join 46 = .ok (.aload_n 0, 1) := by decide +kernel
theorem dX12_join_47 : decode cX12_join 47 = .ok (.iload_n 2, 1) := by decide +kernel
theorem dX12_join_48 : decode cX12_join 48 = .ok (.iload_n 3, 1) := by decide +kernel
theorem dX12_join_49 : decode cX12_join 49 = .ok (.invokevirtual 226, 3) := by decide +kernel
theorem dX12_join_52 : decode cX12_join 52 = .ok (.aload_n 0, 1) := by decide +kernel
theorem dX12_join_53 : decode cX12_join 53 = .ok (.iload_n 1, 1) := by decide +kernel
theorem dX12_join_54 : decode cX12_join 54 = .ok (.iload_n 3, 1) := by decide +kernel
theorem dX12_join_55 : decode cX12_join 55 = .ok (.invokevirtual 226, 3) := by decide +kernel
theorem dX12_join_58 : decode cX12_join 58 = .ok (.if_icmp .ge 5, 3) := by decide +kernel
theorem dX12_join_61 : decode cX12_join 61 = .ok (.iconst 0, 1) := by decide +kernel
theorem dX12_join_62 : decode cX12_join 62 = .ok (.ireturn, 1) := by decide +kernel
theorem dX12_join_63 : decode cX12_join 63 = .ok (.iinc 3 1, 3) := by decide +kernel
theorem dX12_join_66 : decode cX12_join 66 = .ok (.goto (-25), 3) := by decide +kernel
theorem dX12_join_69 : decode cX12_join 69 = .ok (.iconst 0, 1) := by decide +kernel
theorem dX12_join_70 : decode cX12_join 70 = .ok (.istore_n 3, 1) := by decide +kernel
theorem dX12_join_71 : decode cX12_join 71 = .ok (.iload_n 3, 1) := by decide +kernel
theorem dX12_join_72 : decode cX12_join 72 = .ok (.iconst 4, 1) := by decide +kernel
theorem dX12_join_73 : decode cX12_join 73 = .ok (.if_icmp .ge 52, 3) := by decide +kernel
theorem dX12_join_76 : decode cX12_join 76 = .ok (.iconst 0, 1) := by decide +kernel
theorem dX12_join_77 : decode cX12_join 77 = .ok (.istore 4, 2) := by decide +kernel
theorem dX12_join_79 : decode cX12_join 79 = .ok (.iload 4, 2) := by decide +kernel
theorem dX12_join_81 : decode cX12_join 81 = .ok (.iconst 4, 1) := by decide +kernel
theorem dX12_join_82 : decode cX12_join 82 = .ok (.if_icmp .ge 37, 3) := by decide +kernel
theorem dX12_join_85 : decode cX12_join 85 = .ok (.iload_n 3, 1) := by decide +kernel
theorem dX12_join_86 : decode cX12_join 86 = .ok (.iload_n 1, 1) := by decide +kernel
theorem dX12_join_87 : decode cX12_join 87 = .ok (.if_icmp .eq 32, 3) := by decide +kernel
theorem dX12_join_90 : decode cX12_join 90 = .ok (.aload_n 0, 1) := by decide +kernel
theorem dX12_join_91 : decode cX12_join 91 = .ok (.bipush 16, 2) := by decide +kernel
theorem dX12_join_93 : decode cX12_join 93 = .ok (.iload_n 1, 1) := by decide +kernel
theorem dX12_join_94 : decode cX12_join 94 = .ok (.imul, 1) := by decide +kernel
theorem dX12_join_95 : decode cX12_join 95 = .ok (.iconst 4, 1) := by decide +kernel
theorem dX12_join_96 : decode cX12_join 96 = .ok (.iload_n 3, 1) := by decide +kernel
theorem dX12_join_97 : decode cX12_join 97 = .ok (.imul, 1) := by decide +kernel
theorem dX12_join_98 : decode cX12_join 98 = .ok (.iadd, 1) := by decide +kernel
theorem dX12_join_99 : decode cX12_join 99 = .ok (.iload 4, 2) := by decide +kernel
theorem dX12_join_101 : decode cX12_join 101 = .ok (.iadd, 1) := by decide +kernel
theorem dX12_join_102 : decode cX12_join 102 = .ok (.aload_n 0, 1) := by decide +kernel
theorem dX12_join_103 : decode cX12_join 103 = .ok (.iload_n 2, 1) := by decide +kernel
theorem dX12_join_104 : decode cX12_join 104 = .ok (.iload_n 3, 1) := by decide +kernel
theorem dX12_join_105 : decode cX12_join 105 = .ok (.iload 4, 2) := by decide +kernel
theorem dX12_join_107 : decode cX12_join 107 = .ok (.invokevirtual 333, 3) := by decide +kernel
theorem dX12_join_110 : decode cX12_join 110 = .ok (.invokevirtual 488, 3) := by decide +kernel
theorem dX12_join_113 : decode cX12_join 113 = .ok (.iinc 4 1, 3) := by decide +kernel
theorem dX12_join_116 : decode cX12_join 116 = .ok (.goto (-37), 3) := by decide +kernel
theorem dX12_join_119 : decode cX12_join 119 = .ok (.iinc 3 1, 3) := by decide +kernel
theorem dX12_join_122 : decode cX12_join 122 = .ok (.goto (-51), 3) := by decide +kernel
theorem dX12_join_125 : decode cX12_join 125 = .ok (.iconst 0, 1) := by decide +kernel
theorem dX12_join_126 : decode cX12_join 126 = .ok (.istore_n 3, 1) := by decide +kernel
theorem dX12_join_127 : decode cX12_join 127 = .ok (.iload_n 3, 1) := by decide +kernel
theorem dX12_join_128 : decode cX12_join 128 = .ok (.iconst 4, 1) := by decide +kernel
theorem dX12_join_129 : decode cX12_join 129 = .ok (.if_icmp .ge 25, 3) := by decide +kernel
theorem dX12_join_132 : decode cX12_join 132 = .ok (.aload_n 0, 1) := by decide +kernel
theorem dX12_join_133 : decode cX12_join 133 = .ok (.getfield 62, 3) := by decide +kernel
theorem dX12_join_136 : decode cX12_join 136 = .ok (.iconst 4, 1) := by decide +kernel
theorem dX12_join_137 : decode cX12_join 137 = .ok (.iload_n 1, 1) := by decide +kernel
theorem dX12_join_138 : decode cX12_join 138 = .ok (.imul, 1) := by decide +kernel
theorem dX12_join_139 : decode cX12_join 139 = .ok (.iload_n 3, 1) := by decide +kernel
theorem dX12_join_140 : decode cX12_join 140 = .ok (.iadd, 1) := by decide +kernel
theorem dX12_join_141 : decode cX12_join 141 = .ok (.aload_n 0, 1) := by decide +kernel
theorem dX12_join_142 : decode cX12_join 142 = .ok (.iload_n 2, 1) := by decide +kernel
theorem dX12_join_143 : decode cX12_join 143 = .ok (.iload_n 3, 1) := by decide +kernel
theorem dX12_join_144 : decode cX12_join 144 = .ok (.invokevirtual 226, 3) := by decide +kernel
theorem dX12_join_147 : decode cX12_join 147 = .ok (.iastore, 1) := by decide +kernel
theorem dX12_join_148 : decode cX12_join 148 = .ok (.iinc 3 1, 3) := by decide +kernel
theorem dX12_join_151 : decode cX12_join 151 = .ok (.goto (-24), 3) := by decide +kernel
theorem dX12_join_154 : decode cX12_join 154 = .ok (.aload_n 0, 1) := by decide +kernel
theorem dX12_join_155 : decode cX12_join 155 = .ok (.getfield 71, 3) := by decide +kernel
theorem dX12_join_158 : decode cX12_join 158 = .ok (.iload_n 1, 1) := by decide +kernel
theorem dX12_join_159 : decode cX12_join 159 = .ok (.aload_n 0, 1) := by decide +kernel
theorem dX12_join_160 : decode cX12_join 160 = .ok (.getfield 71, 3) := by decide +kernel
theorem dX12_join_163 : decode cX12_join 163 = .ok (.iload_n 2, 1) := by decide +kernel
theorem dX12_join_164 : decode cX12_join 164 = .ok (.iaload, 1) := by decide +kernel
theorem dX12_join_165 : decode cX12_join 165 = .ok (.iastore, 1) := by decide +kernel
theorem dX12_join_166 : decode cX12_join 166 = .ok (.iconst 0, 1) := by decide +kernel
theorem dX12_join_167 : decode cX12_join 167 = .ok (.istore_n 3, 1) := by decide +kernel
theorem dX12_join_168 : decode cX12_join 168 = .ok (.iload_n 3, 1) := by decide +kernel
theorem dX12_join_169 : decode cX12_join 169 = .ok (.aload_n 0, 1) := by decide +kernel
theorem dX12_join_170 : decode cX12_join 170 = .ok (.getfield 71, 3) := by decide +kernel
theorem dX12_join_173 : decode cX12_join 173 = .ok (.iload_n 2, 1) := by decide +kernel
theorem dX12_join_174 : decode cX12_join 174 = .ok (.iaload, 1) := by decide +kernel
theorem dX12_join_175 : decode cX12_join 175 = .ok (.if_icmp .ge 27, 3) := by decide +kernel
theorem dX12_join_178 : decode cX12_join 178 = .ok (.aload_n 0, 1) := by decide +kernel
theorem dX12_join_179 : decode cX12_join 179 = .ok (.getfield 74, 3) := by decide +kernel
theorem dX12_join_182 : decode cX12_join 182 = .ok (.sipush 1000, 3) := by decide +kernel
theorem dX12_join_185 : decode cX12_join 185 = .ok (.iload_n 1, 1) := by decide +kernel
theorem dX12_join_186 : decode cX12_join 186 = .ok (.imul, 1) := by decide +kernel
theorem dX12_join_187 : decode cX12_join 187 = .ok (.iload_n 3, 1) := by decide +kernel
theorem dX12_join_188 : decode cX12_join 188 = .ok (.iadd, 1) := by decide +kernel
theorem dX12_join_189 : decode cX12_join 189 = .ok (.aload_n 0, 1) := by decide +kernel
theorem dX12_join_190 : decode cX12_join 190 = .ok (.iload_n 2, 1) := by decide +kernel
theorem dX12_join_191 : decode cX12_join 191 = .ok (.iload_n 3, 1) := by decide +kernel
theorem dX12_join_192 : decode cX12_join 192 = .ok (.invokevirtual 230, 3) := by decide +kernel
theorem dX12_join_195 : decode cX12_join 195 = .ok (.iastore, 1) := by decide +kernel
theorem dX12_join_196 : decode cX12_join 196 = .ok (.iinc 3 1, 3) := by decide +kernel
theorem dX12_join_199 : decode cX12_join 199 = .ok (.goto (-31), 3) := by decide +kernel
theorem dX12_join_202 : decode cX12_join 202 = .ok (.aload_n 0, 1) := by decide +kernel
theorem dX12_join_203 : decode cX12_join 203 = .ok (.getfield 56, 3) := by decide +kernel
theorem dX12_join_206 : decode cX12_join 206 = .ok (.iload_n 1, 1) := by decide +kernel
theorem dX12_join_207 : decode cX12_join 207 = .ok (.aload_n 0, 1) := by decide +kernel
theorem dX12_join_208 : decode cX12_join 208 = .ok (.getfield 56, 3) := by decide +kernel
theorem dX12_join_211 : decode cX12_join 211 = .ok (.iload_n 2, 1) := by decide +kernel
theorem dX12_join_212 : decode cX12_join 212 = .ok (.iaload, 1) := by decide +kernel
theorem dX12_join_213 : decode cX12_join 213 = .ok (.iastore, 1) := by decide +kernel
theorem dX12_join_214 : decode cX12_join 214 = .ok (.aload_n 0, 1) := by decide +kernel
theorem dX12_join_215 : decode cX12_join 215 = .ok (.getfield 59, 3) := by decide +kernel
theorem dX12_join_218 : decode cX12_join 218 = .ok (.iload_n 1, 1) := by decide +kernel
theorem dX12_join_219 : decode cX12_join 219 = .ok (.aload_n 0, 1) := by decide +kernel
theorem dX12_join_220 : decode cX12_join 220 = .ok (.getfield 59, 3) := by decide +kernel
theorem dX12_join_223 : decode cX12_join 223 = .ok (.iload_n 2, 1) := by decide +kernel
theorem dX12_join_224 : decode cX12_join 224 = .ok (.iaload, 1) := by decide +kernel
theorem dX12_join_225 : decode cX12_join 225 = .ok (.iastore, 1) := by decide +kernel
theorem dX12_join_226 : decode cX12_join 226 = .ok (.iconst 0, 1) := by decide +kernel
theorem dX12_join_227 : decode cX12_join 227 = .ok (.istore_n 3, 1) := by decide +kernel
theorem dX12_join_228 : decode cX12_join 228 = .ok (.iload_n 3, 1) := by decide +kernel
theorem dX12_join_229 : decode cX12_join 229 = .ok (.aload_n 0, 1) := by decide +kernel
theorem dX12_join_230 : decode cX12_join 230 = .ok (.getfield 77, 3) := by decide +kernel
theorem dX12_join_233 : decode cX12_join 233 = .ok (.iload_n 1, 1) := by decide +kernel
theorem dX12_join_234 : decode cX12_join 234 = .ok (.iaload, 1) := by decide +kernel
theorem dX12_join_235 : decode cX12_join 235 = .ok (.if_icmp .ge 42, 3) := by decide +kernel
theorem dX12_join_238 : decode cX12_join 238 = .ok (.aload_n 0, 1) := by decide +kernel
theorem dX12_join_239 : decode cX12_join 239 = .ok (.getfield 80, 3) := by decide +kernel
theorem dX12_join_242 : decode cX12_join 242 = .ok (.bipush 30, 2) := by decide +kernel
theorem dX12_join_244 : decode cX12_join 244 = .ok (.iload_n 1, 1) := by decide +kernel
theorem dX12_join_245 : decode cX12_join 245 = .ok (.imul, 1) := by decide +kernel
theorem dX12_join_246 : decode cX12_join 246 = .ok (.iload_n 3, 1) := by decide +kernel
theorem dX12_join_247 : decode cX12_join 247 = .ok (.iadd, 1) := by decide +kernel
theorem dX12_join_248 : decode cX12_join 248 = .ok (.iaload, 1) := by decide +kernel
theorem dX12_join_249 : decode cX12_join 249 = .ok (.istore 4, 2) := by decide +kernel
theorem dX12_join_251 : decode cX12_join 251 = .ok (.aload_n 0, 1) := by decide +kernel
theorem dX12_join_252 : decode cX12_join 252 = .ok (.iload_n 1, 1) := by decide +kernel
theorem dX12_join_253 : decode cX12_join 253 = .ok (.iload 4, 2) := by decide +kernel
theorem dX12_join_255 : decode cX12_join 255 = .ok (.invokevirtual 236, 3) := by decide +kernel
theorem dX12_join_258 : decode cX12_join 258 = .ok (.ifCond .eq 13, 3) := by decide +kernel
theorem dX12_join_261 : decode cX12_join 261 = .ok (.aload_n 0, 1) := by decide +kernel
theorem dX12_join_262 : decode cX12_join 262 = .ok (.iload_n 1, 1) := by decide +kernel
theorem dX12_join_263 : decode cX12_join 263 = .ok (.iload 4, 2) := by decide +kernel
theorem dX12_join_265 : decode cX12_join 265 = .ok (.invokevirtual 353, 3) := by decide +kernel
theorem dX12_join_268 : decode cX12_join 268 = .ok (.goto 6, 3) := by decide +kernel
theorem dX12_join_271 : decode cX12_join 271 = .ok (.iinc 3 1, 3) := by decide +kernel
theorem dX12_join_274 : decode cX12_join 274 = .ok (.goto (-46), 3) := by decide +kernel
theorem dX12_join_277 : decode cX12_join 277 = .ok (.aload_n 0, 1) := by decide +kernel
theorem dX12_join_278 : decode cX12_join 278 = .ok (.dup, 1) := by decide +kernel
theorem dX12_join_279 : decode cX12_join 279 = .ok (.getfield 485, 3) := by decide +kernel
theorem dX12_join_282 : decode cX12_join 282 = .ok (.iconst 1, 1) := by decide +kernel
theorem dX12_join_283 : decode cX12_join 283 = .ok (.iadd, 1) := by decide +kernel
theorem dX12_join_284 : decode cX12_join 284 = .ok (.putfield 485, 3) := by decide +kernel
theorem dX12_join_287 : decode cX12_join 287 = .ok (.iconst 1, 1) := by decide +kernel
theorem dX12_join_288 : decode cX12_join 288 = .ok (.ireturn, 1) := by decide +kernel
theorem cd_join : Cond.code yX12_join cX12_join 5 (some .boolean) ∈ lw_g := mt_at 2296 (by decide +kernel) rfl
section
variable {p : Program} {l : Launch} {e : Env} {R : Room} {s : State} {m : MethodId} {args : Array Value} {below : List Frame} {meth : Method} {c : Code} {cM : ClassId} {iS : Nat → Nat} {cI cZ : ClassId} {mo : Nat} {ad : Nat → Nat} {r : Int32} {S9 : mSt}
noncomputable def fm_join_37 (S : mSt) : Option (Int32 × mSt) :=
ckz (0 : Int32) (some ((0 : Int32), S))
set_option maxRecDepth 100000 in
set_option maxHeartbeats 4000000 in
theorem wm_join_37 (C : mY p R s m args meth c cX12_join 5 2 45 (some .boolean)) (X : mX s cM iS cI cZ mo ad) : ∀ {S : mSt} {H : Heap} {locs : List Loc} {ls : Array Slot}, fm_join_37 S = some (r, S9) → mW cM iS cI cZ mo ad S H → mS (mA mo ad) s.heap H locs → lv_has ls 5 [] → W p l e R s m args below meth c H locs 0 0 (MQ below (mQw (some (.int r)) cM iS cI cZ mo ad S9) args s 0 0 (mA mo ad)) (F0 m 37 ls []) := by
  intro S H locs ls h hW hS hl
  unfold fm_join_37 at h
  refine lv_iconst (v := 0) C.1 C.2.1 dX12_join_37 (by decide) ?_
  obtain ⟨hzo, h⟩ := ckz_ok h
  cases h
  exact m_retzW C hzo hW hS dX12_join_38
noncomputable def fm_join_274 (g_228 : mSt → Int32 → Int32 → Option (Int32 × mSt)) (S : mSt) (v1 : Int32) (v3 : Int32) : Option (Int32 × mSt) :=
g_228 S v1 v3
set_option maxRecDepth 100000 in
set_option maxHeartbeats 4000000 in
theorem wm_join_274 (C : mY p R s m args meth c cX12_join 5 2 45 (some .boolean)) (X : mX s cM iS cI cZ mo ad) {g_228 : mSt → Int32 → Int32 → Option (Int32 × mSt)} (hg_228 : ∀ {S : mSt} {v1 : Int32} {v3 : Int32} {H : Heap} {locs : List Loc} {ls : Array Slot}, g_228 S v1 v3 = some (r, S9) → mW cM iS cI cZ mo ad S H → mS (mA mo ad) s.heap H locs → lv_has ls 5 [(0, .ref mo), (1, .int v1), (3, .int v3)] → W p l e R s m args below meth c H locs 0 0 (MQ below (mQw (some (.int r)) cM iS cI cZ mo ad S9) args s 0 0 (mA mo ad)) (F0 m 228 ls [])) : ∀ {S : mSt} {v1 : Int32} {v3 : Int32} {H : Heap} {locs : List Loc} {ls : Array Slot}, fm_join_274 g_228 S v1 v3 = some (r, S9) → mW cM iS cI cZ mo ad S H → mS (mA mo ad) s.heap H locs → lv_has ls 5 [(0, .ref mo), (1, .int v1), (3, .int v3)] → W p l e R s m args below meth c H locs 0 0 (MQ below (mQw (some (.int r)) cM iS cI cZ mo ad S9) args s 0 0 (mA mo ad)) (F0 m 274 ls []) := by
  intro S v1 v3 H locs ls h hW hS hl
  unfold fm_join_274 at h
  refine lv_goto (tgt := 228) C.1 C.2.1 dX12_join_274 (by decide) ?_
  exact hg_228 h hW hS (lv_sub hl [0, 1, 2] rfl)
noncomputable def fm_join_228 : Nat → mSt → Int32 → Int32 → Option (Int32 × mSt)
  | 0, _, _, _ => none
  | n + 1, S, v1, v3 =>
    ck v1 4 (
    if (rd S 25 v1) ≤ v3 then (
    lt (pu S 45 ((S.1 45) + (1 : Int32))) fun S2 =>
    ckz (1 : Int32) (some ((1 : Int32), S2)))
    else (
    ck (((30 : Int32) * v1) + v3) 120 (
    lt (rd S 26 (((30 : Int32) * v1) + v3)) fun x3 =>
    bd (fm_isApplied S v1 x3) fun r4 =>
    if r4 = 0 then (
    lt (v3 + (1 : Int32)) fun x6 =>
    fm_join_274 (fm_join_228 n) S v1 x6)
    else (
    bd (fm_drop S v1 x3) fun S7 =>
    fm_join_274 (fm_join_228 n) S7 v1 v3))))
set_option maxRecDepth 100000 in
set_option maxHeartbeats 4000000 in
theorem wm_join_228 (C : mY p R s m args meth c cX12_join 5 2 45 (some .boolean)) (X : mX s cM iS cI cZ mo ad) : ∀ (n : Nat), ∀ {S : mSt} {v1 : Int32} {v3 : Int32} {H : Heap} {locs : List Loc} {ls : Array Slot}, fm_join_228 n S v1 v3 = some (r, S9) → mW cM iS cI cZ mo ad S H → mS (mA mo ad) s.heap H locs → lv_has ls 5 [(0, .ref mo), (1, .int v1), (3, .int v3)] → W p l e R s m args below meth c H locs 0 0 (MQ below (mQw (some (.int r)) cM iS cI cZ mo ad S9) args s 0 0 (mA mo ad)) (F0 m 228 ls []) := by
  intro n
  induction n with
  | zero =>
    intro S v1 v3 H locs ls h hW hS hl
    exact absurd (show (none : Option (Int32 × mSt)) = _ from h) (fun q => by cases q)
  | succ n ih =>
    intro S v1 v3 H locs ls h hW hS hl
    rw [fm_join_228] at h
    refine lv_iload_n C.1 C.2.1 dX12_join_228 rfl (lv_at hl 2 rfl) ?_
    refine lv_aload_n C.1 C.2.1 dX12_join_229 rfl (lv_at hl 0 rfl) ?_
    refine gf_25 C X hW dX12_join_230 ?_
    refine lv_iload_n C.1 C.2.1 dX12_join_233 rfl (lv_at hl 1 rfl) ?_
    obtain ⟨hin, h⟩ := ck_ok h
    refine l_25 C X hW hin dX12_join_234 ?_
    refine lv_icmp_ge (tgt := 277) C.1 C.2.1 dX12_join_235 (by decide) (fun c1 => ?_) (fun c1 => ?_)
    · have h := if_t h c1
      refine lv_aload_n C.1 C.2.1 dX12_join_277 rfl (lv_at hl 0 rfl) ?_
      refine lv_dup C.1 C.2.1 dX12_join_278 rfl ?_
      refine gf_45 C X hW dX12_join_279 ?_
      refine lv_iconst (v := 1) C.1 C.2.1 dX12_join_282 (by decide) ?_
      refine lv_iadd C.1 C.2.1 dX12_join_283 ?_
      refine p_45 C X hW hS dX12_join_284 (fun H locs hW hS => ?_)
      refine lt_ok h (fun S2 e_S2 h => ?_)
      rw [e_S2] at hW
      refine lv_iconst (v := 1) C.1 C.2.1 dX12_join_287 (by decide) ?_
      obtain ⟨hzo, h⟩ := ckz_ok h
      cases h
      exact m_retzW C hzo hW hS dX12_join_288
    · have h := if_f h c1
      refine lv_aload_n C.1 C.2.1 dX12_join_238 rfl (lv_at hl 0 rfl) ?_
      refine gf_26 C X hW dX12_join_239 ?_
      refine lv_bipush (v := 30) C.1 C.2.1 dX12_join_242 (by decide) ?_
      refine lv_iload_n C.1 C.2.1 dX12_join_244 rfl (lv_at hl 1 rfl) ?_
      refine lv_imul C.1 C.2.1 dX12_join_245 ?_
      refine lv_iload_n C.1 C.2.1 dX12_join_246 rfl (lv_at hl 2 rfl) ?_
      refine lv_iadd C.1 C.2.1 dX12_join_247 ?_
      obtain ⟨hin, h⟩ := ck_ok h
      refine l_26 C X hW hin dX12_join_248 ?_
      refine lt_ok h (fun x3 e_x3 h => ?_)
      refine lv_nm e_x3 ?_
      refine lv_istore (lv' := [(4, .int x3), (0, .ref mo), (1, .int v1), (3, .int v3)]) C.1 C.2.1 dX12_join_249 hl (by decide) rfl (fun ls hl => ?_)
      refine lv_aload_n C.1 C.2.1 dX12_join_251 rfl (lv_at hl 1 rfl) ?_
      refine lv_iload_n C.1 C.2.1 dX12_join_252 rfl (lv_at hl 2 rfl) ?_
      refine lv_iload C.1 C.2.1 dX12_join_253 (lv_at hl 0 rfl) ?_
      obtain ⟨r4, h_r4, h⟩ := bd_ok h
      refine m_callR (rest := []) C X hW hl.1 [.int v1, .int x3] (tm_isApplied l h_r4) mw_isApplied im_isApplied sl_isApplied rfl ⟨by decide, by decide⟩ rfl (Nat.le_of_ble_eq_true rfl) dX12_join_255 ?_
      refine lv_if_eq (tgt := 271) C.1 C.2.1 dX12_join_258 (by decide) (fun c5 => ?_) (fun c5 => ?_)
      · have h := if_t h c5
        refine lt_ok h (fun x6 e_x6 h => ?_)
        refine lv_iinc (v := x6) (lv' := [(3, .int x6), (4, .int x3), (0, .ref mo), (1, .int v1)]) C.1 C.2.1 dX12_join_271 hl (k := 3) rfl (by rw [← e_x6]; rfl) (by decide) rfl (fun ls hl => ?_)
        exact wm_join_274 C X ih h hW hS (lv_sub hl [2, 3, 0] rfl)
      · have h := if_f h c5
        refine lv_aload_n C.1 C.2.1 dX12_join_261 rfl (lv_at hl 1 rfl) ?_
        refine lv_iload_n C.1 C.2.1 dX12_join_262 rfl (lv_at hl 2 rfl) ?_
        refine lv_iload C.1 C.2.1 dX12_join_263 (lv_at hl 0 rfl) ?_
        obtain ⟨S7, h_S7, h⟩ := bd_ok h
        refine m_callW (rest := []) (ov := none) C X hW hS hl.1 [.int v1, .int x3] (tm_drop l h_S7) mw_drop im_drop sl_drop rfl ⟨by decide, by decide⟩ rfl (Nat.le_of_ble_eq_true rfl) dX12_join_265 (fun H locs hW hS => ?_)
        refine W.eq (g2 := F0 m 268 ls []) rfl ?_
        refine lv_goto (tgt := 274) C.1 C.2.1 dX12_join_268 (by decide) ?_
        exact wm_join_274 C X ih h hW hS (lv_sub hl [1, 2, 3] rfl)
noncomputable def fm_join_168 : Nat → mSt → Int32 → Int32 → Int32 → Option (Int32 × mSt)
  | 0, _, _, _, _ => none
  | n + 1, S, v1, v2, v3 =>
    ck v2 4 (
    if (rd S 23 v2) ≤ v3 then (
    ck v2 4 (
    ck v1 4 (lt (wr S 18 v1 (rd S 18 v2)) fun S2 =>
    ck v2 4 (
    ck v1 4 (lt (wr S2 19 v1 (rd S2 19 v2)) fun S3 =>
    fm_join_228 mFU S3 v1 (0 : Int32))))))
    else (
    bd (fm_rowAt S v2 v3) fun r4 =>
    ck (((1000 : Int32) * v1) + v3) 4000 (lt (wr S 24 (((1000 : Int32) * v1) + v3) r4) fun S5 =>
    lt (v3 + (1 : Int32)) fun x6 =>
    fm_join_168 n S5 v1 v2 x6)))
set_option maxRecDepth 100000 in
set_option maxHeartbeats 4000000 in
theorem wm_join_168 (C : mY p R s m args meth c cX12_join 5 2 45 (some .boolean)) (X : mX s cM iS cI cZ mo ad) : ∀ (n : Nat), ∀ {S : mSt} {v1 : Int32} {v2 : Int32} {v3 : Int32} {H : Heap} {locs : List Loc} {ls : Array Slot}, fm_join_168 n S v1 v2 v3 = some (r, S9) → mW cM iS cI cZ mo ad S H → mS (mA mo ad) s.heap H locs → lv_has ls 5 [(0, .ref mo), (1, .int v1), (2, .int v2), (3, .int v3)] → W p l e R s m args below meth c H locs 0 0 (MQ below (mQw (some (.int r)) cM iS cI cZ mo ad S9) args s 0 0 (mA mo ad)) (F0 m 168 ls []) := by
  intro n
  induction n with
  | zero =>
    intro S v1 v2 v3 H locs ls h hW hS hl
    exact absurd (show (none : Option (Int32 × mSt)) = _ from h) (fun q => by cases q)
  | succ n ih =>
    intro S v1 v2 v3 H locs ls h hW hS hl
    rw [fm_join_168] at h
    refine lv_iload_n C.1 C.2.1 dX12_join_168 rfl (lv_at hl 3 rfl) ?_
    refine lv_aload_n C.1 C.2.1 dX12_join_169 rfl (lv_at hl 0 rfl) ?_
    refine gf_23 C X hW dX12_join_170 ?_
    refine lv_iload_n C.1 C.2.1 dX12_join_173 rfl (lv_at hl 2 rfl) ?_
    obtain ⟨hin, h⟩ := ck_ok h
    refine l_23 C X hW hin dX12_join_174 ?_
    refine lv_icmp_ge (tgt := 202) C.1 C.2.1 dX12_join_175 (by decide) (fun c1 => ?_) (fun c1 => ?_)
    · have h := if_t h c1
      refine lv_aload_n C.1 C.2.1 dX12_join_202 rfl (lv_at hl 0 rfl) ?_
      refine gf_18 C X hW dX12_join_203 ?_
      refine lv_iload_n C.1 C.2.1 dX12_join_206 rfl (lv_at hl 1 rfl) ?_
      refine lv_aload_n C.1 C.2.1 dX12_join_207 rfl (lv_at hl 0 rfl) ?_
      refine gf_18 C X hW dX12_join_208 ?_
      refine lv_iload_n C.1 C.2.1 dX12_join_211 rfl (lv_at hl 2 rfl) ?_
      obtain ⟨hin, h⟩ := ck_ok h
      refine l_18 C X hW hin dX12_join_212 ?_
      obtain ⟨hin, h⟩ := ck_ok h
      refine s_18 C X hW hS hin dX12_join_213 (fun H locs hW hS => ?_)
      refine lt_ok h (fun S2 e_S2 h => ?_)
      rw [e_S2] at hW
      refine lv_aload_n C.1 C.2.1 dX12_join_214 rfl (lv_at hl 0 rfl) ?_
      refine gf_19 C X hW dX12_join_215 ?_
      refine lv_iload_n C.1 C.2.1 dX12_join_218 rfl (lv_at hl 1 rfl) ?_
      refine lv_aload_n C.1 C.2.1 dX12_join_219 rfl (lv_at hl 0 rfl) ?_
      refine gf_19 C X hW dX12_join_220 ?_
      refine lv_iload_n C.1 C.2.1 dX12_join_223 rfl (lv_at hl 2 rfl) ?_
      obtain ⟨hin, h⟩ := ck_ok h
      refine l_19 C X hW hin dX12_join_224 ?_
      obtain ⟨hin, h⟩ := ck_ok h
      refine s_19 C X hW hS hin dX12_join_225 (fun H locs hW hS => ?_)
      refine lt_ok h (fun S3 e_S3 h => ?_)
      rw [e_S3] at hW
      refine lv_iconst (v := 0) C.1 C.2.1 dX12_join_226 (by decide) ?_
      refine lv_istore_n (lv' := [(3, .int (0 : Int32)), (0, .ref mo), (1, .int v1), (2, .int v2)]) C.1 C.2.1 dX12_join_227 rfl hl (by decide) rfl (fun ls hl => ?_)
      exact wm_join_228 C X mFU h hW hS (lv_sub hl [1, 2, 0] rfl)
    · have h := if_f h c1
      refine lv_aload_n C.1 C.2.1 dX12_join_178 rfl (lv_at hl 0 rfl) ?_
      refine gf_24 C X hW dX12_join_179 ?_
      refine lv_sipush (v := 1000) C.1 C.2.1 dX12_join_182 (by decide) ?_
      refine lv_iload_n C.1 C.2.1 dX12_join_185 rfl (lv_at hl 1 rfl) ?_
      refine lv_imul C.1 C.2.1 dX12_join_186 ?_
      refine lv_iload_n C.1 C.2.1 dX12_join_187 rfl (lv_at hl 3 rfl) ?_
      refine lv_iadd C.1 C.2.1 dX12_join_188 ?_
      refine lv_aload_n C.1 C.2.1 dX12_join_189 rfl (lv_at hl 0 rfl) ?_
      refine lv_iload_n C.1 C.2.1 dX12_join_190 rfl (lv_at hl 2 rfl) ?_
      refine lv_iload_n C.1 C.2.1 dX12_join_191 rfl (lv_at hl 3 rfl) ?_
      obtain ⟨r4, h_r4, h⟩ := bd_ok h
      refine m_callR (rest := [.int (((1000 : Int32) * v1) + v3), .ref (ad 24)]) C X hW hl.1 [.int v2, .int v3] (tm_rowAt l h_r4) mw_rowAt im_rowAt sl_rowAt rfl ⟨by decide, by decide⟩ rfl (Nat.le_of_ble_eq_true rfl) dX12_join_192 ?_
      obtain ⟨hin, h⟩ := ck_ok h
      refine s_24 C X hW hS hin dX12_join_195 (fun H locs hW hS => ?_)
      refine lt_ok h (fun S5 e_S5 h => ?_)
      rw [e_S5] at hW
      refine lt_ok h (fun x6 e_x6 h => ?_)
      refine lv_iinc (v := x6) (lv' := [(3, .int x6), (0, .ref mo), (1, .int v1), (2, .int v2)]) C.1 C.2.1 dX12_join_196 hl (k := 3) rfl (by rw [← e_x6]; rfl) (by decide) rfl (fun ls hl => ?_)
      refine lv_goto (tgt := 168) C.1 C.2.1 dX12_join_199 (by decide) ?_
      exact ih h hW hS (lv_sub hl [1, 2, 3, 0] rfl)
noncomputable def fm_join_127 : Nat → mSt → Int32 → Int32 → Int32 → Option (Int32 × mSt)
  | 0, _, _, _, _ => none
  | n + 1, S, v1, v2, v3 =>
    if (4 : Int32) ≤ v3 then (
    ck v2 4 (
    ck v1 4 (lt (wr S 23 v1 (rd S 23 v2)) fun S2 =>
    fm_join_168 mFU S2 v1 v2 (0 : Int32))))
    else (
    bd (fm_knownOf S v2 v3) fun r3 =>
    ck (((4 : Int32) * v1) + v3) 16 (lt (wr S 20 (((4 : Int32) * v1) + v3) r3) fun S4 =>
    lt (v3 + (1 : Int32)) fun x5 =>
    fm_join_127 n S4 v1 v2 x5))
set_option maxRecDepth 100000 in
set_option maxHeartbeats 4000000 in
theorem wm_join_127 (C : mY p R s m args meth c cX12_join 5 2 45 (some .boolean)) (X : mX s cM iS cI cZ mo ad) : ∀ (n : Nat), ∀ {S : mSt} {v1 : Int32} {v2 : Int32} {v3 : Int32} {H : Heap} {locs : List Loc} {ls : Array Slot}, fm_join_127 n S v1 v2 v3 = some (r, S9) → mW cM iS cI cZ mo ad S H → mS (mA mo ad) s.heap H locs → lv_has ls 5 [(0, .ref mo), (1, .int v1), (2, .int v2), (3, .int v3)] → W p l e R s m args below meth c H locs 0 0 (MQ below (mQw (some (.int r)) cM iS cI cZ mo ad S9) args s 0 0 (mA mo ad)) (F0 m 127 ls []) := by
  intro n
  induction n with
  | zero =>
    intro S v1 v2 v3 H locs ls h hW hS hl
    exact absurd (show (none : Option (Int32 × mSt)) = _ from h) (fun q => by cases q)
  | succ n ih =>
    intro S v1 v2 v3 H locs ls h hW hS hl
    rw [fm_join_127] at h
    refine lv_iload_n C.1 C.2.1 dX12_join_127 rfl (lv_at hl 3 rfl) ?_
    refine lv_iconst (v := 4) C.1 C.2.1 dX12_join_128 (by decide) ?_
    refine lv_icmp_ge (tgt := 154) C.1 C.2.1 dX12_join_129 (by decide) (fun c1 => ?_) (fun c1 => ?_)
    · have h := if_t h c1
      refine lv_aload_n C.1 C.2.1 dX12_join_154 rfl (lv_at hl 0 rfl) ?_
      refine gf_23 C X hW dX12_join_155 ?_
      refine lv_iload_n C.1 C.2.1 dX12_join_158 rfl (lv_at hl 1 rfl) ?_
      refine lv_aload_n C.1 C.2.1 dX12_join_159 rfl (lv_at hl 0 rfl) ?_
      refine gf_23 C X hW dX12_join_160 ?_
      refine lv_iload_n C.1 C.2.1 dX12_join_163 rfl (lv_at hl 2 rfl) ?_
      obtain ⟨hin, h⟩ := ck_ok h
      refine l_23 C X hW hin dX12_join_164 ?_
      obtain ⟨hin, h⟩ := ck_ok h
      refine s_23 C X hW hS hin dX12_join_165 (fun H locs hW hS => ?_)
      refine lt_ok h (fun S2 e_S2 h => ?_)
      rw [e_S2] at hW
      refine lv_iconst (v := 0) C.1 C.2.1 dX12_join_166 (by decide) ?_
      refine lv_istore_n (lv' := [(3, .int (0 : Int32)), (0, .ref mo), (1, .int v1), (2, .int v2)]) C.1 C.2.1 dX12_join_167 rfl hl (by decide) rfl (fun ls hl => ?_)
      exact wm_join_168 C X mFU h hW hS (lv_sub hl [1, 2, 3, 0] rfl)
    · have h := if_f h c1
      refine lv_aload_n C.1 C.2.1 dX12_join_132 rfl (lv_at hl 0 rfl) ?_
      refine gf_20 C X hW dX12_join_133 ?_
      refine lv_iconst (v := 4) C.1 C.2.1 dX12_join_136 (by decide) ?_
      refine lv_iload_n C.1 C.2.1 dX12_join_137 rfl (lv_at hl 1 rfl) ?_
      refine lv_imul C.1 C.2.1 dX12_join_138 ?_
      refine lv_iload_n C.1 C.2.1 dX12_join_139 rfl (lv_at hl 3 rfl) ?_
      refine lv_iadd C.1 C.2.1 dX12_join_140 ?_
      refine lv_aload_n C.1 C.2.1 dX12_join_141 rfl (lv_at hl 0 rfl) ?_
      refine lv_iload_n C.1 C.2.1 dX12_join_142 rfl (lv_at hl 2 rfl) ?_
      refine lv_iload_n C.1 C.2.1 dX12_join_143 rfl (lv_at hl 3 rfl) ?_
      obtain ⟨r3, h_r3, h⟩ := bd_ok h
      refine m_callR (rest := [.int (((4 : Int32) * v1) + v3), .ref (ad 20)]) C X hW hl.1 [.int v2, .int v3] (tm_knownOf l h_r3) mw_knownOf im_knownOf sl_knownOf rfl ⟨by decide, by decide⟩ rfl (Nat.le_of_ble_eq_true rfl) dX12_join_144 ?_
      obtain ⟨hin, h⟩ := ck_ok h
      refine s_20 C X hW hS hin dX12_join_147 (fun H locs hW hS => ?_)
      refine lt_ok h (fun S4 e_S4 h => ?_)
      rw [e_S4] at hW
      refine lt_ok h (fun x5 e_x5 h => ?_)
      refine lv_iinc (v := x5) (lv' := [(3, .int x5), (0, .ref mo), (1, .int v1), (2, .int v2)]) C.1 C.2.1 dX12_join_148 hl (k := 3) rfl (by rw [← e_x5]; rfl) (by decide) rfl (fun ls hl => ?_)
      refine lv_goto (tgt := 127) C.1 C.2.1 dX12_join_151 (by decide) ?_
      exact ih h hW hS (lv_sub hl [1, 2, 3, 0] rfl)
noncomputable def fm_join_119 (g_71 : mSt → Int32 → Int32 → Int32 → Option (Int32 × mSt)) (S : mSt) (v1 : Int32) (v2 : Int32) (v3 : Int32) : Option (Int32 × mSt) :=
lt (v3 + (1 : Int32)) fun x1 =>
g_71 S v1 v2 x1
set_option maxRecDepth 100000 in
set_option maxHeartbeats 4000000 in
theorem wm_join_119 (C : mY p R s m args meth c cX12_join 5 2 45 (some .boolean)) (X : mX s cM iS cI cZ mo ad) {g_71 : mSt → Int32 → Int32 → Int32 → Option (Int32 × mSt)} (hg_71 : ∀ {S : mSt} {v1 : Int32} {v2 : Int32} {v3 : Int32} {H : Heap} {locs : List Loc} {ls : Array Slot}, g_71 S v1 v2 v3 = some (r, S9) → mW cM iS cI cZ mo ad S H → mS (mA mo ad) s.heap H locs → lv_has ls 5 [(0, .ref mo), (1, .int v1), (2, .int v2), (3, .int v3)] → W p l e R s m args below meth c H locs 0 0 (MQ below (mQw (some (.int r)) cM iS cI cZ mo ad S9) args s 0 0 (mA mo ad)) (F0 m 71 ls [])) : ∀ {S : mSt} {v1 : Int32} {v2 : Int32} {v3 : Int32} {H : Heap} {locs : List Loc} {ls : Array Slot}, fm_join_119 g_71 S v1 v2 v3 = some (r, S9) → mW cM iS cI cZ mo ad S H → mS (mA mo ad) s.heap H locs → lv_has ls 5 [(0, .ref mo), (1, .int v1), (2, .int v2), (3, .int v3)] → W p l e R s m args below meth c H locs 0 0 (MQ below (mQw (some (.int r)) cM iS cI cZ mo ad S9) args s 0 0 (mA mo ad)) (F0 m 119 ls []) := by
  intro S v1 v2 v3 H locs ls h hW hS hl
  unfold fm_join_119 at h
  refine lt_ok h (fun x1 e_x1 h => ?_)
  refine lv_iinc (v := x1) (lv' := [(3, .int x1), (0, .ref mo), (1, .int v1), (2, .int v2)]) C.1 C.2.1 dX12_join_119 hl (k := 3) rfl (by rw [← e_x1]; rfl) (by decide) rfl (fun ls hl => ?_)
  refine lv_goto (tgt := 71) C.1 C.2.1 dX12_join_122 (by decide) ?_
  exact hg_71 h hW hS (lv_sub hl [1, 2, 3, 0] rfl)
noncomputable def fm_join_79 (g_71 : mSt → Int32 → Int32 → Int32 → Option (Int32 × mSt)) : Nat → mSt → Int32 → Int32 → Int32 → Int32 → Option (Int32 × mSt)
  | 0, _, _, _, _, _ => none
  | n + 1, S, v1, v2, v3, v4 =>
    if (4 : Int32) ≤ v4 then (
    fm_join_119 g_71 S v1 v2 v3)
    else (
    if v3 = v1 then (
    fm_join_119 g_71 S v1 v2 v3)
    else (
    bd (fm_seenOf S v2 v3 v4) fun r3 =>
    bd (fm_raise S ((((16 : Int32) * v1) + ((4 : Int32) * v3)) + v4) r3) fun S4 =>
    lt (v4 + (1 : Int32)) fun x5 =>
    fm_join_79 g_71 n S4 v1 v2 v3 x5))
set_option maxRecDepth 100000 in
set_option maxHeartbeats 4000000 in
theorem wm_join_79 (C : mY p R s m args meth c cX12_join 5 2 45 (some .boolean)) (X : mX s cM iS cI cZ mo ad) {g_71 : mSt → Int32 → Int32 → Int32 → Option (Int32 × mSt)} (hg_71 : ∀ {S : mSt} {v1 : Int32} {v2 : Int32} {v3 : Int32} {H : Heap} {locs : List Loc} {ls : Array Slot}, g_71 S v1 v2 v3 = some (r, S9) → mW cM iS cI cZ mo ad S H → mS (mA mo ad) s.heap H locs → lv_has ls 5 [(0, .ref mo), (1, .int v1), (2, .int v2), (3, .int v3)] → W p l e R s m args below meth c H locs 0 0 (MQ below (mQw (some (.int r)) cM iS cI cZ mo ad S9) args s 0 0 (mA mo ad)) (F0 m 71 ls [])) : ∀ (n : Nat), ∀ {S : mSt} {v1 : Int32} {v2 : Int32} {v3 : Int32} {v4 : Int32} {H : Heap} {locs : List Loc} {ls : Array Slot}, fm_join_79 g_71 n S v1 v2 v3 v4 = some (r, S9) → mW cM iS cI cZ mo ad S H → mS (mA mo ad) s.heap H locs → lv_has ls 5 [(0, .ref mo), (1, .int v1), (2, .int v2), (3, .int v3), (4, .int v4)] → W p l e R s m args below meth c H locs 0 0 (MQ below (mQw (some (.int r)) cM iS cI cZ mo ad S9) args s 0 0 (mA mo ad)) (F0 m 79 ls []) := by
  intro n
  induction n with
  | zero =>
    intro S v1 v2 v3 v4 H locs ls h hW hS hl
    exact absurd (show (none : Option (Int32 × mSt)) = _ from h) (fun q => by cases q)
  | succ n ih =>
    intro S v1 v2 v3 v4 H locs ls h hW hS hl
    rw [fm_join_79] at h
    refine lv_iload C.1 C.2.1 dX12_join_79 (lv_at hl 4 rfl) ?_
    refine lv_iconst (v := 4) C.1 C.2.1 dX12_join_81 (by decide) ?_
    refine lv_icmp_ge (tgt := 119) C.1 C.2.1 dX12_join_82 (by decide) (fun c1 => ?_) (fun c1 => ?_)
    · have h := if_t h c1
      exact wm_join_119 C X hg_71 h hW hS (lv_sub hl [0, 1, 2, 3] rfl)
    · have h := if_f h c1
      refine lv_iload_n C.1 C.2.1 dX12_join_85 rfl (lv_at hl 3 rfl) ?_
      refine lv_iload_n C.1 C.2.1 dX12_join_86 rfl (lv_at hl 1 rfl) ?_
      refine lv_icmp_eq (tgt := 119) C.1 C.2.1 dX12_join_87 (by decide) (fun c2 => ?_) (fun c2 => ?_)
      · have h := if_t h c2
        exact wm_join_119 C X hg_71 h hW hS (lv_sub hl [0, 1, 2, 3] rfl)
      · have h := if_f h c2
        refine lv_aload_n C.1 C.2.1 dX12_join_90 rfl (lv_at hl 0 rfl) ?_
        refine lv_bipush (v := 16) C.1 C.2.1 dX12_join_91 (by decide) ?_
        refine lv_iload_n C.1 C.2.1 dX12_join_93 rfl (lv_at hl 1 rfl) ?_
        refine lv_imul C.1 C.2.1 dX12_join_94 ?_
        refine lv_iconst (v := 4) C.1 C.2.1 dX12_join_95 (by decide) ?_
        refine lv_iload_n C.1 C.2.1 dX12_join_96 rfl (lv_at hl 3 rfl) ?_
        refine lv_imul C.1 C.2.1 dX12_join_97 ?_
        refine lv_iadd C.1 C.2.1 dX12_join_98 ?_
        refine lv_iload C.1 C.2.1 dX12_join_99 (lv_at hl 4 rfl) ?_
        refine lv_iadd C.1 C.2.1 dX12_join_101 ?_
        refine lv_aload_n C.1 C.2.1 dX12_join_102 rfl (lv_at hl 0 rfl) ?_
        refine lv_iload_n C.1 C.2.1 dX12_join_103 rfl (lv_at hl 2 rfl) ?_
        refine lv_iload_n C.1 C.2.1 dX12_join_104 rfl (lv_at hl 3 rfl) ?_
        refine lv_iload C.1 C.2.1 dX12_join_105 (lv_at hl 4 rfl) ?_
        obtain ⟨r3, h_r3, h⟩ := bd_ok h
        refine m_callR (rest := [.int ((((16 : Int32) * v1) + ((4 : Int32) * v3)) + v4), .ref mo]) C X hW hl.1 [.int v2, .int v3, .int v4] (tm_seenOf l h_r3) mw_seenOf im_seenOf sl_seenOf rfl ⟨by decide, by decide⟩ rfl (Nat.le_of_ble_eq_true rfl) dX12_join_107 ?_
        obtain ⟨S4, h_S4, h⟩ := bd_ok h
        refine m_callW (rest := []) (ov := none) C X hW hS hl.1 [.int ((((16 : Int32) * v1) + ((4 : Int32) * v3)) + v4), .int r3] (tm_raise l h_S4) mw_raise im_raise sl_raise rfl ⟨by decide, by decide⟩ rfl (Nat.le_of_ble_eq_true rfl) dX12_join_110 (fun H locs hW hS => ?_)
        refine W.eq (g2 := F0 m 113 ls []) rfl ?_
        refine lt_ok h (fun x5 e_x5 h => ?_)
        refine lv_iinc (v := x5) (lv' := [(4, .int x5), (0, .ref mo), (1, .int v1), (2, .int v2), (3, .int v3)]) C.1 C.2.1 dX12_join_113 hl (k := 4) rfl (by rw [← e_x5]; rfl) (by decide) rfl (fun ls hl => ?_)
        refine lv_goto (tgt := 79) C.1 C.2.1 dX12_join_116 (by decide) ?_
        exact ih h hW hS (lv_sub hl [1, 2, 3, 4, 0] rfl)
noncomputable def fm_join_71 : Nat → mSt → Int32 → Int32 → Int32 → Option (Int32 × mSt)
  | 0, _, _, _, _ => none
  | n + 1, S, v1, v2, v3 =>
    if (4 : Int32) ≤ v3 then (
    fm_join_127 mFU S v1 v2 (0 : Int32))
    else (
    fm_join_79 (fm_join_71 n) mFU S v1 v2 v3 (0 : Int32))
set_option maxRecDepth 100000 in
set_option maxHeartbeats 4000000 in
theorem wm_join_71 (C : mY p R s m args meth c cX12_join 5 2 45 (some .boolean)) (X : mX s cM iS cI cZ mo ad) : ∀ (n : Nat), ∀ {S : mSt} {v1 : Int32} {v2 : Int32} {v3 : Int32} {H : Heap} {locs : List Loc} {ls : Array Slot}, fm_join_71 n S v1 v2 v3 = some (r, S9) → mW cM iS cI cZ mo ad S H → mS (mA mo ad) s.heap H locs → lv_has ls 5 [(0, .ref mo), (1, .int v1), (2, .int v2), (3, .int v3)] → W p l e R s m args below meth c H locs 0 0 (MQ below (mQw (some (.int r)) cM iS cI cZ mo ad S9) args s 0 0 (mA mo ad)) (F0 m 71 ls []) := by
  intro n
  induction n with
  | zero =>
    intro S v1 v2 v3 H locs ls h hW hS hl
    exact absurd (show (none : Option (Int32 × mSt)) = _ from h) (fun q => by cases q)
  | succ n ih =>
    intro S v1 v2 v3 H locs ls h hW hS hl
    rw [fm_join_71] at h
    refine lv_iload_n C.1 C.2.1 dX12_join_71 rfl (lv_at hl 3 rfl) ?_
    refine lv_iconst (v := 4) C.1 C.2.1 dX12_join_72 (by decide) ?_
    refine lv_icmp_ge (tgt := 125) C.1 C.2.1 dX12_join_73 (by decide) (fun c1 => ?_) (fun c1 => ?_)
    · have h := if_t h c1
      refine lv_iconst (v := 0) C.1 C.2.1 dX12_join_125 (by decide) ?_
      refine lv_istore_n (lv' := [(3, .int (0 : Int32)), (0, .ref mo), (1, .int v1), (2, .int v2)]) C.1 C.2.1 dX12_join_126 rfl hl (by decide) rfl (fun ls hl => ?_)
      exact wm_join_127 C X mFU h hW hS (lv_sub hl [1, 2, 3, 0] rfl)
    · have h := if_f h c1
      refine lv_iconst (v := 0) C.1 C.2.1 dX12_join_76 (by decide) ?_
      refine lv_istore (lv' := [(4, .int (0 : Int32)), (0, .ref mo), (1, .int v1), (2, .int v2), (3, .int v3)]) C.1 C.2.1 dX12_join_77 hl (by decide) rfl (fun ls hl => ?_)
      exact wm_join_79 C X ih mFU h hW hS (lv_sub hl [1, 2, 3, 4, 0] rfl)
noncomputable def fm_join_41 : Nat → mSt → Int32 → Int32 → Int32 → Option (Int32 × mSt)
  | 0, _, _, _, _ => none
  | n + 1, S, v1, v2, v3 =>
    if (4 : Int32) ≤ v3 then (
    fm_join_71 mFU S v1 v2 (0 : Int32))
    else (
    bd (fm_knownOf S v2 v3) fun r2 =>
    bd (fm_knownOf S v1 v3) fun r3 =>
    if r3 ≤ r2 then (
    lt (v3 + (1 : Int32)) fun x5 =>
    fm_join_41 n S v1 v2 x5)
    else (
    ckz (0 : Int32) (some ((0 : Int32), S))))
set_option maxRecDepth 100000 in
set_option maxHeartbeats 4000000 in
theorem wm_join_41 (C : mY p R s m args meth c cX12_join 5 2 45 (some .boolean)) (X : mX s cM iS cI cZ mo ad) : ∀ (n : Nat), ∀ {S : mSt} {v1 : Int32} {v2 : Int32} {v3 : Int32} {H : Heap} {locs : List Loc} {ls : Array Slot}, fm_join_41 n S v1 v2 v3 = some (r, S9) → mW cM iS cI cZ mo ad S H → mS (mA mo ad) s.heap H locs → lv_has ls 5 [(0, .ref mo), (1, .int v1), (2, .int v2), (3, .int v3)] → W p l e R s m args below meth c H locs 0 0 (MQ below (mQw (some (.int r)) cM iS cI cZ mo ad S9) args s 0 0 (mA mo ad)) (F0 m 41 ls []) := by
  intro n
  induction n with
  | zero =>
    intro S v1 v2 v3 H locs ls h hW hS hl
    exact absurd (show (none : Option (Int32 × mSt)) = _ from h) (fun q => by cases q)
  | succ n ih =>
    intro S v1 v2 v3 H locs ls h hW hS hl
    rw [fm_join_41] at h
    refine lv_iload_n C.1 C.2.1 dX12_join_41 rfl (lv_at hl 3 rfl) ?_
    refine lv_iconst (v := 4) C.1 C.2.1 dX12_join_42 (by decide) ?_
    refine lv_icmp_ge (tgt := 69) C.1 C.2.1 dX12_join_43 (by decide) (fun c1 => ?_) (fun c1 => ?_)
    · have h := if_t h c1
      refine lv_iconst (v := 0) C.1 C.2.1 dX12_join_69 (by decide) ?_
      refine lv_istore_n (lv' := [(3, .int (0 : Int32)), (0, .ref mo), (1, .int v1), (2, .int v2)]) C.1 C.2.1 dX12_join_70 rfl hl (by decide) rfl (fun ls hl => ?_)
      exact wm_join_71 C X mFU h hW hS (lv_sub hl [1, 2, 3, 0] rfl)
    · have h := if_f h c1
      refine lv_aload_n C.1 C.2.1 dX12_join_46 rfl (lv_at hl 0 rfl) ?_
      refine lv_iload_n C.1 C.2.1 dX12_join_47 rfl (lv_at hl 2 rfl) ?_
      refine lv_iload_n C.1 C.2.1 dX12_join_48 rfl (lv_at hl 3 rfl) ?_
      obtain ⟨r2, h_r2, h⟩ := bd_ok h
      refine m_callR (rest := []) C X hW hl.1 [.int v2, .int v3] (tm_knownOf l h_r2) mw_knownOf im_knownOf sl_knownOf rfl ⟨by decide, by decide⟩ rfl (Nat.le_of_ble_eq_true rfl) dX12_join_49 ?_
      refine lv_aload_n C.1 C.2.1 dX12_join_52 rfl (lv_at hl 0 rfl) ?_
      refine lv_iload_n C.1 C.2.1 dX12_join_53 rfl (lv_at hl 1 rfl) ?_
      refine lv_iload_n C.1 C.2.1 dX12_join_54 rfl (lv_at hl 3 rfl) ?_
      obtain ⟨r3, h_r3, h⟩ := bd_ok h
      refine m_callR (rest := [.int r2]) C X hW hl.1 [.int v1, .int v3] (tm_knownOf l h_r3) mw_knownOf im_knownOf sl_knownOf rfl ⟨by decide, by decide⟩ rfl (Nat.le_of_ble_eq_true rfl) dX12_join_55 ?_
      refine lv_icmp_ge (tgt := 63) C.1 C.2.1 dX12_join_58 (by decide) (fun c4 => ?_) (fun c4 => ?_)
      · have h := if_t h c4
        refine lt_ok h (fun x5 e_x5 h => ?_)
        refine lv_iinc (v := x5) (lv' := [(3, .int x5), (0, .ref mo), (1, .int v1), (2, .int v2)]) C.1 C.2.1 dX12_join_63 hl (k := 3) rfl (by rw [← e_x5]; rfl) (by decide) rfl (fun ls hl => ?_)
        refine lv_goto (tgt := 41) C.1 C.2.1 dX12_join_66 (by decide) ?_
        exact ih h hW hS (lv_sub hl [1, 2, 3, 0] rfl)
      · have h := if_f h c4
        refine lv_iconst (v := 0) C.1 C.2.1 dX12_join_61 (by decide) ?_
        obtain ⟨hzo, h⟩ := ckz_ok h
        cases h
        exact m_retzW C hzo hW hS dX12_join_62
noncomputable def fm_join (S : mSt) (v1 : Int32) (v2 : Int32) : Option (Int32 × mSt) :=
lt (pu S 0 (0 : Int32)) fun S1 =>
bd (fm_within v1 (0 : Int32) (3 : Int32)) fun r2 =>
if r2 = 0 then (
fm_join_37 S1)
else (
bd (fm_within v2 (0 : Int32) (3 : Int32)) fun r4 =>
if r4 = 0 then (
fm_join_37 S1)
else (
if v1 = v2 then (
fm_join_37 S1)
else (
if (S1.1 45) = (40 : Int32) then (
fm_join_37 S1)
else (
fm_join_41 mFU S1 v1 v2 (0 : Int32)))))
set_option maxRecDepth 100000 in
set_option maxHeartbeats 4000000 in
theorem tm_join (l : Launch) {cM : ClassId} {iS : Nat → Nat} {cI cZ : ClassId} {mo : Nat} {ad : Nat → Nat} {S : mSt} {v1 : Int32} {v2 : Int32} {r : Int32} {S9 : mSt} (h : fm_join S v1 v2 = some (r, S9)) : Met l yX12_join (Cond.code yX12_join cX12_join 5 (some .boolean) :: lw_g) { frames := 2, cells := 0, slots := 0, locals := 45 } (mPi [.int v1, .int v2] cM iS cI cZ mo ad S) (mQw (some (.int r)) cM iS cI cZ mo ad S9) 0 0 (mA mo ad) := by
  refine Met.ofW (cc := cX12_join) (maxL := 5) (ret := (some .boolean)) (by decide) rfl ?_
  intro p e s m args below meth c s₁ B hml hv
  obtain ⟨rfl, hW, X⟩ := hv
  have C : mY p (headSpec (Cond.code yX12_join cX12_join 5 (some .boolean) :: lw_g) { frames := 2, cells := 0, slots := 0, locals := 45 }).room s m _ meth c cX12_join 5 2 45 (some .boolean) := ⟨B.exec, B.bytes, hml, findClass_of_methodNamed B.named, fun w hw => atoms_spec (ws := Cond.code yX12_join cX12_join 5 (some .boolean) :: lw_g) B.pre w (List.mem_cons_of_mem _ hw), ⟨Nat.le_refl _, Nat.le_refl _⟩, B.returns, B.notSynchronized⟩
  have hl := lv_entry ([.ref mo, .int v1, .int v2]) (n := 5) (Nat.le_of_ble_eq_true rfl)
  rw [lg_entry_eq]
  generalize (lg_sl ([.ref mo, .int v1, .int v2]) ++ List.replicate (5 - (lg_sl ([.ref mo, .int v1, .int v2])).length) Slot.unset).toArray = ls at hl ⊢
  have hl : lv_has ls 5 [(0, .ref mo), (1, .int v1), (2, .int v2)] := hl
  have hS : mS (mA mo ad) s.heap s.heap [] := mS.rf
  unfold fm_join at h
  refine lv_aload_n C.1 C.2.1 dX12_join_0 rfl (lv_at hl 0 rfl) ?_
  refine lv_iconst (v := 0) C.1 C.2.1 dX12_join_1 (by decide) ?_
  refine p_0 C X hW hS dX12_join_2 (fun H locs hW hS => ?_)
  refine lt_ok h (fun S1 e_S1 h => ?_)
  rw [e_S1] at hW
  refine lv_iload_n C.1 C.2.1 dX12_join_5 rfl (lv_at hl 1 rfl) ?_
  refine lv_iconst (v := 0) C.1 C.2.1 dX12_join_6 (by decide) ?_
  refine lv_iconst (v := 3) C.1 C.2.1 dX12_join_7 (by decide) ?_
  obtain ⟨r2, h_r2, h⟩ := bd_ok h
  refine m_callS (rest := []) C hl.1 [.int v1, .int (0 : Int32), .int (3 : Int32)] (tm_within l h_r2) mw_within st_within rfl ⟨by decide, by decide⟩ rfl (Nat.le_of_ble_eq_true rfl) dX12_join_8 ?_
  refine lv_if_eq (tgt := 37) C.1 C.2.1 dX12_join_11 (by decide) (fun c3 => ?_) (fun c3 => ?_)
  · have h := if_t h c3
    exact wm_join_37 C X h hW hS (lv_sub hl [] rfl)
  · have h := if_f h c3
    refine lv_iload_n C.1 C.2.1 dX12_join_14 rfl (lv_at hl 2 rfl) ?_
    refine lv_iconst (v := 0) C.1 C.2.1 dX12_join_15 (by decide) ?_
    refine lv_iconst (v := 3) C.1 C.2.1 dX12_join_16 (by decide) ?_
    obtain ⟨r4, h_r4, h⟩ := bd_ok h
    refine m_callS (rest := []) C hl.1 [.int v2, .int (0 : Int32), .int (3 : Int32)] (tm_within l h_r4) mw_within st_within rfl ⟨by decide, by decide⟩ rfl (Nat.le_of_ble_eq_true rfl) dX12_join_17 ?_
    refine lv_if_eq (tgt := 37) C.1 C.2.1 dX12_join_20 (by decide) (fun c5 => ?_) (fun c5 => ?_)
    · have h := if_t h c5
      exact wm_join_37 C X h hW hS (lv_sub hl [] rfl)
    · have h := if_f h c5
      refine lv_iload_n C.1 C.2.1 dX12_join_23 rfl (lv_at hl 1 rfl) ?_
      refine lv_iload_n C.1 C.2.1 dX12_join_24 rfl (lv_at hl 2 rfl) ?_
      refine lv_icmp_eq (tgt := 37) C.1 C.2.1 dX12_join_25 (by decide) (fun c6 => ?_) (fun c6 => ?_)
      · have h := if_t h c6
        exact wm_join_37 C X h hW hS (lv_sub hl [] rfl)
      · have h := if_f h c6
        refine lv_aload_n C.1 C.2.1 dX12_join_28 rfl (lv_at hl 0 rfl) ?_
        refine gf_45 C X hW dX12_join_29 ?_
        refine lv_bipush (v := 40) C.1 C.2.1 dX12_join_32 (by decide) ?_
        refine lv_icmp_ne (tgt := 39) C.1 C.2.1 dX12_join_34 (by decide) (fun c7 => ?_) (fun c7 => ?_)
        · have h := if_f h c7
          refine lv_iconst (v := 0) C.1 C.2.1 dX12_join_39 (by decide) ?_
          refine lv_istore_n (lv' := [(3, .int (0 : Int32)), (0, .ref mo), (1, .int v1), (2, .int v2)]) C.1 C.2.1 dX12_join_40 rfl hl (by decide) rfl (fun ls hl => ?_)
          exact wm_join_41 C X mFU h hW hS (lv_sub hl [1, 2, 3, 0] rfl)
        · have h := if_t h c7
          exact wm_join_37 C X h hW hS (lv_sub hl [] rfl)
end
theorem dX12_children_0 : decode cX12_children 0 = .ok (.aload_n 0, 1) := by decide +kernel
theorem dX12_children_1 : decode cX12_children 1 = .ok (.iload_n 1, 1) := by decide +kernel
theorem dX12_children_2 : decode cX12_children 2 = .ok (.aload_n 0, 1) := by decide +kernel
theorem dX12_children_3 : decode cX12_children 3 = .ok (.getfield 71, 3) := by decide +kernel
theorem dX12_children_6 : decode cX12_children 6 = .ok (.iload_n 1, 1) := by decide +kernel
theorem dX12_children_7 : decode cX12_children 7 = .ok (.iaload, 1) := by decide +kernel
theorem dX12_children_8 : decode cX12_children 8 = .ok (.invokevirtual 324, 3) := by decide +kernel
theorem dX12_children_11 : decode cX12_children 11 = .ok (.iconst 0, 1) := by decide +kernel
theorem dX12_children_12 : decode cX12_children 12 = .ok (.istore_n 3, 1) := by decide +kernel
theorem dX12_children_13 : decode cX12_children 13 = .ok (.iconst 0, 1) := by decide +kernel
theorem dX12_children_14 : decode cX12_children 14 = .ok (.istore 4, 2) := by decide +kernel
theorem dX12_children_16 : decode cX12_children 16 = .ok (.iload 4, 2) := by decide +kernel
theorem dX12_children_18 : decode cX12_children 18 = .ok (.aload_n 0, 1) := by decide +kernel
theorem dX12_children_19 : decode cX12_children 19 = .ok (.getfield 309, 3) := by decide +kernel
theorem dX12_children_22 : decode cX12_children 22 = .ok (.if_icmp .ge 43, 3) := by decide +kernel
theorem dX12_children_25 : decode cX12_children 25 = .ok (.iload_n 3, 1) := by decide +kernel
theorem dX12_children_26 : decode cX12_children 26 = .ok (.aload_n 0, 1) := by decide +kernel
theorem dX12_children_27 : decode cX12_children 27 = .ok (.getfield 151, 3) := by decide +kernel
theorem dX12_children_30 : decode cX12_children 30 = .ok (.iload 4, 2) := by decide +kernel
theorem dX12_children_32 : decode cX12_children 32 = .ok (.iaload, 1) := by decide +kernel
theorem dX12_children_33 : decode cX12_children 33 = .ok (.iload_n 2, 1) := by decide +kernel
theorem dX12_children_34 : decode cX12_children 34 = .ok (.if_icmp .ne 22, 3) := by decide +kernel
theorem dX12_children_37 : decode cX12_children 37 = .ok (.aload_n 0, 1) := by decide +kernel
theorem dX12_children_38 : decode cX12_children 38 = .ok (.iload_n 1, 1) := by decide +kernel
theorem dX12_children_39 : decode cX12_children 39 = .ok (.aload_n 0, 1) := by decide +kernel
theorem dX12_children_40 : decode cX12_children 40 = .ok (.getfield 148, 3) := by decide +kernel
theorem dX12_children_43 : decode cX12_children 43 = .ok (.iload 4, 2) := by decide +kernel
theorem dX12_children_45 : decode cX12_children 45 = .ok (.iaload, 1) := by decide +kernel
theorem dX12_children_46 : decode cX12_children 46 = .ok (.invokevirtual 365, 3) := by decide +kernel
theorem dX12_children_49 : decode cX12_children 49 = .ok (.ifCond .eq 7, 3) := by decide +kernel
theorem dX12_children_52 : decode cX12_children 52 = .ok (.iconst 1, 1) := by decide +kernel
theorem dX12_children_53 : decode cX12_children 53 = .ok (.goto 4, 3) := by decide +kernel
theorem dX12_children_56 : decode cX12_children 56 = .ok (.iconst 0, 1) := by decide +kernel
theorem dX12_children_57 : decode cX12_children 57 = .ok (.iadd, 1) := by decide +kernel
theorem dX12_children_58 : decode cX12_children 58 = .ok (.istore_n 3, 1) := by decide +kernel
theorem dX12_children_59 : decode cX12_children 59 = .ok (.iinc 4 1, 3) := by decide +kernel
theorem dX12_children_62 : decode cX12_children 62 = .ok (.goto (-46), 3) := by decide +kernel
theorem dX12_children_65 : decode cX12_children 65 = .ok (.iload_n 3, 1) := by decide +kernel
theorem dX12_children_66 : decode cX12_children 66 = .ok (.ireturn, 1) := by decide +kernel
theorem cd_children : Cond.code yX12_children cX12_children 5 (some .int) ∈ lw_g := mt_at 2312 (by decide +kernel) rfl
theorem mw_children : mCw 497 yX12_children cX12_children 5 (some .int) 2 := ⟨cd_children, mt_at 2309 (by decide +kernel) rfl, in_M, by decide +kernel⟩
theorem im_children : Cond.instanceMethod yX12_children ∈ lw_g := mt_at 2311 (by decide +kernel) rfl
theorem sl_children : Cond.selects RX12 yX12_children yX12_children ∈ lw_g := mt_sel 108 (by decide +kernel) rfl
section
variable {p : Program} {l : Launch} {e : Env} {R : Room} {s : State} {m : MethodId} {args : Array Value} {below : List Frame} {meth : Method} {c : Code} {cM : ClassId} {iS : Nat → Nat} {cI cZ : ClassId} {mo : Nat} {ad : Nat → Nat} {r : Int32} {S9 : mSt}
noncomputable def fm_children_57 (g_16 : mSt → Int32 → Int32 → Int32 → Int32 → Option (Int32 × mSt)) (S : mSt) (v1 : Int32) (v2 : Int32) (v4 : Int32) (s0 : Int32) (s1 : Int32) : Option (Int32 × mSt) :=
lt (s0 + s1) fun x1 =>
lt (v4 + (1 : Int32)) fun x2 =>
g_16 S v1 v2 x1 x2
set_option maxRecDepth 100000 in
set_option maxHeartbeats 4000000 in
theorem wm_children_57 (C : mY p R s m args meth c cX12_children 5 5 116 (some .int)) (X : mX s cM iS cI cZ mo ad) {g_16 : mSt → Int32 → Int32 → Int32 → Int32 → Option (Int32 × mSt)} (hg_16 : ∀ {S : mSt} {v1 : Int32} {v2 : Int32} {v3 : Int32} {v4 : Int32} {H : Heap} {locs : List Loc} {ls : Array Slot}, g_16 S v1 v2 v3 v4 = some (r, S9) → mW cM iS cI cZ mo ad S H → mS (mA mo ad) s.heap H locs → lv_has ls 5 [(0, .ref mo), (1, .int v1), (2, .int v2), (3, .int v3), (4, .int v4)] → W p l e R s m args below meth c H locs 0 0 (MQ below (mQw (some (.int r)) cM iS cI cZ mo ad S9) args s 0 0 (mA mo ad)) (F0 m 16 ls [])) : ∀ {S : mSt} {v1 : Int32} {v2 : Int32} {v4 : Int32} {s0 : Int32} {s1 : Int32} {H : Heap} {locs : List Loc} {ls : Array Slot}, fm_children_57 g_16 S v1 v2 v4 s0 s1 = some (r, S9) → mW cM iS cI cZ mo ad S H → mS (mA mo ad) s.heap H locs → lv_has ls 5 [(0, .ref mo), (1, .int v1), (2, .int v2), (4, .int v4)] → W p l e R s m args below meth c H locs 0 0 (MQ below (mQw (some (.int r)) cM iS cI cZ mo ad S9) args s 0 0 (mA mo ad)) (F0 m 57 ls [.int s1, .int s0]) := by
  intro S v1 v2 v4 s0 s1 H locs ls h hW hS hl
  unfold fm_children_57 at h
  refine lv_iadd C.1 C.2.1 dX12_children_57 ?_
  refine lt_ok h (fun x1 e_x1 h => ?_)
  refine lv_nm e_x1 ?_
  refine lv_istore_n (lv' := [(3, .int x1), (0, .ref mo), (1, .int v1), (2, .int v2), (4, .int v4)]) C.1 C.2.1 dX12_children_58 rfl hl (by decide) rfl (fun ls hl => ?_)
  refine lt_ok h (fun x2 e_x2 h => ?_)
  refine lv_iinc (v := x2) (lv' := [(4, .int x2), (3, .int x1), (0, .ref mo), (1, .int v1), (2, .int v2)]) C.1 C.2.1 dX12_children_59 hl (k := 4) rfl (by rw [← e_x2]; rfl) (by decide) rfl (fun ls hl => ?_)
  refine lv_goto (tgt := 16) C.1 C.2.1 dX12_children_62 (by decide) ?_
  exact hg_16 h hW hS (lv_sub hl [2, 3, 4, 1, 0] rfl)
noncomputable def fm_children_56 (g_16 : mSt → Int32 → Int32 → Int32 → Int32 → Option (Int32 × mSt)) (S : mSt) (v1 : Int32) (v2 : Int32) (v4 : Int32) (s0 : Int32) : Option (Int32 × mSt) :=
fm_children_57 g_16 S v1 v2 v4 s0 (0 : Int32)
set_option maxRecDepth 100000 in
set_option maxHeartbeats 4000000 in
theorem wm_children_56 (C : mY p R s m args meth c cX12_children 5 5 116 (some .int)) (X : mX s cM iS cI cZ mo ad) {g_16 : mSt → Int32 → Int32 → Int32 → Int32 → Option (Int32 × mSt)} (hg_16 : ∀ {S : mSt} {v1 : Int32} {v2 : Int32} {v3 : Int32} {v4 : Int32} {H : Heap} {locs : List Loc} {ls : Array Slot}, g_16 S v1 v2 v3 v4 = some (r, S9) → mW cM iS cI cZ mo ad S H → mS (mA mo ad) s.heap H locs → lv_has ls 5 [(0, .ref mo), (1, .int v1), (2, .int v2), (3, .int v3), (4, .int v4)] → W p l e R s m args below meth c H locs 0 0 (MQ below (mQw (some (.int r)) cM iS cI cZ mo ad S9) args s 0 0 (mA mo ad)) (F0 m 16 ls [])) : ∀ {S : mSt} {v1 : Int32} {v2 : Int32} {v4 : Int32} {s0 : Int32} {H : Heap} {locs : List Loc} {ls : Array Slot}, fm_children_56 g_16 S v1 v2 v4 s0 = some (r, S9) → mW cM iS cI cZ mo ad S H → mS (mA mo ad) s.heap H locs → lv_has ls 5 [(0, .ref mo), (1, .int v1), (2, .int v2), (4, .int v4)] → W p l e R s m args below meth c H locs 0 0 (MQ below (mQw (some (.int r)) cM iS cI cZ mo ad S9) args s 0 0 (mA mo ad)) (F0 m 56 ls [.int s0]) := by
  intro S v1 v2 v4 s0 H locs ls h hW hS hl
  unfold fm_children_56 at h
  refine lv_iconst (v := 0) C.1 C.2.1 dX12_children_56 (by decide) ?_
  exact wm_children_57 C X hg_16 h hW hS (lv_sub hl [0, 1, 2, 3] rfl)
noncomputable def fm_children_16 : Nat → mSt → Int32 → Int32 → Int32 → Int32 → Option (Int32 × mSt)
  | 0, _, _, _, _, _ => none
  | n + 1, S, v1, v2, v3, v4 =>
    if (S.1 54) ≤ v4 then (
    some (v3, S))
    else (
    ck v4 48 (
    if (rd S 56 v4) = v2 then (
    ck v4 48 (
    bd (fm_isThereNow S v1 (rd S 55 v4)) fun q_r4 => lt q_r4.1 fun r4 => lt q_r4.2 fun S3 =>
    if r4 = 0 then (
    fm_children_56 (fm_children_16 n) S3 v1 v2 v4 v3)
    else (
    fm_children_57 (fm_children_16 n) S3 v1 v2 v4 v3 (1 : Int32))))
    else (
    fm_children_56 (fm_children_16 n) S v1 v2 v4 v3)))
set_option maxRecDepth 100000 in
set_option maxHeartbeats 4000000 in
theorem wm_children_16 (C : mY p R s m args meth c cX12_children 5 5 116 (some .int)) (X : mX s cM iS cI cZ mo ad) : ∀ (n : Nat), ∀ {S : mSt} {v1 : Int32} {v2 : Int32} {v3 : Int32} {v4 : Int32} {H : Heap} {locs : List Loc} {ls : Array Slot}, fm_children_16 n S v1 v2 v3 v4 = some (r, S9) → mW cM iS cI cZ mo ad S H → mS (mA mo ad) s.heap H locs → lv_has ls 5 [(0, .ref mo), (1, .int v1), (2, .int v2), (3, .int v3), (4, .int v4)] → W p l e R s m args below meth c H locs 0 0 (MQ below (mQw (some (.int r)) cM iS cI cZ mo ad S9) args s 0 0 (mA mo ad)) (F0 m 16 ls []) := by
  intro n
  induction n with
  | zero =>
    intro S v1 v2 v3 v4 H locs ls h hW hS hl
    exact absurd (show (none : Option (Int32 × mSt)) = _ from h) (fun q => by cases q)
  | succ n ih =>
    intro S v1 v2 v3 v4 H locs ls h hW hS hl
    rw [fm_children_16] at h
    refine lv_iload C.1 C.2.1 dX12_children_16 (lv_at hl 4 rfl) ?_
    refine lv_aload_n C.1 C.2.1 dX12_children_18 rfl (lv_at hl 0 rfl) ?_
    refine gf_54 C X hW dX12_children_19 ?_
    refine lv_icmp_ge (tgt := 65) C.1 C.2.1 dX12_children_22 (by decide) (fun c1 => ?_) (fun c1 => ?_)
    · have h := if_t h c1
      refine lv_iload_n C.1 C.2.1 dX12_children_65 rfl (lv_at hl 3 rfl) ?_
      cases h
      exact m_retiW C hW hS dX12_children_66
    · have h := if_f h c1
      refine lv_iload_n C.1 C.2.1 dX12_children_25 rfl (lv_at hl 3 rfl) ?_
      refine lv_aload_n C.1 C.2.1 dX12_children_26 rfl (lv_at hl 0 rfl) ?_
      refine gf_56 C X hW dX12_children_27 ?_
      refine lv_iload C.1 C.2.1 dX12_children_30 (lv_at hl 4 rfl) ?_
      obtain ⟨hin, h⟩ := ck_ok h
      refine l_56 C X hW hin dX12_children_32 ?_
      refine lv_iload_n C.1 C.2.1 dX12_children_33 rfl (lv_at hl 2 rfl) ?_
      refine lv_icmp_ne (tgt := 56) C.1 C.2.1 dX12_children_34 (by decide) (fun c2 => ?_) (fun c2 => ?_)
      · have h := if_f h c2
        exact wm_children_56 C X ih h hW hS (lv_sub hl [0, 1, 2, 4] rfl)
      · have h := if_t h c2
        refine lv_aload_n C.1 C.2.1 dX12_children_37 rfl (lv_at hl 0 rfl) ?_
        refine lv_iload_n C.1 C.2.1 dX12_children_38 rfl (lv_at hl 1 rfl) ?_
        refine lv_aload_n C.1 C.2.1 dX12_children_39 rfl (lv_at hl 0 rfl) ?_
        refine gf_55 C X hW dX12_children_40 ?_
        refine lv_iload C.1 C.2.1 dX12_children_43 (lv_at hl 4 rfl) ?_
        obtain ⟨hin, h⟩ := ck_ok h
        refine l_55 C X hW hin dX12_children_45 ?_
        obtain ⟨⟨r4, S3⟩, h_S3, h⟩ := bd_ok h
        refine m_callW (rest := [.int v3]) (ov := some (.int r4)) C X hW hS hl.1 [.int v1, .int (rd S 55 v4)] (tm_isThereNow l h_S3) mw_isThereNow im_isThereNow sl_isThereNow rfl ⟨by decide, by decide⟩ rfl (Nat.le_of_ble_eq_true rfl) dX12_children_46 (fun H locs hW hS => ?_)
        refine W.eq (g2 := F0 m 49 ls [.int r4, .int v3]) rfl ?_
        refine lv_if_eq (tgt := 56) C.1 C.2.1 dX12_children_49 (by decide) (fun c5 => ?_) (fun c5 => ?_)
        · have h := if_t h c5
          exact wm_children_56 C X ih h hW hS (lv_sub hl [0, 1, 2, 4] rfl)
        · have h := if_f h c5
          refine lv_iconst (v := 1) C.1 C.2.1 dX12_children_52 (by decide) ?_
          refine lv_goto (tgt := 57) C.1 C.2.1 dX12_children_53 (by decide) ?_
          exact wm_children_57 C X ih h hW hS (lv_sub hl [0, 1, 2, 4] rfl)
noncomputable def fm_children (S : mSt) (v1 : Int32) (v2 : Int32) : Option (Int32 × mSt) :=
ck v1 4 (
bd (fm_findParents S v1 (rd S 23 v1)) fun S1 =>
fm_children_16 mFU S1 v1 v2 (0 : Int32) (0 : Int32))
set_option maxRecDepth 100000 in
set_option maxHeartbeats 4000000 in
theorem tm_children (l : Launch) {cM : ClassId} {iS : Nat → Nat} {cI cZ : ClassId} {mo : Nat} {ad : Nat → Nat} {S : mSt} {v1 : Int32} {v2 : Int32} {r : Int32} {S9 : mSt} (h : fm_children S v1 v2 = some (r, S9)) : Met l yX12_children (Cond.code yX12_children cX12_children 5 (some .int) :: lw_g) { frames := 5, cells := 0, slots := 0, locals := 116 } (mPi [.int v1, .int v2] cM iS cI cZ mo ad S) (mQw (some (.int r)) cM iS cI cZ mo ad S9) 0 0 (mA mo ad) := by
  refine Met.ofW (cc := cX12_children) (maxL := 5) (ret := (some .int)) (by decide) rfl ?_
  intro p e s m args below meth c s₁ B hml hv
  obtain ⟨rfl, hW, X⟩ := hv
  have C : mY p (headSpec (Cond.code yX12_children cX12_children 5 (some .int) :: lw_g) { frames := 5, cells := 0, slots := 0, locals := 116 }).room s m _ meth c cX12_children 5 5 116 (some .int) := ⟨B.exec, B.bytes, hml, findClass_of_methodNamed B.named, fun w hw => atoms_spec (ws := Cond.code yX12_children cX12_children 5 (some .int) :: lw_g) B.pre w (List.mem_cons_of_mem _ hw), ⟨Nat.le_refl _, Nat.le_refl _⟩, B.returns, B.notSynchronized⟩
  have hl := lv_entry ([.ref mo, .int v1, .int v2]) (n := 5) (Nat.le_of_ble_eq_true rfl)
  rw [lg_entry_eq]
  generalize (lg_sl ([.ref mo, .int v1, .int v2]) ++ List.replicate (5 - (lg_sl ([.ref mo, .int v1, .int v2])).length) Slot.unset).toArray = ls at hl ⊢
  have hl : lv_has ls 5 [(0, .ref mo), (1, .int v1), (2, .int v2)] := hl
  have hS : mS (mA mo ad) s.heap s.heap [] := mS.rf
  unfold fm_children at h
  refine lv_aload_n C.1 C.2.1 dX12_children_0 rfl (lv_at hl 0 rfl) ?_
  refine lv_iload_n C.1 C.2.1 dX12_children_1 rfl (lv_at hl 1 rfl) ?_
  refine lv_aload_n C.1 C.2.1 dX12_children_2 rfl (lv_at hl 0 rfl) ?_
  refine gf_23 C X hW dX12_children_3 ?_
  refine lv_iload_n C.1 C.2.1 dX12_children_6 rfl (lv_at hl 1 rfl) ?_
  obtain ⟨hin, h⟩ := ck_ok h
  refine l_23 C X hW hin dX12_children_7 ?_
  obtain ⟨S1, h_S1, h⟩ := bd_ok h
  refine m_callW (rest := []) (ov := none) C X hW hS hl.1 [.int v1, .int (rd S 23 v1)] (tm_findParents l h_S1) mw_findParents im_findParents sl_findParents rfl ⟨by decide, by decide⟩ rfl (Nat.le_of_ble_eq_true rfl) dX12_children_8 (fun H locs hW hS => ?_)
  refine W.eq (g2 := F0 m 11 ls []) rfl ?_
  refine lv_iconst (v := 0) C.1 C.2.1 dX12_children_11 (by decide) ?_
  refine lv_istore_n (lv' := [(3, .int (0 : Int32)), (0, .ref mo), (1, .int v1), (2, .int v2)]) C.1 C.2.1 dX12_children_12 rfl hl (by decide) rfl (fun ls hl => ?_)
  refine lv_iconst (v := 0) C.1 C.2.1 dX12_children_13 (by decide) ?_
  refine lv_istore (lv' := [(4, .int (0 : Int32)), (3, .int (0 : Int32)), (0, .ref mo), (1, .int v1), (2, .int v2)]) C.1 C.2.1 dX12_children_14 hl (by decide) rfl (fun ls hl => ?_)
  exact wm_children_16 C X mFU h hW hS (lv_sub hl [2, 3, 4, 1, 0] rfl)
end
theorem dX12_object_0 : decode cX12_object 0 = .ok (.aload_n 0, 1) := by decide +kernel
theorem dX12_object_1 : decode cX12_object 1 = .ok (.iconst 0, 1) := by decide +kernel
theorem dX12_object_2 : decode cX12_object 2 = .ok (.putfield 200, 3) := by decide +kernel
theorem dX12_object_5 : decode cX12_object 5 = .ok (.aload_n 0, 1) := by decide +kernel
theorem dX12_object_6 : decode cX12_object 6 = .ok (.iload_n 1, 1) := by decide +kernel
theorem dX12_object_7 : decode cX12_object 7 = .ok (.iload_n 2, 1) := by decide +kernel
theorem dX12_object_8 : decode cX12_object 8 = .ok (.invokevirtual 491, 3) := by decide +kernel
theorem dX12_object_11 : decode cX12_object 11 = .ok (.ifCond .ne 5, 3) := by decide +kernel
theorem dX12_object_14 : decode cX12_object 14 = .ok (.iconst (-1), 1) := by decide +kernel
theorem dX12_object_15 : decode cX12_object 15 = .ok (.ireturn, 1) := by decide +kernel
theorem dX12_object_16 : decode cX12_object 16 = .ok (.iload_n 3, 1) := by decide +kernel
theorem dX12_object_17 : decode cX12_object 17 = .ok (.tableswitch 77 0 4 #[35, 50, 56, 63, 70], 35) := by decide +kernel
theorem dX12_object_52 : decode cX12_object 52 = .ok (.aload_n 0, 1) := by decide +kernel
theorem dX12_object_53 : decode cX12_object 53 = .ok (.iload_n 1, 1) := by decide +kernel
theorem dX12_object_54 : decode cX12_object 54 = .ok (.iload_n 2, 1) := by decide +kernel
theorem dX12_object_55 : decode cX12_object 55 = .ok (.invokevirtual 365, 3) := by decide +kernel
theorem dX12_object_58 : decode cX12_object 58 = .ok (.ifCond .eq 7, 3) := by decide +kernel
theorem dX12_object_61 : decode cX12_object 61 = .ok (.iconst 1, 1) := by decide +kernel
theorem dX12_object_62 : decode cX12_object 62 = .ok (.goto 4, 3) := by decide +kernel
theorem dX12_object_65 : decode cX12_object 65 = .ok (.iconst 0, 1) := by decide +kernel
theorem dX12_object_66 : decode cX12_object 66 = .ok (.ireturn, 1) := by decide +kernel
theorem dX12_object_67 : decode cX12_object 67 = .ok (.aload_n 0, 1) := by decide +kernel
theorem dX12_object_68 : decode cX12_object 68 = .ok (.iload_n 2, 1) := by decide +kernel
theorem dX12_object_69 : decode cX12_object 69 = .ok (.invokevirtual 250, 3) := by decide +kernel
theorem dX12_object_72 : decode cX12_object 72 = .ok (.ireturn, 1) := by decide +kernel
theorem dX12_object_73 : decode cX12_object 73 = .ok (.aload_n 0, 1) := by decide +kernel
theorem dX12_object_74 : decode cX12_object 74 = .ok (.iload_n 1, 1) := by decide +kernel
theorem dX12_object_75 : decode cX12_object 75 = .ok (.iload_n 2, 1) := by decide +kernel
theorem dX12_object_76 : decode cX12_object 76 = .ok (.invokevirtual 494, 3) := by decide +kernel
theorem dX12_object_79 : decode cX12_object 79 = .ok (.ireturn, 1) := by decide +kernel
theorem dX12_object_80 : decode cX12_object 80 = .ok (.aload_n 0, 1) := by decide +kernel
theorem dX12_object_81 : decode cX12_object 81 = .ok (.iload_n 1, 1) := by decide +kernel
theorem dX12_object_82 : decode cX12_object 82 = .ok (.iload_n 2, 1) := by decide +kernel
theorem dX12_object_83 : decode cX12_object 83 = .ok (.invokevirtual 497, 3) := by decide +kernel
theorem dX12_object_86 : decode cX12_object 86 = .ok (.ireturn, 1) := by decide +kernel
theorem dX12_object_87 : decode cX12_object 87 = .ok (.aload_n 0, 1) := by decide +kernel
theorem dX12_object_88 : decode cX12_object 88 = .ok (.iload_n 1, 1) := by decide +kernel
theorem dX12_object_89 : decode cX12_object 89 = .ok (.iload_n 2, 1) := by decide +kernel
theorem dX12_object_90 : decode cX12_object 90 = .ok (.invokevirtual 384, 3) := by decide +kernel
theorem dX12_object_93 : decode cX12_object 93 = .ok (.ireturn, 1) := by decide +kernel
theorem dX12_object_94 : decode cX12_object 94 = .ok (.iconst (-1), 1) := by decide +kernel
theorem dX12_object_95 : decode cX12_object 95 = .ok (.ireturn, 1) := by decide +kernel
theorem cd_object : Cond.code yX12_object cX12_object 4 (some .int) ∈ lw_g := mt_at 2304 (by decide +kernel) rfl
section
variable {p : Program} {l : Launch} {e : Env} {R : Room} {s : State} {m : MethodId} {args : Array Value} {below : List Frame} {meth : Method} {c : Code} {cM : ClassId} {iS : Nat → Nat} {cI cZ : ClassId} {mo : Nat} {ad : Nat → Nat} {r : Int32} {S9 : mSt}
noncomputable def fm_object_66 (S : mSt) (s0 : Int32) : Option (Int32 × mSt) :=
some (s0, S)
set_option maxRecDepth 100000 in
set_option maxHeartbeats 4000000 in
theorem wm_object_66 (C : mY p R s m args meth c cX12_object 4 6 140 (some .int)) (X : mX s cM iS cI cZ mo ad) : ∀ {S : mSt} {s0 : Int32} {H : Heap} {locs : List Loc} {ls : Array Slot}, fm_object_66 S s0 = some (r, S9) → mW cM iS cI cZ mo ad S H → mS (mA mo ad) s.heap H locs → lv_has ls 4 [] → W p l e R s m args below meth c H locs 0 0 (MQ below (mQw (some (.int r)) cM iS cI cZ mo ad S9) args s 0 0 (mA mo ad)) (F0 m 66 ls [.int s0]) := by
  intro S s0 H locs ls h hW hS hl
  unfold fm_object_66 at h
  cases h
  exact m_retiW C hW hS dX12_object_66
noncomputable def fm_object (S : mSt) (v1 : Int32) (v2 : Int32) (v3 : Int32) : Option (Int32 × mSt) :=
lt (pu S 0 (0 : Int32)) fun S1 =>
bd (fm_isObject S1 v1 v2) fun r2 =>
if r2 = 0 then (
some ((-1 : Int32), S1))
else (
if v3 = (0 : Int32) then (
bd (fm_isThereNow S1 v1 v2) fun q_r6 => lt q_r6.1 fun r6 => lt q_r6.2 fun S5 =>
if r6 = 0 then (
fm_object_66 S5 (0 : Int32))
else (
fm_object_66 S5 (1 : Int32)))
else if v3 = (1 : Int32) then (
bd (fm_kindOf S1 v2) fun r9 =>
some (r9, S1))
else if v3 = (2 : Int32) then (
bd (fm_parentOf S1 v1 v2) fun q_r12 => lt q_r12.1 fun r12 => lt q_r12.2 fun S11 =>
some (r12, S11))
else if v3 = (3 : Int32) then (
bd (fm_children S1 v1 v2) fun q_r15 => lt q_r15.1 fun r15 => lt q_r15.2 fun S14 =>
some (r15, S14))
else if v3 = (4 : Int32) then (
bd (fm_holder S1 v1 v2) fun q_r18 => lt q_r18.1 fun r18 => lt q_r18.2 fun S17 =>
some (r18, S17))
else (
some ((-1 : Int32), S1)))
set_option maxRecDepth 100000 in
set_option maxHeartbeats 4000000 in
theorem tm_object (l : Launch) {cM : ClassId} {iS : Nat → Nat} {cI cZ : ClassId} {mo : Nat} {ad : Nat → Nat} {S : mSt} {v1 : Int32} {v2 : Int32} {v3 : Int32} {r : Int32} {S9 : mSt} (h : fm_object S v1 v2 v3 = some (r, S9)) : Met l yX12_object (Cond.code yX12_object cX12_object 4 (some .int) :: lw_g) { frames := 6, cells := 0, slots := 0, locals := 140 } (mPi [.int v1, .int v2, .int v3] cM iS cI cZ mo ad S) (mQw (some (.int r)) cM iS cI cZ mo ad S9) 0 0 (mA mo ad) := by
  refine Met.ofW (cc := cX12_object) (maxL := 4) (ret := (some .int)) (by decide) rfl ?_
  intro p e s m args below meth c s₁ B hml hv
  obtain ⟨rfl, hW, X⟩ := hv
  have C : mY p (headSpec (Cond.code yX12_object cX12_object 4 (some .int) :: lw_g) { frames := 6, cells := 0, slots := 0, locals := 140 }).room s m _ meth c cX12_object 4 6 140 (some .int) := ⟨B.exec, B.bytes, hml, findClass_of_methodNamed B.named, fun w hw => atoms_spec (ws := Cond.code yX12_object cX12_object 4 (some .int) :: lw_g) B.pre w (List.mem_cons_of_mem _ hw), ⟨Nat.le_refl _, Nat.le_refl _⟩, B.returns, B.notSynchronized⟩
  have hl := lv_entry ([.ref mo, .int v1, .int v2, .int v3]) (n := 4) (Nat.le_of_ble_eq_true rfl)
  rw [lg_entry_eq]
  generalize (lg_sl ([.ref mo, .int v1, .int v2, .int v3]) ++ List.replicate (4 - (lg_sl ([.ref mo, .int v1, .int v2, .int v3])).length) Slot.unset).toArray = ls at hl ⊢
  have hl : lv_has ls 4 [(0, .ref mo), (1, .int v1), (2, .int v2), (3, .int v3)] := hl
  have hS : mS (mA mo ad) s.heap s.heap [] := mS.rf
  unfold fm_object at h
  refine lv_aload_n C.1 C.2.1 dX12_object_0 rfl (lv_at hl 0 rfl) ?_
  refine lv_iconst (v := 0) C.1 C.2.1 dX12_object_1 (by decide) ?_
  refine p_0 C X hW hS dX12_object_2 (fun H locs hW hS => ?_)
  refine lt_ok h (fun S1 e_S1 h => ?_)
  rw [e_S1] at hW
  refine lv_aload_n C.1 C.2.1 dX12_object_5 rfl (lv_at hl 0 rfl) ?_
  refine lv_iload_n C.1 C.2.1 dX12_object_6 rfl (lv_at hl 1 rfl) ?_
  refine lv_iload_n C.1 C.2.1 dX12_object_7 rfl (lv_at hl 2 rfl) ?_
  obtain ⟨r2, h_r2, h⟩ := bd_ok h
  refine m_callR (rest := []) C X hW hl.1 [.int v1, .int v2] (tm_isObject l h_r2) mw_isObject im_isObject sl_isObject rfl ⟨by decide, by decide⟩ rfl (Nat.le_of_ble_eq_true rfl) dX12_object_8 ?_
  refine lv_if_ne (tgt := 16) C.1 C.2.1 dX12_object_11 (by decide) (fun c3 => ?_) (fun c3 => ?_)
  · have h := if_f h c3
    refine lv_iload_n C.1 C.2.1 dX12_object_16 rfl (lv_at hl 3 rfl) ?_
    by_cases c4 : v3 = (0 : Int32)
    · have h := if_t h c4
      refine lv_tableIn (off := 35) (tgt := 52) C.1 C.2.1 dX12_object_17 (by rw [c4]; decide) (by rw [c4]; decide) (by rw [c4]; rfl) (by decide) ?_
      refine lv_aload_n C.1 C.2.1 dX12_object_52 rfl (lv_at hl 0 rfl) ?_
      refine lv_iload_n C.1 C.2.1 dX12_object_53 rfl (lv_at hl 1 rfl) ?_
      refine lv_iload_n C.1 C.2.1 dX12_object_54 rfl (lv_at hl 2 rfl) ?_
      obtain ⟨⟨r6, S5⟩, h_S5, h⟩ := bd_ok h
      refine m_callW (rest := []) (ov := some (.int r6)) C X hW hS hl.1 [.int v1, .int v2] (tm_isThereNow l h_S5) mw_isThereNow im_isThereNow sl_isThereNow rfl ⟨by decide, by decide⟩ rfl (Nat.le_of_ble_eq_true rfl) dX12_object_55 (fun H locs hW hS => ?_)
      refine W.eq (g2 := F0 m 58 ls [.int r6]) rfl ?_
      refine lv_if_eq (tgt := 65) C.1 C.2.1 dX12_object_58 (by decide) (fun c7 => ?_) (fun c7 => ?_)
      · have h := if_t h c7
        refine lv_iconst (v := 0) C.1 C.2.1 dX12_object_65 (by decide) ?_
        exact wm_object_66 C X h hW hS (lv_sub hl [] rfl)
      · have h := if_f h c7
        refine lv_iconst (v := 1) C.1 C.2.1 dX12_object_61 (by decide) ?_
        refine lv_goto (tgt := 66) C.1 C.2.1 dX12_object_62 (by decide) ?_
        exact wm_object_66 C X h hW hS (lv_sub hl [] rfl)
    · have h := if_f h c4
      by_cases c8 : v3 = (1 : Int32)
      · have h := if_t h c8
        refine lv_tableIn (off := 50) (tgt := 67) C.1 C.2.1 dX12_object_17 (by rw [c8]; decide) (by rw [c8]; decide) (by rw [c8]; rfl) (by decide) ?_
        refine lv_aload_n C.1 C.2.1 dX12_object_67 rfl (lv_at hl 0 rfl) ?_
        refine lv_iload_n C.1 C.2.1 dX12_object_68 rfl (lv_at hl 2 rfl) ?_
        obtain ⟨r9, h_r9, h⟩ := bd_ok h
        refine m_callR (rest := []) C X hW hl.1 [.int v2] (tm_kindOf l h_r9) mw_kindOf im_kindOf sl_kindOf rfl ⟨by decide, by decide⟩ rfl (Nat.le_of_ble_eq_true rfl) dX12_object_69 ?_
        cases h
        exact m_retiW C hW hS dX12_object_72
      · have h := if_f h c8
        by_cases c10 : v3 = (2 : Int32)
        · have h := if_t h c10
          refine lv_tableIn (off := 56) (tgt := 73) C.1 C.2.1 dX12_object_17 (by rw [c10]; decide) (by rw [c10]; decide) (by rw [c10]; rfl) (by decide) ?_
          refine lv_aload_n C.1 C.2.1 dX12_object_73 rfl (lv_at hl 0 rfl) ?_
          refine lv_iload_n C.1 C.2.1 dX12_object_74 rfl (lv_at hl 1 rfl) ?_
          refine lv_iload_n C.1 C.2.1 dX12_object_75 rfl (lv_at hl 2 rfl) ?_
          obtain ⟨⟨r12, S11⟩, h_S11, h⟩ := bd_ok h
          refine m_callW (rest := []) (ov := some (.int r12)) C X hW hS hl.1 [.int v1, .int v2] (tm_parentOf l h_S11) mw_parentOf im_parentOf sl_parentOf rfl ⟨by decide, by decide⟩ rfl (Nat.le_of_ble_eq_true rfl) dX12_object_76 (fun H locs hW hS => ?_)
          refine W.eq (g2 := F0 m 79 ls [.int r12]) rfl ?_
          cases h
          exact m_retiW C hW hS dX12_object_79
        · have h := if_f h c10
          by_cases c13 : v3 = (3 : Int32)
          · have h := if_t h c13
            refine lv_tableIn (off := 63) (tgt := 80) C.1 C.2.1 dX12_object_17 (by rw [c13]; decide) (by rw [c13]; decide) (by rw [c13]; rfl) (by decide) ?_
            refine lv_aload_n C.1 C.2.1 dX12_object_80 rfl (lv_at hl 0 rfl) ?_
            refine lv_iload_n C.1 C.2.1 dX12_object_81 rfl (lv_at hl 1 rfl) ?_
            refine lv_iload_n C.1 C.2.1 dX12_object_82 rfl (lv_at hl 2 rfl) ?_
            obtain ⟨⟨r15, S14⟩, h_S14, h⟩ := bd_ok h
            refine m_callW (rest := []) (ov := some (.int r15)) C X hW hS hl.1 [.int v1, .int v2] (tm_children l h_S14) mw_children im_children sl_children rfl ⟨by decide, by decide⟩ rfl (Nat.le_of_ble_eq_true rfl) dX12_object_83 (fun H locs hW hS => ?_)
            refine W.eq (g2 := F0 m 86 ls [.int r15]) rfl ?_
            cases h
            exact m_retiW C hW hS dX12_object_86
          · have h := if_f h c13
            by_cases c16 : v3 = (4 : Int32)
            · have h := if_t h c16
              refine lv_tableIn (off := 70) (tgt := 87) C.1 C.2.1 dX12_object_17 (by rw [c16]; decide) (by rw [c16]; decide) (by rw [c16]; rfl) (by decide) ?_
              refine lv_aload_n C.1 C.2.1 dX12_object_87 rfl (lv_at hl 0 rfl) ?_
              refine lv_iload_n C.1 C.2.1 dX12_object_88 rfl (lv_at hl 1 rfl) ?_
              refine lv_iload_n C.1 C.2.1 dX12_object_89 rfl (lv_at hl 2 rfl) ?_
              obtain ⟨⟨r18, S17⟩, h_S17, h⟩ := bd_ok h
              refine m_callW (rest := []) (ov := some (.int r18)) C X hW hS hl.1 [.int v1, .int v2] (tm_holder l h_S17) mw_holder im_holder sl_holder rfl ⟨by decide, by decide⟩ rfl (Nat.le_of_ble_eq_true rfl) dX12_object_90 (fun H locs hW hS => ?_)
              refine W.eq (g2 := F0 m 93 ls [.int r18]) rfl ?_
              cases h
              exact m_retiW C hW hS dX12_object_93
            · have h := if_f h c16
              have n_c4 := lv_neT c4 (a := 0) rfl
              have n_c8 := lv_neT c8 (a := 1) rfl
              have n_c10 := lv_neT c10 (a := 2) rfl
              have n_c13 := lv_neT c13 (a := 3) rfl
              have n_c16 := lv_neT c16 (a := 4) rfl
              refine lv_tableOut (tgt := 94) C.1 C.2.1 dX12_object_17 (by omega) (by decide) ?_
              refine lv_iconst (v := -1) C.1 C.2.1 dX12_object_94 (by decide) ?_
              cases h
              exact m_retiW C hW hS dX12_object_95
  · have h := if_t h c3
    refine lv_iconst (v := -1) C.1 C.2.1 dX12_object_14 (by decide) ?_
    cases h
    exact m_retiW C hW hS dX12_object_15
end
theorem dX12_size_0 : decode cX12_size 0 = .ok (.aload_n 0, 1) := by decide +kernel
theorem dX12_size_1 : decode cX12_size 1 = .ok (.iconst 0, 1) := by decide +kernel
theorem dX12_size_2 : decode cX12_size 2 = .ok (.putfield 200, 3) := by decide +kernel
theorem dX12_size_5 : decode cX12_size 5 = .ok (.aload_n 0, 1) := by decide +kernel
theorem dX12_size_6 : decode cX12_size 6 = .ok (.iload_n 1, 1) := by decide +kernel
theorem dX12_size_7 : decode cX12_size 7 = .ok (.iload_n 2, 1) := by decide +kernel
theorem dX12_size_8 : decode cX12_size 8 = .ok (.iload_n 3, 1) := by decide +kernel
theorem dX12_size_9 : decode cX12_size 9 = .ok (.invokevirtual 415, 3) := by decide +kernel
theorem dX12_size_12 : decode cX12_size 12 = .ok (.ifCond .ne 5, 3) := by decide +kernel
theorem dX12_size_15 : decode cX12_size 15 = .ok (.iconst (-1), 1) := by decide +kernel
theorem dX12_size_16 : decode cX12_size 16 = .ok (.ireturn, 1) := by decide +kernel
theorem dX12_size_17 : decode cX12_size 17 = .ok (.aload_n 0, 1) := by decide +kernel
theorem dX12_size_18 : decode cX12_size 18 = .ok (.iload_n 1, 1) := by decide +kernel
theorem dX12_size_19 : decode cX12_size 19 = .ok (.aload_n 0, 1) := by decide +kernel
theorem dX12_size_20 : decode cX12_size 20 = .ok (.getfield 71, 3) := by decide +kernel
theorem dX12_size_23 : decode cX12_size 23 = .ok (.iload_n 1, 1) := by decide +kernel
theorem dX12_size_24 : decode cX12_size 24 = .ok (.iaload, 1) := by decide +kernel
theorem dX12_size_25 : decode cX12_size 25 = .ok (.iload_n 2, 1) := by decide +kernel
theorem dX12_size_26 : decode cX12_size 26 = .ok (.iload_n 3, 1) := by decide +kernel
theorem dX12_size_27 : decode cX12_size 27 = .ok (.invokevirtual 340, 3) := by decide +kernel
theorem dX12_size_30 : decode cX12_size 30 = .ok (.aload_n 0, 1) := by decide +kernel
theorem dX12_size_31 : decode cX12_size 31 = .ok (.getfield 253, 3) := by decide +kernel
theorem dX12_size_34 : decode cX12_size 34 = .ok (.ireturn, 1) := by decide +kernel
theorem cd_size : Cond.code yX12_size cX12_size 4 (some .int) ∈ lw_g := mt_at 2316 (by decide +kernel) rfl
section
variable {p : Program} {l : Launch} {e : Env} {R : Room} {s : State} {m : MethodId} {args : Array Value} {below : List Frame} {meth : Method} {c : Code} {cM : ClassId} {iS : Nat → Nat} {cI cZ : ClassId} {mo : Nat} {ad : Nat → Nat} {r : Int32} {S9 : mSt}
noncomputable def fm_size (S : mSt) (v1 : Int32) (v2 : Int32) (v3 : Int32) : Option (Int32 × mSt) :=
lt (pu S 0 (0 : Int32)) fun S1 =>
bd (fm_hasPart S1 v1 v2 v3) fun r2 =>
if r2 = 0 then (
some ((-1 : Int32), S1))
else (
ck v1 4 (
bd (fm_look S1 v1 (rd S1 23 v1) v2 v3) fun S4 =>
some (S4.1 49, S4)))
set_option maxRecDepth 100000 in
set_option maxHeartbeats 4000000 in
theorem tm_size (l : Launch) {cM : ClassId} {iS : Nat → Nat} {cI cZ : ClassId} {mo : Nat} {ad : Nat → Nat} {S : mSt} {v1 : Int32} {v2 : Int32} {v3 : Int32} {r : Int32} {S9 : mSt} (h : fm_size S v1 v2 v3 = some (r, S9)) : Met l yX12_size (Cond.code yX12_size cX12_size 4 (some .int) :: lw_g) { frames := 5, cells := 0, slots := 0, locals := 119 } (mPi [.int v1, .int v2, .int v3] cM iS cI cZ mo ad S) (mQw (some (.int r)) cM iS cI cZ mo ad S9) 0 0 (mA mo ad) := by
  refine Met.ofW (cc := cX12_size) (maxL := 4) (ret := (some .int)) (by decide) rfl ?_
  intro p e s m args below meth c s₁ B hml hv
  obtain ⟨rfl, hW, X⟩ := hv
  have C : mY p (headSpec (Cond.code yX12_size cX12_size 4 (some .int) :: lw_g) { frames := 5, cells := 0, slots := 0, locals := 119 }).room s m _ meth c cX12_size 4 5 119 (some .int) := ⟨B.exec, B.bytes, hml, findClass_of_methodNamed B.named, fun w hw => atoms_spec (ws := Cond.code yX12_size cX12_size 4 (some .int) :: lw_g) B.pre w (List.mem_cons_of_mem _ hw), ⟨Nat.le_refl _, Nat.le_refl _⟩, B.returns, B.notSynchronized⟩
  have hl := lv_entry ([.ref mo, .int v1, .int v2, .int v3]) (n := 4) (Nat.le_of_ble_eq_true rfl)
  rw [lg_entry_eq]
  generalize (lg_sl ([.ref mo, .int v1, .int v2, .int v3]) ++ List.replicate (4 - (lg_sl ([.ref mo, .int v1, .int v2, .int v3])).length) Slot.unset).toArray = ls at hl ⊢
  have hl : lv_has ls 4 [(0, .ref mo), (1, .int v1), (2, .int v2), (3, .int v3)] := hl
  have hS : mS (mA mo ad) s.heap s.heap [] := mS.rf
  unfold fm_size at h
  refine lv_aload_n C.1 C.2.1 dX12_size_0 rfl (lv_at hl 0 rfl) ?_
  refine lv_iconst (v := 0) C.1 C.2.1 dX12_size_1 (by decide) ?_
  refine p_0 C X hW hS dX12_size_2 (fun H locs hW hS => ?_)
  refine lt_ok h (fun S1 e_S1 h => ?_)
  rw [e_S1] at hW
  refine lv_aload_n C.1 C.2.1 dX12_size_5 rfl (lv_at hl 0 rfl) ?_
  refine lv_iload_n C.1 C.2.1 dX12_size_6 rfl (lv_at hl 1 rfl) ?_
  refine lv_iload_n C.1 C.2.1 dX12_size_7 rfl (lv_at hl 2 rfl) ?_
  refine lv_iload_n C.1 C.2.1 dX12_size_8 rfl (lv_at hl 3 rfl) ?_
  obtain ⟨r2, h_r2, h⟩ := bd_ok h
  refine m_callR (rest := []) C X hW hl.1 [.int v1, .int v2, .int v3] (tm_hasPart l h_r2) mw_hasPart im_hasPart sl_hasPart rfl ⟨by decide, by decide⟩ rfl (Nat.le_of_ble_eq_true rfl) dX12_size_9 ?_
  refine lv_if_ne (tgt := 17) C.1 C.2.1 dX12_size_12 (by decide) (fun c3 => ?_) (fun c3 => ?_)
  · have h := if_f h c3
    refine lv_aload_n C.1 C.2.1 dX12_size_17 rfl (lv_at hl 0 rfl) ?_
    refine lv_iload_n C.1 C.2.1 dX12_size_18 rfl (lv_at hl 1 rfl) ?_
    refine lv_aload_n C.1 C.2.1 dX12_size_19 rfl (lv_at hl 0 rfl) ?_
    refine gf_23 C X hW dX12_size_20 ?_
    refine lv_iload_n C.1 C.2.1 dX12_size_23 rfl (lv_at hl 1 rfl) ?_
    obtain ⟨hin, h⟩ := ck_ok h
    refine l_23 C X hW hin dX12_size_24 ?_
    refine lv_iload_n C.1 C.2.1 dX12_size_25 rfl (lv_at hl 2 rfl) ?_
    refine lv_iload_n C.1 C.2.1 dX12_size_26 rfl (lv_at hl 3 rfl) ?_
    obtain ⟨S4, h_S4, h⟩ := bd_ok h
    refine m_callW (rest := []) (ov := none) C X hW hS hl.1 [.int v1, .int (rd S1 23 v1), .int v2, .int v3] (tm_look l h_S4) mw_look im_look sl_look rfl ⟨by decide, by decide⟩ rfl (Nat.le_of_ble_eq_true rfl) dX12_size_27 (fun H locs hW hS => ?_)
    refine W.eq (g2 := F0 m 30 ls []) rfl ?_
    refine lv_aload_n C.1 C.2.1 dX12_size_30 rfl (lv_at hl 0 rfl) ?_
    refine gf_49 C X hW dX12_size_31 ?_
    cases h
    exact m_retiW C hW hS dX12_size_34
  · have h := if_t h c3
    refine lv_iconst (v := -1) C.1 C.2.1 dX12_size_15 (by decide) ?_
    cases h
    exact m_retiW C hW hS dX12_size_16
end
theorem dX12_value_0 : decode cX12_value 0 = .ok (.aload_n 0, 1) := by decide +kernel
theorem dX12_value_1 : decode cX12_value 1 = .ok (.iconst 1, 1) := by decide +kernel
theorem dX12_value_2 : decode cX12_value 2 = .ok (.putfield 200, 3) := by decide +kernel
theorem dX12_value_5 : decode cX12_value 5 = .ok (.aload_n 0, 1) := by decide +kernel
theorem dX12_value_6 : decode cX12_value 6 = .ok (.iload_n 1, 1) := by decide +kernel
theorem dX12_value_7 : decode cX12_value 7 = .ok (.iload_n 2, 1) := by decide +kernel
theorem dX12_value_8 : decode cX12_value 8 = .ok (.iload_n 3, 1) := by decide +kernel
theorem dX12_value_9 : decode cX12_value 9 = .ok (.invokevirtual 415, 3) := by decide +kernel
theorem dX12_value_12 : decode cX12_value 12 = .ok (.ifCond .ne 5, 3) := by decide +kernel
theorem dX12_value_15 : decode cX12_value 15 = .ok (.iconst 0, 1) := by decide +kernel
theorem dX12_value_16 : decode cX12_value 16 = .ok (.ireturn, 1) := by decide +kernel
theorem dX12_value_17 : decode cX12_value 17 = .ok (.aload_n 0, 1) := by decide +kernel
theorem dX12_value_18 : decode cX12_value 18 = .ok (.iload_n 1, 1) := by decide +kernel
theorem dX12_value_19 : decode cX12_value 19 = .ok (.aload_n 0, 1) := by decide +kernel
theorem dX12_value_20 : decode cX12_value 20 = .ok (.getfield 71, 3) := by decide +kernel
theorem dX12_value_23 : decode cX12_value 23 = .ok (.iload_n 1, 1) := by decide +kernel
theorem dX12_value_24 : decode cX12_value 24 = .ok (.iaload, 1) := by decide +kernel
theorem dX12_value_25 : decode cX12_value 25 = .ok (.iload_n 2, 1) := by decide +kernel
theorem dX12_value_26 : decode cX12_value 26 = .ok (.iload_n 3, 1) := by decide +kernel
theorem dX12_value_27 : decode cX12_value 27 = .ok (.invokevirtual 340, 3) := by decide +kernel
theorem dX12_value_30 : decode cX12_value 30 = .ok (.iload 4, 2) := by decide +kernel
theorem dX12_value_32 : decode cX12_value 32 = .ok (.iconst 0, 1) := by decide +kernel
theorem dX12_value_33 : decode cX12_value 33 = .ok (.aload_n 0, 1) := by decide +kernel
theorem dX12_value_34 : decode cX12_value 34 = .ok (.getfield 253, 3) := by decide +kernel
theorem dX12_value_37 : decode cX12_value 37 = .ok (.iconst 1, 1) := by decide +kernel
theorem dX12_value_38 : decode cX12_value 38 = .ok (.isub, 1) := by decide +kernel
theorem dX12_value_39 : decode cX12_value 39 = .ok (.invokestatic 215, 3) := by decide +kernel
theorem dX12_value_42 : decode cX12_value 42 = .ok (.ifCond .ne 5, 3) := by decide +kernel
theorem dX12_value_45 : decode cX12_value 45 = .ok (.iconst 0, 1) := by decide +kernel
theorem dX12_value_46 : decode cX12_value 46 = .ok (.ireturn, 1) := by decide +kernel
theorem dX12_value_47 : decode cX12_value 47 = .ok (.aload_n 0, 1) := by decide +kernel
theorem dX12_value_48 : decode cX12_value 48 = .ok (.iconst 0, 1) := by decide +kernel
theorem dX12_value_49 : decode cX12_value 49 = .ok (.putfield 200, 3) := by decide +kernel
theorem dX12_value_52 : decode cX12_value 52 = .ok (.aload_n 0, 1) := by decide +kernel
theorem dX12_value_53 : decode cX12_value 53 = .ok (.getfield 139, 3) := by decide +kernel
theorem dX12_value_56 : decode cX12_value 56 = .ok (.iload 4, 2) := by decide +kernel
theorem dX12_value_58 : decode cX12_value 58 = .ok (.iaload, 1) := by decide +kernel
theorem dX12_value_59 : decode cX12_value 59 = .ok (.ireturn, 1) := by decide +kernel
theorem cd_value : Cond.code yX12_value cX12_value 5 (some .int) ∈ lw_g := mt_at 2320 (by decide +kernel) rfl
section
variable {p : Program} {l : Launch} {e : Env} {R : Room} {s : State} {m : MethodId} {args : Array Value} {below : List Frame} {meth : Method} {c : Code} {cM : ClassId} {iS : Nat → Nat} {cI cZ : ClassId} {mo : Nat} {ad : Nat → Nat} {r : Int32} {S9 : mSt}
noncomputable def fm_value (S : mSt) (v1 : Int32) (v2 : Int32) (v3 : Int32) (v4 : Int32) : Option (Int32 × mSt) :=
lt (pu S 0 (1 : Int32)) fun S1 =>
bd (fm_hasPart S1 v1 v2 v3) fun r2 =>
if r2 = 0 then (
some ((0 : Int32), S1))
else (
ck v1 4 (
bd (fm_look S1 v1 (rd S1 23 v1) v2 v3) fun S4 =>
bd (fm_within v4 (0 : Int32) ((S4.1 49) - (1 : Int32))) fun r5 =>
if r5 = 0 then (
some ((0 : Int32), S4))
else (
lt (pu S4 0 (0 : Int32)) fun S7 =>
ck v4 1000 (
some (rd S7 50 v4, S7)))))
set_option maxRecDepth 100000 in
set_option maxHeartbeats 4000000 in
theorem tm_value (l : Launch) {cM : ClassId} {iS : Nat → Nat} {cI cZ : ClassId} {mo : Nat} {ad : Nat → Nat} {S : mSt} {v1 : Int32} {v2 : Int32} {v3 : Int32} {v4 : Int32} {r : Int32} {S9 : mSt} (h : fm_value S v1 v2 v3 v4 = some (r, S9)) : Met l yX12_value (Cond.code yX12_value cX12_value 5 (some .int) :: lw_g) { frames := 5, cells := 0, slots := 0, locals := 119 } (mPi [.int v1, .int v2, .int v3, .int v4] cM iS cI cZ mo ad S) (mQw (some (.int r)) cM iS cI cZ mo ad S9) 0 0 (mA mo ad) := by
  refine Met.ofW (cc := cX12_value) (maxL := 5) (ret := (some .int)) (by decide) rfl ?_
  intro p e s m args below meth c s₁ B hml hv
  obtain ⟨rfl, hW, X⟩ := hv
  have C : mY p (headSpec (Cond.code yX12_value cX12_value 5 (some .int) :: lw_g) { frames := 5, cells := 0, slots := 0, locals := 119 }).room s m _ meth c cX12_value 5 5 119 (some .int) := ⟨B.exec, B.bytes, hml, findClass_of_methodNamed B.named, fun w hw => atoms_spec (ws := Cond.code yX12_value cX12_value 5 (some .int) :: lw_g) B.pre w (List.mem_cons_of_mem _ hw), ⟨Nat.le_refl _, Nat.le_refl _⟩, B.returns, B.notSynchronized⟩
  have hl := lv_entry ([.ref mo, .int v1, .int v2, .int v3, .int v4]) (n := 5) (Nat.le_of_ble_eq_true rfl)
  rw [lg_entry_eq]
  generalize (lg_sl ([.ref mo, .int v1, .int v2, .int v3, .int v4]) ++ List.replicate (5 - (lg_sl ([.ref mo, .int v1, .int v2, .int v3, .int v4])).length) Slot.unset).toArray = ls at hl ⊢
  have hl : lv_has ls 5 [(0, .ref mo), (1, .int v1), (2, .int v2), (3, .int v3), (4, .int v4)] := hl
  have hS : mS (mA mo ad) s.heap s.heap [] := mS.rf
  unfold fm_value at h
  refine lv_aload_n C.1 C.2.1 dX12_value_0 rfl (lv_at hl 0 rfl) ?_
  refine lv_iconst (v := 1) C.1 C.2.1 dX12_value_1 (by decide) ?_
  refine p_0 C X hW hS dX12_value_2 (fun H locs hW hS => ?_)
  refine lt_ok h (fun S1 e_S1 h => ?_)
  rw [e_S1] at hW
  refine lv_aload_n C.1 C.2.1 dX12_value_5 rfl (lv_at hl 0 rfl) ?_
  refine lv_iload_n C.1 C.2.1 dX12_value_6 rfl (lv_at hl 1 rfl) ?_
  refine lv_iload_n C.1 C.2.1 dX12_value_7 rfl (lv_at hl 2 rfl) ?_
  refine lv_iload_n C.1 C.2.1 dX12_value_8 rfl (lv_at hl 3 rfl) ?_
  obtain ⟨r2, h_r2, h⟩ := bd_ok h
  refine m_callR (rest := []) C X hW hl.1 [.int v1, .int v2, .int v3] (tm_hasPart l h_r2) mw_hasPart im_hasPart sl_hasPart rfl ⟨by decide, by decide⟩ rfl (Nat.le_of_ble_eq_true rfl) dX12_value_9 ?_
  refine lv_if_ne (tgt := 17) C.1 C.2.1 dX12_value_12 (by decide) (fun c3 => ?_) (fun c3 => ?_)
  · have h := if_f h c3
    refine lv_aload_n C.1 C.2.1 dX12_value_17 rfl (lv_at hl 0 rfl) ?_
    refine lv_iload_n C.1 C.2.1 dX12_value_18 rfl (lv_at hl 1 rfl) ?_
    refine lv_aload_n C.1 C.2.1 dX12_value_19 rfl (lv_at hl 0 rfl) ?_
    refine gf_23 C X hW dX12_value_20 ?_
    refine lv_iload_n C.1 C.2.1 dX12_value_23 rfl (lv_at hl 1 rfl) ?_
    obtain ⟨hin, h⟩ := ck_ok h
    refine l_23 C X hW hin dX12_value_24 ?_
    refine lv_iload_n C.1 C.2.1 dX12_value_25 rfl (lv_at hl 2 rfl) ?_
    refine lv_iload_n C.1 C.2.1 dX12_value_26 rfl (lv_at hl 3 rfl) ?_
    obtain ⟨S4, h_S4, h⟩ := bd_ok h
    refine m_callW (rest := []) (ov := none) C X hW hS hl.1 [.int v1, .int (rd S1 23 v1), .int v2, .int v3] (tm_look l h_S4) mw_look im_look sl_look rfl ⟨by decide, by decide⟩ rfl (Nat.le_of_ble_eq_true rfl) dX12_value_27 (fun H locs hW hS => ?_)
    refine W.eq (g2 := F0 m 30 ls []) rfl ?_
    refine lv_iload C.1 C.2.1 dX12_value_30 (lv_at hl 4 rfl) ?_
    refine lv_iconst (v := 0) C.1 C.2.1 dX12_value_32 (by decide) ?_
    refine lv_aload_n C.1 C.2.1 dX12_value_33 rfl (lv_at hl 0 rfl) ?_
    refine gf_49 C X hW dX12_value_34 ?_
    refine lv_iconst (v := 1) C.1 C.2.1 dX12_value_37 (by decide) ?_
    refine lv_isub C.1 C.2.1 dX12_value_38 ?_
    obtain ⟨r5, h_r5, h⟩ := bd_ok h
    refine m_callS (rest := []) C hl.1 [.int v4, .int (0 : Int32), .int ((S4.1 49) - (1 : Int32))] (tm_within l h_r5) mw_within st_within rfl ⟨by decide, by decide⟩ rfl (Nat.le_of_ble_eq_true rfl) dX12_value_39 ?_
    refine lv_if_ne (tgt := 47) C.1 C.2.1 dX12_value_42 (by decide) (fun c6 => ?_) (fun c6 => ?_)
    · have h := if_f h c6
      refine lv_aload_n C.1 C.2.1 dX12_value_47 rfl (lv_at hl 0 rfl) ?_
      refine lv_iconst (v := 0) C.1 C.2.1 dX12_value_48 (by decide) ?_
      refine p_0 C X hW hS dX12_value_49 (fun H locs hW hS => ?_)
      refine lt_ok h (fun S7 e_S7 h => ?_)
      rw [e_S7] at hW
      refine lv_aload_n C.1 C.2.1 dX12_value_52 rfl (lv_at hl 0 rfl) ?_
      refine gf_50 C X hW dX12_value_53 ?_
      refine lv_iload C.1 C.2.1 dX12_value_56 (lv_at hl 4 rfl) ?_
      obtain ⟨hin, h⟩ := ck_ok h
      refine l_50 C X hW hin dX12_value_58 ?_
      cases h
      exact m_retiW C hW hS dX12_value_59
    · have h := if_t h c6
      refine lv_iconst (v := 0) C.1 C.2.1 dX12_value_45 (by decide) ?_
      cases h
      exact m_retiW C hW hS dX12_value_46
  · have h := if_t h c3
    refine lv_iconst (v := 0) C.1 C.2.1 dX12_value_15 (by decide) ?_
    cases h
    exact m_retiW C hW hS dX12_value_16
end
theorem dX12_bound_0 : decode cX12_bound 0 = .ok (.aload_n 0, 1) := by decide +kernel
theorem dX12_bound_1 : decode cX12_bound 1 = .ok (.iconst 1, 1) := by decide +kernel
theorem dX12_bound_2 : decode cX12_bound 2 = .ok (.putfield 200, 3) := by decide +kernel
theorem dX12_bound_5 : decode cX12_bound 5 = .ok (.aload_n 0, 1) := by decide +kernel
theorem dX12_bound_6 : decode cX12_bound 6 = .ok (.iload_n 1, 1) := by decide +kernel
theorem dX12_bound_7 : decode cX12_bound 7 = .ok (.iload_n 2, 1) := by decide +kernel
theorem dX12_bound_8 : decode cX12_bound 8 = .ok (.iload_n 3, 1) := by decide +kernel
theorem dX12_bound_9 : decode cX12_bound 9 = .ok (.invokevirtual 415, 3) := by decide +kernel
theorem dX12_bound_12 : decode cX12_bound 12 = .ok (.ifCond .eq 14, 3) := by decide +kernel
theorem dX12_bound_15 : decode cX12_bound 15 = .ok (.aload_n 0, 1) := by decide +kernel
theorem dX12_bound_16 : decode cX12_bound 16 = .ok (.iload_n 2, 1) := by decide +kernel
theorem dX12_bound_17 : decode cX12_bound 17 = .ok (.iload_n 3, 1) := by decide +kernel
theorem dX12_bound_18 : decode cX12_bound 18 = .ok (.invokevirtual 256, 3) := by decide +kernel
theorem dX12_bound_21 : decode cX12_bound 21 = .ok (.bipush 77, 2) := by decide +kernel
theorem dX12_bound_23 : decode cX12_bound 23 = .ok (.if_icmp .eq 5, 3) := by decide +kernel
theorem dX12_bound_26 : decode cX12_bound 26 = .ok (.iconst 0, 1) := by decide +kernel
theorem dX12_bound_27 : decode cX12_bound 27 = .ok (.ireturn, 1) := by decide +kernel
theorem dX12_bound_28 : decode cX12_bound 28 = .ok (.aload_n 0, 1) := by decide +kernel
theorem dX12_bound_29 : decode cX12_bound 29 = .ok (.iload_n 1, 1) := by decide +kernel
theorem dX12_bound_30 : decode cX12_bound 30 = .ok (.aload_n 0, 1) := by decide +kernel
theorem dX12_bound_31 : decode cX12_bound 31 = .ok (.getfield 71, 3) := by decide +kernel
theorem dX12_bound_34 : decode cX12_bound 34 = .ok (.iload_n 1, 1) := by decide +kernel
theorem dX12_bound_35 : decode cX12_bound 35 = .ok (.iaload, 1) := by decide +kernel
theorem dX12_bound_36 : decode cX12_bound 36 = .ok (.iload_n 2, 1) := by decide +kernel
theorem dX12_bound_37 : decode cX12_bound 37 = .ok (.iload_n 3, 1) := by decide +kernel
theorem dX12_bound_38 : decode cX12_bound 38 = .ok (.invokevirtual 340, 3) := by decide +kernel
theorem dX12_bound_41 : decode cX12_bound 41 = .ok (.iconst 0, 1) := by decide +kernel
theorem dX12_bound_42 : decode cX12_bound 42 = .ok (.istore 5, 2) := by decide +kernel
theorem dX12_bound_44 : decode cX12_bound 44 = .ok (.iload 5, 2) := by decide +kernel
theorem dX12_bound_46 : decode cX12_bound 46 = .ok (.aload_n 0, 1) := by decide +kernel
theorem dX12_bound_47 : decode cX12_bound 47 = .ok (.getfield 253, 3) := by decide +kernel
theorem dX12_bound_50 : decode cX12_bound 50 = .ok (.if_icmp .ge 36, 3) := by decide +kernel
theorem dX12_bound_53 : decode cX12_bound 53 = .ok (.aload_n 0, 1) := by decide +kernel
theorem dX12_bound_54 : decode cX12_bound 54 = .ok (.getfield 139, 3) := by decide +kernel
theorem dX12_bound_57 : decode cX12_bound 57 = .ok (.iload 5, 2) := by decide +kernel
theorem dX12_bound_59 : decode cX12_bound 59 = .ok (.iaload, 1) := by decide +kernel
theorem dX12_bound_60 : decode cX12_bound 60 = .ok (.iload 4, 2) := by decide +kernel
theorem dX12_bound_62 : decode cX12_bound 62 = .ok (.if_icmp .eq 6, 3) := by decide +kernel
theorem dX12_bound_65 : decode cX12_bound 65 = .ok (.goto 15, 3) := by decide +kernel
theorem dX12_bound_68 : decode cX12_bound 68 = .ok (.aload_n 0, 1) := by decide +kernel
theorem dX12_bound_69 : decode cX12_bound 69 = .ok (.iconst 0, 1) := by decide +kernel
theorem dX12_bound_70 : decode cX12_bound 70 = .ok (.putfield 200, 3) := by decide +kernel
theorem dX12_bound_73 : decode cX12_bound 73 = .ok (.aload_n 0, 1) := by decide +kernel
theorem dX12_bound_74 : decode cX12_bound 74 = .ok (.iload 5, 2) := by decide +kernel
theorem dX12_bound_76 : decode cX12_bound 76 = .ok (.invokevirtual 346, 3) := by decide +kernel
theorem dX12_bound_79 : decode cX12_bound 79 = .ok (.ireturn, 1) := by decide +kernel
theorem dX12_bound_80 : decode cX12_bound 80 = .ok (.iinc 5 1, 3) := by decide +kernel
theorem dX12_bound_83 : decode cX12_bound 83 = .ok (.goto (-39), 3) := by decide +kernel
theorem dX12_bound_86 : decode cX12_bound 86 = .ok (.iconst 0, 1) := by decide +kernel
theorem dX12_bound_87 : decode cX12_bound 87 = .ok (.ireturn, 1) := by decide +kernel
theorem cd_bound : Cond.code yX12_bound cX12_bound 6 (some .int) ∈ lw_g := mt_at 2324 (by decide +kernel) rfl
section
variable {p : Program} {l : Launch} {e : Env} {R : Room} {s : State} {m : MethodId} {args : Array Value} {below : List Frame} {meth : Method} {c : Code} {cM : ClassId} {iS : Nat → Nat} {cI cZ : ClassId} {mo : Nat} {ad : Nat → Nat} {r : Int32} {S9 : mSt}
noncomputable def fm_bound_26 (S : mSt) : Option (Int32 × mSt) :=
some ((0 : Int32), S)
set_option maxRecDepth 100000 in
set_option maxHeartbeats 4000000 in
theorem wm_bound_26 (C : mY p R s m args meth c cX12_bound 6 5 119 (some .int)) (X : mX s cM iS cI cZ mo ad) : ∀ {S : mSt} {H : Heap} {locs : List Loc} {ls : Array Slot}, fm_bound_26 S = some (r, S9) → mW cM iS cI cZ mo ad S H → mS (mA mo ad) s.heap H locs → lv_has ls 6 [] → W p l e R s m args below meth c H locs 0 0 (MQ below (mQw (some (.int r)) cM iS cI cZ mo ad S9) args s 0 0 (mA mo ad)) (F0 m 26 ls []) := by
  intro S H locs ls h hW hS hl
  unfold fm_bound_26 at h
  refine lv_iconst (v := 0) C.1 C.2.1 dX12_bound_26 (by decide) ?_
  cases h
  exact m_retiW C hW hS dX12_bound_27
noncomputable def fm_bound_44 : Nat → mSt → Int32 → Int32 → Option (Int32 × mSt)
  | 0, _, _, _ => none
  | n + 1, S, v4, v5 =>
    if (S.1 49) ≤ v5 then (
    some ((0 : Int32), S))
    else (
    ck v5 1000 (
    if (rd S 50 v5) = v4 then (
    lt (pu S 0 (0 : Int32)) fun S3 =>
    bd (fm_boundAt S3 v5) fun r4 =>
    some (r4, S3))
    else (
    lt (v5 + (1 : Int32)) fun x5 =>
    fm_bound_44 n S v4 x5)))
set_option maxRecDepth 100000 in
set_option maxHeartbeats 4000000 in
theorem wm_bound_44 (C : mY p R s m args meth c cX12_bound 6 5 119 (some .int)) (X : mX s cM iS cI cZ mo ad) : ∀ (n : Nat), ∀ {S : mSt} {v4 : Int32} {v5 : Int32} {H : Heap} {locs : List Loc} {ls : Array Slot}, fm_bound_44 n S v4 v5 = some (r, S9) → mW cM iS cI cZ mo ad S H → mS (mA mo ad) s.heap H locs → lv_has ls 6 [(0, .ref mo), (4, .int v4), (5, .int v5)] → W p l e R s m args below meth c H locs 0 0 (MQ below (mQw (some (.int r)) cM iS cI cZ mo ad S9) args s 0 0 (mA mo ad)) (F0 m 44 ls []) := by
  intro n
  induction n with
  | zero =>
    intro S v4 v5 H locs ls h hW hS hl
    exact absurd (show (none : Option (Int32 × mSt)) = _ from h) (fun q => by cases q)
  | succ n ih =>
    intro S v4 v5 H locs ls h hW hS hl
    rw [fm_bound_44] at h
    refine lv_iload C.1 C.2.1 dX12_bound_44 (lv_at hl 2 rfl) ?_
    refine lv_aload_n C.1 C.2.1 dX12_bound_46 rfl (lv_at hl 0 rfl) ?_
    refine gf_49 C X hW dX12_bound_47 ?_
    refine lv_icmp_ge (tgt := 86) C.1 C.2.1 dX12_bound_50 (by decide) (fun c1 => ?_) (fun c1 => ?_)
    · have h := if_t h c1
      refine lv_iconst (v := 0) C.1 C.2.1 dX12_bound_86 (by decide) ?_
      cases h
      exact m_retiW C hW hS dX12_bound_87
    · have h := if_f h c1
      refine lv_aload_n C.1 C.2.1 dX12_bound_53 rfl (lv_at hl 0 rfl) ?_
      refine gf_50 C X hW dX12_bound_54 ?_
      refine lv_iload C.1 C.2.1 dX12_bound_57 (lv_at hl 2 rfl) ?_
      obtain ⟨hin, h⟩ := ck_ok h
      refine l_50 C X hW hin dX12_bound_59 ?_
      refine lv_iload C.1 C.2.1 dX12_bound_60 (lv_at hl 1 rfl) ?_
      refine lv_icmp_eq (tgt := 68) C.1 C.2.1 dX12_bound_62 (by decide) (fun c2 => ?_) (fun c2 => ?_)
      · have h := if_t h c2
        refine lv_aload_n C.1 C.2.1 dX12_bound_68 rfl (lv_at hl 0 rfl) ?_
        refine lv_iconst (v := 0) C.1 C.2.1 dX12_bound_69 (by decide) ?_
        refine p_0 C X hW hS dX12_bound_70 (fun H locs hW hS => ?_)
        refine lt_ok h (fun S3 e_S3 h => ?_)
        rw [e_S3] at hW
        refine lv_aload_n C.1 C.2.1 dX12_bound_73 rfl (lv_at hl 0 rfl) ?_
        refine lv_iload C.1 C.2.1 dX12_bound_74 (lv_at hl 2 rfl) ?_
        obtain ⟨r4, h_r4, h⟩ := bd_ok h
        refine m_callR (rest := []) C X hW hl.1 [.int v5] (tm_boundAt l h_r4) mw_boundAt im_boundAt sl_boundAt rfl ⟨by decide, by decide⟩ rfl (Nat.le_of_ble_eq_true rfl) dX12_bound_76 ?_
        cases h
        exact m_retiW C hW hS dX12_bound_79
      · have h := if_f h c2
        refine lv_goto (tgt := 80) C.1 C.2.1 dX12_bound_65 (by decide) ?_
        refine lt_ok h (fun x5 e_x5 h => ?_)
        refine lv_iinc (v := x5) (lv' := [(5, .int x5), (0, .ref mo), (4, .int v4)]) C.1 C.2.1 dX12_bound_80 hl (k := 2) rfl (by rw [← e_x5]; rfl) (by decide) rfl (fun ls hl => ?_)
        refine lv_goto (tgt := 44) C.1 C.2.1 dX12_bound_83 (by decide) ?_
        exact ih h hW hS (lv_sub hl [1, 2, 0] rfl)
noncomputable def fm_bound (S : mSt) (v1 : Int32) (v2 : Int32) (v3 : Int32) (v4 : Int32) : Option (Int32 × mSt) :=
lt (pu S 0 (1 : Int32)) fun S1 =>
bd (fm_hasPart S1 v1 v2 v3) fun r2 =>
if r2 = 0 then (
fm_bound_26 S1)
else (
bd (fm_ruleOf S1 v2 v3) fun r4 =>
if r4 = (77 : Int32) then (
ck v1 4 (
bd (fm_look S1 v1 (rd S1 23 v1) v2 v3) fun S6 =>
fm_bound_44 mFU S6 v4 (0 : Int32)))
else (
fm_bound_26 S1))
set_option maxRecDepth 100000 in
set_option maxHeartbeats 4000000 in
theorem tm_bound (l : Launch) {cM : ClassId} {iS : Nat → Nat} {cI cZ : ClassId} {mo : Nat} {ad : Nat → Nat} {S : mSt} {v1 : Int32} {v2 : Int32} {v3 : Int32} {v4 : Int32} {r : Int32} {S9 : mSt} (h : fm_bound S v1 v2 v3 v4 = some (r, S9)) : Met l yX12_bound (Cond.code yX12_bound cX12_bound 6 (some .int) :: lw_g) { frames := 5, cells := 0, slots := 0, locals := 119 } (mPi [.int v1, .int v2, .int v3, .int v4] cM iS cI cZ mo ad S) (mQw (some (.int r)) cM iS cI cZ mo ad S9) 0 0 (mA mo ad) := by
  refine Met.ofW (cc := cX12_bound) (maxL := 6) (ret := (some .int)) (by decide) rfl ?_
  intro p e s m args below meth c s₁ B hml hv
  obtain ⟨rfl, hW, X⟩ := hv
  have C : mY p (headSpec (Cond.code yX12_bound cX12_bound 6 (some .int) :: lw_g) { frames := 5, cells := 0, slots := 0, locals := 119 }).room s m _ meth c cX12_bound 6 5 119 (some .int) := ⟨B.exec, B.bytes, hml, findClass_of_methodNamed B.named, fun w hw => atoms_spec (ws := Cond.code yX12_bound cX12_bound 6 (some .int) :: lw_g) B.pre w (List.mem_cons_of_mem _ hw), ⟨Nat.le_refl _, Nat.le_refl _⟩, B.returns, B.notSynchronized⟩
  have hl := lv_entry ([.ref mo, .int v1, .int v2, .int v3, .int v4]) (n := 6) (Nat.le_of_ble_eq_true rfl)
  rw [lg_entry_eq]
  generalize (lg_sl ([.ref mo, .int v1, .int v2, .int v3, .int v4]) ++ List.replicate (6 - (lg_sl ([.ref mo, .int v1, .int v2, .int v3, .int v4])).length) Slot.unset).toArray = ls at hl ⊢
  have hl : lv_has ls 6 [(0, .ref mo), (1, .int v1), (2, .int v2), (3, .int v3), (4, .int v4)] := hl
  have hS : mS (mA mo ad) s.heap s.heap [] := mS.rf
  unfold fm_bound at h
  refine lv_aload_n C.1 C.2.1 dX12_bound_0 rfl (lv_at hl 0 rfl) ?_
  refine lv_iconst (v := 1) C.1 C.2.1 dX12_bound_1 (by decide) ?_
  refine p_0 C X hW hS dX12_bound_2 (fun H locs hW hS => ?_)
  refine lt_ok h (fun S1 e_S1 h => ?_)
  rw [e_S1] at hW
  refine lv_aload_n C.1 C.2.1 dX12_bound_5 rfl (lv_at hl 0 rfl) ?_
  refine lv_iload_n C.1 C.2.1 dX12_bound_6 rfl (lv_at hl 1 rfl) ?_
  refine lv_iload_n C.1 C.2.1 dX12_bound_7 rfl (lv_at hl 2 rfl) ?_
  refine lv_iload_n C.1 C.2.1 dX12_bound_8 rfl (lv_at hl 3 rfl) ?_
  obtain ⟨r2, h_r2, h⟩ := bd_ok h
  refine m_callR (rest := []) C X hW hl.1 [.int v1, .int v2, .int v3] (tm_hasPart l h_r2) mw_hasPart im_hasPart sl_hasPart rfl ⟨by decide, by decide⟩ rfl (Nat.le_of_ble_eq_true rfl) dX12_bound_9 ?_
  refine lv_if_eq (tgt := 26) C.1 C.2.1 dX12_bound_12 (by decide) (fun c3 => ?_) (fun c3 => ?_)
  · have h := if_t h c3
    exact wm_bound_26 C X h hW hS (lv_sub hl [] rfl)
  · have h := if_f h c3
    refine lv_aload_n C.1 C.2.1 dX12_bound_15 rfl (lv_at hl 0 rfl) ?_
    refine lv_iload_n C.1 C.2.1 dX12_bound_16 rfl (lv_at hl 2 rfl) ?_
    refine lv_iload_n C.1 C.2.1 dX12_bound_17 rfl (lv_at hl 3 rfl) ?_
    obtain ⟨r4, h_r4, h⟩ := bd_ok h
    refine m_callR (rest := []) C X hW hl.1 [.int v2, .int v3] (tm_ruleOf l h_r4) mw_ruleOf im_ruleOf sl_ruleOf rfl ⟨by decide, by decide⟩ rfl (Nat.le_of_ble_eq_true rfl) dX12_bound_18 ?_
    refine lv_bipush (v := 77) C.1 C.2.1 dX12_bound_21 (by decide) ?_
    refine lv_icmp_eq (tgt := 28) C.1 C.2.1 dX12_bound_23 (by decide) (fun c5 => ?_) (fun c5 => ?_)
    · have h := if_t h c5
      refine lv_aload_n C.1 C.2.1 dX12_bound_28 rfl (lv_at hl 0 rfl) ?_
      refine lv_iload_n C.1 C.2.1 dX12_bound_29 rfl (lv_at hl 1 rfl) ?_
      refine lv_aload_n C.1 C.2.1 dX12_bound_30 rfl (lv_at hl 0 rfl) ?_
      refine gf_23 C X hW dX12_bound_31 ?_
      refine lv_iload_n C.1 C.2.1 dX12_bound_34 rfl (lv_at hl 1 rfl) ?_
      obtain ⟨hin, h⟩ := ck_ok h
      refine l_23 C X hW hin dX12_bound_35 ?_
      refine lv_iload_n C.1 C.2.1 dX12_bound_36 rfl (lv_at hl 2 rfl) ?_
      refine lv_iload_n C.1 C.2.1 dX12_bound_37 rfl (lv_at hl 3 rfl) ?_
      obtain ⟨S6, h_S6, h⟩ := bd_ok h
      refine m_callW (rest := []) (ov := none) C X hW hS hl.1 [.int v1, .int (rd S1 23 v1), .int v2, .int v3] (tm_look l h_S6) mw_look im_look sl_look rfl ⟨by decide, by decide⟩ rfl (Nat.le_of_ble_eq_true rfl) dX12_bound_38 (fun H locs hW hS => ?_)
      refine W.eq (g2 := F0 m 41 ls []) rfl ?_
      refine lv_iconst (v := 0) C.1 C.2.1 dX12_bound_41 (by decide) ?_
      refine lv_istore (lv' := [(5, .int (0 : Int32)), (0, .ref mo), (1, .int v1), (2, .int v2), (3, .int v3), (4, .int v4)]) C.1 C.2.1 dX12_bound_42 hl (by decide) rfl (fun ls hl => ?_)
      exact wm_bound_44 C X mFU h hW hS (lv_sub hl [1, 5, 0] rfl)
    · have h := if_f h c5
      exact wm_bound_26 C X h hW hS (lv_sub hl [] rfl)
end
theorem dX12_by_0 : decode cX12_by 0 = .ok (.aload_n 0, 1) := by decide +kernel
theorem dX12_by_1 : decode cX12_by 1 = .ok (.iconst 0, 1) := by decide +kernel
theorem dX12_by_2 : decode cX12_by 2 = .ok (.putfield 200, 3) := by decide +kernel
theorem dX12_by_5 : decode cX12_by 5 = .ok (.aload_n 0, 1) := by decide +kernel
theorem dX12_by_6 : decode cX12_by 6 = .ok (.iload_n 1, 1) := by decide +kernel
theorem dX12_by_7 : decode cX12_by 7 = .ok (.iload_n 2, 1) := by decide +kernel
theorem dX12_by_8 : decode cX12_by 8 = .ok (.iload_n 3, 1) := by decide +kernel
theorem dX12_by_9 : decode cX12_by 9 = .ok (.invokevirtual 415, 3) := by decide +kernel
theorem dX12_by_12 : decode cX12_by 12 = .ok (.ifCond .ne 5, 3) := by decide +kernel
theorem dX12_by_15 : decode cX12_by 15 = .ok (.iconst (-1), 1) := by decide +kernel
theorem dX12_by_16 : decode cX12_by 16 = .ok (.ireturn, 1) := by decide +kernel
theorem dX12_by_17 : decode cX12_by 17 = .ok (.aload_n 0, 1) := by decide +kernel
theorem dX12_by_18 : decode cX12_by 18 = .ok (.iload_n 2, 1) := by decide +kernel
theorem dX12_by_19 : decode cX12_by 19 = .ok (.iload_n 3, 1) := by decide +kernel
theorem dX12_by_20 : decode cX12_by 20 = .ok (.invokevirtual 256, 3) := by decide +kernel
theorem dX12_by_23 : decode cX12_by 23 = .ok (.istore 5, 2) := by decide +kernel
theorem dX12_by_25 : decode cX12_by 25 = .ok (.aload_n 0, 1) := by decide +kernel
theorem dX12_by_26 : decode cX12_by 26 = .ok (.iload_n 1, 1) := by decide +kernel
theorem dX12_by_27 : decode cX12_by 27 = .ok (.aload_n 0, 1) := by decide +kernel
theorem dX12_by_28 : decode cX12_by 28 = .ok (.getfield 71, 3) := by decide +kernel
theorem dX12_by_31 : decode cX12_by 31 = .ok (.iload_n 1, 1) := by decide +kernel
theorem dX12_by_32 : decode cX12_by 32 = .ok (.iaload, 1) := by decide +kernel
theorem dX12_by_33 : decode cX12_by 33 = .ok (.iload_n 2, 1) := by decide +kernel
theorem dX12_by_34 : decode cX12_by 34 = .ok (.iload_n 3, 1) := by decide +kernel
theorem dX12_by_35 : decode cX12_by 35 = .ok (.invokevirtual 340, 3) := by decide +kernel
theorem dX12_by_38 : decode cX12_by 38 = .ok (.iload 5, 2) := by decide +kernel
theorem dX12_by_40 : decode cX12_by 40 = .ok (.bipush 67, 2) := by decide +kernel
theorem dX12_by_42 : decode cX12_by 42 = .ok (.if_icmp .eq 25, 3) := by decide +kernel
theorem dX12_by_45 : decode cX12_by 45 = .ok (.iload 5, 2) := by decide +kernel
theorem dX12_by_47 : decode cX12_by 47 = .ok (.bipush 66, 2) := by decide +kernel
theorem dX12_by_49 : decode cX12_by 49 = .ok (.if_icmp .eq 18, 3) := by decide +kernel
theorem dX12_by_52 : decode cX12_by 52 = .ok (.iload 4, 2) := by decide +kernel
theorem dX12_by_54 : decode cX12_by 54 = .ok (.iconst 0, 1) := by decide +kernel
theorem dX12_by_55 : decode cX12_by 55 = .ok (.aload_n 0, 1) := by decide +kernel
theorem dX12_by_56 : decode cX12_by 56 = .ok (.getfield 253, 3) := by decide +kernel
theorem dX12_by_59 : decode cX12_by 59 = .ok (.iconst 1, 1) := by decide +kernel
theorem dX12_by_60 : decode cX12_by 60 = .ok (.isub, 1) := by decide +kernel
theorem dX12_by_61 : decode cX12_by 61 = .ok (.invokestatic 215, 3) := by decide +kernel
theorem dX12_by_64 : decode cX12_by 64 = .ok (.ifCond .ne 5, 3) := by decide +kernel
theorem dX12_by_67 : decode cX12_by 67 = .ok (.iconst (-1), 1) := by decide +kernel
theorem dX12_by_68 : decode cX12_by 68 = .ok (.ireturn, 1) := by decide +kernel
theorem dX12_by_69 : decode cX12_by 69 = .ok (.aload_n 0, 1) := by decide +kernel
theorem dX12_by_70 : decode cX12_by 70 = .ok (.getfield 142, 3) := by decide +kernel
theorem dX12_by_73 : decode cX12_by 73 = .ok (.iload 4, 2) := by decide +kernel
theorem dX12_by_75 : decode cX12_by 75 = .ok (.iaload, 1) := by decide +kernel
theorem dX12_by_76 : decode cX12_by 76 = .ok (.iconst (-1), 1) := by decide +kernel
theorem dX12_by_77 : decode cX12_by 77 = .ok (.if_icmp .ne 7, 3) := by decide +kernel
theorem dX12_by_80 : decode cX12_by 80 = .ok (.iconst 0, 1) := by decide +kernel
theorem dX12_by_81 : decode cX12_by 81 = .ok (.goto 13, 3) := by decide +kernel
theorem dX12_by_84 : decode cX12_by 84 = .ok (.aload_n 0, 1) := by decide +kernel
theorem dX12_by_85 : decode cX12_by 85 = .ok (.getfield 142, 3) := by decide +kernel
theorem dX12_by_88 : decode cX12_by 88 = .ok (.iload 4, 2) := by decide +kernel
theorem dX12_by_90 : decode cX12_by 90 = .ok (.iaload, 1) := by decide +kernel
theorem dX12_by_91 : decode cX12_by 91 = .ok (.invokestatic 303, 3) := by decide +kernel
theorem dX12_by_94 : decode cX12_by 94 = .ok (.ireturn, 1) := by decide +kernel
theorem cd_by : Cond.code yX12_by cX12_by 6 (some .int) ∈ lw_g := mt_at 2328 (by decide +kernel) rfl
section
variable {p : Program} {l : Launch} {e : Env} {R : Room} {s : State} {m : MethodId} {args : Array Value} {below : List Frame} {meth : Method} {c : Code} {cM : ClassId} {iS : Nat → Nat} {cI cZ : ClassId} {mo : Nat} {ad : Nat → Nat} {r : Int32} {S9 : mSt}
noncomputable def fm_by_67 (S : mSt) : Option (Int32 × mSt) :=
some ((-1 : Int32), S)
set_option maxRecDepth 100000 in
set_option maxHeartbeats 4000000 in
theorem wm_by_67 (C : mY p R s m args meth c cX12_by 6 5 119 (some .int)) (X : mX s cM iS cI cZ mo ad) : ∀ {S : mSt} {H : Heap} {locs : List Loc} {ls : Array Slot}, fm_by_67 S = some (r, S9) → mW cM iS cI cZ mo ad S H → mS (mA mo ad) s.heap H locs → lv_has ls 6 [] → W p l e R s m args below meth c H locs 0 0 (MQ below (mQw (some (.int r)) cM iS cI cZ mo ad S9) args s 0 0 (mA mo ad)) (F0 m 67 ls []) := by
  intro S H locs ls h hW hS hl
  unfold fm_by_67 at h
  refine lv_iconst (v := -1) C.1 C.2.1 dX12_by_67 (by decide) ?_
  cases h
  exact m_retiW C hW hS dX12_by_68
noncomputable def fm_by_94 (S : mSt) (s0 : Int32) : Option (Int32 × mSt) :=
some (s0, S)
set_option maxRecDepth 100000 in
set_option maxHeartbeats 4000000 in
theorem wm_by_94 (C : mY p R s m args meth c cX12_by 6 5 119 (some .int)) (X : mX s cM iS cI cZ mo ad) : ∀ {S : mSt} {s0 : Int32} {H : Heap} {locs : List Loc} {ls : Array Slot}, fm_by_94 S s0 = some (r, S9) → mW cM iS cI cZ mo ad S H → mS (mA mo ad) s.heap H locs → lv_has ls 6 [] → W p l e R s m args below meth c H locs 0 0 (MQ below (mQw (some (.int r)) cM iS cI cZ mo ad S9) args s 0 0 (mA mo ad)) (F0 m 94 ls [.int s0]) := by
  intro S s0 H locs ls h hW hS hl
  unfold fm_by_94 at h
  cases h
  exact m_retiW C hW hS dX12_by_94
noncomputable def fm_by (S : mSt) (v1 : Int32) (v2 : Int32) (v3 : Int32) (v4 : Int32) : Option (Int32 × mSt) :=
lt (pu S 0 (0 : Int32)) fun S1 =>
bd (fm_hasPart S1 v1 v2 v3) fun r2 =>
if r2 = 0 then (
some ((-1 : Int32), S1))
else (
bd (fm_ruleOf S1 v2 v3) fun r4 =>
ck v1 4 (
bd (fm_look S1 v1 (rd S1 23 v1) v2 v3) fun S5 =>
if r4 = (67 : Int32) then (
fm_by_67 S5)
else (
if r4 = (66 : Int32) then (
fm_by_67 S5)
else (
bd (fm_within v4 (0 : Int32) ((S5.1 49) - (1 : Int32))) fun r8 =>
if r8 = 0 then (
fm_by_67 S5)
else (
ck v4 1000 (
if (rd S5 51 v4) = (-1 : Int32) then (
fm_by_94 S5 (0 : Int32))
else (
ck v4 1000 (
bd (fm_nameOf (rd S5 51 v4)) fun r11 =>
fm_by_94 S5 r11))))))))
set_option maxRecDepth 100000 in
set_option maxHeartbeats 4000000 in
theorem tm_by (l : Launch) {cM : ClassId} {iS : Nat → Nat} {cI cZ : ClassId} {mo : Nat} {ad : Nat → Nat} {S : mSt} {v1 : Int32} {v2 : Int32} {v3 : Int32} {v4 : Int32} {r : Int32} {S9 : mSt} (h : fm_by S v1 v2 v3 v4 = some (r, S9)) : Met l yX12_by (Cond.code yX12_by cX12_by 6 (some .int) :: lw_g) { frames := 5, cells := 0, slots := 0, locals := 119 } (mPi [.int v1, .int v2, .int v3, .int v4] cM iS cI cZ mo ad S) (mQw (some (.int r)) cM iS cI cZ mo ad S9) 0 0 (mA mo ad) := by
  refine Met.ofW (cc := cX12_by) (maxL := 6) (ret := (some .int)) (by decide) rfl ?_
  intro p e s m args below meth c s₁ B hml hv
  obtain ⟨rfl, hW, X⟩ := hv
  have C : mY p (headSpec (Cond.code yX12_by cX12_by 6 (some .int) :: lw_g) { frames := 5, cells := 0, slots := 0, locals := 119 }).room s m _ meth c cX12_by 6 5 119 (some .int) := ⟨B.exec, B.bytes, hml, findClass_of_methodNamed B.named, fun w hw => atoms_spec (ws := Cond.code yX12_by cX12_by 6 (some .int) :: lw_g) B.pre w (List.mem_cons_of_mem _ hw), ⟨Nat.le_refl _, Nat.le_refl _⟩, B.returns, B.notSynchronized⟩
  have hl := lv_entry ([.ref mo, .int v1, .int v2, .int v3, .int v4]) (n := 6) (Nat.le_of_ble_eq_true rfl)
  rw [lg_entry_eq]
  generalize (lg_sl ([.ref mo, .int v1, .int v2, .int v3, .int v4]) ++ List.replicate (6 - (lg_sl ([.ref mo, .int v1, .int v2, .int v3, .int v4])).length) Slot.unset).toArray = ls at hl ⊢
  have hl : lv_has ls 6 [(0, .ref mo), (1, .int v1), (2, .int v2), (3, .int v3), (4, .int v4)] := hl
  have hS : mS (mA mo ad) s.heap s.heap [] := mS.rf
  unfold fm_by at h
  refine lv_aload_n C.1 C.2.1 dX12_by_0 rfl (lv_at hl 0 rfl) ?_
  refine lv_iconst (v := 0) C.1 C.2.1 dX12_by_1 (by decide) ?_
  refine p_0 C X hW hS dX12_by_2 (fun H locs hW hS => ?_)
  refine lt_ok h (fun S1 e_S1 h => ?_)
  rw [e_S1] at hW
  refine lv_aload_n C.1 C.2.1 dX12_by_5 rfl (lv_at hl 0 rfl) ?_
  refine lv_iload_n C.1 C.2.1 dX12_by_6 rfl (lv_at hl 1 rfl) ?_
  refine lv_iload_n C.1 C.2.1 dX12_by_7 rfl (lv_at hl 2 rfl) ?_
  refine lv_iload_n C.1 C.2.1 dX12_by_8 rfl (lv_at hl 3 rfl) ?_
  obtain ⟨r2, h_r2, h⟩ := bd_ok h
  refine m_callR (rest := []) C X hW hl.1 [.int v1, .int v2, .int v3] (tm_hasPart l h_r2) mw_hasPart im_hasPart sl_hasPart rfl ⟨by decide, by decide⟩ rfl (Nat.le_of_ble_eq_true rfl) dX12_by_9 ?_
  refine lv_if_ne (tgt := 17) C.1 C.2.1 dX12_by_12 (by decide) (fun c3 => ?_) (fun c3 => ?_)
  · have h := if_f h c3
    refine lv_aload_n C.1 C.2.1 dX12_by_17 rfl (lv_at hl 0 rfl) ?_
    refine lv_iload_n C.1 C.2.1 dX12_by_18 rfl (lv_at hl 2 rfl) ?_
    refine lv_iload_n C.1 C.2.1 dX12_by_19 rfl (lv_at hl 3 rfl) ?_
    obtain ⟨r4, h_r4, h⟩ := bd_ok h
    refine m_callR (rest := []) C X hW hl.1 [.int v2, .int v3] (tm_ruleOf l h_r4) mw_ruleOf im_ruleOf sl_ruleOf rfl ⟨by decide, by decide⟩ rfl (Nat.le_of_ble_eq_true rfl) dX12_by_20 ?_
    refine lv_istore (lv' := [(5, .int r4), (0, .ref mo), (1, .int v1), (2, .int v2), (3, .int v3), (4, .int v4)]) C.1 C.2.1 dX12_by_23 hl (by decide) rfl (fun ls hl => ?_)
    refine lv_aload_n C.1 C.2.1 dX12_by_25 rfl (lv_at hl 1 rfl) ?_
    refine lv_iload_n C.1 C.2.1 dX12_by_26 rfl (lv_at hl 2 rfl) ?_
    refine lv_aload_n C.1 C.2.1 dX12_by_27 rfl (lv_at hl 1 rfl) ?_
    refine gf_23 C X hW dX12_by_28 ?_
    refine lv_iload_n C.1 C.2.1 dX12_by_31 rfl (lv_at hl 2 rfl) ?_
    obtain ⟨hin, h⟩ := ck_ok h
    refine l_23 C X hW hin dX12_by_32 ?_
    refine lv_iload_n C.1 C.2.1 dX12_by_33 rfl (lv_at hl 3 rfl) ?_
    refine lv_iload_n C.1 C.2.1 dX12_by_34 rfl (lv_at hl 4 rfl) ?_
    obtain ⟨S5, h_S5, h⟩ := bd_ok h
    refine m_callW (rest := []) (ov := none) C X hW hS hl.1 [.int v1, .int (rd S1 23 v1), .int v2, .int v3] (tm_look l h_S5) mw_look im_look sl_look rfl ⟨by decide, by decide⟩ rfl (Nat.le_of_ble_eq_true rfl) dX12_by_35 (fun H locs hW hS => ?_)
    refine W.eq (g2 := F0 m 38 ls []) rfl ?_
    refine lv_iload C.1 C.2.1 dX12_by_38 (lv_at hl 0 rfl) ?_
    refine lv_bipush (v := 67) C.1 C.2.1 dX12_by_40 (by decide) ?_
    refine lv_icmp_eq (tgt := 67) C.1 C.2.1 dX12_by_42 (by decide) (fun c6 => ?_) (fun c6 => ?_)
    · have h := if_t h c6
      exact wm_by_67 C X h hW hS (lv_sub hl [] rfl)
    · have h := if_f h c6
      refine lv_iload C.1 C.2.1 dX12_by_45 (lv_at hl 0 rfl) ?_
      refine lv_bipush (v := 66) C.1 C.2.1 dX12_by_47 (by decide) ?_
      refine lv_icmp_eq (tgt := 67) C.1 C.2.1 dX12_by_49 (by decide) (fun c7 => ?_) (fun c7 => ?_)
      · have h := if_t h c7
        exact wm_by_67 C X h hW hS (lv_sub hl [] rfl)
      · have h := if_f h c7
        refine lv_iload C.1 C.2.1 dX12_by_52 (lv_at hl 5 rfl) ?_
        refine lv_iconst (v := 0) C.1 C.2.1 dX12_by_54 (by decide) ?_
        refine lv_aload_n C.1 C.2.1 dX12_by_55 rfl (lv_at hl 1 rfl) ?_
        refine gf_49 C X hW dX12_by_56 ?_
        refine lv_iconst (v := 1) C.1 C.2.1 dX12_by_59 (by decide) ?_
        refine lv_isub C.1 C.2.1 dX12_by_60 ?_
        obtain ⟨r8, h_r8, h⟩ := bd_ok h
        refine m_callS (rest := []) C hl.1 [.int v4, .int (0 : Int32), .int ((S5.1 49) - (1 : Int32))] (tm_within l h_r8) mw_within st_within rfl ⟨by decide, by decide⟩ rfl (Nat.le_of_ble_eq_true rfl) dX12_by_61 ?_
        refine lv_if_ne (tgt := 69) C.1 C.2.1 dX12_by_64 (by decide) (fun c9 => ?_) (fun c9 => ?_)
        · have h := if_f h c9
          refine lv_aload_n C.1 C.2.1 dX12_by_69 rfl (lv_at hl 1 rfl) ?_
          refine gf_51 C X hW dX12_by_70 ?_
          refine lv_iload C.1 C.2.1 dX12_by_73 (lv_at hl 5 rfl) ?_
          obtain ⟨hin, h⟩ := ck_ok h
          refine l_51 C X hW hin dX12_by_75 ?_
          refine lv_iconst (v := -1) C.1 C.2.1 dX12_by_76 (by decide) ?_
          refine lv_icmp_ne (tgt := 84) C.1 C.2.1 dX12_by_77 (by decide) (fun c10 => ?_) (fun c10 => ?_)
          · have h := if_f h c10
            refine lv_aload_n C.1 C.2.1 dX12_by_84 rfl (lv_at hl 1 rfl) ?_
            refine gf_51 C X hW dX12_by_85 ?_
            refine lv_iload C.1 C.2.1 dX12_by_88 (lv_at hl 5 rfl) ?_
            obtain ⟨hin, h⟩ := ck_ok h
            refine l_51 C X hW hin dX12_by_90 ?_
            obtain ⟨r11, h_r11, h⟩ := bd_ok h
            refine m_callS (rest := []) C hl.1 [.int (rd S5 51 v4)] (tm_nameOf l h_r11) mw_nameOf st_nameOf rfl ⟨by decide, by decide⟩ rfl (Nat.le_of_ble_eq_true rfl) dX12_by_91 ?_
            exact wm_by_94 C X h hW hS (lv_sub hl [] rfl)
          · have h := if_t h c10
            refine lv_iconst (v := 0) C.1 C.2.1 dX12_by_80 (by decide) ?_
            refine lv_goto (tgt := 94) C.1 C.2.1 dX12_by_81 (by decide) ?_
            exact wm_by_94 C X h hW hS (lv_sub hl [] rfl)
        · have h := if_t h c9
          exact wm_by_67 C X h hW hS (lv_sub hl [] rfl)
  · have h := if_t h c3
    refine lv_iconst (v := -1) C.1 C.2.1 dX12_by_15 (by decide) ?_
    cases h
    exact m_retiW C hW hS dX12_by_16
end
