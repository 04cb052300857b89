-- made by wip/whole/walk.py: the reference's start, send, addOctet, number, writeRow
theorem dX12_start_0 : decode cX12_start 0 = .ok (.sipush 640, 3) := by decide +kernel
theorem dX12_start_3 : decode cX12_start 3 = .ok (.aload_n 0, 1) := by decide +kernel
theorem dX12_start_4 : decode cX12_start 4 = .ok (.getfield 428, 3) := by decide +kernel
theorem dX12_start_7 : decode cX12_start 7 = .ok (.imul, 1) := by decide +kernel
theorem dX12_start_8 : decode cX12_start 8 = .ok (.istore 4, 2) := by decide +kernel
theorem dX12_start_10 : decode cX12_start 10 = .ok (.aload_n 0, 1) := by decide +kernel
theorem dX12_start_11 : decode cX12_start 11 = .ok (.dup, 1) := by decide +kernel
theorem dX12_start_12 : decode cX12_start 12 = .ok (.getfield 428, 3) := by decide +kernel
theorem dX12_start_15 : decode cX12_start 15 = .ok (.iconst 1, 1) := by decide +kernel
theorem dX12_start_16 : decode cX12_start 16 = .ok (.iadd, 1) := by decide +kernel
theorem dX12_start_17 : decode cX12_start 17 = .ok (.putfield 428, 3) := by decide +kernel
theorem dX12_start_20 : decode cX12_start 20 = .ok (.iconst 0, 1) := by decide +kernel
theorem dX12_start_21 : decode cX12_start 21 = .ok (.istore 5, 2) := by decide +kernel
theorem dX12_start_23 : decode cX12_start 23 = .ok (.iload 5, 2) := by decide +kernel
theorem dX12_start_25 : decode cX12_start 25 = .ok (.sipush 640, 3) := by decide +kernel
theorem dX12_start_28 : decode cX12_start 28 = .ok (.if_icmp .ge 20, 3) := by decide +kernel
theorem dX12_start_31 : decode cX12_start 31 = .ok (.aload_n 0, 1) := by decide +kernel
theorem dX12_start_32 : decode cX12_start 32 = .ok (.getfield 130, 3) := by decide +kernel
theorem dX12_start_35 : decode cX12_start 35 = .ok (.iload 4, 2) := by decide +kernel
theorem dX12_start_37 : decode cX12_start 37 = .ok (.iload 5, 2) := by decide +kernel
theorem dX12_start_39 : decode cX12_start 39 = .ok (.iadd, 1) := by decide +kernel
theorem dX12_start_40 : decode cX12_start 40 = .ok (.iconst 0, 1) := by decide +kernel
theorem dX12_start_41 : decode cX12_start 41 = .ok (.iastore, 1) := by decide +kernel
theorem dX12_start_42 : decode cX12_start 42 = .ok (.iinc 5 1, 3) := by decide +kernel
theorem dX12_start_45 : decode cX12_start 45 = .ok (.goto (-22), 3) := by decide +kernel
theorem dX12_start_48 : decode cX12_start 48 = .ok (.aload_n 0, 1) := by decide +kernel
theorem dX12_start_49 : decode cX12_start 49 = .ok (.getfield 130, 3) := by decide +kernel
theorem dX12_start_52 : decode cX12_start 52 = .ok (.iload 4, 2) := by decide +kernel
theorem dX12_start_54 : decode cX12_start 54 = .ok (.iload_n 1, 1) := by decide +kernel
theorem dX12_start_55 : decode cX12_start 55 = .ok (.iastore, 1) := by decide +kernel
theorem dX12_start_56 : decode cX12_start 56 = .ok (.aload_n 0, 1) := by decide +kernel
theorem dX12_start_57 : decode cX12_start 57 = .ok (.getfield 130, 3) := by decide +kernel
theorem dX12_start_60 : decode cX12_start 60 = .ok (.iload 4, 2) := by decide +kernel
theorem dX12_start_62 : decode cX12_start 62 = .ok (.iconst 1, 1) := by decide +kernel
theorem dX12_start_63 : decode cX12_start 63 = .ok (.iadd, 1) := by decide +kernel
theorem dX12_start_64 : decode cX12_start 64 = .ok (.iload_n 2, 1) := by decide +kernel
theorem dX12_start_65 : decode cX12_start 65 = .ok (.iastore, 1) := by decide +kernel
theorem dX12_start_66 : decode cX12_start 66 = .ok (.aload_n 0, 1) := by decide +kernel
theorem dX12_start_67 : decode cX12_start 67 = .ok (.getfield 130, 3) := by decide +kernel
theorem dX12_start_70 : decode cX12_start 70 = .ok (.iload 4, 2) := by decide +kernel
theorem dX12_start_72 : decode cX12_start 72 = .ok (.iconst 2, 1) := by decide +kernel
theorem dX12_start_73 : decode cX12_start 73 = .ok (.iadd, 1) := by decide +kernel
theorem dX12_start_74 : decode cX12_start 74 = .ok (.iload_n 3, 1) := by decide +kernel
theorem dX12_start_75 : decode cX12_start 75 = .ok (.ifCond .eq 7, 3) := by decide +kernel
theorem dX12_start_78 : decode cX12_start 78 = .ok (.iconst 1, 1) := by decide +kernel
theorem dX12_start_79 : decode cX12_start 79 = .ok (.goto 4, 3) := by decide +kernel
theorem dX12_start_82 : decode cX12_start 82 = .ok (.iconst 0, 1) := by decide +kernel
theorem dX12_start_83 : decode cX12_start 83 = .ok (.iastore, 1) := by decide +kernel
theorem dX12_start_84 : decode cX12_start 84 = .ok (.iconst 0, 1) := by decide +kernel
theorem dX12_start_85 : decode cX12_start 85 = .ok (.istore 5, 2) := by decide +kernel
theorem dX12_start_87 : decode cX12_start 87 = .ok (.iload 5, 2) := by decide +kernel
theorem dX12_start_89 : decode cX12_start 89 = .ok (.iconst 4, 1) := by decide +kernel
theorem dX12_start_90 : decode cX12_start 90 = .ok (.if_icmp .ge 28, 3) := by decide +kernel
theorem dX12_start_93 : decode cX12_start 93 = .ok (.aload_n 0, 1) := by decide +kernel
theorem dX12_start_94 : decode cX12_start 94 = .ok (.getfield 130, 3) := by decide +kernel
theorem dX12_start_97 : decode cX12_start 97 = .ok (.iload 4, 2) := by decide +kernel
theorem dX12_start_99 : decode cX12_start 99 = .ok (.iconst 4, 1) := by decide +kernel
theorem dX12_start_100 : decode cX12_start 100 = .ok (.iadd, 1) := by decide +kernel
theorem dX12_start_101 : decode cX12_start 101 = .ok (.iload 5, 2) := by decide +kernel
theorem dX12_start_103 : decode cX12_start 103 = .ok (.iadd, 1) := by decide +kernel
theorem dX12_start_104 : decode cX12_start 104 = .ok (.aload_n 0, 1) := by decide +kernel
theorem dX12_start_105 : decode cX12_start 105 = .ok (.iload_n 1, 1) := by decide +kernel
theorem dX12_start_106 : decode cX12_start 106 = .ok (.iload 5, 2) := by decide +kernel
theorem dX12_start_108 : decode cX12_start 108 = .ok (.invokevirtual 226, 3) := by decide +kernel
theorem dX12_start_111 : decode cX12_start 111 = .ok (.iastore, 1) := by decide +kernel
theorem dX12_start_112 : decode cX12_start 112 = .ok (.iinc 5 1, 3) := by decide +kernel
theorem dX12_start_115 : decode cX12_start 115 = .ok (.goto (-28), 3) := by decide +kernel
theorem dX12_start_118 : decode cX12_start 118 = .ok (.iconst 0, 1) := by decide +kernel
theorem dX12_start_119 : decode cX12_start 119 = .ok (.istore 5, 2) := by decide +kernel
theorem dX12_start_121 : decode cX12_start 121 = .ok (.iload 5, 2) := by decide +kernel
theorem dX12_start_123 : decode cX12_start 123 = .ok (.bipush 16, 2) := by decide +kernel
theorem dX12_start_125 : decode cX12_start 125 = .ok (.if_icmp .ge 34, 3) := by decide +kernel
theorem dX12_start_128 : decode cX12_start 128 = .ok (.aload_n 0, 1) := by decide +kernel
theorem dX12_start_129 : decode cX12_start 129 = .ok (.getfield 130, 3) := by decide +kernel
theorem dX12_start_132 : decode cX12_start 132 = .ok (.iload 4, 2) := by decide +kernel
theorem dX12_start_134 : decode cX12_start 134 = .ok (.bipush 16, 2) := by decide +kernel
theorem dX12_start_136 : decode cX12_start 136 = .ok (.iadd, 1) := by decide +kernel
theorem dX12_start_137 : decode cX12_start 137 = .ok (.iload 5, 2) := by decide +kernel
theorem dX12_start_139 : decode cX12_start 139 = .ok (.iadd, 1) := by decide +kernel
theorem dX12_start_140 : decode cX12_start 140 = .ok (.aload_n 0, 1) := by decide +kernel
theorem dX12_start_141 : decode cX12_start 141 = .ok (.getfield 95, 3) := by decide +kernel
theorem dX12_start_144 : decode cX12_start 144 = .ok (.bipush 16, 2) := by decide +kernel
theorem dX12_start_146 : decode cX12_start 146 = .ok (.iload_n 1, 1) := by decide +kernel
theorem dX12_start_147 : decode cX12_start 147 = .ok (.imul, 1) := by decide +kernel
theorem dX12_start_148 : decode cX12_start 148 = .ok (.iload 5, 2) := by decide +kernel
theorem dX12_start_150 : decode cX12_start 150 = .ok (.iadd, 1) := by decide +kernel
theorem dX12_start_151 : decode cX12_start 151 = .ok (.iaload, 1) := by decide +kernel
theorem dX12_start_152 : decode cX12_start 152 = .ok (.iastore, 1) := by decide +kernel
theorem dX12_start_153 : decode cX12_start 153 = .ok (.iinc 5 1, 3) := by decide +kernel
theorem dX12_start_156 : decode cX12_start 156 = .ok (.goto (-35), 3) := by decide +kernel
theorem dX12_start_159 : decode cX12_start 159 = .ok (.iload_n 3, 1) := by decide +kernel
theorem dX12_start_160 : decode cX12_start 160 = .ok (.ifCond .eq 4, 3) := by decide +kernel
theorem dX12_start_163 : decode cX12_start 163 = .ok (.return_, 1) := by decide +kernel
theorem dX12_start_164 : decode cX12_start 164 = .ok (.iconst 0, 1) := by decide +kernel
theorem dX12_start_165 : decode cX12_start 165 = .ok (.istore 5, 2) := by decide +kernel
theorem dX12_start_167 : decode cX12_start 167 = .ok (.iload 5, 2) := by decide +kernel
theorem dX12_start_169 : decode cX12_start 169 = .ok (.aload_n 0, 1) := by decide +kernel
theorem dX12_start_170 : decode cX12_start 170 = .ok (.getfield 71, 3) := by decide +kernel
theorem dX12_start_173 : decode cX12_start 173 = .ok (.iload_n 1, 1) := by decide +kernel
theorem dX12_start_174 : decode cX12_start 174 = .ok (.iaload, 1) := by decide +kernel
theorem dX12_start_175 : decode cX12_start 175 = .ok (.if_icmp .ge 64, 3) := by decide +kernel
theorem dX12_start_178 : decode cX12_start 178 = .ok (.aload_n 0, 1) := by decide +kernel
theorem dX12_start_179 : decode cX12_start 179 = .ok (.iload_n 1, 1) := by decide +kernel
theorem dX12_start_180 : decode cX12_start 180 = .ok (.iload 5, 2) := by decide +kernel
theorem dX12_start_182 : decode cX12_start 182 = .ok (.invokevirtual 230, 3) := by decide +kernel
theorem dX12_start_185 : decode cX12_start 185 = .ok (.istore 6, 2) := by decide +kernel
theorem dX12_start_187 : decode cX12_start 187 = .ok (.iload 6, 2) := by decide +kernel
theorem dX12_start_189 : decode cX12_start 189 = .ok (.invokestatic 223, 3) := by decide +kernel
theorem dX12_start_192 : decode cX12_start 192 = .ok (.aload_n 0, 1) := by decide +kernel
theorem dX12_start_193 : decode cX12_start 193 = .ok (.iload_n 1, 1) := by decide +kernel
theorem dX12_start_194 : decode cX12_start 194 = .ok (.iload_n 2, 1) := by decide +kernel
theorem dX12_start_195 : decode cX12_start 195 = .ok (.iload 6, 2) := by decide +kernel
theorem dX12_start_197 : decode cX12_start 197 = .ok (.invokestatic 219, 3) := by decide +kernel
theorem dX12_start_200 : decode cX12_start 200 = .ok (.invokevirtual 333, 3) := by decide +kernel
theorem dX12_start_203 : decode cX12_start 203 = .ok (.if_icmp .le 30, 3) := by decide +kernel
theorem dX12_start_206 : decode cX12_start 206 = .ok (.iload 6, 2) := by decide +kernel
theorem dX12_start_208 : decode cX12_start 208 = .ok (.invokestatic 223, 3) := by decide +kernel
theorem dX12_start_211 : decode cX12_start 211 = .ok (.aload_n 0, 1) := by decide +kernel
theorem dX12_start_212 : decode cX12_start 212 = .ok (.iload_n 1, 1) := by decide +kernel
theorem dX12_start_213 : decode cX12_start 213 = .ok (.iload_n 2, 1) := by decide +kernel
theorem dX12_start_214 : decode cX12_start 214 = .ok (.iload 6, 2) := by decide +kernel
theorem dX12_start_216 : decode cX12_start 216 = .ok (.invokestatic 219, 3) := by decide +kernel
theorem dX12_start_219 : decode cX12_start 219 = .ok (.invokevirtual 431, 3) := by decide +kernel
theorem dX12_start_222 : decode cX12_start 222 = .ok (.if_icmp .le 11, 3) := by decide +kernel
theorem dX12_start_225 : decode cX12_start 225 = .ok (.aload_n 0, 1) := by decide +kernel
theorem dX12_start_226 : decode cX12_start 226 = .ok (.iload 4, 2) := by decide +kernel
theorem dX12_start_228 : decode cX12_start 228 = .ok (.iload 6, 2) := by decide +kernel
theorem dX12_start_230 : decode cX12_start 230 = .ok (.invokevirtual 434, 3) := by decide +kernel
theorem dX12_start_233 : decode cX12_start 233 = .ok (.iinc 5 1, 3) := by decide +kernel
theorem dX12_start_236 : decode cX12_start 236 = .ok (.goto (-69), 3) := by decide +kernel
theorem dX12_start_239 : decode cX12_start 239 = .ok (.iconst 0, 1) := by decide +kernel
theorem dX12_start_240 : decode cX12_start 240 = .ok (.istore 5, 2) := by decide +kernel
theorem dX12_start_242 : decode cX12_start 242 = .ok (.iload 5, 2) := by decide +kernel
theorem dX12_start_244 : decode cX12_start 244 = .ok (.aload_n 0, 1) := by decide +kernel
theorem dX12_start_245 : decode cX12_start 245 = .ok (.getfield 130, 3) := by decide +kernel
theorem dX12_start_248 : decode cX12_start 248 = .ok (.iload 4, 2) := by decide +kernel
theorem dX12_start_250 : decode cX12_start 250 = .ok (.iconst 3, 1) := by decide +kernel
theorem dX12_start_251 : decode cX12_start 251 = .ok (.iadd, 1) := by decide +kernel
theorem dX12_start_252 : decode cX12_start 252 = .ok (.iaload, 1) := by decide +kernel
theorem dX12_start_253 : decode cX12_start 253 = .ok (.if_icmp .ge 48, 3) := by decide +kernel
theorem dX12_start_256 : decode cX12_start 256 = .ok (.aload_n 0, 1) := by decide +kernel
theorem dX12_start_257 : decode cX12_start 257 = .ok (.getfield 130, 3) := by decide +kernel
theorem dX12_start_260 : decode cX12_start 260 = .ok (.iload 4, 2) := by decide +kernel
theorem dX12_start_262 : decode cX12_start 262 = .ok (.bipush 8, 2) := by decide +kernel
theorem dX12_start_264 : decode cX12_start 264 = .ok (.iadd, 1) := by decide +kernel
theorem dX12_start_265 : decode cX12_start 265 = .ok (.iload 5, 2) := by decide +kernel
theorem dX12_start_267 : decode cX12_start 267 = .ok (.iadd, 1) := by decide +kernel
theorem dX12_start_268 : decode cX12_start 268 = .ok (.iaload, 1) := by decide +kernel
theorem dX12_start_269 : decode cX12_start 269 = .ok (.istore 6, 2) := by decide +kernel
theorem dX12_start_271 : decode cX12_start 271 = .ok (.aload_n 0, 1) := by decide +kernel
theorem dX12_start_272 : decode cX12_start 272 = .ok (.getfield 68, 3) := by decide +kernel
theorem dX12_start_275 : decode cX12_start 275 = .ok (.bipush 16, 2) := by decide +kernel
theorem dX12_start_277 : decode cX12_start 277 = .ok (.iload_n 1, 1) := by decide +kernel
theorem dX12_start_278 : decode cX12_start 278 = .ok (.imul, 1) := by decide +kernel
theorem dX12_start_279 : decode cX12_start 279 = .ok (.iconst 4, 1) := by decide +kernel
theorem dX12_start_280 : decode cX12_start 280 = .ok (.iload_n 2, 1) := by decide +kernel
theorem dX12_start_281 : decode cX12_start 281 = .ok (.imul, 1) := by decide +kernel
theorem dX12_start_282 : decode cX12_start 282 = .ok (.iadd, 1) := by decide +kernel
theorem dX12_start_283 : decode cX12_start 283 = .ok (.iload 6, 2) := by decide +kernel
theorem dX12_start_285 : decode cX12_start 285 = .ok (.invokestatic 219, 3) := by decide +kernel
theorem dX12_start_288 : decode cX12_start 288 = .ok (.iadd, 1) := by decide +kernel
theorem dX12_start_289 : decode cX12_start 289 = .ok (.iload 6, 2) := by decide +kernel
theorem dX12_start_291 : decode cX12_start 291 = .ok (.invokestatic 223, 3) := by decide +kernel
theorem dX12_start_294 : decode cX12_start 294 = .ok (.iastore, 1) := by decide +kernel
theorem dX12_start_295 : decode cX12_start 295 = .ok (.iinc 5 1, 3) := by decide +kernel
theorem dX12_start_298 : decode cX12_start 298 = .ok (.goto (-56), 3) := by decide +kernel
theorem dX12_start_301 : decode cX12_start 301 = .ok (.return_, 1) := by decide +kernel
theorem cd_start : Cond.code yX12_start cX12_start 7 none ∈ lw_g := mt_at 2223 (by decide +kernel) rfl
theorem mw_start : mCw 437 yX12_start cX12_start 7 none 3 := ⟨cd_start, mt_at 2220 (by decide +kernel) rfl, in_M, by decide +kernel⟩
theorem im_start : Cond.instanceMethod yX12_start ∈ lw_g := mt_at 2222 (by decide +kernel) rfl
theorem sl_start : Cond.selects RX12 yX12_start yX12_start ∈ lw_g := mt_sel 94 (by decide +kernel) rfl
section
variable {p : Program} {l : Launch} {e : Env} {R : Room} {s : State} {m : MethodId} {args : Array Value} {below : List Frame} {meth : Method} {c : Code} {cM : ClassId} {iS : Nat → Nat} {cI cZ : ClassId} {mo : Nat} {ad : Nat → Nat} {r : Int32} {S9 : mSt}
noncomputable def fm_start_242 : Nat → mSt → Int32 → Int32 → Int32 → Int32 → Option (mSt)
  | 0, _, _, _, _, _ => none
  | n + 1, S, v1, v2, v4, v5 =>
    ck (v4 + (3 : Int32)) 38400 (
    if (rd S 46 (v4 + (3 : Int32))) ≤ v5 then (
    some S)
    else (
    ck ((v4 + (8 : Int32)) + v5) 38400 (
    lt (rd S 46 ((v4 + (8 : Int32)) + v5)) fun x2 =>
    bd (fm_nodeOf x2) fun r3 =>
    bd (fm_numberOf x2) fun r4 =>
    ck ((((16 : Int32) * v1) + ((4 : Int32) * v2)) + r3) 64 (lt (wr S 22 ((((16 : Int32) * v1) + ((4 : Int32) * v2)) + r3) r4) fun S5 =>
    lt (v5 + (1 : Int32)) fun x6 =>
    fm_start_242 n S5 v1 v2 v4 x6))))
set_option maxRecDepth 100000 in
set_option maxHeartbeats 4000000 in
theorem wm_start_242 (C : mY p R s m args meth c cX12_start 7 3 65 none) (X : mX s cM iS cI cZ mo ad) : ∀ (n : Nat), ∀ {S : mSt} {v1 : Int32} {v2 : Int32} {v4 : Int32} {v5 : Int32} {H : Heap} {locs : List Loc} {ls : Array Slot}, fm_start_242 n S v1 v2 v4 v5 = some S9 → mW cM iS cI cZ mo ad S H → mS (mA mo ad) s.heap H locs → lv_has ls 7 [(0, .ref mo), (1, .int v1), (2, .int v2), (4, .int v4), (5, .int v5)] → W p l e R s m args below meth c H locs 0 0 (MQ below (mQw none cM iS cI cZ mo ad S9) args s 0 0 (mA mo ad)) (F0 m 242 ls []) := by
  intro n
  induction n with
  | zero =>
    intro S v1 v2 v4 v5 H locs ls h hW hS hl
    exact absurd (show (none : Option (mSt)) = _ from h) (fun q => by cases q)
  | succ n ih =>
    intro S v1 v2 v4 v5 H locs ls h hW hS hl
    rw [fm_start_242] at h
    refine lv_iload C.1 C.2.1 dX12_start_242 (lv_at hl 4 rfl) ?_
    refine lv_aload_n C.1 C.2.1 dX12_start_244 rfl (lv_at hl 0 rfl) ?_
    refine gf_46 C X hW dX12_start_245 ?_
    refine lv_iload C.1 C.2.1 dX12_start_248 (lv_at hl 3 rfl) ?_
    refine lv_iconst (v := 3) C.1 C.2.1 dX12_start_250 (by decide) ?_
    refine lv_iadd C.1 C.2.1 dX12_start_251 ?_
    obtain ⟨hin, h⟩ := ck_ok h
    refine l_46 C X hW hin dX12_start_252 ?_
    refine lv_icmp_ge (tgt := 301) C.1 C.2.1 dX12_start_253 (by decide) (fun c1 => ?_) (fun c1 => ?_)
    · have h := if_t h c1
      cases h
      exact m_retvW C hW hS dX12_start_301
    · have h := if_f h c1
      refine lv_aload_n C.1 C.2.1 dX12_start_256 rfl (lv_at hl 0 rfl) ?_
      refine gf_46 C X hW dX12_start_257 ?_
      refine lv_iload C.1 C.2.1 dX12_start_260 (lv_at hl 3 rfl) ?_
      refine lv_bipush (v := 8) C.1 C.2.1 dX12_start_262 (by decide) ?_
      refine lv_iadd C.1 C.2.1 dX12_start_264 ?_
      refine lv_iload C.1 C.2.1 dX12_start_265 (lv_at hl 4 rfl) ?_
      refine lv_iadd C.1 C.2.1 dX12_start_267 ?_
      obtain ⟨hin, h⟩ := ck_ok h
      refine l_46 C X hW hin dX12_start_268 ?_
      refine lt_ok h (fun x2 e_x2 h => ?_)
      refine lv_nm e_x2 ?_
      refine lv_istore (lv' := [(6, .int x2), (0, .ref mo), (1, .int v1), (2, .int v2), (4, .int v4), (5, .int v5)]) C.1 C.2.1 dX12_start_269 hl (by decide) rfl (fun ls hl => ?_)
      refine lv_aload_n C.1 C.2.1 dX12_start_271 rfl (lv_at hl 1 rfl) ?_
      refine gf_22 C X hW dX12_start_272 ?_
      refine lv_bipush (v := 16) C.1 C.2.1 dX12_start_275 (by decide) ?_
      refine lv_iload_n C.1 C.2.1 dX12_start_277 rfl (lv_at hl 2 rfl) ?_
      refine lv_imul C.1 C.2.1 dX12_start_278 ?_
      refine lv_iconst (v := 4) C.1 C.2.1 dX12_start_279 (by decide) ?_
      refine lv_iload_n C.1 C.2.1 dX12_start_280 rfl (lv_at hl 3 rfl) ?_
      refine lv_imul C.1 C.2.1 dX12_start_281 ?_
      refine lv_iadd C.1 C.2.1 dX12_start_282 ?_
      refine lv_iload C.1 C.2.1 dX12_start_283 (lv_at hl 0 rfl) ?_
      obtain ⟨r3, h_r3, h⟩ := bd_ok h
      refine m_callS (rest := [.int (((16 : Int32) * v1) + ((4 : Int32) * v2)), .ref (ad 22)]) C hl.1 [.int x2] (tm_nodeOf l h_r3) mw_nodeOf st_nodeOf rfl ⟨by decide, by decide⟩ rfl (Nat.le_of_ble_eq_true rfl) dX12_start_285 ?_
      refine lv_iadd C.1 C.2.1 dX12_start_288 ?_
      refine lv_iload C.1 C.2.1 dX12_start_289 (lv_at hl 0 rfl) ?_
      obtain ⟨r4, h_r4, h⟩ := bd_ok h
      refine m_callS (rest := [.int ((((16 : Int32) * v1) + ((4 : Int32) * v2)) + r3), .ref (ad 22)]) C hl.1 [.int x2] (tm_numberOf l h_r4) mw_numberOf st_numberOf rfl ⟨by decide, by decide⟩ rfl (Nat.le_of_ble_eq_true rfl) dX12_start_291 ?_
      obtain ⟨hin, h⟩ := ck_ok h
      refine s_22 C X hW hS hin dX12_start_294 (fun H locs hW hS => ?_)
      refine lt_ok h (fun S5 e_S5 h => ?_)
      rw [e_S5] at hW
      refine lt_ok h (fun x6 e_x6 h => ?_)
      refine lv_iinc (v := x6) (lv' := [(5, .int x6), (6, .int x2), (0, .ref mo), (1, .int v1), (2, .int v2), (4, .int v4)]) C.1 C.2.1 dX12_start_295 hl (k := 5) rfl (by rw [← e_x6]; rfl) (by decide) rfl (fun ls hl => ?_)
      refine lv_goto (tgt := 242) C.1 C.2.1 dX12_start_298 (by decide) ?_
      exact ih h hW hS (lv_sub hl [2, 3, 4, 5, 0] rfl)
noncomputable def fm_start_233 (g_167 : mSt → Int32 → Int32 → Int32 → Int32 → Option (mSt)) (S : mSt) (v1 : Int32) (v2 : Int32) (v4 : Int32) (v5 : Int32) : Option (mSt) :=
lt (v5 + (1 : Int32)) fun x1 =>
g_167 S v1 v2 v4 x1
set_option maxRecDepth 100000 in
set_option maxHeartbeats 4000000 in
theorem wm_start_233 (C : mY p R s m args meth c cX12_start 7 3 65 none) (X : mX s cM iS cI cZ mo ad) {g_167 : mSt → Int32 → Int32 → Int32 → Int32 → Option (mSt)} (hg_167 : ∀ {S : mSt} {v1 : Int32} {v2 : Int32} {v4 : Int32} {v5 : Int32} {H : Heap} {locs : List Loc} {ls : Array Slot}, g_167 S v1 v2 v4 v5 = some S9 → mW cM iS cI cZ mo ad S H → mS (mA mo ad) s.heap H locs → lv_has ls 7 [(0, .ref mo), (1, .int v1), (2, .int v2), (4, .int v4), (5, .int v5)] → W p l e R s m args below meth c H locs 0 0 (MQ below (mQw none cM iS cI cZ mo ad S9) args s 0 0 (mA mo ad)) (F0 m 167 ls [])) : ∀ {S : mSt} {v1 : Int32} {v2 : Int32} {v4 : Int32} {v5 : Int32} {H : Heap} {locs : List Loc} {ls : Array Slot}, fm_start_233 g_167 S v1 v2 v4 v5 = some S9 → mW cM iS cI cZ mo ad S H → mS (mA mo ad) s.heap H locs → lv_has ls 7 [(0, .ref mo), (1, .int v1), (2, .int v2), (4, .int v4), (5, .int v5)] → W p l e R s m args below meth c H locs 0 0 (MQ below (mQw none cM iS cI cZ mo ad S9) args s 0 0 (mA mo ad)) (F0 m 233 ls []) := by
  intro S v1 v2 v4 v5 H locs ls h hW hS hl
  unfold fm_start_233 at h
  refine lt_ok h (fun x1 e_x1 h => ?_)
  refine lv_iinc (v := x1) (lv' := [(5, .int x1), (0, .ref mo), (1, .int v1), (2, .int v2), (4, .int v4)]) C.1 C.2.1 dX12_start_233 hl (k := 4) rfl (by rw [← e_x1]; rfl) (by decide) rfl (fun ls hl => ?_)
  refine lv_goto (tgt := 167) C.1 C.2.1 dX12_start_236 (by decide) ?_
  exact hg_167 h hW hS (lv_sub hl [1, 2, 3, 4, 0] rfl)
noncomputable def fm_start_167 : Nat → mSt → Int32 → Int32 → Int32 → Int32 → Option (mSt)
  | 0, _, _, _, _, _ => none
  | n + 1, S, v1, v2, v4, v5 =>
    ck v1 4 (
    if (rd S 23 v1) ≤ v5 then (
    fm_start_242 mFU S v1 v2 v4 (0 : Int32))
    else (
    bd (fm_rowAt S v1 v5) fun r2 =>
    bd (fm_numberOf r2) fun r3 =>
    bd (fm_nodeOf r2) fun r4 =>
    bd (fm_seenOf S v1 v2 r4) fun r5 =>
    if r3 ≤ r5 then (
    fm_start_233 (fm_start_167 n) S v1 v2 v4 v5)
    else (
    bd (fm_numberOf r2) fun r7 =>
    bd (fm_nodeOf r2) fun r8 =>
    bd (fm_sentOf S v1 v2 r8) fun r9 =>
    if r7 ≤ r9 then (
    fm_start_233 (fm_start_167 n) S v1 v2 v4 v5)
    else (
    bd (fm_carry S v4 r2) fun S11 =>
    fm_start_233 (fm_start_167 n) S11 v1 v2 v4 v5))))
set_option maxRecDepth 100000 in
set_option maxHeartbeats 4000000 in
theorem wm_start_167 (C : mY p R s m args meth c cX12_start 7 3 65 none) (X : mX s cM iS cI cZ mo ad) : ∀ (n : Nat), ∀ {S : mSt} {v1 : Int32} {v2 : Int32} {v4 : Int32} {v5 : Int32} {H : Heap} {locs : List Loc} {ls : Array Slot}, fm_start_167 n S v1 v2 v4 v5 = some S9 → mW cM iS cI cZ mo ad S H → mS (mA mo ad) s.heap H locs → lv_has ls 7 [(0, .ref mo), (1, .int v1), (2, .int v2), (4, .int v4), (5, .int v5)] → W p l e R s m args below meth c H locs 0 0 (MQ below (mQw none cM iS cI cZ mo ad S9) args s 0 0 (mA mo ad)) (F0 m 167 ls []) := by
  intro n
  induction n with
  | zero =>
    intro S v1 v2 v4 v5 H locs ls h hW hS hl
    exact absurd (show (none : Option (mSt)) = _ from h) (fun q => by cases q)
  | succ n ih =>
    intro S v1 v2 v4 v5 H locs ls h hW hS hl
    rw [fm_start_167] at h
    refine lv_iload C.1 C.2.1 dX12_start_167 (lv_at hl 4 rfl) ?_
    refine lv_aload_n C.1 C.2.1 dX12_start_169 rfl (lv_at hl 0 rfl) ?_
    refine gf_23 C X hW dX12_start_170 ?_
    refine lv_iload_n C.1 C.2.1 dX12_start_173 rfl (lv_at hl 1 rfl) ?_
    obtain ⟨hin, h⟩ := ck_ok h
    refine l_23 C X hW hin dX12_start_174 ?_
    refine lv_icmp_ge (tgt := 239) C.1 C.2.1 dX12_start_175 (by decide) (fun c1 => ?_) (fun c1 => ?_)
    · have h := if_t h c1
      refine lv_iconst (v := 0) C.1 C.2.1 dX12_start_239 (by decide) ?_
      refine lv_istore (lv' := [(5, .int (0 : Int32)), (0, .ref mo), (1, .int v1), (2, .int v2), (4, .int v4)]) C.1 C.2.1 dX12_start_240 hl (by decide) rfl (fun ls hl => ?_)
      exact wm_start_242 C X mFU h hW hS (lv_sub hl [1, 2, 3, 4, 0] rfl)
    · have h := if_f h c1
      refine lv_aload_n C.1 C.2.1 dX12_start_178 rfl (lv_at hl 0 rfl) ?_
      refine lv_iload_n C.1 C.2.1 dX12_start_179 rfl (lv_at hl 1 rfl) ?_
      refine lv_iload C.1 C.2.1 dX12_start_180 (lv_at hl 4 rfl) ?_
      obtain ⟨r2, h_r2, h⟩ := bd_ok h
      refine m_callR (rest := []) C X hW hl.1 [.int v1, .int v5] (tm_rowAt l h_r2) mw_rowAt im_rowAt sl_rowAt rfl ⟨by decide, by decide⟩ rfl (Nat.le_of_ble_eq_true rfl) dX12_start_182 ?_
      refine lv_istore (lv' := [(6, .int r2), (0, .ref mo), (1, .int v1), (2, .int v2), (4, .int v4), (5, .int v5)]) C.1 C.2.1 dX12_start_185 hl (by decide) rfl (fun ls hl => ?_)
      refine lv_iload C.1 C.2.1 dX12_start_187 (lv_at hl 0 rfl) ?_
      obtain ⟨r3, h_r3, h⟩ := bd_ok h
      refine m_callS (rest := []) C hl.1 [.int r2] (tm_numberOf l h_r3) mw_numberOf st_numberOf rfl ⟨by decide, by decide⟩ rfl (Nat.le_of_ble_eq_true rfl) dX12_start_189 ?_
      refine lv_aload_n C.1 C.2.1 dX12_start_192 rfl (lv_at hl 1 rfl) ?_
      refine lv_iload_n C.1 C.2.1 dX12_start_193 rfl (lv_at hl 2 rfl) ?_
      refine lv_iload_n C.1 C.2.1 dX12_start_194 rfl (lv_at hl 3 rfl) ?_
      refine lv_iload C.1 C.2.1 dX12_start_195 (lv_at hl 0 rfl) ?_
      obtain ⟨r4, h_r4, h⟩ := bd_ok h
      refine m_callS (rest := [.int v2, .int v1, .ref mo, .int r3]) C hl.1 [.int r2] (tm_nodeOf l h_r4) mw_nodeOf st_nodeOf rfl ⟨by decide, by decide⟩ rfl (Nat.le_of_ble_eq_true rfl) dX12_start_197 ?_
      obtain ⟨r5, h_r5, h⟩ := bd_ok h
      refine m_callR (rest := [.int r3]) C X hW hl.1 [.int v1, .int v2, .int r4] (tm_seenOf l h_r5) mw_seenOf im_seenOf sl_seenOf rfl ⟨by decide, by decide⟩ rfl (Nat.le_of_ble_eq_true rfl) dX12_start_200 ?_
      refine lv_icmp_le (tgt := 233) C.1 C.2.1 dX12_start_203 (by decide) (fun c6 => ?_) (fun c6 => ?_)
      · have h := if_t h c6
        exact wm_start_233 C X ih h hW hS (lv_sub hl [1, 2, 3, 4, 5] rfl)
      · have h := if_f h c6
        refine lv_iload C.1 C.2.1 dX12_start_206 (lv_at hl 0 rfl) ?_
        obtain ⟨r7, h_r7, h⟩ := bd_ok h
        refine m_callS (rest := []) C hl.1 [.int r2] (tm_numberOf l h_r7) mw_numberOf st_numberOf rfl ⟨by decide, by decide⟩ rfl (Nat.le_of_ble_eq_true rfl) dX12_start_208 ?_
        refine lv_aload_n C.1 C.2.1 dX12_start_211 rfl (lv_at hl 1 rfl) ?_
        refine lv_iload_n C.1 C.2.1 dX12_start_212 rfl (lv_at hl 2 rfl) ?_
        refine lv_iload_n C.1 C.2.1 dX12_start_213 rfl (lv_at hl 3 rfl) ?_
        refine lv_iload C.1 C.2.1 dX12_start_214 (lv_at hl 0 rfl) ?_
        obtain ⟨r8, h_r8, h⟩ := bd_ok h
        refine m_callS (rest := [.int v2, .int v1, .ref mo, .int r7]) C hl.1 [.int r2] (tm_nodeOf l h_r8) mw_nodeOf st_nodeOf rfl ⟨by decide, by decide⟩ rfl (Nat.le_of_ble_eq_true rfl) dX12_start_216 ?_
        obtain ⟨r9, h_r9, h⟩ := bd_ok h
        refine m_callR (rest := [.int r7]) C X hW hl.1 [.int v1, .int v2, .int r8] (tm_sentOf l h_r9) mw_sentOf im_sentOf sl_sentOf rfl ⟨by decide, by decide⟩ rfl (Nat.le_of_ble_eq_true rfl) dX12_start_219 ?_
        refine lv_icmp_le (tgt := 233) C.1 C.2.1 dX12_start_222 (by decide) (fun c10 => ?_) (fun c10 => ?_)
        · have h := if_t h c10
          exact wm_start_233 C X ih h hW hS (lv_sub hl [1, 2, 3, 4, 5] rfl)
        · have h := if_f h c10
          refine lv_aload_n C.1 C.2.1 dX12_start_225 rfl (lv_at hl 1 rfl) ?_
          refine lv_iload C.1 C.2.1 dX12_start_226 (lv_at hl 4 rfl) ?_
          refine lv_iload C.1 C.2.1 dX12_start_228 (lv_at hl 0 rfl) ?_
          obtain ⟨S11, h_S11, h⟩ := bd_ok h
          refine m_callW (rest := []) (ov := none) C X hW hS hl.1 [.int v4, .int r2] (tm_carry l h_S11) mw_carry im_carry sl_carry rfl ⟨by decide, by decide⟩ rfl (Nat.le_of_ble_eq_true rfl) dX12_start_230 (fun H locs hW hS => ?_)
          refine W.eq (g2 := F0 m 233 ls []) rfl ?_
          exact wm_start_233 C X ih h hW hS (lv_sub hl [1, 2, 3, 4, 5] rfl)
noncomputable def fm_start_121 : Nat → mSt → Int32 → Int32 → Int32 → Int32 → Int32 → Option (mSt)
  | 0, _, _, _, _, _, _ => none
  | n + 1, S, v1, v2, v3, v4, v5 =>
    if (16 : Int32) ≤ v5 then (
    if v3 = 0 then (
    fm_start_167 mFU S v1 v2 v4 (0 : Int32))
    else (
    some S))
    else (
    ck (((16 : Int32) * v1) + v5) 64 (
    ck ((v4 + (16 : Int32)) + v5) 38400 (lt (wr S 46 ((v4 + (16 : Int32)) + v5) (rd S 31 (((16 : Int32) * v1) + v5))) fun S3 =>
    lt (v5 + (1 : Int32)) fun x4 =>
    fm_start_121 n S3 v1 v2 v3 v4 x4)))
set_option maxRecDepth 100000 in
set_option maxHeartbeats 4000000 in
theorem wm_start_121 (C : mY p R s m args meth c cX12_start 7 3 65 none) (X : mX s cM iS cI cZ mo ad) : ∀ (n : Nat), ∀ {S : mSt} {v1 : Int32} {v2 : Int32} {v3 : Int32} {v4 : Int32} {v5 : Int32} {H : Heap} {locs : List Loc} {ls : Array Slot}, fm_start_121 n S v1 v2 v3 v4 v5 = some S9 → mW cM iS cI cZ mo ad S H → mS (mA mo ad) s.heap H locs → lv_has ls 7 [(0, .ref mo), (1, .int v1), (2, .int v2), (3, .int v3), (4, .int v4), (5, .int v5)] → W p l e R s m args below meth c H locs 0 0 (MQ below (mQw none cM iS cI cZ mo ad S9) args s 0 0 (mA mo ad)) (F0 m 121 ls []) := by
  intro n
  induction n with
  | zero =>
    intro S v1 v2 v3 v4 v5 H locs ls h hW hS hl
    exact absurd (show (none : Option (mSt)) = _ from h) (fun q => by cases q)
  | succ n ih =>
    intro S v1 v2 v3 v4 v5 H locs ls h hW hS hl
    rw [fm_start_121] at h
    refine lv_iload C.1 C.2.1 dX12_start_121 (lv_at hl 5 rfl) ?_
    refine lv_bipush (v := 16) C.1 C.2.1 dX12_start_123 (by decide) ?_
    refine lv_icmp_ge (tgt := 159) C.1 C.2.1 dX12_start_125 (by decide) (fun c1 => ?_) (fun c1 => ?_)
    · have h := if_t h c1
      refine lv_iload_n C.1 C.2.1 dX12_start_159 rfl (lv_at hl 3 rfl) ?_
      refine lv_if_eq (tgt := 164) C.1 C.2.1 dX12_start_160 (by decide) (fun c2 => ?_) (fun c2 => ?_)
      · have h := if_t h c2
        refine lv_iconst (v := 0) C.1 C.2.1 dX12_start_164 (by decide) ?_
        refine lv_istore (lv' := [(5, .int (0 : Int32)), (0, .ref mo), (1, .int v1), (2, .int v2), (3, .int v3), (4, .int v4)]) C.1 C.2.1 dX12_start_165 hl (by decide) rfl (fun ls hl => ?_)
        exact wm_start_167 C X mFU h hW hS (lv_sub hl [1, 2, 3, 5, 0] rfl)
      · have h := if_f h c2
        cases h
        exact m_retvW C hW hS dX12_start_163
    · have h := if_f h c1
      refine lv_aload_n C.1 C.2.1 dX12_start_128 rfl (lv_at hl 0 rfl) ?_
      refine gf_46 C X hW dX12_start_129 ?_
      refine lv_iload C.1 C.2.1 dX12_start_132 (lv_at hl 4 rfl) ?_
      refine lv_bipush (v := 16) C.1 C.2.1 dX12_start_134 (by decide) ?_
      refine lv_iadd C.1 C.2.1 dX12_start_136 ?_
      refine lv_iload C.1 C.2.1 dX12_start_137 (lv_at hl 5 rfl) ?_
      refine lv_iadd C.1 C.2.1 dX12_start_139 ?_
      refine lv_aload_n C.1 C.2.1 dX12_start_140 rfl (lv_at hl 0 rfl) ?_
      refine gf_31 C X hW dX12_start_141 ?_
      refine lv_bipush (v := 16) C.1 C.2.1 dX12_start_144 (by decide) ?_
      refine lv_iload_n C.1 C.2.1 dX12_start_146 rfl (lv_at hl 1 rfl) ?_
      refine lv_imul C.1 C.2.1 dX12_start_147 ?_
      refine lv_iload C.1 C.2.1 dX12_start_148 (lv_at hl 5 rfl) ?_
      refine lv_iadd C.1 C.2.1 dX12_start_150 ?_
      obtain ⟨hin, h⟩ := ck_ok h
      refine l_31 C X hW hin dX12_start_151 ?_
      obtain ⟨hin, h⟩ := ck_ok h
      refine s_46 C X hW hS hin dX12_start_152 (fun H locs hW hS => ?_)
      refine lt_ok h (fun S3 e_S3 h => ?_)
      rw [e_S3] at hW
      refine lt_ok h (fun x4 e_x4 h => ?_)
      refine lv_iinc (v := x4) (lv' := [(5, .int x4), (0, .ref mo), (1, .int v1), (2, .int v2), (3, .int v3), (4, .int v4)]) C.1 C.2.1 dX12_start_153 hl (k := 5) rfl (by rw [← e_x4]; rfl) (by decide) rfl (fun ls hl => ?_)
      refine lv_goto (tgt := 121) C.1 C.2.1 dX12_start_156 (by decide) ?_
      exact ih h hW hS (lv_sub hl [1, 2, 3, 4, 5, 0] rfl)
noncomputable def fm_start_87 : Nat → mSt → Int32 → Int32 → Int32 → Int32 → Int32 → Option (mSt)
  | 0, _, _, _, _, _, _ => none
  | n + 1, S, v1, v2, v3, v4, v5 =>
    if (4 : Int32) ≤ v5 then (
    fm_start_121 mFU S v1 v2 v3 v4 (0 : Int32))
    else (
    bd (fm_knownOf S v1 v5) fun r2 =>
    ck ((v4 + (4 : Int32)) + v5) 38400 (lt (wr S 46 ((v4 + (4 : Int32)) + v5) r2) fun S3 =>
    lt (v5 + (1 : Int32)) fun x4 =>
    fm_start_87 n S3 v1 v2 v3 v4 x4))
set_option maxRecDepth 100000 in
set_option maxHeartbeats 4000000 in
theorem wm_start_87 (C : mY p R s m args meth c cX12_start 7 3 65 none) (X : mX s cM iS cI cZ mo ad) : ∀ (n : Nat), ∀ {S : mSt} {v1 : Int32} {v2 : Int32} {v3 : Int32} {v4 : Int32} {v5 : Int32} {H : Heap} {locs : List Loc} {ls : Array Slot}, fm_start_87 n S v1 v2 v3 v4 v5 = some S9 → mW cM iS cI cZ mo ad S H → mS (mA mo ad) s.heap H locs → lv_has ls 7 [(0, .ref mo), (1, .int v1), (2, .int v2), (3, .int v3), (4, .int v4), (5, .int v5)] → W p l e R s m args below meth c H locs 0 0 (MQ below (mQw none cM iS cI cZ mo ad S9) args s 0 0 (mA mo ad)) (F0 m 87 ls []) := by
  intro n
  induction n with
  | zero =>
    intro S v1 v2 v3 v4 v5 H locs ls h hW hS hl
    exact absurd (show (none : Option (mSt)) = _ from h) (fun q => by cases q)
  | succ n ih =>
    intro S v1 v2 v3 v4 v5 H locs ls h hW hS hl
    rw [fm_start_87] at h
    refine lv_iload C.1 C.2.1 dX12_start_87 (lv_at hl 5 rfl) ?_
    refine lv_iconst (v := 4) C.1 C.2.1 dX12_start_89 (by decide) ?_
    refine lv_icmp_ge (tgt := 118) C.1 C.2.1 dX12_start_90 (by decide) (fun c1 => ?_) (fun c1 => ?_)
    · have h := if_t h c1
      refine lv_iconst (v := 0) C.1 C.2.1 dX12_start_118 (by decide) ?_
      refine lv_istore (lv' := [(5, .int (0 : Int32)), (0, .ref mo), (1, .int v1), (2, .int v2), (3, .int v3), (4, .int v4)]) C.1 C.2.1 dX12_start_119 hl (by decide) rfl (fun ls hl => ?_)
      exact wm_start_121 C X mFU h hW hS (lv_sub hl [1, 2, 3, 4, 5, 0] rfl)
    · have h := if_f h c1
      refine lv_aload_n C.1 C.2.1 dX12_start_93 rfl (lv_at hl 0 rfl) ?_
      refine gf_46 C X hW dX12_start_94 ?_
      refine lv_iload C.1 C.2.1 dX12_start_97 (lv_at hl 4 rfl) ?_
      refine lv_iconst (v := 4) C.1 C.2.1 dX12_start_99 (by decide) ?_
      refine lv_iadd C.1 C.2.1 dX12_start_100 ?_
      refine lv_iload C.1 C.2.1 dX12_start_101 (lv_at hl 5 rfl) ?_
      refine lv_iadd C.1 C.2.1 dX12_start_103 ?_
      refine lv_aload_n C.1 C.2.1 dX12_start_104 rfl (lv_at hl 0 rfl) ?_
      refine lv_iload_n C.1 C.2.1 dX12_start_105 rfl (lv_at hl 1 rfl) ?_
      refine lv_iload C.1 C.2.1 dX12_start_106 (lv_at hl 5 rfl) ?_
      obtain ⟨r2, h_r2, h⟩ := bd_ok h
      refine m_callR (rest := [.int ((v4 + (4 : Int32)) + v5), .ref (ad 46)]) C X hW hl.1 [.int v1, .int v5] (tm_knownOf l h_r2) mw_knownOf im_knownOf sl_knownOf rfl ⟨by decide, by decide⟩ rfl (Nat.le_of_ble_eq_true rfl) dX12_start_108 ?_
      obtain ⟨hin, h⟩ := ck_ok h
      refine s_46 C X hW hS hin dX12_start_111 (fun H locs hW hS => ?_)
      refine lt_ok h (fun S3 e_S3 h => ?_)
      rw [e_S3] at hW
      refine lt_ok h (fun x4 e_x4 h => ?_)
      refine lv_iinc (v := x4) (lv' := [(5, .int x4), (0, .ref mo), (1, .int v1), (2, .int v2), (3, .int v3), (4, .int v4)]) C.1 C.2.1 dX12_start_112 hl (k := 5) rfl (by rw [← e_x4]; rfl) (by decide) rfl (fun ls hl => ?_)
      refine lv_goto (tgt := 87) C.1 C.2.1 dX12_start_115 (by decide) ?_
      exact ih h hW hS (lv_sub hl [1, 2, 3, 4, 5, 0] rfl)
noncomputable def fm_start_83 (S : mSt) (v1 : Int32) (v2 : Int32) (v3 : Int32) (v4 : Int32) (s1 : Int32) (s2 : Int32) : Option (mSt) :=
ck s1 38400 (lt (wr S 46 s1 s2) fun S1 =>
fm_start_87 mFU S1 v1 v2 v3 v4 (0 : Int32))
set_option maxRecDepth 100000 in
set_option maxHeartbeats 4000000 in
theorem wm_start_83 (C : mY p R s m args meth c cX12_start 7 3 65 none) (X : mX s cM iS cI cZ mo ad) : ∀ {S : mSt} {v1 : Int32} {v2 : Int32} {v3 : Int32} {v4 : Int32} {s1 : Int32} {s2 : Int32} {H : Heap} {locs : List Loc} {ls : Array Slot}, fm_start_83 S v1 v2 v3 v4 s1 s2 = some S9 → mW cM iS cI cZ mo ad S H → mS (mA mo ad) s.heap H locs → lv_has ls 7 [(0, .ref mo), (1, .int v1), (2, .int v2), (3, .int v3), (4, .int v4)] → W p l e R s m args below meth c H locs 0 0 (MQ below (mQw none cM iS cI cZ mo ad S9) args s 0 0 (mA mo ad)) (F0 m 83 ls [.int s2, .int s1, .ref (ad 46)]) := by
  intro S v1 v2 v3 v4 s1 s2 H locs ls h hW hS hl
  unfold fm_start_83 at h
  obtain ⟨hin, h⟩ := ck_ok h
  refine s_46 C X hW hS hin dX12_start_83 (fun H locs hW hS => ?_)
  refine lt_ok h (fun S1 e_S1 h => ?_)
  rw [e_S1] at hW
  refine lv_iconst (v := 0) C.1 C.2.1 dX12_start_84 (by decide) ?_
  refine lv_istore (lv' := [(5, .int (0 : Int32)), (0, .ref mo), (1, .int v1), (2, .int v2), (3, .int v3), (4, .int v4)]) C.1 C.2.1 dX12_start_85 hl (by decide) rfl (fun ls hl => ?_)
  exact wm_start_87 C X mFU h hW hS (lv_sub hl [1, 2, 3, 4, 5, 0] rfl)
noncomputable def fm_start_23 : Nat → mSt → Int32 → Int32 → Int32 → Int32 → Int32 → Option (mSt)
  | 0, _, _, _, _, _, _ => none
  | n + 1, S, v1, v2, v3, v4, v5 =>
    if (640 : Int32) ≤ v5 then (
    ck v4 38400 (lt (wr S 46 v4 v1) fun S2 =>
    ck (v4 + (1 : Int32)) 38400 (lt (wr S2 46 (v4 + (1 : Int32)) v2) fun S3 =>
    if v3 = 0 then (
    fm_start_83 S3 v1 v2 v3 v4 (v4 + (2 : Int32)) (0 : Int32))
    else (
    fm_start_83 S3 v1 v2 v3 v4 (v4 + (2 : Int32)) (1 : Int32)))))
    else (
    ck (v4 + v5) 38400 (lt (wr S 46 (v4 + v5) (0 : Int32)) fun S5 =>
    lt (v5 + (1 : Int32)) fun x6 =>
    fm_start_23 n S5 v1 v2 v3 v4 x6))
set_option maxRecDepth 100000 in
set_option maxHeartbeats 4000000 in
theorem wm_start_23 (C : mY p R s m args meth c cX12_start 7 3 65 none) (X : mX s cM iS cI cZ mo ad) : ∀ (n : Nat), ∀ {S : mSt} {v1 : Int32} {v2 : Int32} {v3 : Int32} {v4 : Int32} {v5 : Int32} {H : Heap} {locs : List Loc} {ls : Array Slot}, fm_start_23 n S v1 v2 v3 v4 v5 = some S9 → mW cM iS cI cZ mo ad S H → mS (mA mo ad) s.heap H locs → lv_has ls 7 [(0, .ref mo), (1, .int v1), (2, .int v2), (3, .int v3), (4, .int v4), (5, .int v5)] → W p l e R s m args below meth c H locs 0 0 (MQ below (mQw none cM iS cI cZ mo ad S9) args s 0 0 (mA mo ad)) (F0 m 23 ls []) := by
  intro n
  induction n with
  | zero =>
    intro S v1 v2 v3 v4 v5 H locs ls h hW hS hl
    exact absurd (show (none : Option (mSt)) = _ from h) (fun q => by cases q)
  | succ n ih =>
    intro S v1 v2 v3 v4 v5 H locs ls h hW hS hl
    rw [fm_start_23] at h
    refine lv_iload C.1 C.2.1 dX12_start_23 (lv_at hl 5 rfl) ?_
    refine lv_sipush (v := 640) C.1 C.2.1 dX12_start_25 (by decide) ?_
    refine lv_icmp_ge (tgt := 48) C.1 C.2.1 dX12_start_28 (by decide) (fun c1 => ?_) (fun c1 => ?_)
    · have h := if_t h c1
      refine lv_aload_n C.1 C.2.1 dX12_start_48 rfl (lv_at hl 0 rfl) ?_
      refine gf_46 C X hW dX12_start_49 ?_
      refine lv_iload C.1 C.2.1 dX12_start_52 (lv_at hl 4 rfl) ?_
      refine lv_iload_n C.1 C.2.1 dX12_start_54 rfl (lv_at hl 1 rfl) ?_
      obtain ⟨hin, h⟩ := ck_ok h
      refine s_46 C X hW hS hin dX12_start_55 (fun H locs hW hS => ?_)
      refine lt_ok h (fun S2 e_S2 h => ?_)
      rw [e_S2] at hW
      refine lv_aload_n C.1 C.2.1 dX12_start_56 rfl (lv_at hl 0 rfl) ?_
      refine gf_46 C X hW dX12_start_57 ?_
      refine lv_iload C.1 C.2.1 dX12_start_60 (lv_at hl 4 rfl) ?_
      refine lv_iconst (v := 1) C.1 C.2.1 dX12_start_62 (by decide) ?_
      refine lv_iadd C.1 C.2.1 dX12_start_63 ?_
      refine lv_iload_n C.1 C.2.1 dX12_start_64 rfl (lv_at hl 2 rfl) ?_
      obtain ⟨hin, h⟩ := ck_ok h
      refine s_46 C X hW hS hin dX12_start_65 (fun H locs hW hS => ?_)
      refine lt_ok h (fun S3 e_S3 h => ?_)
      rw [e_S3] at hW
      refine lv_aload_n C.1 C.2.1 dX12_start_66 rfl (lv_at hl 0 rfl) ?_
      refine gf_46 C X hW dX12_start_67 ?_
      refine lv_iload C.1 C.2.1 dX12_start_70 (lv_at hl 4 rfl) ?_
      refine lv_iconst (v := 2) C.1 C.2.1 dX12_start_72 (by decide) ?_
      refine lv_iadd C.1 C.2.1 dX12_start_73 ?_
      refine lv_iload_n C.1 C.2.1 dX12_start_74 rfl (lv_at hl 3 rfl) ?_
      refine lv_if_eq (tgt := 82) C.1 C.2.1 dX12_start_75 (by decide) (fun c4 => ?_) (fun c4 => ?_)
      · have h := if_t h c4
        refine lv_iconst (v := 0) C.1 C.2.1 dX12_start_82 (by decide) ?_
        exact wm_start_83 C X h hW hS (lv_sub hl [0, 1, 2, 3, 4] rfl)
      · have h := if_f h c4
        refine lv_iconst (v := 1) C.1 C.2.1 dX12_start_78 (by decide) ?_
        refine lv_goto (tgt := 83) C.1 C.2.1 dX12_start_79 (by decide) ?_
        exact wm_start_83 C X h hW hS (lv_sub hl [0, 1, 2, 3, 4] rfl)
    · have h := if_f h c1
      refine lv_aload_n C.1 C.2.1 dX12_start_31 rfl (lv_at hl 0 rfl) ?_
      refine gf_46 C X hW dX12_start_32 ?_
      refine lv_iload C.1 C.2.1 dX12_start_35 (lv_at hl 4 rfl) ?_
      refine lv_iload C.1 C.2.1 dX12_start_37 (lv_at hl 5 rfl) ?_
      refine lv_iadd C.1 C.2.1 dX12_start_39 ?_
      refine lv_iconst (v := 0) C.1 C.2.1 dX12_start_40 (by decide) ?_
      obtain ⟨hin, h⟩ := ck_ok h
      refine s_46 C X hW hS hin dX12_start_41 (fun H locs hW hS => ?_)
      refine lt_ok h (fun S5 e_S5 h => ?_)
      rw [e_S5] at hW
      refine lt_ok h (fun x6 e_x6 h => ?_)
      refine lv_iinc (v := x6) (lv' := [(5, .int x6), (0, .ref mo), (1, .int v1), (2, .int v2), (3, .int v3), (4, .int v4)]) C.1 C.2.1 dX12_start_42 hl (k := 5) rfl (by rw [← e_x6]; rfl) (by decide) rfl (fun ls hl => ?_)
      refine lv_goto (tgt := 23) C.1 C.2.1 dX12_start_45 (by decide) ?_
      exact ih h hW hS (lv_sub hl [1, 2, 3, 4, 5, 0] rfl)
noncomputable def fm_start (S : mSt) (v1 : Int32) (v2 : Int32) (v3 : Int32) : Option (mSt) :=
lt ((640 : Int32) * (S.1 42)) fun x1 =>
lt (pu S 42 ((S.1 42) + (1 : Int32))) fun S2 =>
fm_start_23 mFU S2 v1 v2 v3 x1 (0 : Int32)
set_option maxRecDepth 100000 in
set_option maxHeartbeats 4000000 in
theorem tm_start (l : Launch) {cM : ClassId} {iS : Nat → Nat} {cI cZ : ClassId} {mo : Nat} {ad : Nat → Nat} {S : mSt} {v1 : Int32} {v2 : Int32} {v3 : Int32} {S9 : mSt} (h : fm_start S v1 v2 v3 = some S9) : Met l yX12_start (Cond.code yX12_start cX12_start 7 none :: lw_g) { frames := 3, cells := 0, slots := 0, locals := 65 } (mPi [.int v1, .int v2, .int v3] cM iS cI cZ mo ad S) (mQw none cM iS cI cZ mo ad S9) 0 0 (mA mo ad) := by
  refine Met.ofW (cc := cX12_start) (maxL := 7) (ret := none) (by decide) rfl ?_
  intro p e s m args below meth c s₁ B hml hv
  obtain ⟨rfl, hW, X⟩ := hv
  have C : mY p (headSpec (Cond.code yX12_start cX12_start 7 none :: lw_g) { frames := 3, cells := 0, slots := 0, locals := 65 }).room s m _ meth c cX12_start 7 3 65 none := ⟨B.exec, B.bytes, hml, findClass_of_methodNamed B.named, fun w hw => atoms_spec (ws := Cond.code yX12_start cX12_start 7 none :: lw_g) B.pre w (List.mem_cons_of_mem _ hw), ⟨Nat.le_refl _, Nat.le_refl _⟩, B.returns, B.notSynchronized⟩
  have hl := lv_entry ([.ref mo, .int v1, .int v2, .int v3]) (n := 7) (Nat.le_of_ble_eq_true rfl)
  rw [lg_entry_eq]
  generalize (lg_sl ([.ref mo, .int v1, .int v2, .int v3]) ++ List.replicate (7 - (lg_sl ([.ref mo, .int v1, .int v2, .int v3])).length) Slot.unset).toArray = ls at hl ⊢
  have hl : lv_has ls 7 [(0, .ref mo), (1, .int v1), (2, .int v2), (3, .int v3)] := hl
  have hS : mS (mA mo ad) s.heap s.heap [] := mS.rf
  unfold fm_start at h
  refine lv_sipush (v := 640) C.1 C.2.1 dX12_start_0 (by decide) ?_
  refine lv_aload_n C.1 C.2.1 dX12_start_3 rfl (lv_at hl 0 rfl) ?_
  refine gf_42 C X hW dX12_start_4 ?_
  refine lv_imul C.1 C.2.1 dX12_start_7 ?_
  refine lt_ok h (fun x1 e_x1 h => ?_)
  refine lv_nm e_x1 ?_
  refine lv_istore (lv' := [(4, .int x1), (0, .ref mo), (1, .int v1), (2, .int v2), (3, .int v3)]) C.1 C.2.1 dX12_start_8 hl (by decide) rfl (fun ls hl => ?_)
  refine lv_aload_n C.1 C.2.1 dX12_start_10 rfl (lv_at hl 1 rfl) ?_
  refine lv_dup C.1 C.2.1 dX12_start_11 rfl ?_
  refine gf_42 C X hW dX12_start_12 ?_
  refine lv_iconst (v := 1) C.1 C.2.1 dX12_start_15 (by decide) ?_
  refine lv_iadd C.1 C.2.1 dX12_start_16 ?_
  refine p_42 C X hW hS dX12_start_17 (fun H locs hW hS => ?_)
  refine lt_ok h (fun S2 e_S2 h => ?_)
  rw [e_S2] at hW
  refine lv_iconst (v := 0) C.1 C.2.1 dX12_start_20 (by decide) ?_
  refine lv_istore (lv' := [(5, .int (0 : Int32)), (4, .int x1), (0, .ref mo), (1, .int v1), (2, .int v2), (3, .int v3)]) C.1 C.2.1 dX12_start_21 hl (by decide) rfl (fun ls hl => ?_)
  exact wm_start_23 C X mFU h hW hS (lv_sub hl [2, 3, 4, 5, 1, 0] rfl)
end
theorem dX12_send_0 : decode cX12_send 0 = .ok (.aload_n 0, 1) := by decide +kernel
theorem dX12_send_1 : decode cX12_send 1 = .ok (.iconst 0, 1) := by decide +kernel
theorem dX12_send_2 : decode cX12_send 2 = .ok (.putfield 200, 3) := by decide +kernel
theorem dX12_send_5 : decode cX12_send 5 = .ok (.iload_n 1, 1) := by decide +kernel
theorem dX12_send_6 : decode cX12_send 6 = .ok (.iconst 0, 1) := by decide +kernel
theorem dX12_send_7 : decode cX12_send 7 = .ok (.iconst 3, 1) := by decide +kernel
theorem dX12_send_8 : decode cX12_send 8 = .ok (.invokestatic 215, 3) := by decide +kernel
theorem dX12_send_11 : decode cX12_send 11 = .ok (.ifCond .eq 26, 3) := by decide +kernel
theorem dX12_send_14 : decode cX12_send 14 = .ok (.iload_n 2, 1) := by decide +kernel
theorem dX12_send_15 : decode cX12_send 15 = .ok (.iconst 0, 1) := by decide +kernel
theorem dX12_send_16 : decode cX12_send 16 = .ok (.iconst 3, 1) := by decide +kernel
theorem dX12_send_17 : decode cX12_send 17 = .ok (.invokestatic 215, 3) := by decide +kernel
theorem dX12_send_20 : decode cX12_send 20 = .ok (.ifCond .eq 17, 3) := by decide +kernel
theorem dX12_send_23 : decode cX12_send 23 = .ok (.iload_n 1, 1) := by decide +kernel
theorem dX12_send_24 : decode cX12_send 24 = .ok (.iload_n 2, 1) := by decide +kernel
theorem dX12_send_25 : decode cX12_send 25 = .ok (.if_icmp .eq 12, 3) := by decide +kernel
theorem dX12_send_28 : decode cX12_send 28 = .ok (.aload_n 0, 1) := by decide +kernel
theorem dX12_send_29 : decode cX12_send 29 = .ok (.getfield 428, 3) := by decide +kernel
theorem dX12_send_32 : decode cX12_send 32 = .ok (.bipush 60, 2) := by decide +kernel
theorem dX12_send_34 : decode cX12_send 34 = .ok (.if_icmp .ne 5, 3) := by decide +kernel
theorem dX12_send_37 : decode cX12_send 37 = .ok (.iconst 0, 1) := by decide +kernel
theorem dX12_send_38 : decode cX12_send 38 = .ok (.ireturn, 1) := by decide +kernel
theorem dX12_send_39 : decode cX12_send 39 = .ok (.aload_n 0, 1) := by decide +kernel
theorem dX12_send_40 : decode cX12_send 40 = .ok (.iload_n 1, 1) := by decide +kernel
theorem dX12_send_41 : decode cX12_send 41 = .ok (.iload_n 2, 1) := by decide +kernel
theorem dX12_send_42 : decode cX12_send 42 = .ok (.iload_n 3, 1) := by decide +kernel
theorem dX12_send_43 : decode cX12_send 43 = .ok (.invokevirtual 437, 3) := by decide +kernel
theorem dX12_send_46 : decode cX12_send 46 = .ok (.iconst 1, 1) := by decide +kernel
theorem dX12_send_47 : decode cX12_send 47 = .ok (.ireturn, 1) := by decide +kernel
theorem cd_send : Cond.code yX12_send cX12_send 4 (some .boolean) ∈ lw_g := mt_at 2219 (by decide +kernel) rfl
section
variable {p : Program} {l : Launch} {e : Env} {R : Room} {s : State} {m : MethodId} {args : Array Value} {below : List Frame} {meth : Method} {c : Code} {cM : ClassId} {iS : Nat → Nat} {cI cZ : ClassId} {mo : Nat} {ad : Nat → Nat} {r : Int32} {S9 : mSt}
noncomputable def fm_send_37 (S : mSt) : Option (Int32 × mSt) :=
ckz (0 : Int32) (some ((0 : Int32), S))
set_option maxRecDepth 100000 in
set_option maxHeartbeats 4000000 in
theorem wm_send_37 (C : mY p R s m args meth c cX12_send 4 4 91 (some .boolean)) (X : mX s cM iS cI cZ mo ad) : ∀ {S : mSt} {H : Heap} {locs : List Loc} {ls : Array Slot}, fm_send_37 S = some (r, S9) → mW cM iS cI cZ mo ad S H → mS (mA mo ad) s.heap H locs → lv_has ls 4 [] → W p l e R s m args below meth c H locs 0 0 (MQ below (mQw (some (.int r)) cM iS cI cZ mo ad S9) args s 0 0 (mA mo ad)) (F0 m 37 ls []) := by
  intro S H locs ls h hW hS hl
  unfold fm_send_37 at h
  refine lv_iconst (v := 0) C.1 C.2.1 dX12_send_37 (by decide) ?_
  obtain ⟨hzo, h⟩ := ckz_ok h
  cases h
  exact m_retzW C hzo hW hS dX12_send_38
noncomputable def fm_send (S : mSt) (v1 : Int32) (v2 : Int32) (v3 : Int32) : Option (Int32 × mSt) :=
lt (pu S 0 (0 : Int32)) fun S1 =>
bd (fm_within v1 (0 : Int32) (3 : Int32)) fun r2 =>
if r2 = 0 then (
fm_send_37 S1)
else (
bd (fm_within v2 (0 : Int32) (3 : Int32)) fun r4 =>
if r4 = 0 then (
fm_send_37 S1)
else (
if v1 = v2 then (
fm_send_37 S1)
else (
if (S1.1 42) = (60 : Int32) then (
fm_send_37 S1)
else (
bd (fm_start S1 v1 v2 v3) fun S8 =>
ckz (1 : Int32) (some ((1 : Int32), S8))))))
set_option maxRecDepth 100000 in
set_option maxHeartbeats 4000000 in
theorem tm_send (l : Launch) {cM : ClassId} {iS : Nat → Nat} {cI cZ : ClassId} {mo : Nat} {ad : Nat → Nat} {S : mSt} {v1 : Int32} {v2 : Int32} {v3 : Int32} {r : Int32} {S9 : mSt} (h : fm_send S v1 v2 v3 = some (r, S9)) : Met l yX12_send (Cond.code yX12_send cX12_send 4 (some .boolean) :: lw_g) { frames := 4, cells := 0, slots := 0, locals := 91 } (mPi [.int v1, .int v2, .int v3] cM iS cI cZ mo ad S) (mQw (some (.int r)) cM iS cI cZ mo ad S9) 0 0 (mA mo ad) := by
  refine Met.ofW (cc := cX12_send) (maxL := 4) (ret := (some .boolean)) (by decide) rfl ?_
  intro p e s m args below meth c s₁ B hml hv
  obtain ⟨rfl, hW, X⟩ := hv
  have C : mY p (headSpec (Cond.code yX12_send cX12_send 4 (some .boolean) :: lw_g) { frames := 4, cells := 0, slots := 0, locals := 91 }).room s m _ meth c cX12_send 4 4 91 (some .boolean) := ⟨B.exec, B.bytes, hml, findClass_of_methodNamed B.named, fun w hw => atoms_spec (ws := Cond.code yX12_send cX12_send 4 (some .boolean) :: lw_g) B.pre w (List.mem_cons_of_mem _ hw), ⟨Nat.le_refl _, Nat.le_refl _⟩, B.returns, B.notSynchronized⟩
  have hl := lv_entry ([.ref mo, .int v1, .int v2, .int v3]) (n := 4) (Nat.le_of_ble_eq_true rfl)
  rw [lg_entry_eq]
  generalize (lg_sl ([.ref mo, .int v1, .int v2, .int v3]) ++ List.replicate (4 - (lg_sl ([.ref mo, .int v1, .int v2, .int v3])).length) Slot.unset).toArray = ls at hl ⊢
  have hl : lv_has ls 4 [(0, .ref mo), (1, .int v1), (2, .int v2), (3, .int v3)] := hl
  have hS : mS (mA mo ad) s.heap s.heap [] := mS.rf
  unfold fm_send at h
  refine lv_aload_n C.1 C.2.1 dX12_send_0 rfl (lv_at hl 0 rfl) ?_
  refine lv_iconst (v := 0) C.1 C.2.1 dX12_send_1 (by decide) ?_
  refine p_0 C X hW hS dX12_send_2 (fun H locs hW hS => ?_)
  refine lt_ok h (fun S1 e_S1 h => ?_)
  rw [e_S1] at hW
  refine lv_iload_n C.1 C.2.1 dX12_send_5 rfl (lv_at hl 1 rfl) ?_
  refine lv_iconst (v := 0) C.1 C.2.1 dX12_send_6 (by decide) ?_
  refine lv_iconst (v := 3) C.1 C.2.1 dX12_send_7 (by decide) ?_
  obtain ⟨r2, h_r2, h⟩ := bd_ok h
  refine m_callS (rest := []) C hl.1 [.int v1, .int (0 : Int32), .int (3 : Int32)] (tm_within l h_r2) mw_within st_within rfl ⟨by decide, by decide⟩ rfl (Nat.le_of_ble_eq_true rfl) dX12_send_8 ?_
  refine lv_if_eq (tgt := 37) C.1 C.2.1 dX12_send_11 (by decide) (fun c3 => ?_) (fun c3 => ?_)
  · have h := if_t h c3
    exact wm_send_37 C X h hW hS (lv_sub hl [] rfl)
  · have h := if_f h c3
    refine lv_iload_n C.1 C.2.1 dX12_send_14 rfl (lv_at hl 2 rfl) ?_
    refine lv_iconst (v := 0) C.1 C.2.1 dX12_send_15 (by decide) ?_
    refine lv_iconst (v := 3) C.1 C.2.1 dX12_send_16 (by decide) ?_
    obtain ⟨r4, h_r4, h⟩ := bd_ok h
    refine m_callS (rest := []) C hl.1 [.int v2, .int (0 : Int32), .int (3 : Int32)] (tm_within l h_r4) mw_within st_within rfl ⟨by decide, by decide⟩ rfl (Nat.le_of_ble_eq_true rfl) dX12_send_17 ?_
    refine lv_if_eq (tgt := 37) C.1 C.2.1 dX12_send_20 (by decide) (fun c5 => ?_) (fun c5 => ?_)
    · have h := if_t h c5
      exact wm_send_37 C X h hW hS (lv_sub hl [] rfl)
    · have h := if_f h c5
      refine lv_iload_n C.1 C.2.1 dX12_send_23 rfl (lv_at hl 1 rfl) ?_
      refine lv_iload_n C.1 C.2.1 dX12_send_24 rfl (lv_at hl 2 rfl) ?_
      refine lv_icmp_eq (tgt := 37) C.1 C.2.1 dX12_send_25 (by decide) (fun c6 => ?_) (fun c6 => ?_)
      · have h := if_t h c6
        exact wm_send_37 C X h hW hS (lv_sub hl [] rfl)
      · have h := if_f h c6
        refine lv_aload_n C.1 C.2.1 dX12_send_28 rfl (lv_at hl 0 rfl) ?_
        refine gf_42 C X hW dX12_send_29 ?_
        refine lv_bipush (v := 60) C.1 C.2.1 dX12_send_32 (by decide) ?_
        refine lv_icmp_ne (tgt := 39) C.1 C.2.1 dX12_send_34 (by decide) (fun c7 => ?_) (fun c7 => ?_)
        · have h := if_f h c7
          refine lv_aload_n C.1 C.2.1 dX12_send_39 rfl (lv_at hl 0 rfl) ?_
          refine lv_iload_n C.1 C.2.1 dX12_send_40 rfl (lv_at hl 1 rfl) ?_
          refine lv_iload_n C.1 C.2.1 dX12_send_41 rfl (lv_at hl 2 rfl) ?_
          refine lv_iload_n C.1 C.2.1 dX12_send_42 rfl (lv_at hl 3 rfl) ?_
          obtain ⟨S8, h_S8, h⟩ := bd_ok h
          refine m_callW (rest := []) (ov := none) C X hW hS hl.1 [.int v1, .int v2, .int v3] (tm_start l h_S8) mw_start im_start sl_start rfl ⟨by decide, by decide⟩ rfl (Nat.le_of_ble_eq_true rfl) dX12_send_43 (fun H locs hW hS => ?_)
          refine W.eq (g2 := F0 m 46 ls []) rfl ?_
          refine lv_iconst (v := 1) C.1 C.2.1 dX12_send_46 (by decide) ?_
          obtain ⟨hzo, h⟩ := ckz_ok h
          cases h
          exact m_retzW C hzo hW hS dX12_send_47
        · have h := if_t h c7
          exact wm_send_37 C X h hW hS (lv_sub hl [] rfl)
end
theorem dX12_addOctet_0 : decode cX12_addOctet 0 = .ok (.aload_n 0, 1) := by decide +kernel
theorem dX12_addOctet_1 : decode cX12_addOctet 1 = .ok (.getfield 188, 3) := by decide +kernel
theorem dX12_addOctet_4 : decode cX12_addOctet 4 = .ok (.aload_n 0, 1) := by decide +kernel
theorem dX12_addOctet_5 : decode cX12_addOctet 5 = .ok (.getfield 441, 3) := by decide +kernel
theorem dX12_addOctet_8 : decode cX12_addOctet 8 = .ok (.iload_n 1, 1) := by decide +kernel
theorem dX12_addOctet_9 : decode cX12_addOctet 9 = .ok (.sipush 255, 3) := by decide +kernel
theorem dX12_addOctet_12 : decode cX12_addOctet 12 = .ok (.iand, 1) := by decide +kernel
theorem dX12_addOctet_13 : decode cX12_addOctet 13 = .ok (.iastore, 1) := by decide +kernel
theorem dX12_addOctet_14 : decode cX12_addOctet 14 = .ok (.aload_n 0, 1) := by decide +kernel
theorem dX12_addOctet_15 : decode cX12_addOctet 15 = .ok (.dup, 1) := by decide +kernel
theorem dX12_addOctet_16 : decode cX12_addOctet 16 = .ok (.getfield 441, 3) := by decide +kernel
theorem dX12_addOctet_19 : decode cX12_addOctet 19 = .ok (.iconst 1, 1) := by decide +kernel
theorem dX12_addOctet_20 : decode cX12_addOctet 20 = .ok (.iadd, 1) := by decide +kernel
theorem dX12_addOctet_21 : decode cX12_addOctet 21 = .ok (.putfield 441, 3) := by decide +kernel
theorem dX12_addOctet_24 : decode cX12_addOctet 24 = .ok (.return_, 1) := by decide +kernel
theorem cd_addOctet : Cond.code yX12_addOctet cX12_addOctet 2 none ∈ lw_g := mt_at 2243 (by decide +kernel) rfl
theorem mw_addOctet : mCw 450 yX12_addOctet cX12_addOctet 2 none 1 := ⟨cd_addOctet, mt_at 2240 (by decide +kernel) rfl, in_M, by decide +kernel⟩
theorem im_addOctet : Cond.instanceMethod yX12_addOctet ∈ lw_g := mt_at 2242 (by decide +kernel) rfl
theorem sl_addOctet : Cond.selects RX12 yX12_addOctet yX12_addOctet ∈ lw_g := mt_sel 98 (by decide +kernel) rfl
section
variable {p : Program} {l : Launch} {e : Env} {R : Room} {s : State} {m : MethodId} {args : Array Value} {below : List Frame} {meth : Method} {c : Code} {cM : ClassId} {iS : Nat → Nat} {cI cZ : ClassId} {mo : Nat} {ad : Nat → Nat} {r : Int32} {S9 : mSt}
noncomputable def fm_addOctet (S : mSt) (v1 : Int32) : Option (mSt) :=
ck (S.1 74) 640 (lt (wr S 75 (S.1 74) (v1 &&& (255 : Int32))) fun S1 =>
lt (pu S1 74 ((S1.1 74) + (1 : Int32))) fun S2 =>
some S2)
set_option maxRecDepth 100000 in
set_option maxHeartbeats 4000000 in
theorem tm_addOctet (l : Launch) {cM : ClassId} {iS : Nat → Nat} {cI cZ : ClassId} {mo : Nat} {ad : Nat → Nat} {S : mSt} {v1 : Int32} {S9 : mSt} (h : fm_addOctet S v1 = some S9) : Met l yX12_addOctet (Cond.code yX12_addOctet cX12_addOctet 2 none :: lw_g) { frames := 0, cells := 0, slots := 0, locals := 0 } (mPi [.int v1] cM iS cI cZ mo ad S) (mQw none cM iS cI cZ mo ad S9) 0 0 (mA mo ad) := by
  refine Met.ofW (cc := cX12_addOctet) (maxL := 2) (ret := none) (by decide) rfl ?_
  intro p e s m args below meth c s₁ B hml hv
  obtain ⟨rfl, hW, X⟩ := hv
  have C : mY p (headSpec (Cond.code yX12_addOctet cX12_addOctet 2 none :: lw_g) { frames := 0, cells := 0, slots := 0, locals := 0 }).room s m _ meth c cX12_addOctet 2 0 0 none := ⟨B.exec, B.bytes, hml, findClass_of_methodNamed B.named, fun w hw => atoms_spec (ws := Cond.code yX12_addOctet cX12_addOctet 2 none :: lw_g) B.pre w (List.mem_cons_of_mem _ hw), ⟨Nat.le_refl _, Nat.le_refl _⟩, B.returns, B.notSynchronized⟩
  have hl := lv_entry ([.ref mo, .int v1]) (n := 2) (Nat.le_of_ble_eq_true rfl)
  rw [lg_entry_eq]
  generalize (lg_sl ([.ref mo, .int v1]) ++ List.replicate (2 - (lg_sl ([.ref mo, .int v1])).length) Slot.unset).toArray = ls at hl ⊢
  have hl : lv_has ls 2 [(0, .ref mo), (1, .int v1)] := hl
  have hS : mS (mA mo ad) s.heap s.heap [] := mS.rf
  unfold fm_addOctet at h
  refine lv_aload_n C.1 C.2.1 dX12_addOctet_0 rfl (lv_at hl 0 rfl) ?_
  refine gf_75 C X hW dX12_addOctet_1 ?_
  refine lv_aload_n C.1 C.2.1 dX12_addOctet_4 rfl (lv_at hl 0 rfl) ?_
  refine gf_74 C X hW dX12_addOctet_5 ?_
  refine lv_iload_n C.1 C.2.1 dX12_addOctet_8 rfl (lv_at hl 1 rfl) ?_
  refine lv_sipush (v := 255) C.1 C.2.1 dX12_addOctet_9 (by decide) ?_
  refine lv_iand C.1 C.2.1 dX12_addOctet_12 ?_
  obtain ⟨hin, h⟩ := ck_ok h
  refine s_75 C X hW hS hin dX12_addOctet_13 (fun H locs hW hS => ?_)
  refine lt_ok h (fun S1 e_S1 h => ?_)
  rw [e_S1] at hW
  refine lv_aload_n C.1 C.2.1 dX12_addOctet_14 rfl (lv_at hl 0 rfl) ?_
  refine lv_dup C.1 C.2.1 dX12_addOctet_15 rfl ?_
  refine gf_74 C X hW dX12_addOctet_16 ?_
  refine lv_iconst (v := 1) C.1 C.2.1 dX12_addOctet_19 (by decide) ?_
  refine lv_iadd C.1 C.2.1 dX12_addOctet_20 ?_
  refine p_74 C X hW hS dX12_addOctet_21 (fun H locs hW hS => ?_)
  refine lt_ok h (fun S2 e_S2 h => ?_)
  rw [e_S2] at hW
  cases h
  exact m_retvW C hW hS dX12_addOctet_24
end
theorem dX12_number_0 : decode cX12_number 0 = .ok (.iload_n 1, 1) := by decide +kernel
theorem dX12_number_1 : decode cX12_number 1 = .ok (.ifCond .ge 14, 3) := by decide +kernel
theorem dX12_number_4 : decode cX12_number 4 = .ok (.ldc2_w 444, 3) := by decide +kernel
theorem dX12_number_7 : decode cX12_number 7 = .ok (.iload_n 1, 1) := by decide +kernel
theorem dX12_number_8 : decode cX12_number 8 = .ok (.i2l, 1) := by decide +kernel
theorem dX12_number_9 : decode cX12_number 9 = .ok (.lmul, 1) := by decide +kernel
theorem dX12_number_10 : decode cX12_number 10 = .ok (.lconst 1, 1) := by decide +kernel
theorem dX12_number_11 : decode cX12_number 11 = .ok (.lsub, 1) := by decide +kernel
theorem dX12_number_12 : decode cX12_number 12 = .ok (.goto 9, 3) := by decide +kernel
theorem dX12_number_15 : decode cX12_number 15 = .ok (.ldc2_w 446, 3) := by decide +kernel
theorem dX12_number_18 : decode cX12_number 18 = .ok (.iload_n 1, 1) := by decide +kernel
theorem dX12_number_19 : decode cX12_number 19 = .ok (.i2l, 1) := by decide +kernel
theorem dX12_number_20 : decode cX12_number 20 = .ok (.lmul, 1) := by decide +kernel
theorem dX12_number_21 : decode cX12_number 21 = .ok (.lstore_n 2, 1) := by decide +kernel
theorem dX12_number_22 : decode cX12_number 22 = .ok (.lload_n 2, 1) := by decide +kernel
theorem dX12_number_23 : decode cX12_number 23 = .ok (.ldc2_w 448, 3) := by decide +kernel
theorem dX12_number_26 : decode cX12_number 26 = .ok (.lcmp, 1) := by decide +kernel
theorem dX12_number_27 : decode cX12_number 27 = .ok (.ifCond .le 25, 3) := by decide +kernel
theorem dX12_number_30 : decode cX12_number 30 = .ok (.aload_n 0, 1) := by decide +kernel
theorem dX12_number_31 : decode cX12_number 31 = .ok (.lload_n 2, 1) := by decide +kernel
theorem dX12_number_32 : decode cX12_number 32 = .ok (.ldc2_w 448, 3) := by decide +kernel
theorem dX12_number_35 : decode cX12_number 35 = .ok (.land, 1) := by decide +kernel
theorem dX12_number_36 : decode cX12_number 36 = .ok (.l2i, 1) := by decide +kernel
theorem dX12_number_37 : decode cX12_number 37 = .ok (.sipush 128, 3) := by decide +kernel
theorem dX12_number_40 : decode cX12_number 40 = .ok (.ior, 1) := by decide +kernel
theorem dX12_number_41 : decode cX12_number 41 = .ok (.invokevirtual 450, 3) := by decide +kernel
theorem dX12_number_44 : decode cX12_number 44 = .ok (.lload_n 2, 1) := by decide +kernel
theorem dX12_number_45 : decode cX12_number 45 = .ok (.bipush 7, 2) := by decide +kernel
theorem dX12_number_47 : decode cX12_number 47 = .ok (.lshr, 1) := by decide +kernel
theorem dX12_number_48 : decode cX12_number 48 = .ok (.lstore_n 2, 1) := by decide +kernel
theorem dX12_number_49 : decode cX12_number 49 = .ok (.goto (-27), 3) := by decide +kernel
theorem dX12_number_52 : decode cX12_number 52 = .ok (.aload_n 0, 1) := by decide +kernel
theorem dX12_number_53 : decode cX12_number 53 = .ok (.lload_n 2, 1) := by decide +kernel
theorem dX12_number_54 : decode cX12_number 54 = .ok (.l2i, 1) := by decide +kernel
theorem dX12_number_55 : decode cX12_number 55 = .ok (.invokevirtual 450, 3) := by decide +kernel
theorem dX12_number_58 : decode cX12_number 58 = .ok (.return_, 1) := by decide +kernel
theorem cd_number : Cond.code yX12_number cX12_number 4 none ∈ lw_g := mt_at 2247 (by decide +kernel) rfl
theorem mw_number : mCw 453 yX12_number cX12_number 4 none 1 := ⟨cd_number, mt_at 2244 (by decide +kernel) rfl, in_M, by decide +kernel⟩
theorem im_number : Cond.instanceMethod yX12_number ∈ lw_g := mt_at 2246 (by decide +kernel) rfl
theorem sl_number : Cond.selects RX12 yX12_number yX12_number ∈ lw_g := mt_sel 99 (by decide +kernel) rfl
section
variable {p : Program} {l : Launch} {e : Env} {R : Room} {s : State} {m : MethodId} {args : Array Value} {below : List Frame} {meth : Method} {c : Code} {cM : ClassId} {iS : Nat → Nat} {cI cZ : ClassId} {mo : Nat} {ad : Nat → Nat} {r : Int32} {S9 : mSt}
noncomputable def fm_number_22 : Nat → mSt → Int64 → Option (mSt)
  | 0, _, _ => none
  | n + 1, S, v2 =>
    if (lg_cmp v2 (127 : Int64)) ≤ 0 then (
    bd (fm_addOctet S (Int64.toInt32 v2)) fun S2 =>
    some S2)
    else (
    bd (fm_addOctet S ((Int64.toInt32 (v2 &&& (127 : Int64))) ||| (128 : Int32))) fun S3 =>
    lt (v2 >>> (Int32.toInt64 (7 : Int32) &&& 63)) fun x4 =>
    fm_number_22 n S3 x4)
set_option maxRecDepth 100000 in
set_option maxHeartbeats 4000000 in
theorem wm_number_22 (C : mY p R s m args meth c cX12_number 4 1 21 none) (X : mX s cM iS cI cZ mo ad) : ∀ (n : Nat), ∀ {S : mSt} {v2 : Int64} {H : Heap} {locs : List Loc} {ls : Array Slot}, fm_number_22 n S v2 = some S9 → mW cM iS cI cZ mo ad S H → mS (mA mo ad) s.heap H locs → lv_has ls 4 [(0, .ref mo), (2, .long v2)] → W p l e R s m args below meth c H locs 0 0 (MQ below (mQw none cM iS cI cZ mo ad S9) args s 0 0 (mA mo ad)) (F0 m 22 ls []) := by
  intro n
  induction n with
  | zero =>
    intro S v2 H locs ls h hW hS hl
    exact absurd (show (none : Option (mSt)) = _ from h) (fun q => by cases q)
  | succ n ih =>
    intro S v2 H locs ls h hW hS hl
    rw [fm_number_22] at h
    refine lv_lload_n C.1 C.2.1 dX12_number_22 rfl (lv_at hl 1 rfl) ?_
    refine lv_ldc2 (own := RX12) (v := 127) C.1 C.2.1 C.2.2.2.1 (C.2.2.2.2.1 _ kl_448) dX12_number_23 ?_
    refine W.lcmp C.1 C.2.1 dX12_number_26 ?_
    refine lv_if_le (tgt := 52) C.1 C.2.1 dX12_number_27 (by decide) (fun c1 => ?_) (fun c1 => ?_)
    · have h := if_t h c1
      refine lv_aload_n C.1 C.2.1 dX12_number_52 rfl (lv_at hl 0 rfl) ?_
      refine lv_lload_n C.1 C.2.1 dX12_number_53 rfl (lv_at hl 1 rfl) ?_
      refine lv_l2i (v := Int64.toInt32 v2) C.1 C.2.1 dX12_number_54 rfl ?_
      obtain ⟨S2, h_S2, h⟩ := bd_ok h
      refine m_callW (rest := []) (ov := none) C X hW hS hl.1 [.int (Int64.toInt32 v2)] (tm_addOctet l h_S2) mw_addOctet im_addOctet sl_addOctet rfl ⟨by decide, by decide⟩ rfl (Nat.le_of_ble_eq_true rfl) dX12_number_55 (fun H locs hW hS => ?_)
      refine W.eq (g2 := F0 m 58 ls []) rfl ?_
      cases h
      exact m_retvW C hW hS dX12_number_58
    · have h := if_f h c1
      refine lv_aload_n C.1 C.2.1 dX12_number_30 rfl (lv_at hl 0 rfl) ?_
      refine lv_lload_n C.1 C.2.1 dX12_number_31 rfl (lv_at hl 1 rfl) ?_
      refine lv_ldc2 (own := RX12) (v := 127) C.1 C.2.1 C.2.2.2.1 (C.2.2.2.2.1 _ kl_448) dX12_number_32 ?_
      refine lv_land C.1 C.2.1 dX12_number_35 ?_
      refine lv_l2i (v := Int64.toInt32 (v2 &&& (127 : Int64))) C.1 C.2.1 dX12_number_36 rfl ?_
      refine lv_sipush (v := 128) C.1 C.2.1 dX12_number_37 (by decide) ?_
      refine lv_ior C.1 C.2.1 dX12_number_40 ?_
      obtain ⟨S3, h_S3, h⟩ := bd_ok h
      refine m_callW (rest := []) (ov := none) C X hW hS hl.1 [.int ((Int64.toInt32 (v2 &&& (127 : Int64))) ||| (128 : Int32))] (tm_addOctet l h_S3) mw_addOctet im_addOctet sl_addOctet rfl ⟨by decide, by decide⟩ rfl (Nat.le_of_ble_eq_true rfl) dX12_number_41 (fun H locs hW hS => ?_)
      refine W.eq (g2 := F0 m 44 ls []) rfl ?_
      refine lv_lload_n C.1 C.2.1 dX12_number_44 rfl (lv_at hl 1 rfl) ?_
      refine lv_bipush (v := 7) C.1 C.2.1 dX12_number_45 (by decide) ?_
      refine lv_lshr (v := v2 >>> (Int32.toInt64 (7 : Int32) &&& 63)) C.1 C.2.1 dX12_number_47 rfl ?_
      refine lt_ok h (fun x4 e_x4 h => ?_)
      refine lv_nml e_x4 ?_
      refine lv_lstore_n (lv' := [(2, .long x4), (0, .ref mo)]) C.1 C.2.1 dX12_number_48 rfl hl (by decide) rfl (fun ls hl => ?_)
      refine lv_goto (tgt := 22) C.1 C.2.1 dX12_number_49 (by decide) ?_
      exact ih h hW hS (lv_sub hl [1, 0] rfl)
noncomputable def fm_number_21 (S : mSt) (s0 : Int64) : Option (mSt) :=
fm_number_22 mFU S s0
set_option maxRecDepth 100000 in
set_option maxHeartbeats 4000000 in
theorem wm_number_21 (C : mY p R s m args meth c cX12_number 4 1 21 none) (X : mX s cM iS cI cZ mo ad) : ∀ {S : mSt} {s0 : Int64} {H : Heap} {locs : List Loc} {ls : Array Slot}, fm_number_21 S s0 = some S9 → mW cM iS cI cZ mo ad S H → mS (mA mo ad) s.heap H locs → lv_has ls 4 [(0, .ref mo)] → W p l e R s m args below meth c H locs 0 0 (MQ below (mQw none cM iS cI cZ mo ad S9) args s 0 0 (mA mo ad)) (F0 m 21 ls [.long s0]) := by
  intro S s0 H locs ls h hW hS hl
  unfold fm_number_21 at h
  refine lv_lstore_n (lv' := [(2, .long s0), (0, .ref mo)]) C.1 C.2.1 dX12_number_21 rfl hl (by decide) rfl (fun ls hl => ?_)
  exact wm_number_22 C X mFU h hW hS (lv_sub hl [1, 0] rfl)
noncomputable def fm_number (S : mSt) (v1 : Int32) : Option (mSt) :=
if 0 ≤ v1 then (
fm_number_21 S ((2 : Int64) * (Int32.toInt64 v1)))
else (
fm_number_21 S (((-2 : Int64) * (Int32.toInt64 v1)) - (1 : Int64)))
set_option maxRecDepth 100000 in
set_option maxHeartbeats 4000000 in
theorem tm_number (l : Launch) {cM : ClassId} {iS : Nat → Nat} {cI cZ : ClassId} {mo : Nat} {ad : Nat → Nat} {S : mSt} {v1 : Int32} {S9 : mSt} (h : fm_number S v1 = some S9) : Met l yX12_number (Cond.code yX12_number cX12_number 4 none :: lw_g) { frames := 1, cells := 0, slots := 0, locals := 21 } (mPi [.int v1] cM iS cI cZ mo ad S) (mQw none cM iS cI cZ mo ad S9) 0 0 (mA mo ad) := by
  refine Met.ofW (cc := cX12_number) (maxL := 4) (ret := none) (by decide) rfl ?_
  intro p e s m args below meth c s₁ B hml hv
  obtain ⟨rfl, hW, X⟩ := hv
  have C : mY p (headSpec (Cond.code yX12_number cX12_number 4 none :: lw_g) { frames := 1, cells := 0, slots := 0, locals := 21 }).room s m _ meth c cX12_number 4 1 21 none := ⟨B.exec, B.bytes, hml, findClass_of_methodNamed B.named, fun w hw => atoms_spec (ws := Cond.code yX12_number cX12_number 4 none :: lw_g) B.pre w (List.mem_cons_of_mem _ hw), ⟨Nat.le_refl _, Nat.le_refl _⟩, B.returns, B.notSynchronized⟩
  have hl := lv_entry ([.ref mo, .int v1]) (n := 4) (Nat.le_of_ble_eq_true rfl)
  rw [lg_entry_eq]
  generalize (lg_sl ([.ref mo, .int v1]) ++ List.replicate (4 - (lg_sl ([.ref mo, .int v1])).length) Slot.unset).toArray = ls at hl ⊢
  have hl : lv_has ls 4 [(0, .ref mo), (1, .int v1)] := hl
  have hS : mS (mA mo ad) s.heap s.heap [] := mS.rf
  unfold fm_number at h
  refine lv_iload_n C.1 C.2.1 dX12_number_0 rfl (lv_at hl 1 rfl) ?_
  refine lv_if_ge (tgt := 15) C.1 C.2.1 dX12_number_1 (by decide) (fun c1 => ?_) (fun c1 => ?_)
  · have h := if_t h c1
    refine lv_ldc2 (own := RX12) (v := 2) C.1 C.2.1 C.2.2.2.1 (C.2.2.2.2.1 _ kl_446) dX12_number_15 ?_
    refine lv_iload_n C.1 C.2.1 dX12_number_18 rfl (lv_at hl 1 rfl) ?_
    refine lv_i2l (v := Int32.toInt64 v1) C.1 C.2.1 dX12_number_19 rfl ?_
    refine lv_lmul C.1 C.2.1 dX12_number_20 ?_
    exact wm_number_21 C X h hW hS (lv_sub hl [0] rfl)
  · have h := if_f h c1
    refine lv_ldc2 (own := RX12) (v := -2) C.1 C.2.1 C.2.2.2.1 (C.2.2.2.2.1 _ kl_444) dX12_number_4 ?_
    refine lv_iload_n C.1 C.2.1 dX12_number_7 rfl (lv_at hl 1 rfl) ?_
    refine lv_i2l (v := Int32.toInt64 v1) C.1 C.2.1 dX12_number_8 rfl ?_
    refine lv_lmul C.1 C.2.1 dX12_number_9 ?_
    refine lv_lconst (v := 1) C.1 C.2.1 dX12_number_10 (by decide) ?_
    refine lv_lsub C.1 C.2.1 dX12_number_11 ?_
    refine lv_goto (tgt := 21) C.1 C.2.1 dX12_number_12 (by decide) ?_
    exact wm_number_21 C X h hW hS (lv_sub hl [0] rfl)
end
theorem dX12_writeRow_0 : decode cX12_writeRow 0 = .ok (.aload_n 0, 1) := by decide +kernel
theorem dX12_writeRow_1 : decode cX12_writeRow 1 = .ok (.bipush 32, 2) := by decide +kernel
theorem dX12_writeRow_3 : decode cX12_writeRow 3 = .ok (.iload_n 1, 1) := by decide +kernel
theorem dX12_writeRow_4 : decode cX12_writeRow 4 = .ok (.invokestatic 219, 3) := by decide +kernel
theorem dX12_writeRow_7 : decode cX12_writeRow 7 = .ok (.imul, 1) := by decide +kernel
theorem dX12_writeRow_8 : decode cX12_writeRow 8 = .ok (.aload_n 0, 1) := by decide +kernel
theorem dX12_writeRow_9 : decode cX12_writeRow 9 = .ok (.getfield 29, 3) := by decide +kernel
theorem dX12_writeRow_12 : decode cX12_writeRow 12 = .ok (.iload_n 1, 1) := by decide +kernel
theorem dX12_writeRow_13 : decode cX12_writeRow 13 = .ok (.iaload, 1) := by decide +kernel
theorem dX12_writeRow_14 : decode cX12_writeRow 14 = .ok (.iadd, 1) := by decide +kernel
theorem dX12_writeRow_15 : decode cX12_writeRow 15 = .ok (.invokevirtual 450, 3) := by decide +kernel
theorem dX12_writeRow_18 : decode cX12_writeRow 18 = .ok (.aload_n 0, 1) := by decide +kernel
theorem dX12_writeRow_19 : decode cX12_writeRow 19 = .ok (.iload_n 1, 1) := by decide +kernel
theorem dX12_writeRow_20 : decode cX12_writeRow 20 = .ok (.invokestatic 223, 3) := by decide +kernel
theorem dX12_writeRow_23 : decode cX12_writeRow 23 = .ok (.invokevirtual 453, 3) := by decide +kernel
theorem dX12_writeRow_26 : decode cX12_writeRow 26 = .ok (.aload_n 0, 1) := by decide +kernel
theorem dX12_writeRow_27 : decode cX12_writeRow 27 = .ok (.aload_n 0, 1) := by decide +kernel
theorem dX12_writeRow_28 : decode cX12_writeRow 28 = .ok (.getfield 32, 3) := by decide +kernel
theorem dX12_writeRow_31 : decode cX12_writeRow 31 = .ok (.iload_n 1, 1) := by decide +kernel
theorem dX12_writeRow_32 : decode cX12_writeRow 32 = .ok (.iaload, 1) := by decide +kernel
theorem dX12_writeRow_33 : decode cX12_writeRow 33 = .ok (.invokevirtual 453, 3) := by decide +kernel
theorem dX12_writeRow_36 : decode cX12_writeRow 36 = .ok (.aload_n 0, 1) := by decide +kernel
theorem dX12_writeRow_37 : decode cX12_writeRow 37 = .ok (.aload_n 0, 1) := by decide +kernel
theorem dX12_writeRow_38 : decode cX12_writeRow 38 = .ok (.getfield 35, 3) := by decide +kernel
theorem dX12_writeRow_41 : decode cX12_writeRow 41 = .ok (.iload_n 1, 1) := by decide +kernel
theorem dX12_writeRow_42 : decode cX12_writeRow 42 = .ok (.iaload, 1) := by decide +kernel
theorem dX12_writeRow_43 : decode cX12_writeRow 43 = .ok (.invokevirtual 453, 3) := by decide +kernel
theorem dX12_writeRow_46 : decode cX12_writeRow 46 = .ok (.aload_n 0, 1) := by decide +kernel
theorem dX12_writeRow_47 : decode cX12_writeRow 47 = .ok (.aload_n 0, 1) := by decide +kernel
theorem dX12_writeRow_48 : decode cX12_writeRow 48 = .ok (.getfield 38, 3) := by decide +kernel
theorem dX12_writeRow_51 : decode cX12_writeRow 51 = .ok (.iload_n 1, 1) := by decide +kernel
theorem dX12_writeRow_52 : decode cX12_writeRow 52 = .ok (.iaload, 1) := by decide +kernel
theorem dX12_writeRow_53 : decode cX12_writeRow 53 = .ok (.invokevirtual 453, 3) := by decide +kernel
theorem dX12_writeRow_56 : decode cX12_writeRow 56 = .ok (.aload_n 0, 1) := by decide +kernel
theorem dX12_writeRow_57 : decode cX12_writeRow 57 = .ok (.aload_n 0, 1) := by decide +kernel
theorem dX12_writeRow_58 : decode cX12_writeRow 58 = .ok (.getfield 41, 3) := by decide +kernel
theorem dX12_writeRow_61 : decode cX12_writeRow 61 = .ok (.iload_n 1, 1) := by decide +kernel
theorem dX12_writeRow_62 : decode cX12_writeRow 62 = .ok (.iaload, 1) := by decide +kernel
theorem dX12_writeRow_63 : decode cX12_writeRow 63 = .ok (.invokevirtual 453, 3) := by decide +kernel
theorem dX12_writeRow_66 : decode cX12_writeRow 66 = .ok (.aload_n 0, 1) := by decide +kernel
theorem dX12_writeRow_67 : decode cX12_writeRow 67 = .ok (.aload_n 0, 1) := by decide +kernel
theorem dX12_writeRow_68 : decode cX12_writeRow 68 = .ok (.getfield 44, 3) := by decide +kernel
theorem dX12_writeRow_71 : decode cX12_writeRow 71 = .ok (.iload_n 1, 1) := by decide +kernel
theorem dX12_writeRow_72 : decode cX12_writeRow 72 = .ok (.iaload, 1) := by decide +kernel
theorem dX12_writeRow_73 : decode cX12_writeRow 73 = .ok (.invokevirtual 453, 3) := by decide +kernel
theorem dX12_writeRow_76 : decode cX12_writeRow 76 = .ok (.aload_n 0, 1) := by decide +kernel
theorem dX12_writeRow_77 : decode cX12_writeRow 77 = .ok (.aload_n 0, 1) := by decide +kernel
theorem dX12_writeRow_78 : decode cX12_writeRow 78 = .ok (.getfield 47, 3) := by decide +kernel
theorem dX12_writeRow_81 : decode cX12_writeRow 81 = .ok (.iload_n 1, 1) := by decide +kernel
theorem dX12_writeRow_82 : decode cX12_writeRow 82 = .ok (.iaload, 1) := by decide +kernel
theorem dX12_writeRow_83 : decode cX12_writeRow 83 = .ok (.invokevirtual 453, 3) := by decide +kernel
theorem dX12_writeRow_86 : decode cX12_writeRow 86 = .ok (.iconst 0, 1) := by decide +kernel
theorem dX12_writeRow_87 : decode cX12_writeRow 87 = .ok (.istore_n 2, 1) := by decide +kernel
theorem dX12_writeRow_88 : decode cX12_writeRow 88 = .ok (.iload_n 2, 1) := by decide +kernel
theorem dX12_writeRow_89 : decode cX12_writeRow 89 = .ok (.iconst 4, 1) := by decide +kernel
theorem dX12_writeRow_90 : decode cX12_writeRow 90 = .ok (.if_icmp .ge 23, 3) := by decide +kernel
theorem dX12_writeRow_93 : decode cX12_writeRow 93 = .ok (.aload_n 0, 1) := by decide +kernel
theorem dX12_writeRow_94 : decode cX12_writeRow 94 = .ok (.aload_n 0, 1) := by decide +kernel
theorem dX12_writeRow_95 : decode cX12_writeRow 95 = .ok (.getfield 50, 3) := by decide +kernel
theorem dX12_writeRow_98 : decode cX12_writeRow 98 = .ok (.iconst 4, 1) := by decide +kernel
theorem dX12_writeRow_99 : decode cX12_writeRow 99 = .ok (.iload_n 1, 1) := by decide +kernel
theorem dX12_writeRow_100 : decode cX12_writeRow 100 = .ok (.imul, 1) := by decide +kernel
theorem dX12_writeRow_101 : decode cX12_writeRow 101 = .ok (.iload_n 2, 1) := by decide +kernel
theorem dX12_writeRow_102 : decode cX12_writeRow 102 = .ok (.iadd, 1) := by decide +kernel
theorem dX12_writeRow_103 : decode cX12_writeRow 103 = .ok (.iaload, 1) := by decide +kernel
theorem dX12_writeRow_104 : decode cX12_writeRow 104 = .ok (.invokevirtual 453, 3) := by decide +kernel
theorem dX12_writeRow_107 : decode cX12_writeRow 107 = .ok (.iinc 2 1, 3) := by decide +kernel
theorem dX12_writeRow_110 : decode cX12_writeRow 110 = .ok (.goto (-22), 3) := by decide +kernel
theorem dX12_writeRow_113 : decode cX12_writeRow 113 = .ok (.return_, 1) := by decide +kernel
theorem cd_writeRow : Cond.code yX12_writeRow cX12_writeRow 3 none ∈ lw_g := mt_at 2254 (by decide +kernel) rfl
theorem mw_writeRow : mCw 456 yX12_writeRow cX12_writeRow 3 none 1 := ⟨cd_writeRow, mt_at 2251 (by decide +kernel) rfl, in_M, by decide +kernel⟩
theorem im_writeRow : Cond.instanceMethod yX12_writeRow ∈ lw_g := mt_at 2253 (by decide +kernel) rfl
theorem sl_writeRow : Cond.selects RX12 yX12_writeRow yX12_writeRow ∈ lw_g := mt_sel 100 (by decide +kernel) rfl
section
variable {p : Program} {l : Launch} {e : Env} {R : Room} {s : State} {m : MethodId} {args : Array Value} {below : List Frame} {meth : Method} {c : Code} {cM : ClassId} {iS : Nat → Nat} {cI cZ : ClassId} {mo : Nat} {ad : Nat → Nat} {r : Int32} {S9 : mSt}
noncomputable def fm_writeRow_88 : Nat → mSt → Int32 → Int32 → Option (mSt)
  | 0, _, _, _ => none
  | n + 1, S, v1, v2 =>
    if (4 : Int32) ≤ v2 then (
    some S)
    else (
    ck (((4 : Int32) * v1) + v2) 4000 (
    bd (fm_number S (rd S 16 (((4 : Int32) * v1) + v2))) fun S2 =>
    lt (v2 + (1 : Int32)) fun x3 =>
    fm_writeRow_88 n S2 v1 x3))
set_option maxRecDepth 100000 in
set_option maxHeartbeats 4000000 in
theorem wm_writeRow_88 (C : mY p R s m args meth c cX12_writeRow 3 2 44 none) (X : mX s cM iS cI cZ mo ad) : ∀ (n : Nat), ∀ {S : mSt} {v1 : Int32} {v2 : Int32} {H : Heap} {locs : List Loc} {ls : Array Slot}, fm_writeRow_88 n S v1 v2 = some S9 → mW cM iS cI cZ mo ad S H → mS (mA mo ad) s.heap H locs → lv_has ls 3 [(0, .ref mo), (1, .int v1), (2, .int v2)] → W p l e R s m args below meth c H locs 0 0 (MQ below (mQw none cM iS cI cZ mo ad S9) args s 0 0 (mA mo ad)) (F0 m 88 ls []) := by
  intro n
  induction n with
  | zero =>
    intro S v1 v2 H locs ls h hW hS hl
    exact absurd (show (none : Option (mSt)) = _ from h) (fun q => by cases q)
  | succ n ih =>
    intro S v1 v2 H locs ls h hW hS hl
    rw [fm_writeRow_88] at h
    refine lv_iload_n C.1 C.2.1 dX12_writeRow_88 rfl (lv_at hl 2 rfl) ?_
    refine lv_iconst (v := 4) C.1 C.2.1 dX12_writeRow_89 (by decide) ?_
    refine lv_icmp_ge (tgt := 113) C.1 C.2.1 dX12_writeRow_90 (by decide) (fun c1 => ?_) (fun c1 => ?_)
    · have h := if_t h c1
      cases h
      exact m_retvW C hW hS dX12_writeRow_113
    · have h := if_f h c1
      refine lv_aload_n C.1 C.2.1 dX12_writeRow_93 rfl (lv_at hl 0 rfl) ?_
      refine lv_aload_n C.1 C.2.1 dX12_writeRow_94 rfl (lv_at hl 0 rfl) ?_
      refine gf_16 C X hW dX12_writeRow_95 ?_
      refine lv_iconst (v := 4) C.1 C.2.1 dX12_writeRow_98 (by decide) ?_
      refine lv_iload_n C.1 C.2.1 dX12_writeRow_99 rfl (lv_at hl 1 rfl) ?_
      refine lv_imul C.1 C.2.1 dX12_writeRow_100 ?_
      refine lv_iload_n C.1 C.2.1 dX12_writeRow_101 rfl (lv_at hl 2 rfl) ?_
      refine lv_iadd C.1 C.2.1 dX12_writeRow_102 ?_
      obtain ⟨hin, h⟩ := ck_ok h
      refine l_16 C X hW hin dX12_writeRow_103 ?_
      obtain ⟨S2, h_S2, h⟩ := bd_ok h
      refine m_callW (rest := []) (ov := none) C X hW hS hl.1 [.int (rd S 16 (((4 : Int32) * v1) + v2))] (tm_number l h_S2) mw_number im_number sl_number rfl ⟨by decide, by decide⟩ rfl (Nat.le_of_ble_eq_true rfl) dX12_writeRow_104 (fun H locs hW hS => ?_)
      refine W.eq (g2 := F0 m 107 ls []) rfl ?_
      refine lt_ok h (fun x3 e_x3 h => ?_)
      refine lv_iinc (v := x3) (lv' := [(2, .int x3), (0, .ref mo), (1, .int v1)]) C.1 C.2.1 dX12_writeRow_107 hl (k := 2) rfl (by rw [← e_x3]; rfl) (by decide) rfl (fun ls hl => ?_)
      refine lv_goto (tgt := 88) C.1 C.2.1 dX12_writeRow_110 (by decide) ?_
      exact ih h hW hS (lv_sub hl [1, 2, 0] rfl)
noncomputable def fm_writeRow (S : mSt) (v1 : Int32) : Option (mSt) :=
bd (fm_nodeOf v1) fun r1 =>
ck v1 1000 (
bd (fm_addOctet S (((32 : Int32) * r1) + (rd S 9 v1))) fun S2 =>
bd (fm_numberOf v1) fun r3 =>
bd (fm_number S2 r3) fun S4 =>
ck v1 1000 (
bd (fm_number S4 (rd S4 10 v1)) fun S5 =>
ck v1 1000 (
bd (fm_number S5 (rd S5 11 v1)) fun S6 =>
ck v1 1000 (
bd (fm_number S6 (rd S6 12 v1)) fun S7 =>
ck v1 1000 (
bd (fm_number S7 (rd S7 13 v1)) fun S8 =>
ck v1 1000 (
bd (fm_number S8 (rd S8 14 v1)) fun S9 =>
ck v1 1000 (
bd (fm_number S9 (rd S9 15 v1)) fun S10 =>
fm_writeRow_88 mFU S10 v1 (0 : Int32))))))))
set_option maxRecDepth 100000 in
set_option maxHeartbeats 4000000 in
theorem tm_writeRow (l : Launch) {cM : ClassId} {iS : Nat → Nat} {cI cZ : ClassId} {mo : Nat} {ad : Nat → Nat} {S : mSt} {v1 : Int32} {S9 : mSt} (h : fm_writeRow S v1 = some S9) : Met l yX12_writeRow (Cond.code yX12_writeRow cX12_writeRow 3 none :: lw_g) { frames := 2, cells := 0, slots := 0, locals := 44 } (mPi [.int v1] cM iS cI cZ mo ad S) (mQw none cM iS cI cZ mo ad S9) 0 0 (mA mo ad) := by
  refine Met.ofW (cc := cX12_writeRow) (maxL := 3) (ret := none) (by decide) rfl ?_
  intro p e s m args below meth c s₁ B hml hv
  obtain ⟨rfl, hW, X⟩ := hv
  have C : mY p (headSpec (Cond.code yX12_writeRow cX12_writeRow 3 none :: lw_g) { frames := 2, cells := 0, slots := 0, locals := 44 }).room s m _ meth c cX12_writeRow 3 2 44 none := ⟨B.exec, B.bytes, hml, findClass_of_methodNamed B.named, fun w hw => atoms_spec (ws := Cond.code yX12_writeRow cX12_writeRow 3 none :: lw_g) B.pre w (List.mem_cons_of_mem _ hw), ⟨Nat.le_refl _, Nat.le_refl _⟩, B.returns, B.notSynchronized⟩
  have hl := lv_entry ([.ref mo, .int v1]) (n := 3) (Nat.le_of_ble_eq_true rfl)
  rw [lg_entry_eq]
  generalize (lg_sl ([.ref mo, .int v1]) ++ List.replicate (3 - (lg_sl ([.ref mo, .int v1])).length) Slot.unset).toArray = ls at hl ⊢
  have hl : lv_has ls 3 [(0, .ref mo), (1, .int v1)] := hl
  have hS : mS (mA mo ad) s.heap s.heap [] := mS.rf
  unfold fm_writeRow at h
  refine lv_aload_n C.1 C.2.1 dX12_writeRow_0 rfl (lv_at hl 0 rfl) ?_
  refine lv_bipush (v := 32) C.1 C.2.1 dX12_writeRow_1 (by decide) ?_
  refine lv_iload_n C.1 C.2.1 dX12_writeRow_3 rfl (lv_at hl 1 rfl) ?_
  obtain ⟨r1, h_r1, h⟩ := bd_ok h
  refine m_callS (rest := [.int (32 : Int32), .ref mo]) C hl.1 [.int v1] (tm_nodeOf l h_r1) mw_nodeOf st_nodeOf rfl ⟨by decide, by decide⟩ rfl (Nat.le_of_ble_eq_true rfl) dX12_writeRow_4 ?_
  refine lv_imul C.1 C.2.1 dX12_writeRow_7 ?_
  refine lv_aload_n C.1 C.2.1 dX12_writeRow_8 rfl (lv_at hl 0 rfl) ?_
  refine gf_9 C X hW dX12_writeRow_9 ?_
  refine lv_iload_n C.1 C.2.1 dX12_writeRow_12 rfl (lv_at hl 1 rfl) ?_
  obtain ⟨hin, h⟩ := ck_ok h
  refine l_9 C X hW hin dX12_writeRow_13 ?_
  refine lv_iadd C.1 C.2.1 dX12_writeRow_14 ?_
  obtain ⟨S2, h_S2, h⟩ := bd_ok h
  refine m_callW (rest := []) (ov := none) C X hW hS hl.1 [.int (((32 : Int32) * r1) + (rd S 9 v1))] (tm_addOctet l h_S2) mw_addOctet im_addOctet sl_addOctet rfl ⟨by decide, by decide⟩ rfl (Nat.le_of_ble_eq_true rfl) dX12_writeRow_15 (fun H locs hW hS => ?_)
  refine W.eq (g2 := F0 m 18 ls []) rfl ?_
  refine lv_aload_n C.1 C.2.1 dX12_writeRow_18 rfl (lv_at hl 0 rfl) ?_
  refine lv_iload_n C.1 C.2.1 dX12_writeRow_19 rfl (lv_at hl 1 rfl) ?_
  obtain ⟨r3, h_r3, h⟩ := bd_ok h
  refine m_callS (rest := [.ref mo]) C hl.1 [.int v1] (tm_numberOf l h_r3) mw_numberOf st_numberOf rfl ⟨by decide, by decide⟩ rfl (Nat.le_of_ble_eq_true rfl) dX12_writeRow_20 ?_
  obtain ⟨S4, h_S4, h⟩ := bd_ok h
  refine m_callW (rest := []) (ov := none) C X hW hS hl.1 [.int r3] (tm_number l h_S4) mw_number im_number sl_number rfl ⟨by decide, by decide⟩ rfl (Nat.le_of_ble_eq_true rfl) dX12_writeRow_23 (fun H locs hW hS => ?_)
  refine W.eq (g2 := F0 m 26 ls []) rfl ?_
  refine lv_aload_n C.1 C.2.1 dX12_writeRow_26 rfl (lv_at hl 0 rfl) ?_
  refine lv_aload_n C.1 C.2.1 dX12_writeRow_27 rfl (lv_at hl 0 rfl) ?_
  refine gf_10 C X hW dX12_writeRow_28 ?_
  refine lv_iload_n C.1 C.2.1 dX12_writeRow_31 rfl (lv_at hl 1 rfl) ?_
  obtain ⟨hin, h⟩ := ck_ok h
  refine l_10 C X hW hin dX12_writeRow_32 ?_
  obtain ⟨S5, h_S5, h⟩ := bd_ok h
  refine m_callW (rest := []) (ov := none) C X hW hS hl.1 [.int (rd S4 10 v1)] (tm_number l h_S5) mw_number im_number sl_number rfl ⟨by decide, by decide⟩ rfl (Nat.le_of_ble_eq_true rfl) dX12_writeRow_33 (fun H locs hW hS => ?_)
  refine W.eq (g2 := F0 m 36 ls []) rfl ?_
  refine lv_aload_n C.1 C.2.1 dX12_writeRow_36 rfl (lv_at hl 0 rfl) ?_
  refine lv_aload_n C.1 C.2.1 dX12_writeRow_37 rfl (lv_at hl 0 rfl) ?_
  refine gf_11 C X hW dX12_writeRow_38 ?_
  refine lv_iload_n C.1 C.2.1 dX12_writeRow_41 rfl (lv_at hl 1 rfl) ?_
  obtain ⟨hin, h⟩ := ck_ok h
  refine l_11 C X hW hin dX12_writeRow_42 ?_
  obtain ⟨S6, h_S6, h⟩ := bd_ok h
  refine m_callW (rest := []) (ov := none) C X hW hS hl.1 [.int (rd S5 11 v1)] (tm_number l h_S6) mw_number im_number sl_number rfl ⟨by decide, by decide⟩ rfl (Nat.le_of_ble_eq_true rfl) dX12_writeRow_43 (fun H locs hW hS => ?_)
  refine W.eq (g2 := F0 m 46 ls []) rfl ?_
  refine lv_aload_n C.1 C.2.1 dX12_writeRow_46 rfl (lv_at hl 0 rfl) ?_
  refine lv_aload_n C.1 C.2.1 dX12_writeRow_47 rfl (lv_at hl 0 rfl) ?_
  refine gf_12 C X hW dX12_writeRow_48 ?_
  refine lv_iload_n C.1 C.2.1 dX12_writeRow_51 rfl (lv_at hl 1 rfl) ?_
  obtain ⟨hin, h⟩ := ck_ok h
  refine l_12 C X hW hin dX12_writeRow_52 ?_
  obtain ⟨S7, h_S7, h⟩ := bd_ok h
  refine m_callW (rest := []) (ov := none) C X hW hS hl.1 [.int (rd S6 12 v1)] (tm_number l h_S7) mw_number im_number sl_number rfl ⟨by decide, by decide⟩ rfl (Nat.le_of_ble_eq_true rfl) dX12_writeRow_53 (fun H locs hW hS => ?_)
  refine W.eq (g2 := F0 m 56 ls []) rfl ?_
  refine lv_aload_n C.1 C.2.1 dX12_writeRow_56 rfl (lv_at hl 0 rfl) ?_
  refine lv_aload_n C.1 C.2.1 dX12_writeRow_57 rfl (lv_at hl 0 rfl) ?_
  refine gf_13 C X hW dX12_writeRow_58 ?_
  refine lv_iload_n C.1 C.2.1 dX12_writeRow_61 rfl (lv_at hl 1 rfl) ?_
  obtain ⟨hin, h⟩ := ck_ok h
  refine l_13 C X hW hin dX12_writeRow_62 ?_
  obtain ⟨S8, h_S8, h⟩ := bd_ok h
  refine m_callW (rest := []) (ov := none) C X hW hS hl.1 [.int (rd S7 13 v1)] (tm_number l h_S8) mw_number im_number sl_number rfl ⟨by decide, by decide⟩ rfl (Nat.le_of_ble_eq_true rfl) dX12_writeRow_63 (fun H locs hW hS => ?_)
  refine W.eq (g2 := F0 m 66 ls []) rfl ?_
  refine lv_aload_n C.1 C.2.1 dX12_writeRow_66 rfl (lv_at hl 0 rfl) ?_
  refine lv_aload_n C.1 C.2.1 dX12_writeRow_67 rfl (lv_at hl 0 rfl) ?_
  refine gf_14 C X hW dX12_writeRow_68 ?_
  refine lv_iload_n C.1 C.2.1 dX12_writeRow_71 rfl (lv_at hl 1 rfl) ?_
  obtain ⟨hin, h⟩ := ck_ok h
  refine l_14 C X hW hin dX12_writeRow_72 ?_
  obtain ⟨S9, h_S9, h⟩ := bd_ok h
  refine m_callW (rest := []) (ov := none) C X hW hS hl.1 [.int (rd S8 14 v1)] (tm_number l h_S9) mw_number im_number sl_number rfl ⟨by decide, by decide⟩ rfl (Nat.le_of_ble_eq_true rfl) dX12_writeRow_73 (fun H locs hW hS => ?_)
  refine W.eq (g2 := F0 m 76 ls []) rfl ?_
  refine lv_aload_n C.1 C.2.1 dX12_writeRow_76 rfl (lv_at hl 0 rfl) ?_
  refine lv_aload_n C.1 C.2.1 dX12_writeRow_77 rfl (lv_at hl 0 rfl) ?_
  refine gf_15 C X hW dX12_writeRow_78 ?_
  refine lv_iload_n C.1 C.2.1 dX12_writeRow_81 rfl (lv_at hl 1 rfl) ?_
  obtain ⟨hin, h⟩ := ck_ok h
  refine l_15 C X hW hin dX12_writeRow_82 ?_
  obtain ⟨S10, h_S10, h⟩ := bd_ok h
  refine m_callW (rest := []) (ov := none) C X hW hS hl.1 [.int (rd S9 15 v1)] (tm_number l h_S10) mw_number im_number sl_number rfl ⟨by decide, by decide⟩ rfl (Nat.le_of_ble_eq_true rfl) dX12_writeRow_83 (fun H locs hW hS => ?_)
  refine W.eq (g2 := F0 m 86 ls []) rfl ?_
  refine lv_iconst (v := 0) C.1 C.2.1 dX12_writeRow_86 (by decide) ?_
  refine lv_istore_n (lv' := [(2, .int (0 : Int32)), (0, .ref mo), (1, .int v1)]) C.1 C.2.1 dX12_writeRow_87 rfl hl (by decide) rfl (fun ls hl => ?_)
  exact wm_writeRow_88 C X mFU h hW hS (lv_sub hl [1, 2, 0] rfl)
end
