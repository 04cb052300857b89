-- made by wip/whole/walk.py: the reference's text, look, findObjects, placeOf, isRing, findParents, parentOf
theorem dX12_text_0 : decode cX12_text 0 = .ok (.iconst 0, 1) := by decide +kernel
theorem dX12_text_1 : decode cX12_text 1 = .ok (.istore 5, 2) := by decide +kernel
theorem dX12_text_3 : decode cX12_text 3 = .ok (.iload 5, 2) := by decide +kernel
theorem dX12_text_5 : decode cX12_text 5 = .ok (.iload_n 2, 1) := by decide +kernel
theorem dX12_text_6 : decode cX12_text 6 = .ok (.if_icmp .ge 40, 3) := by decide +kernel
theorem dX12_text_9 : decode cX12_text 9 = .ok (.aload_n 0, 1) := by decide +kernel
theorem dX12_text_10 : decode cX12_text 10 = .ok (.aload_n 0, 1) := by decide +kernel
theorem dX12_text_11 : decode cX12_text 11 = .ok (.iload_n 1, 1) := by decide +kernel
theorem dX12_text_12 : decode cX12_text 12 = .ok (.iload 5, 2) := by decide +kernel
theorem dX12_text_14 : decode cX12_text 14 = .ok (.invokevirtual 230, 3) := by decide +kernel
theorem dX12_text_17 : decode cX12_text 17 = .ok (.bipush 9, 2) := by decide +kernel
theorem dX12_text_19 : decode cX12_text 19 = .ok (.iload_n 3, 1) := by decide +kernel
theorem dX12_text_20 : decode cX12_text 20 = .ok (.iload 4, 2) := by decide +kernel
theorem dX12_text_22 : decode cX12_text 22 = .ok (.invokevirtual 281, 3) := by decide +kernel
theorem dX12_text_25 : decode cX12_text 25 = .ok (.ifCond .eq 15, 3) := by decide +kernel
theorem dX12_text_28 : decode cX12_text 28 = .ok (.aload_n 0, 1) := by decide +kernel
theorem dX12_text_29 : decode cX12_text 29 = .ok (.iconst 0, 1) := by decide +kernel
theorem dX12_text_30 : decode cX12_text 30 = .ok (.aload_n 0, 1) := by decide +kernel
theorem dX12_text_31 : decode cX12_text 31 = .ok (.iload_n 1, 1) := by decide +kernel
theorem dX12_text_32 : decode cX12_text 32 = .ok (.iload 5, 2) := by decide +kernel
theorem dX12_text_34 : decode cX12_text 34 = .ok (.invokevirtual 230, 3) := by decide +kernel
theorem dX12_text_37 : decode cX12_text 37 = .ok (.invokevirtual 294, 3) := by decide +kernel
theorem dX12_text_40 : decode cX12_text 40 = .ok (.iinc 5 1, 3) := by decide +kernel
theorem dX12_text_43 : decode cX12_text 43 = .ok (.goto (-40), 3) := by decide +kernel
theorem dX12_text_46 : decode cX12_text 46 = .ok (.aload_n 0, 1) := by decide +kernel
theorem dX12_text_47 : decode cX12_text 47 = .ok (.iconst 0, 1) := by decide +kernel
theorem dX12_text_48 : decode cX12_text 48 = .ok (.putfield 300, 3) := by decide +kernel
theorem dX12_text_51 : decode cX12_text 51 = .ok (.iconst 0, 1) := by decide +kernel
theorem dX12_text_52 : decode cX12_text 52 = .ok (.istore 5, 2) := by decide +kernel
theorem dX12_text_54 : decode cX12_text 54 = .ok (.iload 5, 2) := by decide +kernel
theorem dX12_text_56 : decode cX12_text 56 = .ok (.aload_n 0, 1) := by decide +kernel
theorem dX12_text_57 : decode cX12_text 57 = .ok (.getfield 253, 3) := by decide +kernel
theorem dX12_text_60 : decode cX12_text 60 = .ok (.if_icmp .ge 135, 3) := by decide +kernel
theorem dX12_text_63 : decode cX12_text 63 = .ok (.iconst 0, 1) := by decide +kernel
theorem dX12_text_64 : decode cX12_text 64 = .ok (.istore 6, 2) := by decide +kernel
theorem dX12_text_66 : decode cX12_text 66 = .ok (.aload_n 0, 1) := by decide +kernel
theorem dX12_text_67 : decode cX12_text 67 = .ok (.getfield 41, 3) := by decide +kernel
theorem dX12_text_70 : decode cX12_text 70 = .ok (.aload_n 0, 1) := by decide +kernel
theorem dX12_text_71 : decode cX12_text 71 = .ok (.getfield 142, 3) := by decide +kernel
theorem dX12_text_74 : decode cX12_text 74 = .ok (.iload 5, 2) := by decide +kernel
theorem dX12_text_76 : decode cX12_text 76 = .ok (.iaload, 1) := by decide +kernel
theorem dX12_text_77 : decode cX12_text 77 = .ok (.iaload, 1) := by decide +kernel
theorem dX12_text_78 : decode cX12_text 78 = .ok (.ifCond .eq 34, 3) := by decide +kernel
theorem dX12_text_81 : decode cX12_text 81 = .ok (.aload_n 0, 1) := by decide +kernel
theorem dX12_text_82 : decode cX12_text 82 = .ok (.getfield 145, 3) := by decide +kernel
theorem dX12_text_85 : decode cX12_text 85 = .ok (.iload 6, 2) := by decide +kernel
theorem dX12_text_87 : decode cX12_text 87 = .ok (.iaload, 1) := by decide +kernel
theorem dX12_text_88 : decode cX12_text 88 = .ok (.invokestatic 303, 3) := by decide +kernel
theorem dX12_text_91 : decode cX12_text 91 = .ok (.aload_n 0, 1) := by decide +kernel
theorem dX12_text_92 : decode cX12_text 92 = .ok (.getfield 41, 3) := by decide +kernel
theorem dX12_text_95 : decode cX12_text 95 = .ok (.aload_n 0, 1) := by decide +kernel
theorem dX12_text_96 : decode cX12_text 96 = .ok (.getfield 142, 3) := by decide +kernel
theorem dX12_text_99 : decode cX12_text 99 = .ok (.iload 5, 2) := by decide +kernel
theorem dX12_text_101 : decode cX12_text 101 = .ok (.iaload, 1) := by decide +kernel
theorem dX12_text_102 : decode cX12_text 102 = .ok (.iaload, 1) := by decide +kernel
theorem dX12_text_103 : decode cX12_text 103 = .ok (.if_icmp .eq 9, 3) := by decide +kernel
theorem dX12_text_106 : decode cX12_text 106 = .ok (.iinc 6 1, 3) := by decide +kernel
theorem dX12_text_109 : decode cX12_text 109 = .ok (.goto (-43), 3) := by decide +kernel
theorem dX12_text_112 : decode cX12_text 112 = .ok (.aload_n 0, 1) := by decide +kernel
theorem dX12_text_113 : decode cX12_text 113 = .ok (.getfield 41, 3) := by decide +kernel
theorem dX12_text_116 : decode cX12_text 116 = .ok (.aload_n 0, 1) := by decide +kernel
theorem dX12_text_117 : decode cX12_text 117 = .ok (.getfield 142, 3) := by decide +kernel
theorem dX12_text_120 : decode cX12_text 120 = .ok (.iload 5, 2) := by decide +kernel
theorem dX12_text_122 : decode cX12_text 122 = .ok (.iaload, 1) := by decide +kernel
theorem dX12_text_123 : decode cX12_text 123 = .ok (.iaload, 1) := by decide +kernel
theorem dX12_text_124 : decode cX12_text 124 = .ok (.ifCond .eq 6, 3) := by decide +kernel
theorem dX12_text_127 : decode cX12_text 127 = .ok (.iinc 6 1, 3) := by decide +kernel
theorem dX12_text_130 : decode cX12_text 130 = .ok (.aload_n 0, 1) := by decide +kernel
theorem dX12_text_131 : decode cX12_text 131 = .ok (.getfield 300, 3) := by decide +kernel
theorem dX12_text_134 : decode cX12_text 134 = .ok (.istore 7, 2) := by decide +kernel
theorem dX12_text_136 : decode cX12_text 136 = .ok (.iload 7, 2) := by decide +kernel
theorem dX12_text_138 : decode cX12_text 138 = .ok (.iload 6, 2) := by decide +kernel
theorem dX12_text_140 : decode cX12_text 140 = .ok (.if_icmp .le 25, 3) := by decide +kernel
theorem dX12_text_143 : decode cX12_text 143 = .ok (.aload_n 0, 1) := by decide +kernel
theorem dX12_text_144 : decode cX12_text 144 = .ok (.getfield 145, 3) := by decide +kernel
theorem dX12_text_147 : decode cX12_text 147 = .ok (.iload 7, 2) := by decide +kernel
theorem dX12_text_149 : decode cX12_text 149 = .ok (.aload_n 0, 1) := by decide +kernel
theorem dX12_text_150 : decode cX12_text 150 = .ok (.getfield 145, 3) := by decide +kernel
theorem dX12_text_153 : decode cX12_text 153 = .ok (.iload 7, 2) := by decide +kernel
theorem dX12_text_155 : decode cX12_text 155 = .ok (.iconst 1, 1) := by decide +kernel
theorem dX12_text_156 : decode cX12_text 156 = .ok (.isub, 1) := by decide +kernel
theorem dX12_text_157 : decode cX12_text 157 = .ok (.iaload, 1) := by decide +kernel
theorem dX12_text_158 : decode cX12_text 158 = .ok (.iastore, 1) := by decide +kernel
theorem dX12_text_159 : decode cX12_text 159 = .ok (.iinc 7 (-1), 3) := by decide +kernel
theorem dX12_text_162 : decode cX12_text 162 = .ok (.goto (-26), 3) := by decide +kernel
theorem dX12_text_165 : decode cX12_text 165 = .ok (.aload_n 0, 1) := by decide +kernel
theorem dX12_text_166 : decode cX12_text 166 = .ok (.getfield 145, 3) := by decide +kernel
theorem dX12_text_169 : decode cX12_text 169 = .ok (.iload 6, 2) := by decide +kernel
theorem dX12_text_171 : decode cX12_text 171 = .ok (.aload_n 0, 1) := by decide +kernel
theorem dX12_text_172 : decode cX12_text 172 = .ok (.getfield 142, 3) := by decide +kernel
theorem dX12_text_175 : decode cX12_text 175 = .ok (.iload 5, 2) := by decide +kernel
theorem dX12_text_177 : decode cX12_text 177 = .ok (.iaload, 1) := by decide +kernel
theorem dX12_text_178 : decode cX12_text 178 = .ok (.iastore, 1) := by decide +kernel
theorem dX12_text_179 : decode cX12_text 179 = .ok (.aload_n 0, 1) := by decide +kernel
theorem dX12_text_180 : decode cX12_text 180 = .ok (.dup, 1) := by decide +kernel
theorem dX12_text_181 : decode cX12_text 181 = .ok (.getfield 300, 3) := by decide +kernel
theorem dX12_text_184 : decode cX12_text 184 = .ok (.iconst 1, 1) := by decide +kernel
theorem dX12_text_185 : decode cX12_text 185 = .ok (.iadd, 1) := by decide +kernel
theorem dX12_text_186 : decode cX12_text 186 = .ok (.putfield 300, 3) := by decide +kernel
theorem dX12_text_189 : decode cX12_text 189 = .ok (.iinc 5 1, 3) := by decide +kernel
theorem dX12_text_192 : decode cX12_text 192 = .ok (.goto (-138), 3) := by decide +kernel
theorem dX12_text_195 : decode cX12_text 195 = .ok (.aload_n 0, 1) := by decide +kernel
theorem dX12_text_196 : decode cX12_text 196 = .ok (.iconst 0, 1) := by decide +kernel
theorem dX12_text_197 : decode cX12_text 197 = .ok (.putfield 253, 3) := by decide +kernel
theorem dX12_text_200 : decode cX12_text 200 = .ok (.iconst 0, 1) := by decide +kernel
theorem dX12_text_201 : decode cX12_text 201 = .ok (.istore 5, 2) := by decide +kernel
theorem dX12_text_203 : decode cX12_text 203 = .ok (.iload 5, 2) := by decide +kernel
theorem dX12_text_205 : decode cX12_text 205 = .ok (.aload_n 0, 1) := by decide +kernel
theorem dX12_text_206 : decode cX12_text 206 = .ok (.getfield 300, 3) := by decide +kernel
theorem dX12_text_209 : decode cX12_text 209 = .ok (.if_icmp .ge 63, 3) := by decide +kernel
theorem dX12_text_212 : decode cX12_text 212 = .ok (.aload_n 0, 1) := by decide +kernel
theorem dX12_text_213 : decode cX12_text 213 = .ok (.getfield 133, 3) := by decide +kernel
theorem dX12_text_216 : decode cX12_text 216 = .ok (.aload_n 0, 1) := by decide +kernel
theorem dX12_text_217 : decode cX12_text 217 = .ok (.getfield 145, 3) := by decide +kernel
theorem dX12_text_220 : decode cX12_text 220 = .ok (.iload 5, 2) := by decide +kernel
theorem dX12_text_222 : decode cX12_text 222 = .ok (.iaload, 1) := by decide +kernel
theorem dX12_text_223 : decode cX12_text 223 = .ok (.baload, 1) := by decide +kernel
theorem dX12_text_224 : decode cX12_text 224 = .ok (.ifCond .eq 42, 3) := by decide +kernel
theorem dX12_text_227 : decode cX12_text 227 = .ok (.aload_n 0, 1) := by decide +kernel
theorem dX12_text_228 : decode cX12_text 228 = .ok (.iload_n 1, 1) := by decide +kernel
theorem dX12_text_229 : decode cX12_text 229 = .ok (.iload_n 2, 1) := by decide +kernel
theorem dX12_text_230 : decode cX12_text 230 = .ok (.aload_n 0, 1) := by decide +kernel
theorem dX12_text_231 : decode cX12_text 231 = .ok (.getfield 145, 3) := by decide +kernel
theorem dX12_text_234 : decode cX12_text 234 = .ok (.iload 5, 2) := by decide +kernel
theorem dX12_text_236 : decode cX12_text 236 = .ok (.iaload, 1) := by decide +kernel
theorem dX12_text_237 : decode cX12_text 237 = .ok (.invokevirtual 306, 3) := by decide +kernel
theorem dX12_text_240 : decode cX12_text 240 = .ok (.ifCond .ne 26, 3) := by decide +kernel
theorem dX12_text_243 : decode cX12_text 243 = .ok (.aload_n 0, 1) := by decide +kernel
theorem dX12_text_244 : decode cX12_text 244 = .ok (.aload_n 0, 1) := by decide +kernel
theorem dX12_text_245 : decode cX12_text 245 = .ok (.getfield 38, 3) := by decide +kernel
theorem dX12_text_248 : decode cX12_text 248 = .ok (.aload_n 0, 1) := by decide +kernel
theorem dX12_text_249 : decode cX12_text 249 = .ok (.getfield 145, 3) := by decide +kernel
theorem dX12_text_252 : decode cX12_text 252 = .ok (.iload 5, 2) := by decide +kernel
theorem dX12_text_254 : decode cX12_text 254 = .ok (.iaload, 1) := by decide +kernel
theorem dX12_text_255 : decode cX12_text 255 = .ok (.iaload, 1) := by decide +kernel
theorem dX12_text_256 : decode cX12_text 256 = .ok (.aload_n 0, 1) := by decide +kernel
theorem dX12_text_257 : decode cX12_text 257 = .ok (.getfield 145, 3) := by decide +kernel
theorem dX12_text_260 : decode cX12_text 260 = .ok (.iload 5, 2) := by decide +kernel
theorem dX12_text_262 : decode cX12_text 262 = .ok (.iaload, 1) := by decide +kernel
theorem dX12_text_263 : decode cX12_text 263 = .ok (.invokevirtual 288, 3) := by decide +kernel
theorem dX12_text_266 : decode cX12_text 266 = .ok (.iinc 5 1, 3) := by decide +kernel
theorem dX12_text_269 : decode cX12_text 269 = .ok (.goto (-66), 3) := by decide +kernel
theorem dX12_text_272 : decode cX12_text 272 = .ok (.return_, 1) := by decide +kernel
theorem cd_text : Cond.code yX12_text cX12_text 8 none ∈ lw_g := mt_at 2081 (by decide +kernel) rfl
theorem mw_text : mCw 278 yX12_text cX12_text 8 none 4 := ⟨cd_text, mt_at 2078 (by decide +kernel) rfl, in_M, by decide +kernel⟩
theorem im_text : Cond.instanceMethod yX12_text ∈ lw_g := mt_at 2080 (by decide +kernel) rfl
theorem sl_text : Cond.selects RX12 yX12_text yX12_text ∈ lw_g := mt_sel 67 (by decide +kernel) rfl
section
variable {p : Program} {l : Launch} {e : Env} {R : Room} {s : State} {m : MethodId} {args : Array Value} {below : List Frame} {meth : Method} {c : Code} {cM : ClassId} {iS : Nat → Nat} {cI cZ : ClassId} {mo : Nat} {ad : Nat → Nat} {r : Int32} {S9 : mSt}
noncomputable def fm_text_266 (g_203 : mSt → Int32 → Int32 → Int32 → Option (mSt)) (S : mSt) (v1 : Int32) (v2 : Int32) (v5 : Int32) : Option (mSt) :=
lt (v5 + (1 : Int32)) fun x1 =>
g_203 S v1 v2 x1
set_option maxRecDepth 100000 in
set_option maxHeartbeats 4000000 in
theorem wm_text_266 (C : mY p R s m args meth c cX12_text 8 3 65 none) (X : mX s cM iS cI cZ mo ad) {g_203 : mSt → Int32 → Int32 → Int32 → Option (mSt)} (hg_203 : ∀ {S : mSt} {v1 : Int32} {v2 : Int32} {v5 : Int32} {H : Heap} {locs : List Loc} {ls : Array Slot}, g_203 S v1 v2 v5 = some S9 → mW cM iS cI cZ mo ad S H → mS (mA mo ad) s.heap H locs → lv_has ls 8 [(0, .ref mo), (1, .int v1), (2, .int v2), (5, .int v5)] → W p l e R s m args below meth c H locs 0 0 (MQ below (mQw none cM iS cI cZ mo ad S9) args s 0 0 (mA mo ad)) (F0 m 203 ls [])) : ∀ {S : mSt} {v1 : Int32} {v2 : Int32} {v5 : Int32} {H : Heap} {locs : List Loc} {ls : Array Slot}, fm_text_266 g_203 S v1 v2 v5 = some S9 → mW cM iS cI cZ mo ad S H → mS (mA mo ad) s.heap H locs → lv_has ls 8 [(0, .ref mo), (1, .int v1), (2, .int v2), (5, .int v5)] → W p l e R s m args below meth c H locs 0 0 (MQ below (mQw none cM iS cI cZ mo ad S9) args s 0 0 (mA mo ad)) (F0 m 266 ls []) := by
  intro S v1 v2 v5 H locs ls h hW hS hl
  unfold fm_text_266 at h
  refine lt_ok h (fun x1 e_x1 h => ?_)
  refine lv_iinc (v := x1) (lv' := [(5, .int x1), (0, .ref mo), (1, .int v1), (2, .int v2)]) C.1 C.2.1 dX12_text_266 hl (k := 3) rfl (by rw [← e_x1]; rfl) (by decide) rfl (fun ls hl => ?_)
  refine lv_goto (tgt := 203) C.1 C.2.1 dX12_text_269 (by decide) ?_
  exact hg_203 h hW hS (lv_sub hl [1, 2, 3, 0] rfl)
noncomputable def fm_text_203 : Nat → mSt → Int32 → Int32 → Int32 → Option (mSt)
  | 0, _, _, _, _ => none
  | n + 1, S, v1, v2, v5 =>
    if (S.1 52) ≤ v5 then (
    some S)
    else (
    ck v5 1000 (
    ck (rd S 53 v5) 1000 (
    if (rd S 47 (rd S 53 v5)) = 0 then (
    fm_text_266 (fm_text_203 n) S v1 v2 v5)
    else (
    ck v5 1000 (
    bd (fm_isErased S v1 v2 (rd S 53 v5)) fun r3 =>
    if r3 = 0 then (
    ck v5 1000 (
    ck (rd S 53 v5) 1000 (
    ck v5 1000 (
    bd (fm_put S (rd S 12 (rd S 53 v5)) (rd S 53 v5)) fun S5 =>
    fm_text_266 (fm_text_203 n) S5 v1 v2 v5))))
    else (
    fm_text_266 (fm_text_203 n) S v1 v2 v5))))))
set_option maxRecDepth 100000 in
set_option maxHeartbeats 4000000 in
theorem wm_text_203 (C : mY p R s m args meth c cX12_text 8 3 65 none) (X : mX s cM iS cI cZ mo ad) : ∀ (n : Nat), ∀ {S : mSt} {v1 : Int32} {v2 : Int32} {v5 : Int32} {H : Heap} {locs : List Loc} {ls : Array Slot}, fm_text_203 n S v1 v2 v5 = some S9 → mW cM iS cI cZ mo ad S H → mS (mA mo ad) s.heap H locs → lv_has ls 8 [(0, .ref mo), (1, .int v1), (2, .int v2), (5, .int v5)] → W p l e R s m args below meth c H locs 0 0 (MQ below (mQw none cM iS cI cZ mo ad S9) args s 0 0 (mA mo ad)) (F0 m 203 ls []) := by
  intro n
  induction n with
  | zero =>
    intro S v1 v2 v5 H locs ls h hW hS hl
    exact absurd (show (none : Option (mSt)) = _ from h) (fun q => by cases q)
  | succ n ih =>
    intro S v1 v2 v5 H locs ls h hW hS hl
    rw [fm_text_203] at h
    refine lv_iload C.1 C.2.1 dX12_text_203 (lv_at hl 3 rfl) ?_
    refine lv_aload_n C.1 C.2.1 dX12_text_205 rfl (lv_at hl 0 rfl) ?_
    refine gf_52 C X hW dX12_text_206 ?_
    refine lv_icmp_ge (tgt := 272) C.1 C.2.1 dX12_text_209 (by decide) (fun c1 => ?_) (fun c1 => ?_)
    · have h := if_t h c1
      cases h
      exact m_retvW C hW hS dX12_text_272
    · have h := if_f h c1
      refine lv_aload_n C.1 C.2.1 dX12_text_212 rfl (lv_at hl 0 rfl) ?_
      refine gf_47 C X hW dX12_text_213 ?_
      refine lv_aload_n C.1 C.2.1 dX12_text_216 rfl (lv_at hl 0 rfl) ?_
      refine gf_53 C X hW dX12_text_217 ?_
      refine lv_iload C.1 C.2.1 dX12_text_220 (lv_at hl 3 rfl) ?_
      obtain ⟨hin, h⟩ := ck_ok h
      refine l_53 C X hW hin dX12_text_222 ?_
      obtain ⟨hin, h⟩ := ck_ok h
      refine l_47 C X hW hin dX12_text_223 ?_
      refine lv_if_eq (tgt := 266) C.1 C.2.1 dX12_text_224 (by decide) (fun c2 => ?_) (fun c2 => ?_)
      · have h := if_t h c2
        exact wm_text_266 C X ih h hW hS (lv_sub hl [0, 1, 2, 3] rfl)
      · have h := if_f h c2
        refine lv_aload_n C.1 C.2.1 dX12_text_227 rfl (lv_at hl 0 rfl) ?_
        refine lv_iload_n C.1 C.2.1 dX12_text_228 rfl (lv_at hl 1 rfl) ?_
        refine lv_iload_n C.1 C.2.1 dX12_text_229 rfl (lv_at hl 2 rfl) ?_
        refine lv_aload_n C.1 C.2.1 dX12_text_230 rfl (lv_at hl 0 rfl) ?_
        refine gf_53 C X hW dX12_text_231 ?_
        refine lv_iload C.1 C.2.1 dX12_text_234 (lv_at hl 3 rfl) ?_
        obtain ⟨hin, h⟩ := ck_ok h
        refine l_53 C X hW hin dX12_text_236 ?_
        obtain ⟨r3, h_r3, h⟩ := bd_ok h
        refine m_callR (rest := []) C X hW hl.1 [.int v1, .int v2, .int (rd S 53 v5)] (tm_isErased l h_r3) mw_isErased im_isErased sl_isErased rfl ⟨by decide, by decide⟩ rfl (Nat.le_of_ble_eq_true rfl) dX12_text_237 ?_
        refine lv_if_ne (tgt := 266) C.1 C.2.1 dX12_text_240 (by decide) (fun c4 => ?_) (fun c4 => ?_)
        · have h := if_f h c4
          exact wm_text_266 C X ih h hW hS (lv_sub hl [0, 1, 2, 3] rfl)
        · have h := if_t h c4
          refine lv_aload_n C.1 C.2.1 dX12_text_243 rfl (lv_at hl 0 rfl) ?_
          refine lv_aload_n C.1 C.2.1 dX12_text_244 rfl (lv_at hl 0 rfl) ?_
          refine gf_12 C X hW dX12_text_245 ?_
          refine lv_aload_n C.1 C.2.1 dX12_text_248 rfl (lv_at hl 0 rfl) ?_
          refine gf_53 C X hW dX12_text_249 ?_
          refine lv_iload C.1 C.2.1 dX12_text_252 (lv_at hl 3 rfl) ?_
          obtain ⟨hin, h⟩ := ck_ok h
          refine l_53 C X hW hin dX12_text_254 ?_
          obtain ⟨hin, h⟩ := ck_ok h
          refine l_12 C X hW hin dX12_text_255 ?_
          refine lv_aload_n C.1 C.2.1 dX12_text_256 rfl (lv_at hl 0 rfl) ?_
          refine gf_53 C X hW dX12_text_257 ?_
          refine lv_iload C.1 C.2.1 dX12_text_260 (lv_at hl 3 rfl) ?_
          obtain ⟨hin, h⟩ := ck_ok h
          refine l_53 C X hW hin dX12_text_262 ?_
          obtain ⟨S5, h_S5, h⟩ := bd_ok h
          refine m_callW (rest := []) (ov := none) C X hW hS hl.1 [.int (rd S 12 (rd S 53 v5)), .int (rd S 53 v5)] (tm_put l h_S5) mw_put im_put sl_put rfl ⟨by decide, by decide⟩ rfl (Nat.le_of_ble_eq_true rfl) dX12_text_263 (fun H locs hW hS => ?_)
          refine W.eq (g2 := F0 m 266 ls []) rfl ?_
          exact wm_text_266 C X ih h hW hS (lv_sub hl [0, 1, 2, 3] rfl)
noncomputable def fm_text_136 (g_54 : mSt → Int32 → Int32 → Int32 → Option (mSt)) : Nat → mSt → Int32 → Int32 → Int32 → Int32 → Int32 → Option (mSt)
  | 0, _, _, _, _, _, _ => none
  | n + 1, S, v1, v2, v5, v6, v7 =>
    if v7 ≤ v6 then (
    ck v5 1000 (
    ck v6 1000 (lt (wr S 53 v6 (rd S 51 v5)) fun S2 =>
    lt (pu S2 52 ((S2.1 52) + (1 : Int32))) fun S3 =>
    lt (v5 + (1 : Int32)) fun x4 =>
    g_54 S3 v1 v2 x4)))
    else (
    ck (v7 - (1 : Int32)) 1000 (
    ck v7 1000 (lt (wr S 53 v7 (rd S 53 (v7 - (1 : Int32)))) fun S5 =>
    lt (v7 + (-1 : Int32)) fun x6 =>
    fm_text_136 g_54 n S5 v1 v2 v5 v6 x6)))
set_option maxRecDepth 100000 in
set_option maxHeartbeats 4000000 in
theorem wm_text_136 (C : mY p R s m args meth c cX12_text 8 3 65 none) (X : mX s cM iS cI cZ mo ad) {g_54 : mSt → Int32 → Int32 → Int32 → Option (mSt)} (hg_54 : ∀ {S : mSt} {v1 : Int32} {v2 : Int32} {v5 : Int32} {H : Heap} {locs : List Loc} {ls : Array Slot}, g_54 S v1 v2 v5 = some S9 → mW cM iS cI cZ mo ad S H → mS (mA mo ad) s.heap H locs → lv_has ls 8 [(0, .ref mo), (1, .int v1), (2, .int v2), (5, .int v5)] → W p l e R s m args below meth c H locs 0 0 (MQ below (mQw none cM iS cI cZ mo ad S9) args s 0 0 (mA mo ad)) (F0 m 54 ls [])) : ∀ (n : Nat), ∀ {S : mSt} {v1 : Int32} {v2 : Int32} {v5 : Int32} {v6 : Int32} {v7 : Int32} {H : Heap} {locs : List Loc} {ls : Array Slot}, fm_text_136 g_54 n S v1 v2 v5 v6 v7 = some S9 → mW cM iS cI cZ mo ad S H → mS (mA mo ad) s.heap H locs → lv_has ls 8 [(0, .ref mo), (1, .int v1), (2, .int v2), (5, .int v5), (6, .int v6), (7, .int v7)] → W p l e R s m args below meth c H locs 0 0 (MQ below (mQw none cM iS cI cZ mo ad S9) args s 0 0 (mA mo ad)) (F0 m 136 ls []) := by
  intro n
  induction n with
  | zero =>
    intro S v1 v2 v5 v6 v7 H locs ls h hW hS hl
    exact absurd (show (none : Option (mSt)) = _ from h) (fun q => by cases q)
  | succ n ih =>
    intro S v1 v2 v5 v6 v7 H locs ls h hW hS hl
    rw [fm_text_136] at h
    refine lv_iload C.1 C.2.1 dX12_text_136 (lv_at hl 5 rfl) ?_
    refine lv_iload C.1 C.2.1 dX12_text_138 (lv_at hl 4 rfl) ?_
    refine lv_icmp_le (tgt := 165) C.1 C.2.1 dX12_text_140 (by decide) (fun c1 => ?_) (fun c1 => ?_)
    · have h := if_t h c1
      refine lv_aload_n C.1 C.2.1 dX12_text_165 rfl (lv_at hl 0 rfl) ?_
      refine gf_53 C X hW dX12_text_166 ?_
      refine lv_iload C.1 C.2.1 dX12_text_169 (lv_at hl 4 rfl) ?_
      refine lv_aload_n C.1 C.2.1 dX12_text_171 rfl (lv_at hl 0 rfl) ?_
      refine gf_51 C X hW dX12_text_172 ?_
      refine lv_iload C.1 C.2.1 dX12_text_175 (lv_at hl 3 rfl) ?_
      obtain ⟨hin, h⟩ := ck_ok h
      refine l_51 C X hW hin dX12_text_177 ?_
      obtain ⟨hin, h⟩ := ck_ok h
      refine s_53 C X hW hS hin dX12_text_178 (fun H locs hW hS => ?_)
      refine lt_ok h (fun S2 e_S2 h => ?_)
      rw [e_S2] at hW
      refine lv_aload_n C.1 C.2.1 dX12_text_179 rfl (lv_at hl 0 rfl) ?_
      refine lv_dup C.1 C.2.1 dX12_text_180 rfl ?_
      refine gf_52 C X hW dX12_text_181 ?_
      refine lv_iconst (v := 1) C.1 C.2.1 dX12_text_184 (by decide) ?_
      refine lv_iadd C.1 C.2.1 dX12_text_185 ?_
      refine p_52 C X hW hS dX12_text_186 (fun H locs hW hS => ?_)
      refine lt_ok h (fun S3 e_S3 h => ?_)
      rw [e_S3] at hW
      refine lt_ok h (fun x4 e_x4 h => ?_)
      refine lv_iinc (v := x4) (lv' := [(5, .int x4), (0, .ref mo), (1, .int v1), (2, .int v2), (6, .int v6), (7, .int v7)]) C.1 C.2.1 dX12_text_189 hl (k := 3) rfl (by rw [← e_x4]; rfl) (by decide) rfl (fun ls hl => ?_)
      refine lv_goto (tgt := 54) C.1 C.2.1 dX12_text_192 (by decide) ?_
      exact hg_54 h hW hS (lv_sub hl [1, 2, 3, 0] rfl)
    · have h := if_f h c1
      refine lv_aload_n C.1 C.2.1 dX12_text_143 rfl (lv_at hl 0 rfl) ?_
      refine gf_53 C X hW dX12_text_144 ?_
      refine lv_iload C.1 C.2.1 dX12_text_147 (lv_at hl 5 rfl) ?_
      refine lv_aload_n C.1 C.2.1 dX12_text_149 rfl (lv_at hl 0 rfl) ?_
      refine gf_53 C X hW dX12_text_150 ?_
      refine lv_iload C.1 C.2.1 dX12_text_153 (lv_at hl 5 rfl) ?_
      refine lv_iconst (v := 1) C.1 C.2.1 dX12_text_155 (by decide) ?_
      refine lv_isub C.1 C.2.1 dX12_text_156 ?_
      obtain ⟨hin, h⟩ := ck_ok h
      refine l_53 C X hW hin dX12_text_157 ?_
      obtain ⟨hin, h⟩ := ck_ok h
      refine s_53 C X hW hS hin dX12_text_158 (fun H locs hW hS => ?_)
      refine lt_ok h (fun S5 e_S5 h => ?_)
      rw [e_S5] at hW
      refine lt_ok h (fun x6 e_x6 h => ?_)
      refine lv_iinc (v := x6) (lv' := [(7, .int x6), (0, .ref mo), (1, .int v1), (2, .int v2), (5, .int v5), (6, .int v6)]) C.1 C.2.1 dX12_text_159 hl (k := 5) rfl (by rw [← e_x6]; rfl) (by decide) rfl (fun ls hl => ?_)
      refine lv_goto (tgt := 136) C.1 C.2.1 dX12_text_162 (by decide) ?_
      exact ih h hW hS (lv_sub hl [1, 2, 3, 4, 5, 0] rfl)
noncomputable def fm_text_130 (g_54 : mSt → Int32 → Int32 → Int32 → Option (mSt)) (S : mSt) (v1 : Int32) (v2 : Int32) (v5 : Int32) (v6 : Int32) : Option (mSt) :=
lt (S.1 52) fun x1 =>
fm_text_136 g_54 mFU S v1 v2 v5 v6 x1
set_option maxRecDepth 100000 in
set_option maxHeartbeats 4000000 in
theorem wm_text_130 (C : mY p R s m args meth c cX12_text 8 3 65 none) (X : mX s cM iS cI cZ mo ad) {g_54 : mSt → Int32 → Int32 → Int32 → Option (mSt)} (hg_54 : ∀ {S : mSt} {v1 : Int32} {v2 : Int32} {v5 : Int32} {H : Heap} {locs : List Loc} {ls : Array Slot}, g_54 S v1 v2 v5 = some S9 → mW cM iS cI cZ mo ad S H → mS (mA mo ad) s.heap H locs → lv_has ls 8 [(0, .ref mo), (1, .int v1), (2, .int v2), (5, .int v5)] → W p l e R s m args below meth c H locs 0 0 (MQ below (mQw none cM iS cI cZ mo ad S9) args s 0 0 (mA mo ad)) (F0 m 54 ls [])) : ∀ {S : mSt} {v1 : Int32} {v2 : Int32} {v5 : Int32} {v6 : Int32} {H : Heap} {locs : List Loc} {ls : Array Slot}, fm_text_130 g_54 S v1 v2 v5 v6 = some S9 → mW cM iS cI cZ mo ad S H → mS (mA mo ad) s.heap H locs → lv_has ls 8 [(0, .ref mo), (1, .int v1), (2, .int v2), (5, .int v5), (6, .int v6)] → W p l e R s m args below meth c H locs 0 0 (MQ below (mQw none cM iS cI cZ mo ad S9) args s 0 0 (mA mo ad)) (F0 m 130 ls []) := by
  intro S v1 v2 v5 v6 H locs ls h hW hS hl
  unfold fm_text_130 at h
  refine lv_aload_n C.1 C.2.1 dX12_text_130 rfl (lv_at hl 0 rfl) ?_
  refine gf_52 C X hW dX12_text_131 ?_
  refine lt_ok h (fun x1 e_x1 h => ?_)
  refine lv_nm e_x1 ?_
  refine lv_istore (lv' := [(7, .int x1), (0, .ref mo), (1, .int v1), (2, .int v2), (5, .int v5), (6, .int v6)]) C.1 C.2.1 dX12_text_134 hl (by decide) rfl (fun ls hl => ?_)
  exact wm_text_136 C X hg_54 mFU h hW hS (lv_sub hl [1, 2, 3, 4, 5, 0] rfl)
noncomputable def fm_text_112 (g_54 : mSt → Int32 → Int32 → Int32 → Option (mSt)) (S : mSt) (v1 : Int32) (v2 : Int32) (v5 : Int32) (v6 : Int32) : Option (mSt) :=
ck v5 1000 (
ck (rd S 51 v5) 1000 (
if (rd S 13 (rd S 51 v5)) = 0 then (
fm_text_130 g_54 S v1 v2 v5 v6)
else (
lt (v6 + (1 : Int32)) fun x2 =>
fm_text_130 g_54 S v1 v2 v5 x2)))
set_option maxRecDepth 100000 in
set_option maxHeartbeats 4000000 in
theorem wm_text_112 (C : mY p R s m args meth c cX12_text 8 3 65 none) (X : mX s cM iS cI cZ mo ad) {g_54 : mSt → Int32 → Int32 → Int32 → Option (mSt)} (hg_54 : ∀ {S : mSt} {v1 : Int32} {v2 : Int32} {v5 : Int32} {H : Heap} {locs : List Loc} {ls : Array Slot}, g_54 S v1 v2 v5 = some S9 → mW cM iS cI cZ mo ad S H → mS (mA mo ad) s.heap H locs → lv_has ls 8 [(0, .ref mo), (1, .int v1), (2, .int v2), (5, .int v5)] → W p l e R s m args below meth c H locs 0 0 (MQ below (mQw none cM iS cI cZ mo ad S9) args s 0 0 (mA mo ad)) (F0 m 54 ls [])) : ∀ {S : mSt} {v1 : Int32} {v2 : Int32} {v5 : Int32} {v6 : Int32} {H : Heap} {locs : List Loc} {ls : Array Slot}, fm_text_112 g_54 S v1 v2 v5 v6 = some S9 → mW cM iS cI cZ mo ad S H → mS (mA mo ad) s.heap H locs → lv_has ls 8 [(0, .ref mo), (1, .int v1), (2, .int v2), (5, .int v5), (6, .int v6)] → W p l e R s m args below meth c H locs 0 0 (MQ below (mQw none cM iS cI cZ mo ad S9) args s 0 0 (mA mo ad)) (F0 m 112 ls []) := by
  intro S v1 v2 v5 v6 H locs ls h hW hS hl
  unfold fm_text_112 at h
  refine lv_aload_n C.1 C.2.1 dX12_text_112 rfl (lv_at hl 0 rfl) ?_
  refine gf_13 C X hW dX12_text_113 ?_
  refine lv_aload_n C.1 C.2.1 dX12_text_116 rfl (lv_at hl 0 rfl) ?_
  refine gf_51 C X hW dX12_text_117 ?_
  refine lv_iload C.1 C.2.1 dX12_text_120 (lv_at hl 3 rfl) ?_
  obtain ⟨hin, h⟩ := ck_ok h
  refine l_51 C X hW hin dX12_text_122 ?_
  obtain ⟨hin, h⟩ := ck_ok h
  refine l_13 C X hW hin dX12_text_123 ?_
  refine lv_if_eq (tgt := 130) C.1 C.2.1 dX12_text_124 (by decide) (fun c1 => ?_) (fun c1 => ?_)
  · have h := if_t h c1
    exact wm_text_130 C X hg_54 h hW hS (lv_sub hl [0, 1, 2, 3, 4] rfl)
  · have h := if_f h c1
    refine lt_ok h (fun x2 e_x2 h => ?_)
    refine lv_iinc (v := x2) (lv' := [(6, .int x2), (0, .ref mo), (1, .int v1), (2, .int v2), (5, .int v5)]) C.1 C.2.1 dX12_text_127 hl (k := 4) rfl (by rw [← e_x2]; rfl) (by decide) rfl (fun ls hl => ?_)
    exact wm_text_130 C X hg_54 h hW hS (lv_sub hl [1, 2, 3, 4, 0] rfl)
noncomputable def fm_text_66 (g_54 : mSt → Int32 → Int32 → Int32 → Option (mSt)) : Nat → mSt → Int32 → Int32 → Int32 → Int32 → Option (mSt)
  | 0, _, _, _, _, _ => none
  | n + 1, S, v1, v2, v5, v6 =>
    ck v5 1000 (
    ck (rd S 51 v5) 1000 (
    if (rd S 13 (rd S 51 v5)) = 0 then (
    fm_text_112 g_54 S v1 v2 v5 v6)
    else (
    ck v6 1000 (
    bd (fm_nameOf (rd S 53 v6)) fun r2 =>
    ck v5 1000 (
    ck (rd S 51 v5) 1000 (
    if r2 = (rd S 13 (rd S 51 v5)) then (
    fm_text_112 g_54 S v1 v2 v5 v6)
    else (
    lt (v6 + (1 : Int32)) fun x4 =>
    fm_text_66 g_54 n S v1 v2 v5 x4)))))))
set_option maxRecDepth 100000 in
set_option maxHeartbeats 4000000 in
theorem wm_text_66 (C : mY p R s m args meth c cX12_text 8 3 65 none) (X : mX s cM iS cI cZ mo ad) {g_54 : mSt → Int32 → Int32 → Int32 → Option (mSt)} (hg_54 : ∀ {S : mSt} {v1 : Int32} {v2 : Int32} {v5 : Int32} {H : Heap} {locs : List Loc} {ls : Array Slot}, g_54 S v1 v2 v5 = some S9 → mW cM iS cI cZ mo ad S H → mS (mA mo ad) s.heap H locs → lv_has ls 8 [(0, .ref mo), (1, .int v1), (2, .int v2), (5, .int v5)] → W p l e R s m args below meth c H locs 0 0 (MQ below (mQw none cM iS cI cZ mo ad S9) args s 0 0 (mA mo ad)) (F0 m 54 ls [])) : ∀ (n : Nat), ∀ {S : mSt} {v1 : Int32} {v2 : Int32} {v5 : Int32} {v6 : Int32} {H : Heap} {locs : List Loc} {ls : Array Slot}, fm_text_66 g_54 n S v1 v2 v5 v6 = some S9 → mW cM iS cI cZ mo ad S H → mS (mA mo ad) s.heap H locs → lv_has ls 8 [(0, .ref mo), (1, .int v1), (2, .int v2), (5, .int v5), (6, .int v6)] → W p l e R s m args below meth c H locs 0 0 (MQ below (mQw none cM iS cI cZ mo ad S9) args s 0 0 (mA mo ad)) (F0 m 66 ls []) := by
  intro n
  induction n with
  | zero =>
    intro S v1 v2 v5 v6 H locs ls h hW hS hl
    exact absurd (show (none : Option (mSt)) = _ from h) (fun q => by cases q)
  | succ n ih =>
    intro S v1 v2 v5 v6 H locs ls h hW hS hl
    rw [fm_text_66] at h
    refine lv_aload_n C.1 C.2.1 dX12_text_66 rfl (lv_at hl 0 rfl) ?_
    refine gf_13 C X hW dX12_text_67 ?_
    refine lv_aload_n C.1 C.2.1 dX12_text_70 rfl (lv_at hl 0 rfl) ?_
    refine gf_51 C X hW dX12_text_71 ?_
    refine lv_iload C.1 C.2.1 dX12_text_74 (lv_at hl 3 rfl) ?_
    obtain ⟨hin, h⟩ := ck_ok h
    refine l_51 C X hW hin dX12_text_76 ?_
    obtain ⟨hin, h⟩ := ck_ok h
    refine l_13 C X hW hin dX12_text_77 ?_
    refine lv_if_eq (tgt := 112) C.1 C.2.1 dX12_text_78 (by decide) (fun c1 => ?_) (fun c1 => ?_)
    · have h := if_t h c1
      exact wm_text_112 C X hg_54 h hW hS (lv_sub hl [0, 1, 2, 3, 4] rfl)
    · have h := if_f h c1
      refine lv_aload_n C.1 C.2.1 dX12_text_81 rfl (lv_at hl 0 rfl) ?_
      refine gf_53 C X hW dX12_text_82 ?_
      refine lv_iload C.1 C.2.1 dX12_text_85 (lv_at hl 4 rfl) ?_
      obtain ⟨hin, h⟩ := ck_ok h
      refine l_53 C X hW hin dX12_text_87 ?_
      obtain ⟨r2, h_r2, h⟩ := bd_ok h
      refine m_callS (rest := []) C hl.1 [.int (rd S 53 v6)] (tm_nameOf l h_r2) mw_nameOf st_nameOf rfl ⟨by decide, by decide⟩ rfl (Nat.le_of_ble_eq_true rfl) dX12_text_88 ?_
      refine lv_aload_n C.1 C.2.1 dX12_text_91 rfl (lv_at hl 0 rfl) ?_
      refine gf_13 C X hW dX12_text_92 ?_
      refine lv_aload_n C.1 C.2.1 dX12_text_95 rfl (lv_at hl 0 rfl) ?_
      refine gf_51 C X hW dX12_text_96 ?_
      refine lv_iload C.1 C.2.1 dX12_text_99 (lv_at hl 3 rfl) ?_
      obtain ⟨hin, h⟩ := ck_ok h
      refine l_51 C X hW hin dX12_text_101 ?_
      obtain ⟨hin, h⟩ := ck_ok h
      refine l_13 C X hW hin dX12_text_102 ?_
      refine lv_icmp_eq (tgt := 112) C.1 C.2.1 dX12_text_103 (by decide) (fun c3 => ?_) (fun c3 => ?_)
      · have h := if_t h c3
        exact wm_text_112 C X hg_54 h hW hS (lv_sub hl [0, 1, 2, 3, 4] rfl)
      · have h := if_f h c3
        refine lt_ok h (fun x4 e_x4 h => ?_)
        refine lv_iinc (v := x4) (lv' := [(6, .int x4), (0, .ref mo), (1, .int v1), (2, .int v2), (5, .int v5)]) C.1 C.2.1 dX12_text_106 hl (k := 4) rfl (by rw [← e_x4]; rfl) (by decide) rfl (fun ls hl => ?_)
        refine lv_goto (tgt := 66) C.1 C.2.1 dX12_text_109 (by decide) ?_
        exact ih h hW hS (lv_sub hl [1, 2, 3, 4, 0] rfl)
noncomputable def fm_text_54 : Nat → mSt → Int32 → Int32 → Int32 → Option (mSt)
  | 0, _, _, _, _ => none
  | n + 1, S, v1, v2, v5 =>
    if (S.1 49) ≤ v5 then (
    lt (pu S 49 (0 : Int32)) fun S2 =>
    fm_text_203 mFU S2 v1 v2 (0 : Int32))
    else (
    fm_text_66 (fm_text_54 n) mFU S v1 v2 v5 (0 : Int32))
set_option maxRecDepth 100000 in
set_option maxHeartbeats 4000000 in
theorem wm_text_54 (C : mY p R s m args meth c cX12_text 8 3 65 none) (X : mX s cM iS cI cZ mo ad) : ∀ (n : Nat), ∀ {S : mSt} {v1 : Int32} {v2 : Int32} {v5 : Int32} {H : Heap} {locs : List Loc} {ls : Array Slot}, fm_text_54 n S v1 v2 v5 = some S9 → mW cM iS cI cZ mo ad S H → mS (mA mo ad) s.heap H locs → lv_has ls 8 [(0, .ref mo), (1, .int v1), (2, .int v2), (5, .int v5)] → W p l e R s m args below meth c H locs 0 0 (MQ below (mQw none cM iS cI cZ mo ad S9) args s 0 0 (mA mo ad)) (F0 m 54 ls []) := by
  intro n
  induction n with
  | zero =>
    intro S v1 v2 v5 H locs ls h hW hS hl
    exact absurd (show (none : Option (mSt)) = _ from h) (fun q => by cases q)
  | succ n ih =>
    intro S v1 v2 v5 H locs ls h hW hS hl
    rw [fm_text_54] at h
    refine lv_iload C.1 C.2.1 dX12_text_54 (lv_at hl 3 rfl) ?_
    refine lv_aload_n C.1 C.2.1 dX12_text_56 rfl (lv_at hl 0 rfl) ?_
    refine gf_49 C X hW dX12_text_57 ?_
    refine lv_icmp_ge (tgt := 195) C.1 C.2.1 dX12_text_60 (by decide) (fun c1 => ?_) (fun c1 => ?_)
    · have h := if_t h c1
      refine lv_aload_n C.1 C.2.1 dX12_text_195 rfl (lv_at hl 0 rfl) ?_
      refine lv_iconst (v := 0) C.1 C.2.1 dX12_text_196 (by decide) ?_
      refine p_49 C X hW hS dX12_text_197 (fun H locs hW hS => ?_)
      refine lt_ok h (fun S2 e_S2 h => ?_)
      rw [e_S2] at hW
      refine lv_iconst (v := 0) C.1 C.2.1 dX12_text_200 (by decide) ?_
      refine lv_istore (lv' := [(5, .int (0 : Int32)), (0, .ref mo), (1, .int v1), (2, .int v2)]) C.1 C.2.1 dX12_text_201 hl (by decide) rfl (fun ls hl => ?_)
      exact wm_text_203 C X mFU h hW hS (lv_sub hl [1, 2, 3, 0] rfl)
    · have h := if_f h c1
      refine lv_iconst (v := 0) C.1 C.2.1 dX12_text_63 (by decide) ?_
      refine lv_istore (lv' := [(6, .int (0 : Int32)), (0, .ref mo), (1, .int v1), (2, .int v2), (5, .int v5)]) C.1 C.2.1 dX12_text_64 hl (by decide) rfl (fun ls hl => ?_)
      exact wm_text_66 C X ih mFU h hW hS (lv_sub hl [1, 2, 3, 4, 0] rfl)
noncomputable def fm_text_40 (g_3 : mSt → Int32 → Int32 → Int32 → Int32 → Int32 → Option (mSt)) (S : mSt) (v1 : Int32) (v2 : Int32) (v3 : Int32) (v4 : Int32) (v5 : Int32) : Option (mSt) :=
lt (v5 + (1 : Int32)) fun x1 =>
g_3 S v1 v2 v3 v4 x1
set_option maxRecDepth 100000 in
set_option maxHeartbeats 4000000 in
theorem wm_text_40 (C : mY p R s m args meth c cX12_text 8 3 65 none) (X : mX s cM iS cI cZ mo ad) {g_3 : mSt → Int32 → Int32 → Int32 → Int32 → Int32 → Option (mSt)} (hg_3 : ∀ {S : mSt} {v1 : Int32} {v2 : Int32} {v3 : Int32} {v4 : Int32} {v5 : Int32} {H : Heap} {locs : List Loc} {ls : Array Slot}, g_3 S v1 v2 v3 v4 v5 = some S9 → mW cM iS cI cZ mo ad S H → mS (mA mo ad) s.heap H locs → lv_has ls 8 [(0, .ref mo), (1, .int v1), (2, .int v2), (3, .int v3), (4, .int v4), (5, .int v5)] → W p l e R s m args below meth c H locs 0 0 (MQ below (mQw none cM iS cI cZ mo ad S9) args s 0 0 (mA mo ad)) (F0 m 3 ls [])) : ∀ {S : mSt} {v1 : Int32} {v2 : Int32} {v3 : Int32} {v4 : Int32} {v5 : Int32} {H : Heap} {locs : List Loc} {ls : Array Slot}, fm_text_40 g_3 S v1 v2 v3 v4 v5 = some S9 → mW cM iS cI cZ mo ad S H → mS (mA mo ad) s.heap H locs → lv_has ls 8 [(0, .ref mo), (1, .int v1), (2, .int v2), (3, .int v3), (4, .int v4), (5, .int v5)] → W p l e R s m args below meth c H locs 0 0 (MQ below (mQw none cM iS cI cZ mo ad S9) args s 0 0 (mA mo ad)) (F0 m 40 ls []) := by
  intro S v1 v2 v3 v4 v5 H locs ls h hW hS hl
  unfold fm_text_40 at h
  refine lt_ok h (fun x1 e_x1 h => ?_)
  refine lv_iinc (v := x1) (lv' := [(5, .int x1), (0, .ref mo), (1, .int v1), (2, .int v2), (3, .int v3), (4, .int v4)]) C.1 C.2.1 dX12_text_40 hl (k := 5) rfl (by rw [← e_x1]; rfl) (by decide) rfl (fun ls hl => ?_)
  refine lv_goto (tgt := 3) C.1 C.2.1 dX12_text_43 (by decide) ?_
  exact hg_3 h hW hS (lv_sub hl [1, 2, 3, 4, 5, 0] rfl)
noncomputable def fm_text_3 : Nat → mSt → Int32 → Int32 → Int32 → Int32 → Int32 → Option (mSt)
  | 0, _, _, _, _, _, _ => none
  | n + 1, S, v1, v2, v3, v4, v5 =>
    if v2 ≤ v5 then (
    lt (pu S 52 (0 : Int32)) fun S2 =>
    fm_text_54 mFU S2 v1 v2 (0 : Int32))
    else (
    bd (fm_rowAt S v1 v5) fun r3 =>
    bd (fm_isOf S r3 (9 : Int32) v3 v4) fun r4 =>
    if r4 = 0 then (
    fm_text_40 (fm_text_3 n) S v1 v2 v3 v4 v5)
    else (
    bd (fm_rowAt S v1 v5) fun r6 =>
    bd (fm_putInOrder S (0 : Int32) r6) fun S7 =>
    fm_text_40 (fm_text_3 n) S7 v1 v2 v3 v4 v5))
set_option maxRecDepth 100000 in
set_option maxHeartbeats 4000000 in
theorem wm_text_3 (C : mY p R s m args meth c cX12_text 8 3 65 none) (X : mX s cM iS cI cZ mo ad) : ∀ (n : Nat), ∀ {S : mSt} {v1 : Int32} {v2 : Int32} {v3 : Int32} {v4 : Int32} {v5 : Int32} {H : Heap} {locs : List Loc} {ls : Array Slot}, fm_text_3 n S v1 v2 v3 v4 v5 = some S9 → mW cM iS cI cZ mo ad S H → mS (mA mo ad) s.heap H locs → lv_has ls 8 [(0, .ref mo), (1, .int v1), (2, .int v2), (3, .int v3), (4, .int v4), (5, .int v5)] → W p l e R s m args below meth c H locs 0 0 (MQ below (mQw none cM iS cI cZ mo ad S9) args s 0 0 (mA mo ad)) (F0 m 3 ls []) := by
  intro n
  induction n with
  | zero =>
    intro S v1 v2 v3 v4 v5 H locs ls h hW hS hl
    exact absurd (show (none : Option (mSt)) = _ from h) (fun q => by cases q)
  | succ n ih =>
    intro S v1 v2 v3 v4 v5 H locs ls h hW hS hl
    rw [fm_text_3] at h
    refine lv_iload C.1 C.2.1 dX12_text_3 (lv_at hl 5 rfl) ?_
    refine lv_iload_n C.1 C.2.1 dX12_text_5 rfl (lv_at hl 2 rfl) ?_
    refine lv_icmp_ge (tgt := 46) C.1 C.2.1 dX12_text_6 (by decide) (fun c1 => ?_) (fun c1 => ?_)
    · have h := if_t h c1
      refine lv_aload_n C.1 C.2.1 dX12_text_46 rfl (lv_at hl 0 rfl) ?_
      refine lv_iconst (v := 0) C.1 C.2.1 dX12_text_47 (by decide) ?_
      refine p_52 C X hW hS dX12_text_48 (fun H locs hW hS => ?_)
      refine lt_ok h (fun S2 e_S2 h => ?_)
      rw [e_S2] at hW
      refine lv_iconst (v := 0) C.1 C.2.1 dX12_text_51 (by decide) ?_
      refine lv_istore (lv' := [(5, .int (0 : Int32)), (0, .ref mo), (1, .int v1), (2, .int v2), (3, .int v3), (4, .int v4)]) C.1 C.2.1 dX12_text_52 hl (by decide) rfl (fun ls hl => ?_)
      exact wm_text_54 C X mFU h hW hS (lv_sub hl [1, 2, 3, 0] rfl)
    · have h := if_f h c1
      refine lv_aload_n C.1 C.2.1 dX12_text_9 rfl (lv_at hl 0 rfl) ?_
      refine lv_aload_n C.1 C.2.1 dX12_text_10 rfl (lv_at hl 0 rfl) ?_
      refine lv_iload_n C.1 C.2.1 dX12_text_11 rfl (lv_at hl 1 rfl) ?_
      refine lv_iload C.1 C.2.1 dX12_text_12 (lv_at hl 5 rfl) ?_
      obtain ⟨r3, h_r3, h⟩ := bd_ok h
      refine m_callR (rest := [.ref mo]) C X hW hl.1 [.int v1, .int v5] (tm_rowAt l h_r3) mw_rowAt im_rowAt sl_rowAt rfl ⟨by decide, by decide⟩ rfl (Nat.le_of_ble_eq_true rfl) dX12_text_14 ?_
      refine lv_bipush (v := 9) C.1 C.2.1 dX12_text_17 (by decide) ?_
      refine lv_iload_n C.1 C.2.1 dX12_text_19 rfl (lv_at hl 3 rfl) ?_
      refine lv_iload C.1 C.2.1 dX12_text_20 (lv_at hl 4 rfl) ?_
      obtain ⟨r4, h_r4, h⟩ := bd_ok h
      refine m_callR (rest := []) C X hW hl.1 [.int r3, .int (9 : Int32), .int v3, .int v4] (tm_isOf l h_r4) mw_isOf im_isOf sl_isOf rfl ⟨by decide, by decide⟩ rfl (Nat.le_of_ble_eq_true rfl) dX12_text_22 ?_
      refine lv_if_eq (tgt := 40) C.1 C.2.1 dX12_text_25 (by decide) (fun c5 => ?_) (fun c5 => ?_)
      · have h := if_t h c5
        exact wm_text_40 C X ih h hW hS (lv_sub hl [0, 1, 2, 3, 4, 5] rfl)
      · have h := if_f h c5
        refine lv_aload_n C.1 C.2.1 dX12_text_28 rfl (lv_at hl 0 rfl) ?_
        refine lv_iconst (v := 0) C.1 C.2.1 dX12_text_29 (by decide) ?_
        refine lv_aload_n C.1 C.2.1 dX12_text_30 rfl (lv_at hl 0 rfl) ?_
        refine lv_iload_n C.1 C.2.1 dX12_text_31 rfl (lv_at hl 1 rfl) ?_
        refine lv_iload C.1 C.2.1 dX12_text_32 (lv_at hl 5 rfl) ?_
        obtain ⟨r6, h_r6, h⟩ := bd_ok h
        refine m_callR (rest := [.int (0 : Int32), .ref mo]) C X hW hl.1 [.int v1, .int v5] (tm_rowAt l h_r6) mw_rowAt im_rowAt sl_rowAt rfl ⟨by decide, by decide⟩ rfl (Nat.le_of_ble_eq_true rfl) dX12_text_34 ?_
        obtain ⟨S7, h_S7, h⟩ := bd_ok h
        refine m_callW (rest := []) (ov := none) C X hW hS hl.1 [.int (0 : Int32), .int r6] (tm_putInOrder l h_S7) mw_putInOrder im_putInOrder sl_putInOrder rfl ⟨by decide, by decide⟩ rfl (Nat.le_of_ble_eq_true rfl) dX12_text_37 (fun H locs hW hS => ?_)
        refine W.eq (g2 := F0 m 40 ls []) rfl ?_
        exact wm_text_40 C X ih h hW hS (lv_sub hl [0, 1, 2, 3, 4, 5] rfl)
noncomputable def fm_text (S : mSt) (v1 : Int32) (v2 : Int32) (v3 : Int32) (v4 : Int32) : Option (mSt) :=
fm_text_3 mFU S v1 v2 v3 v4 (0 : Int32)
set_option maxRecDepth 100000 in
set_option maxHeartbeats 4000000 in
theorem tm_text (l : Launch) {cM : ClassId} {iS : Nat → Nat} {cI cZ : ClassId} {mo : Nat} {ad : Nat → Nat} {S : mSt} {v1 : Int32} {v2 : Int32} {v3 : Int32} {v4 : Int32} {S9 : mSt} (h : fm_text S v1 v2 v3 v4 = some S9) : Met l yX12_text (Cond.code yX12_text cX12_text 8 none :: lw_g) { frames := 3, cells := 0, slots := 0, locals := 65 } (mPi [.int v1, .int v2, .int v3, .int v4] cM iS cI cZ mo ad S) (mQw none cM iS cI cZ mo ad S9) 0 0 (mA mo ad) := by
  refine Met.ofW (cc := cX12_text) (maxL := 8) (ret := none) (by decide) rfl ?_
  intro p e s m args below meth c s₁ B hml hv
  obtain ⟨rfl, hW, X⟩ := hv
  have C : mY p (headSpec (Cond.code yX12_text cX12_text 8 none :: lw_g) { frames := 3, cells := 0, slots := 0, locals := 65 }).room s m _ meth c cX12_text 8 3 65 none := ⟨B.exec, B.bytes, hml, findClass_of_methodNamed B.named, fun w hw => atoms_spec (ws := Cond.code yX12_text cX12_text 8 none :: lw_g) B.pre w (List.mem_cons_of_mem _ hw), ⟨Nat.le_refl _, Nat.le_refl _⟩, B.returns, B.notSynchronized⟩
  have hl := lv_entry ([.ref mo, .int v1, .int v2, .int v3, .int v4]) (n := 8) (Nat.le_of_ble_eq_true rfl)
  rw [lg_entry_eq]
  generalize (lg_sl ([.ref mo, .int v1, .int v2, .int v3, .int v4]) ++ List.replicate (8 - (lg_sl ([.ref mo, .int v1, .int v2, .int v3, .int v4])).length) Slot.unset).toArray = ls at hl ⊢
  have hl : lv_has ls 8 [(0, .ref mo), (1, .int v1), (2, .int v2), (3, .int v3), (4, .int v4)] := hl
  have hS : mS (mA mo ad) s.heap s.heap [] := mS.rf
  unfold fm_text at h
  refine lv_iconst (v := 0) C.1 C.2.1 dX12_text_0 (by decide) ?_
  refine lv_istore (lv' := [(5, .int (0 : Int32)), (0, .ref mo), (1, .int v1), (2, .int v2), (3, .int v3), (4, .int v4)]) C.1 C.2.1 dX12_text_1 hl (by decide) rfl (fun ls hl => ?_)
  exact wm_text_3 C X mFU h hW hS (lv_sub hl [1, 2, 3, 4, 5, 0] rfl)
end
theorem dX12_look_0 : decode cX12_look 0 = .ok (.aload_n 0, 1) := by decide +kernel
theorem dX12_look_1 : decode cX12_look 1 = .ok (.iconst 0, 1) := by decide +kernel
theorem dX12_look_2 : decode cX12_look 2 = .ok (.putfield 253, 3) := by decide +kernel
theorem dX12_look_5 : decode cX12_look 5 = .ok (.aload_n 0, 1) := by decide +kernel
theorem dX12_look_6 : decode cX12_look 6 = .ok (.iload_n 1, 1) := by decide +kernel
theorem dX12_look_7 : decode cX12_look 7 = .ok (.iload_n 2, 1) := by decide +kernel
theorem dX12_look_8 : decode cX12_look 8 = .ok (.invokevirtual 243, 3) := by decide +kernel
theorem dX12_look_11 : decode cX12_look 11 = .ok (.aload_n 0, 1) := by decide +kernel
theorem dX12_look_12 : decode cX12_look 12 = .ok (.iload_n 3, 1) := by decide +kernel
theorem dX12_look_13 : decode cX12_look 13 = .ok (.iload 4, 2) := by decide +kernel
theorem dX12_look_15 : decode cX12_look 15 = .ok (.invokevirtual 256, 3) := by decide +kernel
theorem dX12_look_18 : decode cX12_look 18 = .ok (.tableswitch 162 65 83 #[138, 126, 114, 162, 162, 162, 162, 162, 162, 162, 162, 90, 150, 162, 162, 162, 162, 162, 102], 90) := by decide +kernel
theorem dX12_look_108 : decode cX12_look 108 = .ok (.aload_n 0, 1) := by decide +kernel
theorem dX12_look_109 : decode cX12_look 109 = .ok (.iload_n 1, 1) := by decide +kernel
theorem dX12_look_110 : decode cX12_look 110 = .ok (.iload_n 2, 1) := by decide +kernel
theorem dX12_look_111 : decode cX12_look 111 = .ok (.iload_n 3, 1) := by decide +kernel
theorem dX12_look_112 : decode cX12_look 112 = .ok (.iload 4, 2) := by decide +kernel
theorem dX12_look_114 : decode cX12_look 114 = .ok (.invokevirtual 259, 3) := by decide +kernel
theorem dX12_look_117 : decode cX12_look 117 = .ok (.goto 72, 3) := by decide +kernel
theorem dX12_look_120 : decode cX12_look 120 = .ok (.aload_n 0, 1) := by decide +kernel
theorem dX12_look_121 : decode cX12_look 121 = .ok (.iload_n 1, 1) := by decide +kernel
theorem dX12_look_122 : decode cX12_look 122 = .ok (.iload_n 2, 1) := by decide +kernel
theorem dX12_look_123 : decode cX12_look 123 = .ok (.iload_n 3, 1) := by decide +kernel
theorem dX12_look_124 : decode cX12_look 124 = .ok (.iload 4, 2) := by decide +kernel
theorem dX12_look_126 : decode cX12_look 126 = .ok (.invokevirtual 263, 3) := by decide +kernel
theorem dX12_look_129 : decode cX12_look 129 = .ok (.goto 60, 3) := by decide +kernel
theorem dX12_look_132 : decode cX12_look 132 = .ok (.aload_n 0, 1) := by decide +kernel
theorem dX12_look_133 : decode cX12_look 133 = .ok (.iload_n 1, 1) := by decide +kernel
theorem dX12_look_134 : decode cX12_look 134 = .ok (.iload_n 2, 1) := by decide +kernel
theorem dX12_look_135 : decode cX12_look 135 = .ok (.iload_n 3, 1) := by decide +kernel
theorem dX12_look_136 : decode cX12_look 136 = .ok (.iload 4, 2) := by decide +kernel
theorem dX12_look_138 : decode cX12_look 138 = .ok (.invokevirtual 266, 3) := by decide +kernel
theorem dX12_look_141 : decode cX12_look 141 = .ok (.goto 48, 3) := by decide +kernel
theorem dX12_look_144 : decode cX12_look 144 = .ok (.aload_n 0, 1) := by decide +kernel
theorem dX12_look_145 : decode cX12_look 145 = .ok (.iload_n 1, 1) := by decide +kernel
theorem dX12_look_146 : decode cX12_look 146 = .ok (.iload_n 2, 1) := by decide +kernel
theorem dX12_look_147 : decode cX12_look 147 = .ok (.iload_n 3, 1) := by decide +kernel
theorem dX12_look_148 : decode cX12_look 148 = .ok (.iload 4, 2) := by decide +kernel
theorem dX12_look_150 : decode cX12_look 150 = .ok (.invokevirtual 269, 3) := by decide +kernel
theorem dX12_look_153 : decode cX12_look 153 = .ok (.goto 36, 3) := by decide +kernel
theorem dX12_look_156 : decode cX12_look 156 = .ok (.aload_n 0, 1) := by decide +kernel
theorem dX12_look_157 : decode cX12_look 157 = .ok (.iload_n 1, 1) := by decide +kernel
theorem dX12_look_158 : decode cX12_look 158 = .ok (.iload_n 2, 1) := by decide +kernel
theorem dX12_look_159 : decode cX12_look 159 = .ok (.iload_n 3, 1) := by decide +kernel
theorem dX12_look_160 : decode cX12_look 160 = .ok (.iload 4, 2) := by decide +kernel
theorem dX12_look_162 : decode cX12_look 162 = .ok (.invokevirtual 272, 3) := by decide +kernel
theorem dX12_look_165 : decode cX12_look 165 = .ok (.goto 24, 3) := by decide +kernel
theorem dX12_look_168 : decode cX12_look 168 = .ok (.aload_n 0, 1) := by decide +kernel
theorem dX12_look_169 : decode cX12_look 169 = .ok (.iload_n 1, 1) := by decide +kernel
theorem dX12_look_170 : decode cX12_look 170 = .ok (.iload_n 2, 1) := by decide +kernel
theorem dX12_look_171 : decode cX12_look 171 = .ok (.iload_n 3, 1) := by decide +kernel
theorem dX12_look_172 : decode cX12_look 172 = .ok (.iload 4, 2) := by decide +kernel
theorem dX12_look_174 : decode cX12_look 174 = .ok (.invokevirtual 275, 3) := by decide +kernel
theorem dX12_look_177 : decode cX12_look 177 = .ok (.goto 12, 3) := by decide +kernel
theorem dX12_look_180 : decode cX12_look 180 = .ok (.aload_n 0, 1) := by decide +kernel
theorem dX12_look_181 : decode cX12_look 181 = .ok (.iload_n 1, 1) := by decide +kernel
theorem dX12_look_182 : decode cX12_look 182 = .ok (.iload_n 2, 1) := by decide +kernel
theorem dX12_look_183 : decode cX12_look 183 = .ok (.iload_n 3, 1) := by decide +kernel
theorem dX12_look_184 : decode cX12_look 184 = .ok (.iload 4, 2) := by decide +kernel
theorem dX12_look_186 : decode cX12_look 186 = .ok (.invokevirtual 278, 3) := by decide +kernel
theorem dX12_look_189 : decode cX12_look 189 = .ok (.return_, 1) := by decide +kernel
theorem cd_look : Cond.code yX12_look cX12_look 5 none ∈ lw_g := mt_at 2029 (by decide +kernel) rfl
theorem mw_look : mCw 340 yX12_look cX12_look 5 none 4 := ⟨cd_look, mt_at 2026 (by decide +kernel) rfl, in_M, by decide +kernel⟩
theorem im_look : Cond.instanceMethod yX12_look ∈ lw_g := mt_at 2028 (by decide +kernel) rfl
theorem sl_look : Cond.selects RX12 yX12_look yX12_look ∈ lw_g := mt_sel 54 (by decide +kernel) rfl
section
variable {p : Program} {l : Launch} {e : Env} {R : Room} {s : State} {m : MethodId} {args : Array Value} {below : List Frame} {meth : Method} {c : Code} {cM : ClassId} {iS : Nat → Nat} {cI cZ : ClassId} {mo : Nat} {ad : Nat → Nat} {r : Int32} {S9 : mSt}
noncomputable def fm_look_189 (S : mSt) : Option (mSt) :=
some S
set_option maxRecDepth 100000 in
set_option maxHeartbeats 4000000 in
theorem wm_look_189 (C : mY p R s m args meth c cX12_look 5 4 95 none) (X : mX s cM iS cI cZ mo ad) : ∀ {S : mSt} {H : Heap} {locs : List Loc} {ls : Array Slot}, fm_look_189 S = some S9 → mW cM iS cI cZ mo ad S H → mS (mA mo ad) s.heap H locs → lv_has ls 5 [] → W p l e R s m args below meth c H locs 0 0 (MQ below (mQw none cM iS cI cZ mo ad S9) args s 0 0 (mA mo ad)) (F0 m 189 ls []) := by
  intro S H locs ls h hW hS hl
  unfold fm_look_189 at h
  cases h
  exact m_retvW C hW hS dX12_look_189
noncomputable def fm_look_180 (S : mSt) (v1 : Int32) (v2 : Int32) (v3 : Int32) (v4 : Int32) : Option (mSt) :=
bd (fm_text S v1 v2 v3 v4) fun S1 =>
fm_look_189 S1
set_option maxRecDepth 100000 in
set_option maxHeartbeats 4000000 in
theorem wm_look_180 (C : mY p R s m args meth c cX12_look 5 4 95 none) (X : mX s cM iS cI cZ mo ad) : ∀ {S : mSt} {v1 : Int32} {v2 : Int32} {v3 : Int32} {v4 : Int32} {H : Heap} {locs : List Loc} {ls : Array Slot}, fm_look_180 S v1 v2 v3 v4 = some S9 → mW cM iS cI cZ mo ad S H → mS (mA mo ad) s.heap H locs → lv_has ls 5 [(0, .ref mo), (1, .int v1), (2, .int v2), (3, .int v3), (4, .int v4)] → W p l e R s m args below meth c H locs 0 0 (MQ below (mQw none cM iS cI cZ mo ad S9) args s 0 0 (mA mo ad)) (F0 m 180 ls []) := by
  intro S v1 v2 v3 v4 H locs ls h hW hS hl
  unfold fm_look_180 at h
  refine lv_aload_n C.1 C.2.1 dX12_look_180 rfl (lv_at hl 0 rfl) ?_
  refine lv_iload_n C.1 C.2.1 dX12_look_181 rfl (lv_at hl 1 rfl) ?_
  refine lv_iload_n C.1 C.2.1 dX12_look_182 rfl (lv_at hl 2 rfl) ?_
  refine lv_iload_n C.1 C.2.1 dX12_look_183 rfl (lv_at hl 3 rfl) ?_
  refine lv_iload C.1 C.2.1 dX12_look_184 (lv_at hl 4 rfl) ?_
  obtain ⟨S1, h_S1, h⟩ := bd_ok h
  refine m_callW (rest := []) (ov := none) C X hW hS hl.1 [.int v1, .int v2, .int v3, .int v4] (tm_text l h_S1) mw_text im_text sl_text rfl ⟨by decide, by decide⟩ rfl (Nat.le_of_ble_eq_true rfl) dX12_look_186 (fun H locs hW hS => ?_)
  refine W.eq (g2 := F0 m 189 ls []) rfl ?_
  exact wm_look_189 C X h hW hS (lv_sub hl [] rfl)
noncomputable def fm_look (S : mSt) (v1 : Int32) (v2 : Int32) (v3 : Int32) (v4 : Int32) : Option (mSt) :=
lt (pu S 49 (0 : Int32)) fun S1 =>
bd (fm_judge S1 v1 v2) fun S2 =>
bd (fm_ruleOf S2 v3 v4) fun r3 =>
if r3 = (65 : Int32) then (
bd (fm_set S2 v1 v2 v3 v4) fun S5 =>
fm_look_189 S5)
else if r3 = (66 : Int32) then (
bd (fm_shares S2 v1 v2 v3 v4) fun S7 =>
fm_look_189 S7)
else if r3 = (67 : Int32) then (
bd (fm_sum S2 v1 v2 v3 v4) fun S9 =>
fm_look_189 S9)
else if r3 = (68 : Int32) then (
fm_look_180 S2 v1 v2 v3 v4)
else if r3 = (69 : Int32) then (
fm_look_180 S2 v1 v2 v3 v4)
else if r3 = (70 : Int32) then (
fm_look_180 S2 v1 v2 v3 v4)
else if r3 = (71 : Int32) then (
fm_look_180 S2 v1 v2 v3 v4)
else if r3 = (72 : Int32) then (
fm_look_180 S2 v1 v2 v3 v4)
else if r3 = (73 : Int32) then (
fm_look_180 S2 v1 v2 v3 v4)
else if r3 = (74 : Int32) then (
fm_look_180 S2 v1 v2 v3 v4)
else if r3 = (75 : Int32) then (
fm_look_180 S2 v1 v2 v3 v4)
else if r3 = (76 : Int32) then (
bd (fm_latest S2 v1 v2 v3 v4) fun S19 =>
fm_look_189 S19)
else if r3 = (77 : Int32) then (
bd (fm_keys S2 v1 v2 v3 v4) fun S21 =>
fm_look_189 S21)
else if r3 = (78 : Int32) then (
fm_look_180 S2 v1 v2 v3 v4)
else if r3 = (79 : Int32) then (
fm_look_180 S2 v1 v2 v3 v4)
else if r3 = (80 : Int32) then (
fm_look_180 S2 v1 v2 v3 v4)
else if r3 = (81 : Int32) then (
fm_look_180 S2 v1 v2 v3 v4)
else if r3 = (82 : Int32) then (
fm_look_180 S2 v1 v2 v3 v4)
else if r3 = (83 : Int32) then (
bd (fm_several S2 v1 v2 v3 v4) fun S28 =>
fm_look_189 S28)
else (
fm_look_180 S2 v1 v2 v3 v4)
set_option maxRecDepth 100000 in
set_option maxHeartbeats 4000000 in
theorem tm_look (l : Launch) {cM : ClassId} {iS : Nat → Nat} {cI cZ : ClassId} {mo : Nat} {ad : Nat → Nat} {S : mSt} {v1 : Int32} {v2 : Int32} {v3 : Int32} {v4 : Int32} {S9 : mSt} (h : fm_look S v1 v2 v3 v4 = some S9) : Met l yX12_look (Cond.code yX12_look cX12_look 5 none :: lw_g) { frames := 4, cells := 0, slots := 0, locals := 95 } (mPi [.int v1, .int v2, .int v3, .int v4] cM iS cI cZ mo ad S) (mQw none cM iS cI cZ mo ad S9) 0 0 (mA mo ad) := by
  refine Met.ofW (cc := cX12_look) (maxL := 5) (ret := none) (by decide) rfl ?_
  intro p e s m args below meth c s₁ B hml hv
  obtain ⟨rfl, hW, X⟩ := hv
  have C : mY p (headSpec (Cond.code yX12_look cX12_look 5 none :: lw_g) { frames := 4, cells := 0, slots := 0, locals := 95 }).room s m _ meth c cX12_look 5 4 95 none := ⟨B.exec, B.bytes, hml, findClass_of_methodNamed B.named, fun w hw => atoms_spec (ws := Cond.code yX12_look cX12_look 5 none :: lw_g) B.pre w (List.mem_cons_of_mem _ hw), ⟨Nat.le_refl _, Nat.le_refl _⟩, B.returns, B.notSynchronized⟩
  have hl := lv_entry ([.ref mo, .int v1, .int v2, .int v3, .int v4]) (n := 5) (Nat.le_of_ble_eq_true rfl)
  rw [lg_entry_eq]
  generalize (lg_sl ([.ref mo, .int v1, .int v2, .int v3, .int v4]) ++ List.replicate (5 - (lg_sl ([.ref mo, .int v1, .int v2, .int v3, .int v4])).length) Slot.unset).toArray = ls at hl ⊢
  have hl : lv_has ls 5 [(0, .ref mo), (1, .int v1), (2, .int v2), (3, .int v3), (4, .int v4)] := hl
  have hS : mS (mA mo ad) s.heap s.heap [] := mS.rf
  unfold fm_look at h
  refine lv_aload_n C.1 C.2.1 dX12_look_0 rfl (lv_at hl 0 rfl) ?_
  refine lv_iconst (v := 0) C.1 C.2.1 dX12_look_1 (by decide) ?_
  refine p_49 C X hW hS dX12_look_2 (fun H locs hW hS => ?_)
  refine lt_ok h (fun S1 e_S1 h => ?_)
  rw [e_S1] at hW
  refine lv_aload_n C.1 C.2.1 dX12_look_5 rfl (lv_at hl 0 rfl) ?_
  refine lv_iload_n C.1 C.2.1 dX12_look_6 rfl (lv_at hl 1 rfl) ?_
  refine lv_iload_n C.1 C.2.1 dX12_look_7 rfl (lv_at hl 2 rfl) ?_
  obtain ⟨S2, h_S2, h⟩ := bd_ok h
  refine m_callW (rest := []) (ov := none) C X hW hS hl.1 [.int v1, .int v2] (tm_judge l h_S2) mw_judge im_judge sl_judge rfl ⟨by decide, by decide⟩ rfl (Nat.le_of_ble_eq_true rfl) dX12_look_8 (fun H locs hW hS => ?_)
  refine W.eq (g2 := F0 m 11 ls []) rfl ?_
  refine lv_aload_n C.1 C.2.1 dX12_look_11 rfl (lv_at hl 0 rfl) ?_
  refine lv_iload_n C.1 C.2.1 dX12_look_12 rfl (lv_at hl 3 rfl) ?_
  refine lv_iload C.1 C.2.1 dX12_look_13 (lv_at hl 4 rfl) ?_
  obtain ⟨r3, h_r3, h⟩ := bd_ok h
  refine m_callR (rest := []) C X hW hl.1 [.int v3, .int v4] (tm_ruleOf l h_r3) mw_ruleOf im_ruleOf sl_ruleOf rfl ⟨by decide, by decide⟩ rfl (Nat.le_of_ble_eq_true rfl) dX12_look_15 ?_
  by_cases c4 : r3 = (65 : Int32)
  · have h := if_t h c4
    refine lv_tableIn (off := 138) (tgt := 156) C.1 C.2.1 dX12_look_18 (by rw [c4]; decide) (by rw [c4]; decide) (by rw [c4]; rfl) (by decide) ?_
    refine lv_aload_n C.1 C.2.1 dX12_look_156 rfl (lv_at hl 0 rfl) ?_
    refine lv_iload_n C.1 C.2.1 dX12_look_157 rfl (lv_at hl 1 rfl) ?_
    refine lv_iload_n C.1 C.2.1 dX12_look_158 rfl (lv_at hl 2 rfl) ?_
    refine lv_iload_n C.1 C.2.1 dX12_look_159 rfl (lv_at hl 3 rfl) ?_
    refine lv_iload C.1 C.2.1 dX12_look_160 (lv_at hl 4 rfl) ?_
    obtain ⟨S5, h_S5, h⟩ := bd_ok h
    refine m_callW (rest := []) (ov := none) C X hW hS hl.1 [.int v1, .int v2, .int v3, .int v4] (tm_set l h_S5) mw_set im_set sl_set rfl ⟨by decide, by decide⟩ rfl (Nat.le_of_ble_eq_true rfl) dX12_look_162 (fun H locs hW hS => ?_)
    refine W.eq (g2 := F0 m 165 ls []) rfl ?_
    refine lv_goto (tgt := 189) C.1 C.2.1 dX12_look_165 (by decide) ?_
    exact wm_look_189 C X h hW hS (lv_sub hl [] rfl)
  · have h := if_f h c4
    by_cases c6 : r3 = (66 : Int32)
    · have h := if_t h c6
      refine lv_tableIn (off := 126) (tgt := 144) C.1 C.2.1 dX12_look_18 (by rw [c6]; decide) (by rw [c6]; decide) (by rw [c6]; rfl) (by decide) ?_
      refine lv_aload_n C.1 C.2.1 dX12_look_144 rfl (lv_at hl 0 rfl) ?_
      refine lv_iload_n C.1 C.2.1 dX12_look_145 rfl (lv_at hl 1 rfl) ?_
      refine lv_iload_n C.1 C.2.1 dX12_look_146 rfl (lv_at hl 2 rfl) ?_
      refine lv_iload_n C.1 C.2.1 dX12_look_147 rfl (lv_at hl 3 rfl) ?_
      refine lv_iload C.1 C.2.1 dX12_look_148 (lv_at hl 4 rfl) ?_
      obtain ⟨S7, h_S7, h⟩ := bd_ok h
      refine m_callW (rest := []) (ov := none) C X hW hS hl.1 [.int v1, .int v2, .int v3, .int v4] (tm_shares l h_S7) mw_shares im_shares sl_shares rfl ⟨by decide, by decide⟩ rfl (Nat.le_of_ble_eq_true rfl) dX12_look_150 (fun H locs hW hS => ?_)
      refine W.eq (g2 := F0 m 153 ls []) rfl ?_
      refine lv_goto (tgt := 189) C.1 C.2.1 dX12_look_153 (by decide) ?_
      exact wm_look_189 C X h hW hS (lv_sub hl [] rfl)
    · have h := if_f h c6
      by_cases c8 : r3 = (67 : Int32)
      · have h := if_t h c8
        refine lv_tableIn (off := 114) (tgt := 132) C.1 C.2.1 dX12_look_18 (by rw [c8]; decide) (by rw [c8]; decide) (by rw [c8]; rfl) (by decide) ?_
        refine lv_aload_n C.1 C.2.1 dX12_look_132 rfl (lv_at hl 0 rfl) ?_
        refine lv_iload_n C.1 C.2.1 dX12_look_133 rfl (lv_at hl 1 rfl) ?_
        refine lv_iload_n C.1 C.2.1 dX12_look_134 rfl (lv_at hl 2 rfl) ?_
        refine lv_iload_n C.1 C.2.1 dX12_look_135 rfl (lv_at hl 3 rfl) ?_
        refine lv_iload C.1 C.2.1 dX12_look_136 (lv_at hl 4 rfl) ?_
        obtain ⟨S9, h_S9, h⟩ := bd_ok h
        refine m_callW (rest := []) (ov := none) C X hW hS hl.1 [.int v1, .int v2, .int v3, .int v4] (tm_sum l h_S9) mw_sum im_sum sl_sum rfl ⟨by decide, by decide⟩ rfl (Nat.le_of_ble_eq_true rfl) dX12_look_138 (fun H locs hW hS => ?_)
        refine W.eq (g2 := F0 m 141 ls []) rfl ?_
        refine lv_goto (tgt := 189) C.1 C.2.1 dX12_look_141 (by decide) ?_
        exact wm_look_189 C X h hW hS (lv_sub hl [] rfl)
      · have h := if_f h c8
        by_cases c10 : r3 = (68 : Int32)
        · have h := if_t h c10
          refine lv_tableIn (off := 162) (tgt := 180) C.1 C.2.1 dX12_look_18 (by rw [c10]; decide) (by rw [c10]; decide) (by rw [c10]; rfl) (by decide) ?_
          exact wm_look_180 C X h hW hS (lv_sub hl [0, 1, 2, 3, 4] rfl)
        · have h := if_f h c10
          by_cases c11 : r3 = (69 : Int32)
          · have h := if_t h c11
            refine lv_tableIn (off := 162) (tgt := 180) C.1 C.2.1 dX12_look_18 (by rw [c11]; decide) (by rw [c11]; decide) (by rw [c11]; rfl) (by decide) ?_
            exact wm_look_180 C X h hW hS (lv_sub hl [0, 1, 2, 3, 4] rfl)
          · have h := if_f h c11
            by_cases c12 : r3 = (70 : Int32)
            · have h := if_t h c12
              refine lv_tableIn (off := 162) (tgt := 180) C.1 C.2.1 dX12_look_18 (by rw [c12]; decide) (by rw [c12]; decide) (by rw [c12]; rfl) (by decide) ?_
              exact wm_look_180 C X h hW hS (lv_sub hl [0, 1, 2, 3, 4] rfl)
            · have h := if_f h c12
              by_cases c13 : r3 = (71 : Int32)
              · have h := if_t h c13
                refine lv_tableIn (off := 162) (tgt := 180) C.1 C.2.1 dX12_look_18 (by rw [c13]; decide) (by rw [c13]; decide) (by rw [c13]; rfl) (by decide) ?_
                exact wm_look_180 C X h hW hS (lv_sub hl [0, 1, 2, 3, 4] rfl)
              · have h := if_f h c13
                by_cases c14 : r3 = (72 : Int32)
                · have h := if_t h c14
                  refine lv_tableIn (off := 162) (tgt := 180) C.1 C.2.1 dX12_look_18 (by rw [c14]; decide) (by rw [c14]; decide) (by rw [c14]; rfl) (by decide) ?_
                  exact wm_look_180 C X h hW hS (lv_sub hl [0, 1, 2, 3, 4] rfl)
                · have h := if_f h c14
                  by_cases c15 : r3 = (73 : Int32)
                  · have h := if_t h c15
                    refine lv_tableIn (off := 162) (tgt := 180) C.1 C.2.1 dX12_look_18 (by rw [c15]; decide) (by rw [c15]; decide) (by rw [c15]; rfl) (by decide) ?_
                    exact wm_look_180 C X h hW hS (lv_sub hl [0, 1, 2, 3, 4] rfl)
                  · have h := if_f h c15
                    by_cases c16 : r3 = (74 : Int32)
                    · have h := if_t h c16
                      refine lv_tableIn (off := 162) (tgt := 180) C.1 C.2.1 dX12_look_18 (by rw [c16]; decide) (by rw [c16]; decide) (by rw [c16]; rfl) (by decide) ?_
                      exact wm_look_180 C X h hW hS (lv_sub hl [0, 1, 2, 3, 4] rfl)
                    · have h := if_f h c16
                      by_cases c17 : r3 = (75 : Int32)
                      · have h := if_t h c17
                        refine lv_tableIn (off := 162) (tgt := 180) C.1 C.2.1 dX12_look_18 (by rw [c17]; decide) (by rw [c17]; decide) (by rw [c17]; rfl) (by decide) ?_
                        exact wm_look_180 C X h hW hS (lv_sub hl [0, 1, 2, 3, 4] rfl)
                      · have h := if_f h c17
                        by_cases c18 : r3 = (76 : Int32)
                        · have h := if_t h c18
                          refine lv_tableIn (off := 90) (tgt := 108) C.1 C.2.1 dX12_look_18 (by rw [c18]; decide) (by rw [c18]; decide) (by rw [c18]; rfl) (by decide) ?_
                          refine lv_aload_n C.1 C.2.1 dX12_look_108 rfl (lv_at hl 0 rfl) ?_
                          refine lv_iload_n C.1 C.2.1 dX12_look_109 rfl (lv_at hl 1 rfl) ?_
                          refine lv_iload_n C.1 C.2.1 dX12_look_110 rfl (lv_at hl 2 rfl) ?_
                          refine lv_iload_n C.1 C.2.1 dX12_look_111 rfl (lv_at hl 3 rfl) ?_
                          refine lv_iload C.1 C.2.1 dX12_look_112 (lv_at hl 4 rfl) ?_
                          obtain ⟨S19, h_S19, h⟩ := bd_ok h
                          refine m_callW (rest := []) (ov := none) C X hW hS hl.1 [.int v1, .int v2, .int v3, .int v4] (tm_latest l h_S19) mw_latest im_latest sl_latest rfl ⟨by decide, by decide⟩ rfl (Nat.le_of_ble_eq_true rfl) dX12_look_114 (fun H locs hW hS => ?_)
                          refine W.eq (g2 := F0 m 117 ls []) rfl ?_
                          refine lv_goto (tgt := 189) C.1 C.2.1 dX12_look_117 (by decide) ?_
                          exact wm_look_189 C X h hW hS (lv_sub hl [] rfl)
                        · have h := if_f h c18
                          by_cases c20 : r3 = (77 : Int32)
                          · have h := if_t h c20
                            refine lv_tableIn (off := 150) (tgt := 168) C.1 C.2.1 dX12_look_18 (by rw [c20]; decide) (by rw [c20]; decide) (by rw [c20]; rfl) (by decide) ?_
                            refine lv_aload_n C.1 C.2.1 dX12_look_168 rfl (lv_at hl 0 rfl) ?_
                            refine lv_iload_n C.1 C.2.1 dX12_look_169 rfl (lv_at hl 1 rfl) ?_
                            refine lv_iload_n C.1 C.2.1 dX12_look_170 rfl (lv_at hl 2 rfl) ?_
                            refine lv_iload_n C.1 C.2.1 dX12_look_171 rfl (lv_at hl 3 rfl) ?_
                            refine lv_iload C.1 C.2.1 dX12_look_172 (lv_at hl 4 rfl) ?_
                            obtain ⟨S21, h_S21, h⟩ := bd_ok h
                            refine m_callW (rest := []) (ov := none) C X hW hS hl.1 [.int v1, .int v2, .int v3, .int v4] (tm_keys l h_S21) mw_keys im_keys sl_keys rfl ⟨by decide, by decide⟩ rfl (Nat.le_of_ble_eq_true rfl) dX12_look_174 (fun H locs hW hS => ?_)
                            refine W.eq (g2 := F0 m 177 ls []) rfl ?_
                            refine lv_goto (tgt := 189) C.1 C.2.1 dX12_look_177 (by decide) ?_
                            exact wm_look_189 C X h hW hS (lv_sub hl [] rfl)
                          · have h := if_f h c20
                            by_cases c22 : r3 = (78 : Int32)
                            · have h := if_t h c22
                              refine lv_tableIn (off := 162) (tgt := 180) C.1 C.2.1 dX12_look_18 (by rw [c22]; decide) (by rw [c22]; decide) (by rw [c22]; rfl) (by decide) ?_
                              exact wm_look_180 C X h hW hS (lv_sub hl [0, 1, 2, 3, 4] rfl)
                            · have h := if_f h c22
                              by_cases c23 : r3 = (79 : Int32)
                              · have h := if_t h c23
                                refine lv_tableIn (off := 162) (tgt := 180) C.1 C.2.1 dX12_look_18 (by rw [c23]; decide) (by rw [c23]; decide) (by rw [c23]; rfl) (by decide) ?_
                                exact wm_look_180 C X h hW hS (lv_sub hl [0, 1, 2, 3, 4] rfl)
                              · have h := if_f h c23
                                by_cases c24 : r3 = (80 : Int32)
                                · have h := if_t h c24
                                  refine lv_tableIn (off := 162) (tgt := 180) C.1 C.2.1 dX12_look_18 (by rw [c24]; decide) (by rw [c24]; decide) (by rw [c24]; rfl) (by decide) ?_
                                  exact wm_look_180 C X h hW hS (lv_sub hl [0, 1, 2, 3, 4] rfl)
                                · have h := if_f h c24
                                  by_cases c25 : r3 = (81 : Int32)
                                  · have h := if_t h c25
                                    refine lv_tableIn (off := 162) (tgt := 180) C.1 C.2.1 dX12_look_18 (by rw [c25]; decide) (by rw [c25]; decide) (by rw [c25]; rfl) (by decide) ?_
                                    exact wm_look_180 C X h hW hS (lv_sub hl [0, 1, 2, 3, 4] rfl)
                                  · have h := if_f h c25
                                    by_cases c26 : r3 = (82 : Int32)
                                    · have h := if_t h c26
                                      refine lv_tableIn (off := 162) (tgt := 180) C.1 C.2.1 dX12_look_18 (by rw [c26]; decide) (by rw [c26]; decide) (by rw [c26]; rfl) (by decide) ?_
                                      exact wm_look_180 C X h hW hS (lv_sub hl [0, 1, 2, 3, 4] rfl)
                                    · have h := if_f h c26
                                      by_cases c27 : r3 = (83 : Int32)
                                      · have h := if_t h c27
                                        refine lv_tableIn (off := 102) (tgt := 120) C.1 C.2.1 dX12_look_18 (by rw [c27]; decide) (by rw [c27]; decide) (by rw [c27]; rfl) (by decide) ?_
                                        refine lv_aload_n C.1 C.2.1 dX12_look_120 rfl (lv_at hl 0 rfl) ?_
                                        refine lv_iload_n C.1 C.2.1 dX12_look_121 rfl (lv_at hl 1 rfl) ?_
                                        refine lv_iload_n C.1 C.2.1 dX12_look_122 rfl (lv_at hl 2 rfl) ?_
                                        refine lv_iload_n C.1 C.2.1 dX12_look_123 rfl (lv_at hl 3 rfl) ?_
                                        refine lv_iload C.1 C.2.1 dX12_look_124 (lv_at hl 4 rfl) ?_
                                        obtain ⟨S28, h_S28, h⟩ := bd_ok h
                                        refine m_callW (rest := []) (ov := none) C X hW hS hl.1 [.int v1, .int v2, .int v3, .int v4] (tm_several l h_S28) mw_several im_several sl_several rfl ⟨by decide, by decide⟩ rfl (Nat.le_of_ble_eq_true rfl) dX12_look_126 (fun H locs hW hS => ?_)
                                        refine W.eq (g2 := F0 m 129 ls []) rfl ?_
                                        refine lv_goto (tgt := 189) C.1 C.2.1 dX12_look_129 (by decide) ?_
                                        exact wm_look_189 C X h hW hS (lv_sub hl [] rfl)
                                      · have h := if_f h c27
                                        have n_c4 := lv_neT c4 (a := 65) rfl
                                        have n_c6 := lv_neT c6 (a := 66) rfl
                                        have n_c8 := lv_neT c8 (a := 67) rfl
                                        have n_c10 := lv_neT c10 (a := 68) rfl
                                        have n_c11 := lv_neT c11 (a := 69) rfl
                                        have n_c12 := lv_neT c12 (a := 70) rfl
                                        have n_c13 := lv_neT c13 (a := 71) rfl
                                        have n_c14 := lv_neT c14 (a := 72) rfl
                                        have n_c15 := lv_neT c15 (a := 73) rfl
                                        have n_c16 := lv_neT c16 (a := 74) rfl
                                        have n_c17 := lv_neT c17 (a := 75) rfl
                                        have n_c18 := lv_neT c18 (a := 76) rfl
                                        have n_c20 := lv_neT c20 (a := 77) rfl
                                        have n_c22 := lv_neT c22 (a := 78) rfl
                                        have n_c23 := lv_neT c23 (a := 79) rfl
                                        have n_c24 := lv_neT c24 (a := 80) rfl
                                        have n_c25 := lv_neT c25 (a := 81) rfl
                                        have n_c26 := lv_neT c26 (a := 82) rfl
                                        have n_c27 := lv_neT c27 (a := 83) rfl
                                        refine lv_tableOut (tgt := 180) C.1 C.2.1 dX12_look_18 (by omega) (by decide) ?_
                                        exact wm_look_180 C X h hW hS (lv_sub hl [0, 1, 2, 3, 4] rfl)
end
theorem dX12_findObjects_0 : decode cX12_findObjects 0 = .ok (.aload_n 0, 1) := by decide +kernel
theorem dX12_findObjects_1 : decode cX12_findObjects 1 = .ok (.iconst 0, 1) := by decide +kernel
theorem dX12_findObjects_2 : decode cX12_findObjects 2 = .ok (.putfield 309, 3) := by decide +kernel
theorem dX12_findObjects_5 : decode cX12_findObjects 5 = .ok (.iconst 0, 1) := by decide +kernel
theorem dX12_findObjects_6 : decode cX12_findObjects 6 = .ok (.istore_n 3, 1) := by decide +kernel
theorem dX12_findObjects_7 : decode cX12_findObjects 7 = .ok (.iload_n 3, 1) := by decide +kernel
theorem dX12_findObjects_8 : decode cX12_findObjects 8 = .ok (.iload_n 2, 1) := by decide +kernel
theorem dX12_findObjects_9 : decode cX12_findObjects 9 = .ok (.if_icmp .ge 102, 3) := by decide +kernel
theorem dX12_findObjects_12 : decode cX12_findObjects 12 = .ok (.aload_n 0, 1) := by decide +kernel
theorem dX12_findObjects_13 : decode cX12_findObjects 13 = .ok (.iload_n 1, 1) := by decide +kernel
theorem dX12_findObjects_14 : decode cX12_findObjects 14 = .ok (.iload_n 3, 1) := by decide +kernel
theorem dX12_findObjects_15 : decode cX12_findObjects 15 = .ok (.invokevirtual 230, 3) := by decide +kernel
theorem dX12_findObjects_18 : decode cX12_findObjects 18 = .ok (.istore 4, 2) := by decide +kernel
theorem dX12_findObjects_20 : decode cX12_findObjects 20 = .ok (.aload_n 0, 1) := by decide +kernel
theorem dX12_findObjects_21 : decode cX12_findObjects 21 = .ok (.getfield 29, 3) := by decide +kernel
theorem dX12_findObjects_24 : decode cX12_findObjects 24 = .ok (.iload 4, 2) := by decide +kernel
theorem dX12_findObjects_26 : decode cX12_findObjects 26 = .ok (.iaload, 1) := by decide +kernel
theorem dX12_findObjects_27 : decode cX12_findObjects 27 = .ok (.ifCond .eq 6, 3) := by decide +kernel
theorem dX12_findObjects_30 : decode cX12_findObjects 30 = .ok (.goto 75, 3) := by decide +kernel
theorem dX12_findObjects_33 : decode cX12_findObjects 33 = .ok (.aload_n 0, 1) := by decide +kernel
theorem dX12_findObjects_34 : decode cX12_findObjects 34 = .ok (.getfield 309, 3) := by decide +kernel
theorem dX12_findObjects_37 : decode cX12_findObjects 37 = .ok (.istore 5, 2) := by decide +kernel
theorem dX12_findObjects_39 : decode cX12_findObjects 39 = .ok (.iload 5, 2) := by decide +kernel
theorem dX12_findObjects_41 : decode cX12_findObjects 41 = .ok (.ifCond .le 42, 3) := by decide +kernel
theorem dX12_findObjects_44 : decode cX12_findObjects 44 = .ok (.aload_n 0, 1) := by decide +kernel
theorem dX12_findObjects_45 : decode cX12_findObjects 45 = .ok (.getfield 148, 3) := by decide +kernel
theorem dX12_findObjects_48 : decode cX12_findObjects 48 = .ok (.iload 5, 2) := by decide +kernel
theorem dX12_findObjects_50 : decode cX12_findObjects 50 = .ok (.iconst 1, 1) := by decide +kernel
theorem dX12_findObjects_51 : decode cX12_findObjects 51 = .ok (.isub, 1) := by decide +kernel
theorem dX12_findObjects_52 : decode cX12_findObjects 52 = .ok (.iaload, 1) := by decide +kernel
theorem dX12_findObjects_53 : decode cX12_findObjects 53 = .ok (.iload 4, 2) := by decide +kernel
theorem dX12_findObjects_55 : decode cX12_findObjects 55 = .ok (.invokestatic 303, 3) := by decide +kernel
theorem dX12_findObjects_58 : decode cX12_findObjects 58 = .ok (.if_icmp .le 25, 3) := by decide +kernel
theorem dX12_findObjects_61 : decode cX12_findObjects 61 = .ok (.aload_n 0, 1) := by decide +kernel
theorem dX12_findObjects_62 : decode cX12_findObjects 62 = .ok (.getfield 148, 3) := by decide +kernel
theorem dX12_findObjects_65 : decode cX12_findObjects 65 = .ok (.iload 5, 2) := by decide +kernel
theorem dX12_findObjects_67 : decode cX12_findObjects 67 = .ok (.aload_n 0, 1) := by decide +kernel
theorem dX12_findObjects_68 : decode cX12_findObjects 68 = .ok (.getfield 148, 3) := by decide +kernel
theorem dX12_findObjects_71 : decode cX12_findObjects 71 = .ok (.iload 5, 2) := by decide +kernel
theorem dX12_findObjects_73 : decode cX12_findObjects 73 = .ok (.iconst 1, 1) := by decide +kernel
theorem dX12_findObjects_74 : decode cX12_findObjects 74 = .ok (.isub, 1) := by decide +kernel
theorem dX12_findObjects_75 : decode cX12_findObjects 75 = .ok (.iaload, 1) := by decide +kernel
theorem dX12_findObjects_76 : decode cX12_findObjects 76 = .ok (.iastore, 1) := by decide +kernel
theorem dX12_findObjects_77 : decode cX12_findObjects 77 = .ok (.iinc 5 (-1), 3) := by decide +kernel
theorem dX12_findObjects_80 : decode cX12_findObjects 80 = .ok (.goto (-41), 3) := by decide +kernel
theorem dX12_findObjects_83 : decode cX12_findObjects 83 = .ok (.aload_n 0, 1) := by decide +kernel
theorem dX12_findObjects_84 : decode cX12_findObjects 84 = .ok (.getfield 148, 3) := by decide +kernel
theorem dX12_findObjects_87 : decode cX12_findObjects 87 = .ok (.iload 5, 2) := by decide +kernel
theorem dX12_findObjects_89 : decode cX12_findObjects 89 = .ok (.iload 4, 2) := by decide +kernel
theorem dX12_findObjects_91 : decode cX12_findObjects 91 = .ok (.invokestatic 303, 3) := by decide +kernel
theorem dX12_findObjects_94 : decode cX12_findObjects 94 = .ok (.iastore, 1) := by decide +kernel
theorem dX12_findObjects_95 : decode cX12_findObjects 95 = .ok (.aload_n 0, 1) := by decide +kernel
theorem dX12_findObjects_96 : decode cX12_findObjects 96 = .ok (.dup, 1) := by decide +kernel
theorem dX12_findObjects_97 : decode cX12_findObjects 97 = .ok (.getfield 309, 3) := by decide +kernel
theorem dX12_findObjects_100 : decode cX12_findObjects 100 = .ok (.iconst 1, 1) := by decide +kernel
theorem dX12_findObjects_101 : decode cX12_findObjects 101 = .ok (.iadd, 1) := by decide +kernel
theorem dX12_findObjects_102 : decode cX12_findObjects 102 = .ok (.putfield 309, 3) := by decide +kernel
theorem dX12_findObjects_105 : decode cX12_findObjects 105 = .ok (.iinc 3 1, 3) := by decide +kernel
theorem dX12_findObjects_108 : decode cX12_findObjects 108 = .ok (.goto (-101), 3) := by decide +kernel
theorem dX12_findObjects_111 : decode cX12_findObjects 111 = .ok (.return_, 1) := by decide +kernel
theorem cd_findObjects : Cond.code yX12_findObjects cX12_findObjects 6 none ∈ lw_g := mt_at 2135 (by decide +kernel) rfl
theorem mw_findObjects : mCw 312 yX12_findObjects cX12_findObjects 6 none 2 := ⟨cd_findObjects, mt_at 2132 (by decide +kernel) rfl, in_M, by decide +kernel⟩
theorem im_findObjects : Cond.instanceMethod yX12_findObjects ∈ lw_g := mt_at 2134 (by decide +kernel) rfl
theorem sl_findObjects : Cond.selects RX12 yX12_findObjects yX12_findObjects ∈ lw_g := mt_sel 79 (by decide +kernel) rfl
section
variable {p : Program} {l : Launch} {e : Env} {R : Room} {s : State} {m : MethodId} {args : Array Value} {below : List Frame} {meth : Method} {c : Code} {cM : ClassId} {iS : Nat → Nat} {cI cZ : ClassId} {mo : Nat} {ad : Nat → Nat} {r : Int32} {S9 : mSt}
noncomputable def fm_findObjects_105 (g_7 : mSt → Int32 → Int32 → Int32 → Option (mSt)) (S : mSt) (v1 : Int32) (v2 : Int32) (v3 : Int32) : Option (mSt) :=
lt (v3 + (1 : Int32)) fun x1 =>
g_7 S v1 v2 x1
set_option maxRecDepth 100000 in
set_option maxHeartbeats 4000000 in
theorem wm_findObjects_105 (C : mY p R s m args meth c cX12_findObjects 6 2 40 none) (X : mX s cM iS cI cZ mo ad) {g_7 : mSt → Int32 → Int32 → Int32 → Option (mSt)} (hg_7 : ∀ {S : mSt} {v1 : Int32} {v2 : Int32} {v3 : Int32} {H : Heap} {locs : List Loc} {ls : Array Slot}, g_7 S v1 v2 v3 = some S9 → mW cM iS cI cZ mo ad S H → mS (mA mo ad) s.heap H locs → lv_has ls 6 [(0, .ref mo), (1, .int v1), (2, .int v2), (3, .int v3)] → W p l e R s m args below meth c H locs 0 0 (MQ below (mQw none cM iS cI cZ mo ad S9) args s 0 0 (mA mo ad)) (F0 m 7 ls [])) : ∀ {S : mSt} {v1 : Int32} {v2 : Int32} {v3 : Int32} {H : Heap} {locs : List Loc} {ls : Array Slot}, fm_findObjects_105 g_7 S v1 v2 v3 = some S9 → mW cM iS cI cZ mo ad S H → mS (mA mo ad) s.heap H locs → lv_has ls 6 [(0, .ref mo), (1, .int v1), (2, .int v2), (3, .int v3)] → W p l e R s m args below meth c H locs 0 0 (MQ below (mQw none cM iS cI cZ mo ad S9) args s 0 0 (mA mo ad)) (F0 m 105 ls []) := by
  intro S v1 v2 v3 H locs ls h hW hS hl
  unfold fm_findObjects_105 at h
  refine lt_ok h (fun x1 e_x1 h => ?_)
  refine lv_iinc (v := x1) (lv' := [(3, .int x1), (0, .ref mo), (1, .int v1), (2, .int v2)]) C.1 C.2.1 dX12_findObjects_105 hl (k := 3) rfl (by rw [← e_x1]; rfl) (by decide) rfl (fun ls hl => ?_)
  refine lv_goto (tgt := 7) C.1 C.2.1 dX12_findObjects_108 (by decide) ?_
  exact hg_7 h hW hS (lv_sub hl [1, 2, 3, 0] rfl)
noncomputable def fm_findObjects_83 (g_7 : mSt → Int32 → Int32 → Int32 → Option (mSt)) (S : mSt) (v1 : Int32) (v2 : Int32) (v3 : Int32) (v4 : Int32) (v5 : Int32) : Option (mSt) :=
bd (fm_nameOf v4) fun r1 =>
ck v5 48 (lt (wr S 55 v5 r1) fun S2 =>
lt (pu S2 54 ((S2.1 54) + (1 : Int32))) fun S3 =>
fm_findObjects_105 g_7 S3 v1 v2 v3)
set_option maxRecDepth 100000 in
set_option maxHeartbeats 4000000 in
theorem wm_findObjects_83 (C : mY p R s m args meth c cX12_findObjects 6 2 40 none) (X : mX s cM iS cI cZ mo ad) {g_7 : mSt → Int32 → Int32 → Int32 → Option (mSt)} (hg_7 : ∀ {S : mSt} {v1 : Int32} {v2 : Int32} {v3 : Int32} {H : Heap} {locs : List Loc} {ls : Array Slot}, g_7 S v1 v2 v3 = some S9 → mW cM iS cI cZ mo ad S H → mS (mA mo ad) s.heap H locs → lv_has ls 6 [(0, .ref mo), (1, .int v1), (2, .int v2), (3, .int v3)] → W p l e R s m args below meth c H locs 0 0 (MQ below (mQw none cM iS cI cZ mo ad S9) args s 0 0 (mA mo ad)) (F0 m 7 ls [])) : ∀ {S : mSt} {v1 : Int32} {v2 : Int32} {v3 : Int32} {v4 : Int32} {v5 : Int32} {H : Heap} {locs : List Loc} {ls : Array Slot}, fm_findObjects_83 g_7 S v1 v2 v3 v4 v5 = some S9 → mW cM iS cI cZ mo ad S H → mS (mA mo ad) s.heap H locs → lv_has ls 6 [(0, .ref mo), (1, .int v1), (2, .int v2), (3, .int v3), (4, .int v4), (5, .int v5)] → W p l e R s m args below meth c H locs 0 0 (MQ below (mQw none cM iS cI cZ mo ad S9) args s 0 0 (mA mo ad)) (F0 m 83 ls []) := by
  intro S v1 v2 v3 v4 v5 H locs ls h hW hS hl
  unfold fm_findObjects_83 at h
  refine lv_aload_n C.1 C.2.1 dX12_findObjects_83 rfl (lv_at hl 0 rfl) ?_
  refine gf_55 C X hW dX12_findObjects_84 ?_
  refine lv_iload C.1 C.2.1 dX12_findObjects_87 (lv_at hl 5 rfl) ?_
  refine lv_iload C.1 C.2.1 dX12_findObjects_89 (lv_at hl 4 rfl) ?_
  obtain ⟨r1, h_r1, h⟩ := bd_ok h
  refine m_callS (rest := [.int v5, .ref (ad 55)]) C hl.1 [.int v4] (tm_nameOf l h_r1) mw_nameOf st_nameOf rfl ⟨by decide, by decide⟩ rfl (Nat.le_of_ble_eq_true rfl) dX12_findObjects_91 ?_
  obtain ⟨hin, h⟩ := ck_ok h
  refine s_55 C X hW hS hin dX12_findObjects_94 (fun H locs hW hS => ?_)
  refine lt_ok h (fun S2 e_S2 h => ?_)
  rw [e_S2] at hW
  refine lv_aload_n C.1 C.2.1 dX12_findObjects_95 rfl (lv_at hl 0 rfl) ?_
  refine lv_dup C.1 C.2.1 dX12_findObjects_96 rfl ?_
  refine gf_54 C X hW dX12_findObjects_97 ?_
  refine lv_iconst (v := 1) C.1 C.2.1 dX12_findObjects_100 (by decide) ?_
  refine lv_iadd C.1 C.2.1 dX12_findObjects_101 ?_
  refine p_54 C X hW hS dX12_findObjects_102 (fun H locs hW hS => ?_)
  refine lt_ok h (fun S3 e_S3 h => ?_)
  rw [e_S3] at hW
  exact wm_findObjects_105 C X hg_7 h hW hS (lv_sub hl [0, 1, 2, 3] rfl)
noncomputable def fm_findObjects_39 (g_7 : mSt → Int32 → Int32 → Int32 → Option (mSt)) : Nat → mSt → Int32 → Int32 → Int32 → Int32 → Int32 → Option (mSt)
  | 0, _, _, _, _, _, _ => none
  | n + 1, S, v1, v2, v3, v4, v5 =>
    if v5 ≤ 0 then (
    fm_findObjects_83 g_7 S v1 v2 v3 v4 v5)
    else (
    ck (v5 - (1 : Int32)) 48 (
    bd (fm_nameOf v4) fun r2 =>
    if (rd S 55 (v5 - (1 : Int32))) ≤ r2 then (
    fm_findObjects_83 g_7 S v1 v2 v3 v4 v5)
    else (
    ck (v5 - (1 : Int32)) 48 (
    ck v5 48 (lt (wr S 55 v5 (rd S 55 (v5 - (1 : Int32)))) fun S4 =>
    lt (v5 + (-1 : Int32)) fun x5 =>
    fm_findObjects_39 g_7 n S4 v1 v2 v3 v4 x5)))))
set_option maxRecDepth 100000 in
set_option maxHeartbeats 4000000 in
theorem wm_findObjects_39 (C : mY p R s m args meth c cX12_findObjects 6 2 40 none) (X : mX s cM iS cI cZ mo ad) {g_7 : mSt → Int32 → Int32 → Int32 → Option (mSt)} (hg_7 : ∀ {S : mSt} {v1 : Int32} {v2 : Int32} {v3 : Int32} {H : Heap} {locs : List Loc} {ls : Array Slot}, g_7 S v1 v2 v3 = some S9 → mW cM iS cI cZ mo ad S H → mS (mA mo ad) s.heap H locs → lv_has ls 6 [(0, .ref mo), (1, .int v1), (2, .int v2), (3, .int v3)] → W p l e R s m args below meth c H locs 0 0 (MQ below (mQw none cM iS cI cZ mo ad S9) args s 0 0 (mA mo ad)) (F0 m 7 ls [])) : ∀ (n : Nat), ∀ {S : mSt} {v1 : Int32} {v2 : Int32} {v3 : Int32} {v4 : Int32} {v5 : Int32} {H : Heap} {locs : List Loc} {ls : Array Slot}, fm_findObjects_39 g_7 n S v1 v2 v3 v4 v5 = some S9 → mW cM iS cI cZ mo ad S H → mS (mA mo ad) s.heap H locs → lv_has ls 6 [(0, .ref mo), (1, .int v1), (2, .int v2), (3, .int v3), (4, .int v4), (5, .int v5)] → W p l e R s m args below meth c H locs 0 0 (MQ below (mQw none cM iS cI cZ mo ad S9) args s 0 0 (mA mo ad)) (F0 m 39 ls []) := by
  intro n
  induction n with
  | zero =>
    intro S v1 v2 v3 v4 v5 H locs ls h hW hS hl
    exact absurd (show (none : Option (mSt)) = _ from h) (fun q => by cases q)
  | succ n ih =>
    intro S v1 v2 v3 v4 v5 H locs ls h hW hS hl
    rw [fm_findObjects_39] at h
    refine lv_iload C.1 C.2.1 dX12_findObjects_39 (lv_at hl 5 rfl) ?_
    refine lv_if_le (tgt := 83) C.1 C.2.1 dX12_findObjects_41 (by decide) (fun c1 => ?_) (fun c1 => ?_)
    · have h := if_t h c1
      exact wm_findObjects_83 C X hg_7 h hW hS (lv_sub hl [0, 1, 2, 3, 4, 5] rfl)
    · have h := if_f h c1
      refine lv_aload_n C.1 C.2.1 dX12_findObjects_44 rfl (lv_at hl 0 rfl) ?_
      refine gf_55 C X hW dX12_findObjects_45 ?_
      refine lv_iload C.1 C.2.1 dX12_findObjects_48 (lv_at hl 5 rfl) ?_
      refine lv_iconst (v := 1) C.1 C.2.1 dX12_findObjects_50 (by decide) ?_
      refine lv_isub C.1 C.2.1 dX12_findObjects_51 ?_
      obtain ⟨hin, h⟩ := ck_ok h
      refine l_55 C X hW hin dX12_findObjects_52 ?_
      refine lv_iload C.1 C.2.1 dX12_findObjects_53 (lv_at hl 4 rfl) ?_
      obtain ⟨r2, h_r2, h⟩ := bd_ok h
      refine m_callS (rest := [.int (rd S 55 (v5 - (1 : Int32)))]) C hl.1 [.int v4] (tm_nameOf l h_r2) mw_nameOf st_nameOf rfl ⟨by decide, by decide⟩ rfl (Nat.le_of_ble_eq_true rfl) dX12_findObjects_55 ?_
      refine lv_icmp_le (tgt := 83) C.1 C.2.1 dX12_findObjects_58 (by decide) (fun c3 => ?_) (fun c3 => ?_)
      · have h := if_t h c3
        exact wm_findObjects_83 C X hg_7 h hW hS (lv_sub hl [0, 1, 2, 3, 4, 5] rfl)
      · have h := if_f h c3
        refine lv_aload_n C.1 C.2.1 dX12_findObjects_61 rfl (lv_at hl 0 rfl) ?_
        refine gf_55 C X hW dX12_findObjects_62 ?_
        refine lv_iload C.1 C.2.1 dX12_findObjects_65 (lv_at hl 5 rfl) ?_
        refine lv_aload_n C.1 C.2.1 dX12_findObjects_67 rfl (lv_at hl 0 rfl) ?_
        refine gf_55 C X hW dX12_findObjects_68 ?_
        refine lv_iload C.1 C.2.1 dX12_findObjects_71 (lv_at hl 5 rfl) ?_
        refine lv_iconst (v := 1) C.1 C.2.1 dX12_findObjects_73 (by decide) ?_
        refine lv_isub C.1 C.2.1 dX12_findObjects_74 ?_
        obtain ⟨hin, h⟩ := ck_ok h
        refine l_55 C X hW hin dX12_findObjects_75 ?_
        obtain ⟨hin, h⟩ := ck_ok h
        refine s_55 C X hW hS hin dX12_findObjects_76 (fun H locs hW hS => ?_)
        refine lt_ok h (fun S4 e_S4 h => ?_)
        rw [e_S4] at hW
        refine lt_ok h (fun x5 e_x5 h => ?_)
        refine lv_iinc (v := x5) (lv' := [(5, .int x5), (0, .ref mo), (1, .int v1), (2, .int v2), (3, .int v3), (4, .int v4)]) C.1 C.2.1 dX12_findObjects_77 hl (k := 5) rfl (by rw [← e_x5]; rfl) (by decide) rfl (fun ls hl => ?_)
        refine lv_goto (tgt := 39) C.1 C.2.1 dX12_findObjects_80 (by decide) ?_
        exact ih h hW hS (lv_sub hl [1, 2, 3, 4, 5, 0] rfl)
noncomputable def fm_findObjects_7 : Nat → mSt → Int32 → Int32 → Int32 → Option (mSt)
  | 0, _, _, _, _ => none
  | n + 1, S, v1, v2, v3 =>
    if v2 ≤ v3 then (
    some S)
    else (
    bd (fm_rowAt S v1 v3) fun r2 =>
    ck r2 1000 (
    if (rd S 9 r2) = 0 then (
    lt (S.1 54) fun x4 =>
    fm_findObjects_39 (fm_findObjects_7 n) mFU S v1 v2 v3 r2 x4)
    else (
    fm_findObjects_105 (fm_findObjects_7 n) S v1 v2 v3)))
set_option maxRecDepth 100000 in
set_option maxHeartbeats 4000000 in
theorem wm_findObjects_7 (C : mY p R s m args meth c cX12_findObjects 6 2 40 none) (X : mX s cM iS cI cZ mo ad) : ∀ (n : Nat), ∀ {S : mSt} {v1 : Int32} {v2 : Int32} {v3 : Int32} {H : Heap} {locs : List Loc} {ls : Array Slot}, fm_findObjects_7 n S v1 v2 v3 = some S9 → mW cM iS cI cZ mo ad S H → mS (mA mo ad) s.heap H locs → lv_has ls 6 [(0, .ref mo), (1, .int v1), (2, .int v2), (3, .int v3)] → W p l e R s m args below meth c H locs 0 0 (MQ below (mQw none cM iS cI cZ mo ad S9) args s 0 0 (mA mo ad)) (F0 m 7 ls []) := by
  intro n
  induction n with
  | zero =>
    intro S v1 v2 v3 H locs ls h hW hS hl
    exact absurd (show (none : Option (mSt)) = _ from h) (fun q => by cases q)
  | succ n ih =>
    intro S v1 v2 v3 H locs ls h hW hS hl
    rw [fm_findObjects_7] at h
    refine lv_iload_n C.1 C.2.1 dX12_findObjects_7 rfl (lv_at hl 3 rfl) ?_
    refine lv_iload_n C.1 C.2.1 dX12_findObjects_8 rfl (lv_at hl 2 rfl) ?_
    refine lv_icmp_ge (tgt := 111) C.1 C.2.1 dX12_findObjects_9 (by decide) (fun c1 => ?_) (fun c1 => ?_)
    · have h := if_t h c1
      cases h
      exact m_retvW C hW hS dX12_findObjects_111
    · have h := if_f h c1
      refine lv_aload_n C.1 C.2.1 dX12_findObjects_12 rfl (lv_at hl 0 rfl) ?_
      refine lv_iload_n C.1 C.2.1 dX12_findObjects_13 rfl (lv_at hl 1 rfl) ?_
      refine lv_iload_n C.1 C.2.1 dX12_findObjects_14 rfl (lv_at hl 3 rfl) ?_
      obtain ⟨r2, h_r2, h⟩ := bd_ok h
      refine m_callR (rest := []) C X hW hl.1 [.int v1, .int v3] (tm_rowAt l h_r2) mw_rowAt im_rowAt sl_rowAt rfl ⟨by decide, by decide⟩ rfl (Nat.le_of_ble_eq_true rfl) dX12_findObjects_15 ?_
      refine lv_istore (lv' := [(4, .int r2), (0, .ref mo), (1, .int v1), (2, .int v2), (3, .int v3)]) C.1 C.2.1 dX12_findObjects_18 hl (by decide) rfl (fun ls hl => ?_)
      refine lv_aload_n C.1 C.2.1 dX12_findObjects_20 rfl (lv_at hl 1 rfl) ?_
      refine gf_9 C X hW dX12_findObjects_21 ?_
      refine lv_iload C.1 C.2.1 dX12_findObjects_24 (lv_at hl 0 rfl) ?_
      obtain ⟨hin, h⟩ := ck_ok h
      refine l_9 C X hW hin dX12_findObjects_26 ?_
      refine lv_if_eq (tgt := 33) C.1 C.2.1 dX12_findObjects_27 (by decide) (fun c3 => ?_) (fun c3 => ?_)
      · have h := if_t h c3
        refine lv_aload_n C.1 C.2.1 dX12_findObjects_33 rfl (lv_at hl 1 rfl) ?_
        refine gf_54 C X hW dX12_findObjects_34 ?_
        refine lt_ok h (fun x4 e_x4 h => ?_)
        refine lv_nm e_x4 ?_
        refine lv_istore (lv' := [(5, .int x4), (4, .int r2), (0, .ref mo), (1, .int v1), (2, .int v2), (3, .int v3)]) C.1 C.2.1 dX12_findObjects_37 hl (by decide) rfl (fun ls hl => ?_)
        exact wm_findObjects_39 C X ih mFU h hW hS (lv_sub hl [2, 3, 4, 5, 1, 0] rfl)
      · have h := if_f h c3
        refine lv_goto (tgt := 105) C.1 C.2.1 dX12_findObjects_30 (by decide) ?_
        exact wm_findObjects_105 C X ih h hW hS (lv_sub hl [1, 2, 3, 4] rfl)
noncomputable def fm_findObjects (S : mSt) (v1 : Int32) (v2 : Int32) : Option (mSt) :=
lt (pu S 54 (0 : Int32)) fun S1 =>
fm_findObjects_7 mFU S1 v1 v2 (0 : Int32)
set_option maxRecDepth 100000 in
set_option maxHeartbeats 4000000 in
theorem tm_findObjects (l : Launch) {cM : ClassId} {iS : Nat → Nat} {cI cZ : ClassId} {mo : Nat} {ad : Nat → Nat} {S : mSt} {v1 : Int32} {v2 : Int32} {S9 : mSt} (h : fm_findObjects S v1 v2 = some S9) : Met l yX12_findObjects (Cond.code yX12_findObjects cX12_findObjects 6 none :: lw_g) { frames := 2, cells := 0, slots := 0, locals := 40 } (mPi [.int v1, .int v2] cM iS cI cZ mo ad S) (mQw none cM iS cI cZ mo ad S9) 0 0 (mA mo ad) := by
  refine Met.ofW (cc := cX12_findObjects) (maxL := 6) (ret := none) (by decide) rfl ?_
  intro p e s m args below meth c s₁ B hml hv
  obtain ⟨rfl, hW, X⟩ := hv
  have C : mY p (headSpec (Cond.code yX12_findObjects cX12_findObjects 6 none :: lw_g) { frames := 2, cells := 0, slots := 0, locals := 40 }).room s m _ meth c cX12_findObjects 6 2 40 none := ⟨B.exec, B.bytes, hml, findClass_of_methodNamed B.named, fun w hw => atoms_spec (ws := Cond.code yX12_findObjects cX12_findObjects 6 none :: lw_g) B.pre w (List.mem_cons_of_mem _ hw), ⟨Nat.le_refl _, Nat.le_refl _⟩, B.returns, B.notSynchronized⟩
  have hl := lv_entry ([.ref mo, .int v1, .int v2]) (n := 6) (Nat.le_of_ble_eq_true rfl)
  rw [lg_entry_eq]
  generalize (lg_sl ([.ref mo, .int v1, .int v2]) ++ List.replicate (6 - (lg_sl ([.ref mo, .int v1, .int v2])).length) Slot.unset).toArray = ls at hl ⊢
  have hl : lv_has ls 6 [(0, .ref mo), (1, .int v1), (2, .int v2)] := hl
  have hS : mS (mA mo ad) s.heap s.heap [] := mS.rf
  unfold fm_findObjects at h
  refine lv_aload_n C.1 C.2.1 dX12_findObjects_0 rfl (lv_at hl 0 rfl) ?_
  refine lv_iconst (v := 0) C.1 C.2.1 dX12_findObjects_1 (by decide) ?_
  refine p_54 C X hW hS dX12_findObjects_2 (fun H locs hW hS => ?_)
  refine lt_ok h (fun S1 e_S1 h => ?_)
  rw [e_S1] at hW
  refine lv_iconst (v := 0) C.1 C.2.1 dX12_findObjects_5 (by decide) ?_
  refine lv_istore_n (lv' := [(3, .int (0 : Int32)), (0, .ref mo), (1, .int v1), (2, .int v2)]) C.1 C.2.1 dX12_findObjects_6 rfl hl (by decide) rfl (fun ls hl => ?_)
  exact wm_findObjects_7 C X mFU h hW hS (lv_sub hl [1, 2, 3, 0] rfl)
end
theorem dX12_placeOf_0 : decode cX12_placeOf 0 = .ok (.iconst 0, 1) := by decide +kernel
theorem dX12_placeOf_1 : decode cX12_placeOf 1 = .ok (.istore_n 2, 1) := by decide +kernel
theorem dX12_placeOf_2 : decode cX12_placeOf 2 = .ok (.iload_n 2, 1) := by decide +kernel
theorem dX12_placeOf_3 : decode cX12_placeOf 3 = .ok (.aload_n 0, 1) := by decide +kernel
theorem dX12_placeOf_4 : decode cX12_placeOf 4 = .ok (.getfield 309, 3) := by decide +kernel
theorem dX12_placeOf_7 : decode cX12_placeOf 7 = .ok (.if_icmp .ge 21, 3) := by decide +kernel
theorem dX12_placeOf_10 : decode cX12_placeOf 10 = .ok (.aload_n 0, 1) := by decide +kernel
theorem dX12_placeOf_11 : decode cX12_placeOf 11 = .ok (.getfield 148, 3) := by decide +kernel
theorem dX12_placeOf_14 : decode cX12_placeOf 14 = .ok (.iload_n 2, 1) := by decide +kernel
theorem dX12_placeOf_15 : decode cX12_placeOf 15 = .ok (.iaload, 1) := by decide +kernel
theorem dX12_placeOf_16 : decode cX12_placeOf 16 = .ok (.iload_n 1, 1) := by decide +kernel
theorem dX12_placeOf_17 : decode cX12_placeOf 17 = .ok (.if_icmp .ne 5, 3) := by decide +kernel
theorem dX12_placeOf_20 : decode cX12_placeOf 20 = .ok (.iload_n 2, 1) := by decide +kernel
theorem dX12_placeOf_21 : decode cX12_placeOf 21 = .ok (.ireturn, 1) := by decide +kernel
theorem dX12_placeOf_22 : decode cX12_placeOf 22 = .ok (.iinc 2 1, 3) := by decide +kernel
theorem dX12_placeOf_25 : decode cX12_placeOf 25 = .ok (.goto (-23), 3) := by decide +kernel
theorem dX12_placeOf_28 : decode cX12_placeOf 28 = .ok (.iconst (-1), 1) := by decide +kernel
theorem dX12_placeOf_29 : decode cX12_placeOf 29 = .ok (.ireturn, 1) := by decide +kernel
theorem cd_placeOf : Cond.code yX12_placeOf cX12_placeOf 3 (some .int) ∈ lw_g := mt_at 2143 (by decide +kernel) rfl
theorem mw_placeOf : mCw 321 yX12_placeOf cX12_placeOf 3 (some .int) 1 := ⟨cd_placeOf, mt_at 2140 (by decide +kernel) rfl, in_M, by decide +kernel⟩
theorem im_placeOf : Cond.instanceMethod yX12_placeOf ∈ lw_g := mt_at 2142 (by decide +kernel) rfl
theorem sl_placeOf : Cond.selects RX12 yX12_placeOf yX12_placeOf ∈ lw_g := mt_sel 81 (by decide +kernel) rfl
section
variable {p : Program} {l : Launch} {e : Env} {R : Room} {s : State} {m : MethodId} {args : Array Value} {below : List Frame} {meth : Method} {c : Code} {cM : ClassId} {iS : Nat → Nat} {cI cZ : ClassId} {mo : Nat} {ad : Nat → Nat} {S : mSt} {r : Int32}
noncomputable def fm_placeOf_2 (S : mSt) : Nat → Int32 → Int32 → Option (Int32)
  | 0, _, _ => none
  | n + 1, v1, v2 =>
    if (S.1 54) ≤ v2 then (
    some (-1 : Int32))
    else (
    ck v2 48 (
    if (rd S 55 v2) = v1 then (
    some v2)
    else (
    lt (v2 + (1 : Int32)) fun x3 =>
    fm_placeOf_2 S n v1 x3)))
set_option maxRecDepth 100000 in
set_option maxHeartbeats 4000000 in
theorem wm_placeOf_2 (C : mY p R s m args meth c cX12_placeOf 3 0 0 (some .int)) (X : mX s cM iS cI cZ mo ad) (hW : mW cM iS cI cZ mo ad S s.heap) : ∀ (n : Nat), ∀ {v1 : Int32} {v2 : Int32} {ls : Array Slot}, fm_placeOf_2 S n v1 v2 = some r → lv_has ls 3 [(0, .ref mo), (1, .int v1), (2, .int v2)] → W p l e R s m args below meth c s.heap [] 0 0 (MQ below (mQi r) args s 0 0 mNo) (F0 m 2 ls []) := by
  intro n
  induction n with
  | zero =>
    intro v1 v2 ls h hl
    exact absurd (show (none : Option (Int32)) = _ from h) (fun q => by cases q)
  | succ n ih =>
    intro v1 v2 ls h hl
    rw [fm_placeOf_2] at h
    refine lv_iload_n C.1 C.2.1 dX12_placeOf_2 rfl (lv_at hl 2 rfl) ?_
    refine lv_aload_n C.1 C.2.1 dX12_placeOf_3 rfl (lv_at hl 0 rfl) ?_
    refine gf_54 C X hW dX12_placeOf_4 ?_
    refine lv_icmp_ge (tgt := 28) C.1 C.2.1 dX12_placeOf_7 (by decide) (fun c1 => ?_) (fun c1 => ?_)
    · have h := if_t h c1
      refine lv_iconst (v := -1) C.1 C.2.1 dX12_placeOf_28 (by decide) ?_
      cases h
      exact m_reti C rfl rfl dX12_placeOf_29
    · have h := if_f h c1
      refine lv_aload_n C.1 C.2.1 dX12_placeOf_10 rfl (lv_at hl 0 rfl) ?_
      refine gf_55 C X hW dX12_placeOf_11 ?_
      refine lv_iload_n C.1 C.2.1 dX12_placeOf_14 rfl (lv_at hl 2 rfl) ?_
      obtain ⟨hin, h⟩ := ck_ok h
      refine l_55 C X hW hin dX12_placeOf_15 ?_
      refine lv_iload_n C.1 C.2.1 dX12_placeOf_16 rfl (lv_at hl 1 rfl) ?_
      refine lv_icmp_ne (tgt := 22) C.1 C.2.1 dX12_placeOf_17 (by decide) (fun c2 => ?_) (fun c2 => ?_)
      · have h := if_f h c2
        refine lt_ok h (fun x3 e_x3 h => ?_)
        refine lv_iinc (v := x3) (lv' := [(2, .int x3), (0, .ref mo), (1, .int v1)]) C.1 C.2.1 dX12_placeOf_22 hl (k := 2) rfl (by rw [← e_x3]; rfl) (by decide) rfl (fun ls hl => ?_)
        refine lv_goto (tgt := 2) C.1 C.2.1 dX12_placeOf_25 (by decide) ?_
        exact ih h (lv_sub hl [1, 2, 0] rfl)
      · have h := if_t h c2
        refine lv_iload_n C.1 C.2.1 dX12_placeOf_20 rfl (lv_at hl 2 rfl) ?_
        cases h
        exact m_reti C rfl rfl dX12_placeOf_21
noncomputable def fm_placeOf (S : mSt) (v1 : Int32) : Option (Int32) :=
fm_placeOf_2 S mFU v1 (0 : Int32)
set_option maxRecDepth 100000 in
set_option maxHeartbeats 4000000 in
theorem tm_placeOf (l : Launch) {cM : ClassId} {iS : Nat → Nat} {cI cZ : ClassId} {mo : Nat} {ad : Nat → Nat} {S : mSt} {v1 : Int32} {r : Int32} (h : fm_placeOf S v1 = some r) : Met l yX12_placeOf (Cond.code yX12_placeOf cX12_placeOf 3 (some .int) :: lw_g) { frames := 0, cells := 0, slots := 0, locals := 0 } (mPi [.int v1] cM iS cI cZ mo ad S) (mQi r) 0 0 (mNo) := by
  refine Met.ofW (cc := cX12_placeOf) (maxL := 3) (ret := (some .int)) (by decide) rfl ?_
  intro p e s m args below meth c s₁ B hml hv
  obtain ⟨rfl, hW, X⟩ := hv
  have C : mY p (headSpec (Cond.code yX12_placeOf cX12_placeOf 3 (some .int) :: lw_g) { frames := 0, cells := 0, slots := 0, locals := 0 }).room s m _ meth c cX12_placeOf 3 0 0 (some .int) := ⟨B.exec, B.bytes, hml, findClass_of_methodNamed B.named, fun w hw => atoms_spec (ws := Cond.code yX12_placeOf cX12_placeOf 3 (some .int) :: lw_g) B.pre w (List.mem_cons_of_mem _ hw), ⟨Nat.le_refl _, Nat.le_refl _⟩, B.returns, B.notSynchronized⟩
  have hl := lv_entry ([.ref mo, .int v1]) (n := 3) (Nat.le_of_ble_eq_true rfl)
  rw [lg_entry_eq]
  generalize (lg_sl ([.ref mo, .int v1]) ++ List.replicate (3 - (lg_sl ([.ref mo, .int v1])).length) Slot.unset).toArray = ls at hl ⊢
  have hl : lv_has ls 3 [(0, .ref mo), (1, .int v1)] := hl
  unfold fm_placeOf at h
  refine lv_iconst (v := 0) C.1 C.2.1 dX12_placeOf_0 (by decide) ?_
  refine lv_istore_n (lv' := [(2, .int (0 : Int32)), (0, .ref mo), (1, .int v1)]) C.1 C.2.1 dX12_placeOf_1 rfl hl (by decide) rfl (fun ls hl => ?_)
  exact wm_placeOf_2 C X hW mFU h (lv_sub hl [1, 2, 0] rfl)
end
theorem dX12_isRing_0 : decode cX12_isRing 0 = .ok (.iload_n 2, 1) := by decide +kernel
theorem dX12_isRing_1 : decode cX12_isRing 1 = .ok (.istore_n 3, 1) := by decide +kernel
theorem dX12_isRing_2 : decode cX12_isRing 2 = .ok (.iload_n 3, 1) := by decide +kernel
theorem dX12_isRing_3 : decode cX12_isRing 3 = .ok (.iconst (-1), 1) := by decide +kernel
theorem dX12_isRing_4 : decode cX12_isRing 4 = .ok (.if_icmp .eq 22, 3) := by decide +kernel
theorem dX12_isRing_7 : decode cX12_isRing 7 = .ok (.iload_n 3, 1) := by decide +kernel
theorem dX12_isRing_8 : decode cX12_isRing 8 = .ok (.iload_n 1, 1) := by decide +kernel
theorem dX12_isRing_9 : decode cX12_isRing 9 = .ok (.if_icmp .eq 17, 3) := by decide +kernel
theorem dX12_isRing_12 : decode cX12_isRing 12 = .ok (.aload_n 0, 1) := by decide +kernel
theorem dX12_isRing_13 : decode cX12_isRing 13 = .ok (.getfield 151, 3) := by decide +kernel
theorem dX12_isRing_16 : decode cX12_isRing 16 = .ok (.aload_n 0, 1) := by decide +kernel
theorem dX12_isRing_17 : decode cX12_isRing 17 = .ok (.iload_n 3, 1) := by decide +kernel
theorem dX12_isRing_18 : decode cX12_isRing 18 = .ok (.invokevirtual 321, 3) := by decide +kernel
theorem dX12_isRing_21 : decode cX12_isRing 21 = .ok (.iaload, 1) := by decide +kernel
theorem dX12_isRing_22 : decode cX12_isRing 22 = .ok (.istore_n 3, 1) := by decide +kernel
theorem dX12_isRing_23 : decode cX12_isRing 23 = .ok (.goto (-21), 3) := by decide +kernel
theorem dX12_isRing_26 : decode cX12_isRing 26 = .ok (.iload_n 3, 1) := by decide +kernel
theorem dX12_isRing_27 : decode cX12_isRing 27 = .ok (.iload_n 1, 1) := by decide +kernel
theorem dX12_isRing_28 : decode cX12_isRing 28 = .ok (.if_icmp .ne 7, 3) := by decide +kernel
theorem dX12_isRing_31 : decode cX12_isRing 31 = .ok (.iconst 1, 1) := by decide +kernel
theorem dX12_isRing_32 : decode cX12_isRing 32 = .ok (.goto 4, 3) := by decide +kernel
theorem dX12_isRing_35 : decode cX12_isRing 35 = .ok (.iconst 0, 1) := by decide +kernel
theorem dX12_isRing_36 : decode cX12_isRing 36 = .ok (.ireturn, 1) := by decide +kernel
theorem cd_isRing : Cond.code yX12_isRing cX12_isRing 4 (some .boolean) ∈ lw_g := mt_at 2139 (by decide +kernel) rfl
theorem mw_isRing : mCw 318 yX12_isRing cX12_isRing 4 (some .boolean) 2 := ⟨cd_isRing, mt_at 2136 (by decide +kernel) rfl, in_M, by decide +kernel⟩
theorem im_isRing : Cond.instanceMethod yX12_isRing ∈ lw_g := mt_at 2138 (by decide +kernel) rfl
theorem sl_isRing : Cond.selects RX12 yX12_isRing yX12_isRing ∈ lw_g := mt_sel 80 (by decide +kernel) rfl
section
variable {p : Program} {l : Launch} {e : Env} {R : Room} {s : State} {m : MethodId} {args : Array Value} {below : List Frame} {meth : Method} {c : Code} {cM : ClassId} {iS : Nat → Nat} {cI cZ : ClassId} {mo : Nat} {ad : Nat → Nat} {S : mSt} {r : Int32}
noncomputable def fm_isRing_36 (S : mSt) (s0 : Int32) : Option (Int32) :=
ckz s0 (some s0)
set_option maxRecDepth 100000 in
set_option maxHeartbeats 4000000 in
theorem wm_isRing_36 (C : mY p R s m args meth c cX12_isRing 4 1 22 (some .boolean)) (X : mX s cM iS cI cZ mo ad) (hW : mW cM iS cI cZ mo ad S s.heap) : ∀ {s0 : Int32} {ls : Array Slot}, fm_isRing_36 S s0 = some r → lv_has ls 4 [] → W p l e R s m args below meth c s.heap [] 0 0 (MQ below (mQi r) args s 0 0 mNo) (F0 m 36 ls [.int s0]) := by
  intro s0 ls h hl
  unfold fm_isRing_36 at h
  obtain ⟨hzo, h⟩ := ckz_ok h
  cases h
  exact m_retz C hzo rfl rfl dX12_isRing_36
noncomputable def fm_isRing_26 (S : mSt) (v1 : Int32) (v3 : Int32) : Option (Int32) :=
if v3 = v1 then (
fm_isRing_36 S (1 : Int32))
else (
fm_isRing_36 S (0 : Int32))
set_option maxRecDepth 100000 in
set_option maxHeartbeats 4000000 in
theorem wm_isRing_26 (C : mY p R s m args meth c cX12_isRing 4 1 22 (some .boolean)) (X : mX s cM iS cI cZ mo ad) (hW : mW cM iS cI cZ mo ad S s.heap) : ∀ {v1 : Int32} {v3 : Int32} {ls : Array Slot}, fm_isRing_26 S v1 v3 = some r → lv_has ls 4 [(1, .int v1), (3, .int v3)] → W p l e R s m args below meth c s.heap [] 0 0 (MQ below (mQi r) args s 0 0 mNo) (F0 m 26 ls []) := by
  intro v1 v3 ls h hl
  unfold fm_isRing_26 at h
  refine lv_iload_n C.1 C.2.1 dX12_isRing_26 rfl (lv_at hl 1 rfl) ?_
  refine lv_iload_n C.1 C.2.1 dX12_isRing_27 rfl (lv_at hl 0 rfl) ?_
  refine lv_icmp_ne (tgt := 35) C.1 C.2.1 dX12_isRing_28 (by decide) (fun c1 => ?_) (fun c1 => ?_)
  · have h := if_f h c1
    refine lv_iconst (v := 0) C.1 C.2.1 dX12_isRing_35 (by decide) ?_
    exact wm_isRing_36 C X hW h (lv_sub hl [] rfl)
  · have h := if_t h c1
    refine lv_iconst (v := 1) C.1 C.2.1 dX12_isRing_31 (by decide) ?_
    refine lv_goto (tgt := 36) C.1 C.2.1 dX12_isRing_32 (by decide) ?_
    exact wm_isRing_36 C X hW h (lv_sub hl [] rfl)
noncomputable def fm_isRing_2 (S : mSt) : Nat → Int32 → Int32 → Option (Int32)
  | 0, _, _ => none
  | n + 1, v1, v3 =>
    if v3 = (-1 : Int32) then (
    fm_isRing_26 S v1 v3)
    else (
    if v3 = v1 then (
    fm_isRing_26 S v1 v3)
    else (
    bd (fm_placeOf S v3) fun r3 =>
    ck r3 48 (
    lt (rd S 56 r3) fun x4 =>
    fm_isRing_2 S n v1 x4)))
set_option maxRecDepth 100000 in
set_option maxHeartbeats 4000000 in
theorem wm_isRing_2 (C : mY p R s m args meth c cX12_isRing 4 1 22 (some .boolean)) (X : mX s cM iS cI cZ mo ad) (hW : mW cM iS cI cZ mo ad S s.heap) : ∀ (n : Nat), ∀ {v1 : Int32} {v3 : Int32} {ls : Array Slot}, fm_isRing_2 S n v1 v3 = some r → lv_has ls 4 [(0, .ref mo), (1, .int v1), (3, .int v3)] → W p l e R s m args below meth c s.heap [] 0 0 (MQ below (mQi r) args s 0 0 mNo) (F0 m 2 ls []) := by
  intro n
  induction n with
  | zero =>
    intro v1 v3 ls h hl
    exact absurd (show (none : Option (Int32)) = _ from h) (fun q => by cases q)
  | succ n ih =>
    intro v1 v3 ls h hl
    rw [fm_isRing_2] at h
    refine lv_iload_n C.1 C.2.1 dX12_isRing_2 rfl (lv_at hl 2 rfl) ?_
    refine lv_iconst (v := -1) C.1 C.2.1 dX12_isRing_3 (by decide) ?_
    refine lv_icmp_eq (tgt := 26) C.1 C.2.1 dX12_isRing_4 (by decide) (fun c1 => ?_) (fun c1 => ?_)
    · have h := if_t h c1
      exact wm_isRing_26 C X hW h (lv_sub hl [1, 2] rfl)
    · have h := if_f h c1
      refine lv_iload_n C.1 C.2.1 dX12_isRing_7 rfl (lv_at hl 2 rfl) ?_
      refine lv_iload_n C.1 C.2.1 dX12_isRing_8 rfl (lv_at hl 1 rfl) ?_
      refine lv_icmp_eq (tgt := 26) C.1 C.2.1 dX12_isRing_9 (by decide) (fun c2 => ?_) (fun c2 => ?_)
      · have h := if_t h c2
        exact wm_isRing_26 C X hW h (lv_sub hl [1, 2] rfl)
      · have h := if_f h c2
        refine lv_aload_n C.1 C.2.1 dX12_isRing_12 rfl (lv_at hl 0 rfl) ?_
        refine gf_56 C X hW dX12_isRing_13 ?_
        refine lv_aload_n C.1 C.2.1 dX12_isRing_16 rfl (lv_at hl 0 rfl) ?_
        refine lv_iload_n C.1 C.2.1 dX12_isRing_17 rfl (lv_at hl 2 rfl) ?_
        obtain ⟨r3, h_r3, h⟩ := bd_ok h
        refine m_callR (rest := [.ref (ad 56)]) C X hW hl.1 [.int v3] (tm_placeOf l h_r3) mw_placeOf im_placeOf sl_placeOf rfl ⟨by decide, by decide⟩ rfl (Nat.le_of_ble_eq_true rfl) dX12_isRing_18 ?_
        obtain ⟨hin, h⟩ := ck_ok h
        refine l_56 C X hW hin dX12_isRing_21 ?_
        refine lt_ok h (fun x4 e_x4 h => ?_)
        refine lv_nm e_x4 ?_
        refine lv_istore_n (lv' := [(3, .int x4), (0, .ref mo), (1, .int v1)]) C.1 C.2.1 dX12_isRing_22 rfl hl (by decide) rfl (fun ls hl => ?_)
        refine lv_goto (tgt := 2) C.1 C.2.1 dX12_isRing_23 (by decide) ?_
        exact ih h (lv_sub hl [1, 2, 0] rfl)
noncomputable def fm_isRing (S : mSt) (v1 : Int32) (v2 : Int32) : Option (Int32) :=
fm_isRing_2 S mFU v1 v2
set_option maxRecDepth 100000 in
set_option maxHeartbeats 4000000 in
theorem tm_isRing (l : Launch) {cM : ClassId} {iS : Nat → Nat} {cI cZ : ClassId} {mo : Nat} {ad : Nat → Nat} {S : mSt} {v1 : Int32} {v2 : Int32} {r : Int32} (h : fm_isRing S v1 v2 = some r) : Met l yX12_isRing (Cond.code yX12_isRing cX12_isRing 4 (some .boolean) :: lw_g) { frames := 1, cells := 0, slots := 0, locals := 22 } (mPi [.int v1, .int v2] cM iS cI cZ mo ad S) (mQi r) 0 0 (mNo) := by
  refine Met.ofW (cc := cX12_isRing) (maxL := 4) (ret := (some .boolean)) (by decide) rfl ?_
  intro p e s m args below meth c s₁ B hml hv
  obtain ⟨rfl, hW, X⟩ := hv
  have C : mY p (headSpec (Cond.code yX12_isRing cX12_isRing 4 (some .boolean) :: lw_g) { frames := 1, cells := 0, slots := 0, locals := 22 }).room s m _ meth c cX12_isRing 4 1 22 (some .boolean) := ⟨B.exec, B.bytes, hml, findClass_of_methodNamed B.named, fun w hw => atoms_spec (ws := Cond.code yX12_isRing cX12_isRing 4 (some .boolean) :: lw_g) B.pre w (List.mem_cons_of_mem _ hw), ⟨Nat.le_refl _, Nat.le_refl _⟩, B.returns, B.notSynchronized⟩
  have hl := lv_entry ([.ref mo, .int v1, .int v2]) (n := 4) (Nat.le_of_ble_eq_true rfl)
  rw [lg_entry_eq]
  generalize (lg_sl ([.ref mo, .int v1, .int v2]) ++ List.replicate (4 - (lg_sl ([.ref mo, .int v1, .int v2])).length) Slot.unset).toArray = ls at hl ⊢
  have hl : lv_has ls 4 [(0, .ref mo), (1, .int v1), (2, .int v2)] := hl
  unfold fm_isRing at h
  refine lv_iload_n C.1 C.2.1 dX12_isRing_0 rfl (lv_at hl 2 rfl) ?_
  refine lv_istore_n (lv' := [(3, .int v2), (0, .ref mo), (1, .int v1), (2, .int v2)]) C.1 C.2.1 dX12_isRing_1 rfl hl (by decide) rfl (fun ls hl => ?_)
  exact wm_isRing_2 C X hW mFU h (lv_sub hl [1, 2, 0] rfl)
end
theorem dX12_findParents_0 : decode cX12_findParents 0 = .ok (.aload_n 0, 1) := by decide +kernel
theorem dX12_findParents_1 : decode cX12_findParents 1 = .ok (.iload_n 1, 1) := by decide +kernel
theorem dX12_findParents_2 : decode cX12_findParents 2 = .ok (.iload_n 2, 1) := by decide +kernel
theorem dX12_findParents_3 : decode cX12_findParents 3 = .ok (.invokevirtual 312, 3) := by decide +kernel
theorem dX12_findParents_6 : decode cX12_findParents 6 = .ok (.aload_n 0, 1) := by decide +kernel
theorem dX12_findParents_7 : decode cX12_findParents 7 = .ok (.iload_n 1, 1) := by decide +kernel
theorem dX12_findParents_8 : decode cX12_findParents 8 = .ok (.iload_n 2, 1) := by decide +kernel
theorem dX12_findParents_9 : decode cX12_findParents 9 = .ok (.invokevirtual 243, 3) := by decide +kernel
theorem dX12_findParents_12 : decode cX12_findParents 12 = .ok (.iconst 0, 1) := by decide +kernel
theorem dX12_findParents_13 : decode cX12_findParents 13 = .ok (.istore_n 3, 1) := by decide +kernel
theorem dX12_findParents_14 : decode cX12_findParents 14 = .ok (.iload_n 3, 1) := by decide +kernel
theorem dX12_findParents_15 : decode cX12_findParents 15 = .ok (.aload_n 0, 1) := by decide +kernel
theorem dX12_findParents_16 : decode cX12_findParents 16 = .ok (.getfield 309, 3) := by decide +kernel
theorem dX12_findParents_19 : decode cX12_findParents 19 = .ok (.if_icmp .ge 16, 3) := by decide +kernel
theorem dX12_findParents_22 : decode cX12_findParents 22 = .ok (.aload_n 0, 1) := by decide +kernel
theorem dX12_findParents_23 : decode cX12_findParents 23 = .ok (.getfield 151, 3) := by decide +kernel
theorem dX12_findParents_26 : decode cX12_findParents 26 = .ok (.iload_n 3, 1) := by decide +kernel
theorem dX12_findParents_27 : decode cX12_findParents 27 = .ok (.iconst (-1), 1) := by decide +kernel
theorem dX12_findParents_28 : decode cX12_findParents 28 = .ok (.iastore, 1) := by decide +kernel
theorem dX12_findParents_29 : decode cX12_findParents 29 = .ok (.iinc 3 1, 3) := by decide +kernel
theorem dX12_findParents_32 : decode cX12_findParents 32 = .ok (.goto (-18), 3) := by decide +kernel
theorem dX12_findParents_35 : decode cX12_findParents 35 = .ok (.aload_n 0, 1) := by decide +kernel
theorem dX12_findParents_36 : decode cX12_findParents 36 = .ok (.iconst 0, 1) := by decide +kernel
theorem dX12_findParents_37 : decode cX12_findParents 37 = .ok (.putfield 315, 3) := by decide +kernel
theorem dX12_findParents_40 : decode cX12_findParents 40 = .ok (.iconst 0, 1) := by decide +kernel
theorem dX12_findParents_41 : decode cX12_findParents 41 = .ok (.istore_n 3, 1) := by decide +kernel
theorem dX12_findParents_42 : decode cX12_findParents 42 = .ok (.iload_n 3, 1) := by decide +kernel
theorem dX12_findParents_43 : decode cX12_findParents 43 = .ok (.iload_n 2, 1) := by decide +kernel
theorem dX12_findParents_44 : decode cX12_findParents 44 = .ok (.if_icmp .ge 112, 3) := by decide +kernel
theorem dX12_findParents_47 : decode cX12_findParents 47 = .ok (.aload_n 0, 1) := by decide +kernel
theorem dX12_findParents_48 : decode cX12_findParents 48 = .ok (.iload_n 1, 1) := by decide +kernel
theorem dX12_findParents_49 : decode cX12_findParents 49 = .ok (.iload_n 3, 1) := by decide +kernel
theorem dX12_findParents_50 : decode cX12_findParents 50 = .ok (.invokevirtual 230, 3) := by decide +kernel
theorem dX12_findParents_53 : decode cX12_findParents 53 = .ok (.istore 4, 2) := by decide +kernel
theorem dX12_findParents_55 : decode cX12_findParents 55 = .ok (.aload_n 0, 1) := by decide +kernel
theorem dX12_findParents_56 : decode cX12_findParents 56 = .ok (.getfield 29, 3) := by decide +kernel
theorem dX12_findParents_59 : decode cX12_findParents 59 = .ok (.iload 4, 2) := by decide +kernel
theorem dX12_findParents_61 : decode cX12_findParents 61 = .ok (.iaload, 1) := by decide +kernel
theorem dX12_findParents_62 : decode cX12_findParents 62 = .ok (.bipush 11, 2) := by decide +kernel
theorem dX12_findParents_64 : decode cX12_findParents 64 = .ok (.if_icmp .ne 86, 3) := by decide +kernel
theorem dX12_findParents_67 : decode cX12_findParents 67 = .ok (.aload_n 0, 1) := by decide +kernel
theorem dX12_findParents_68 : decode cX12_findParents 68 = .ok (.getfield 133, 3) := by decide +kernel
theorem dX12_findParents_71 : decode cX12_findParents 71 = .ok (.iload 4, 2) := by decide +kernel
theorem dX12_findParents_73 : decode cX12_findParents 73 = .ok (.baload, 1) := by decide +kernel
theorem dX12_findParents_74 : decode cX12_findParents 74 = .ok (.ifCond .ne 6, 3) := by decide +kernel
theorem dX12_findParents_77 : decode cX12_findParents 77 = .ok (.goto 73, 3) := by decide +kernel
theorem dX12_findParents_80 : decode cX12_findParents 80 = .ok (.aload_n 0, 1) := by decide +kernel
theorem dX12_findParents_81 : decode cX12_findParents 81 = .ok (.getfield 315, 3) := by decide +kernel
theorem dX12_findParents_84 : decode cX12_findParents 84 = .ok (.istore 5, 2) := by decide +kernel
theorem dX12_findParents_86 : decode cX12_findParents 86 = .ok (.iload 5, 2) := by decide +kernel
theorem dX12_findParents_88 : decode cX12_findParents 88 = .ok (.ifCond .le 43, 3) := by decide +kernel
theorem dX12_findParents_91 : decode cX12_findParents 91 = .ok (.aload_n 0, 1) := by decide +kernel
theorem dX12_findParents_92 : decode cX12_findParents 92 = .ok (.iload 4, 2) := by decide +kernel
theorem dX12_findParents_94 : decode cX12_findParents 94 = .ok (.aload_n 0, 1) := by decide +kernel
theorem dX12_findParents_95 : decode cX12_findParents 95 = .ok (.getfield 154, 3) := by decide +kernel
theorem dX12_findParents_98 : decode cX12_findParents 98 = .ok (.iload 5, 2) := by decide +kernel
theorem dX12_findParents_100 : decode cX12_findParents 100 = .ok (.iconst 1, 1) := by decide +kernel
theorem dX12_findParents_101 : decode cX12_findParents 101 = .ok (.isub, 1) := by decide +kernel
theorem dX12_findParents_102 : decode cX12_findParents 102 = .ok (.iaload, 1) := by decide +kernel
theorem dX12_findParents_103 : decode cX12_findParents 103 = .ok (.invokevirtual 285, 3) := by decide +kernel
theorem dX12_findParents_106 : decode cX12_findParents 106 = .ok (.ifCond .eq 25, 3) := by decide +kernel
theorem dX12_findParents_109 : decode cX12_findParents 109 = .ok (.aload_n 0, 1) := by decide +kernel
theorem dX12_findParents_110 : decode cX12_findParents 110 = .ok (.getfield 154, 3) := by decide +kernel
theorem dX12_findParents_113 : decode cX12_findParents 113 = .ok (.iload 5, 2) := by decide +kernel
theorem dX12_findParents_115 : decode cX12_findParents 115 = .ok (.aload_n 0, 1) := by decide +kernel
theorem dX12_findParents_116 : decode cX12_findParents 116 = .ok (.getfield 154, 3) := by decide +kernel
theorem dX12_findParents_119 : decode cX12_findParents 119 = .ok (.iload 5, 2) := by decide +kernel
theorem dX12_findParents_121 : decode cX12_findParents 121 = .ok (.iconst 1, 1) := by decide +kernel
theorem dX12_findParents_122 : decode cX12_findParents 122 = .ok (.isub, 1) := by decide +kernel
theorem dX12_findParents_123 : decode cX12_findParents 123 = .ok (.iaload, 1) := by decide +kernel
theorem dX12_findParents_124 : decode cX12_findParents 124 = .ok (.iastore, 1) := by decide +kernel
theorem dX12_findParents_125 : decode cX12_findParents 125 = .ok (.iinc 5 (-1), 3) := by decide +kernel
theorem dX12_findParents_128 : decode cX12_findParents 128 = .ok (.goto (-42), 3) := by decide +kernel
theorem dX12_findParents_131 : decode cX12_findParents 131 = .ok (.aload_n 0, 1) := by decide +kernel
theorem dX12_findParents_132 : decode cX12_findParents 132 = .ok (.getfield 154, 3) := by decide +kernel
theorem dX12_findParents_135 : decode cX12_findParents 135 = .ok (.iload 5, 2) := by decide +kernel
theorem dX12_findParents_137 : decode cX12_findParents 137 = .ok (.iload 4, 2) := by decide +kernel
theorem dX12_findParents_139 : decode cX12_findParents 139 = .ok (.iastore, 1) := by decide +kernel
theorem dX12_findParents_140 : decode cX12_findParents 140 = .ok (.aload_n 0, 1) := by decide +kernel
theorem dX12_findParents_141 : decode cX12_findParents 141 = .ok (.dup, 1) := by decide +kernel
theorem dX12_findParents_142 : decode cX12_findParents 142 = .ok (.getfield 315, 3) := by decide +kernel
theorem dX12_findParents_145 : decode cX12_findParents 145 = .ok (.iconst 1, 1) := by decide +kernel
theorem dX12_findParents_146 : decode cX12_findParents 146 = .ok (.iadd, 1) := by decide +kernel
theorem dX12_findParents_147 : decode cX12_findParents 147 = .ok (.putfield 315, 3) := by decide +kernel
theorem dX12_findParents_150 : decode cX12_findParents 150 = .ok (.iinc 3 1, 3) := by decide +kernel
theorem dX12_findParents_153 : decode cX12_findParents 153 = .ok (.goto (-111), 3) := by decide +kernel
theorem dX12_findParents_156 : decode cX12_findParents 156 = .ok (.iconst 0, 1) := by decide +kernel
theorem dX12_findParents_157 : decode cX12_findParents 157 = .ok (.istore_n 3, 1) := by decide +kernel
theorem dX12_findParents_158 : decode cX12_findParents 158 = .ok (.iload_n 3, 1) := by decide +kernel
theorem dX12_findParents_159 : decode cX12_findParents 159 = .ok (.aload_n 0, 1) := by decide +kernel
theorem dX12_findParents_160 : decode cX12_findParents 160 = .ok (.getfield 315, 3) := by decide +kernel
theorem dX12_findParents_163 : decode cX12_findParents 163 = .ok (.if_icmp .ge 61, 3) := by decide +kernel
theorem dX12_findParents_166 : decode cX12_findParents 166 = .ok (.aload_n 0, 1) := by decide +kernel
theorem dX12_findParents_167 : decode cX12_findParents 167 = .ok (.getfield 154, 3) := by decide +kernel
theorem dX12_findParents_170 : decode cX12_findParents 170 = .ok (.iload_n 3, 1) := by decide +kernel
theorem dX12_findParents_171 : decode cX12_findParents 171 = .ok (.iaload, 1) := by decide +kernel
theorem dX12_findParents_172 : decode cX12_findParents 172 = .ok (.istore 4, 2) := by decide +kernel
theorem dX12_findParents_174 : decode cX12_findParents 174 = .ok (.aload_n 0, 1) := by decide +kernel
theorem dX12_findParents_175 : decode cX12_findParents 175 = .ok (.aload_n 0, 1) := by decide +kernel
theorem dX12_findParents_176 : decode cX12_findParents 176 = .ok (.getfield 32, 3) := by decide +kernel
theorem dX12_findParents_179 : decode cX12_findParents 179 = .ok (.iload 4, 2) := by decide +kernel
theorem dX12_findParents_181 : decode cX12_findParents 181 = .ok (.iaload, 1) := by decide +kernel
theorem dX12_findParents_182 : decode cX12_findParents 182 = .ok (.aload_n 0, 1) := by decide +kernel
theorem dX12_findParents_183 : decode cX12_findParents 183 = .ok (.getfield 38, 3) := by decide +kernel
theorem dX12_findParents_186 : decode cX12_findParents 186 = .ok (.iload 4, 2) := by decide +kernel
theorem dX12_findParents_188 : decode cX12_findParents 188 = .ok (.iaload, 1) := by decide +kernel
theorem dX12_findParents_189 : decode cX12_findParents 189 = .ok (.invokevirtual 318, 3) := by decide +kernel
theorem dX12_findParents_192 : decode cX12_findParents 192 = .ok (.ifCond .ne 26, 3) := by decide +kernel
theorem dX12_findParents_195 : decode cX12_findParents 195 = .ok (.aload_n 0, 1) := by decide +kernel
theorem dX12_findParents_196 : decode cX12_findParents 196 = .ok (.getfield 151, 3) := by decide +kernel
theorem dX12_findParents_199 : decode cX12_findParents 199 = .ok (.aload_n 0, 1) := by decide +kernel
theorem dX12_findParents_200 : decode cX12_findParents 200 = .ok (.aload_n 0, 1) := by decide +kernel
theorem dX12_findParents_201 : decode cX12_findParents 201 = .ok (.getfield 32, 3) := by decide +kernel
theorem dX12_findParents_204 : decode cX12_findParents 204 = .ok (.iload 4, 2) := by decide +kernel
theorem dX12_findParents_206 : decode cX12_findParents 206 = .ok (.iaload, 1) := by decide +kernel
theorem dX12_findParents_207 : decode cX12_findParents 207 = .ok (.invokevirtual 321, 3) := by decide +kernel
theorem dX12_findParents_210 : decode cX12_findParents 210 = .ok (.aload_n 0, 1) := by decide +kernel
theorem dX12_findParents_211 : decode cX12_findParents 211 = .ok (.getfield 38, 3) := by decide +kernel
theorem dX12_findParents_214 : decode cX12_findParents 214 = .ok (.iload 4, 2) := by decide +kernel
theorem dX12_findParents_216 : decode cX12_findParents 216 = .ok (.iaload, 1) := by decide +kernel
theorem dX12_findParents_217 : decode cX12_findParents 217 = .ok (.iastore, 1) := by decide +kernel
theorem dX12_findParents_218 : decode cX12_findParents 218 = .ok (.iinc 3 1, 3) := by decide +kernel
theorem dX12_findParents_221 : decode cX12_findParents 221 = .ok (.goto (-63), 3) := by decide +kernel
theorem dX12_findParents_224 : decode cX12_findParents 224 = .ok (.return_, 1) := by decide +kernel
theorem cd_findParents : Cond.code yX12_findParents cX12_findParents 6 none ∈ lw_g := mt_at 2131 (by decide +kernel) rfl
theorem mw_findParents : mCw 324 yX12_findParents cX12_findParents 6 none 2 := ⟨cd_findParents, mt_at 2128 (by decide +kernel) rfl, in_M, by decide +kernel⟩
theorem im_findParents : Cond.instanceMethod yX12_findParents ∈ lw_g := mt_at 2130 (by decide +kernel) rfl
theorem sl_findParents : Cond.selects RX12 yX12_findParents yX12_findParents ∈ lw_g := mt_sel 78 (by decide +kernel) rfl
section
variable {p : Program} {l : Launch} {e : Env} {R : Room} {s : State} {m : MethodId} {args : Array Value} {below : List Frame} {meth : Method} {c : Code} {cM : ClassId} {iS : Nat → Nat} {cI cZ : ClassId} {mo : Nat} {ad : Nat → Nat} {r : Int32} {S9 : mSt}
noncomputable def fm_findParents_218 (g_158 : mSt → Int32 → Option (mSt)) (S : mSt) (v3 : Int32) : Option (mSt) :=
lt (v3 + (1 : Int32)) fun x1 =>
g_158 S x1
set_option maxRecDepth 100000 in
set_option maxHeartbeats 4000000 in
theorem wm_findParents_218 (C : mY p R s m args meth c cX12_findParents 6 3 69 none) (X : mX s cM iS cI cZ mo ad) {g_158 : mSt → Int32 → Option (mSt)} (hg_158 : ∀ {S : mSt} {v3 : Int32} {H : Heap} {locs : List Loc} {ls : Array Slot}, g_158 S v3 = some S9 → mW cM iS cI cZ mo ad S H → mS (mA mo ad) s.heap H locs → lv_has ls 6 [(0, .ref mo), (3, .int v3)] → W p l e R s m args below meth c H locs 0 0 (MQ below (mQw none cM iS cI cZ mo ad S9) args s 0 0 (mA mo ad)) (F0 m 158 ls [])) : ∀ {S : mSt} {v3 : Int32} {H : Heap} {locs : List Loc} {ls : Array Slot}, fm_findParents_218 g_158 S v3 = some S9 → mW cM iS cI cZ mo ad S H → mS (mA mo ad) s.heap H locs → lv_has ls 6 [(0, .ref mo), (3, .int v3)] → W p l e R s m args below meth c H locs 0 0 (MQ below (mQw none cM iS cI cZ mo ad S9) args s 0 0 (mA mo ad)) (F0 m 218 ls []) := by
  intro S v3 H locs ls h hW hS hl
  unfold fm_findParents_218 at h
  refine lt_ok h (fun x1 e_x1 h => ?_)
  refine lv_iinc (v := x1) (lv' := [(3, .int x1), (0, .ref mo)]) C.1 C.2.1 dX12_findParents_218 hl (k := 1) rfl (by rw [← e_x1]; rfl) (by decide) rfl (fun ls hl => ?_)
  refine lv_goto (tgt := 158) C.1 C.2.1 dX12_findParents_221 (by decide) ?_
  exact hg_158 h hW hS (lv_sub hl [1, 0] rfl)
noncomputable def fm_findParents_158 : Nat → mSt → Int32 → Option (mSt)
  | 0, _, _ => none
  | n + 1, S, v3 =>
    if (S.1 57) ≤ v3 then (
    some S)
    else (
    ck v3 1000 (
    lt (rd S 58 v3) fun x2 =>
    ck x2 1000 (
    ck x2 1000 (
    bd (fm_isRing S (rd S 10 x2) (rd S 12 x2)) fun r3 =>
    if r3 = 0 then (
    ck x2 1000 (
    bd (fm_placeOf S (rd S 10 x2)) fun r5 =>
    ck x2 1000 (
    ck r5 48 (lt (wr S 56 r5 (rd S 12 x2)) fun S6 =>
    fm_findParents_218 (fm_findParents_158 n) S6 v3))))
    else (
    fm_findParents_218 (fm_findParents_158 n) S v3)))))
set_option maxRecDepth 100000 in
set_option maxHeartbeats 4000000 in
theorem wm_findParents_158 (C : mY p R s m args meth c cX12_findParents 6 3 69 none) (X : mX s cM iS cI cZ mo ad) : ∀ (n : Nat), ∀ {S : mSt} {v3 : Int32} {H : Heap} {locs : List Loc} {ls : Array Slot}, fm_findParents_158 n S v3 = some S9 → mW cM iS cI cZ mo ad S H → mS (mA mo ad) s.heap H locs → lv_has ls 6 [(0, .ref mo), (3, .int v3)] → W p l e R s m args below meth c H locs 0 0 (MQ below (mQw none cM iS cI cZ mo ad S9) args s 0 0 (mA mo ad)) (F0 m 158 ls []) := by
  intro n
  induction n with
  | zero =>
    intro S v3 H locs ls h hW hS hl
    exact absurd (show (none : Option (mSt)) = _ from h) (fun q => by cases q)
  | succ n ih =>
    intro S v3 H locs ls h hW hS hl
    rw [fm_findParents_158] at h
    refine lv_iload_n C.1 C.2.1 dX12_findParents_158 rfl (lv_at hl 1 rfl) ?_
    refine lv_aload_n C.1 C.2.1 dX12_findParents_159 rfl (lv_at hl 0 rfl) ?_
    refine gf_57 C X hW dX12_findParents_160 ?_
    refine lv_icmp_ge (tgt := 224) C.1 C.2.1 dX12_findParents_163 (by decide) (fun c1 => ?_) (fun c1 => ?_)
    · have h := if_t h c1
      cases h
      exact m_retvW C hW hS dX12_findParents_224
    · have h := if_f h c1
      refine lv_aload_n C.1 C.2.1 dX12_findParents_166 rfl (lv_at hl 0 rfl) ?_
      refine gf_58 C X hW dX12_findParents_167 ?_
      refine lv_iload_n C.1 C.2.1 dX12_findParents_170 rfl (lv_at hl 1 rfl) ?_
      obtain ⟨hin, h⟩ := ck_ok h
      refine l_58 C X hW hin dX12_findParents_171 ?_
      refine lt_ok h (fun x2 e_x2 h => ?_)
      refine lv_nm e_x2 ?_
      refine lv_istore (lv' := [(4, .int x2), (0, .ref mo), (3, .int v3)]) C.1 C.2.1 dX12_findParents_172 hl (by decide) rfl (fun ls hl => ?_)
      refine lv_aload_n C.1 C.2.1 dX12_findParents_174 rfl (lv_at hl 1 rfl) ?_
      refine lv_aload_n C.1 C.2.1 dX12_findParents_175 rfl (lv_at hl 1 rfl) ?_
      refine gf_10 C X hW dX12_findParents_176 ?_
      refine lv_iload C.1 C.2.1 dX12_findParents_179 (lv_at hl 0 rfl) ?_
      obtain ⟨hin, h⟩ := ck_ok h
      refine l_10 C X hW hin dX12_findParents_181 ?_
      refine lv_aload_n C.1 C.2.1 dX12_findParents_182 rfl (lv_at hl 1 rfl) ?_
      refine gf_12 C X hW dX12_findParents_183 ?_
      refine lv_iload C.1 C.2.1 dX12_findParents_186 (lv_at hl 0 rfl) ?_
      obtain ⟨hin, h⟩ := ck_ok h
      refine l_12 C X hW hin dX12_findParents_188 ?_
      obtain ⟨r3, h_r3, h⟩ := bd_ok h
      refine m_callR (rest := []) C X hW hl.1 [.int (rd S 10 x2), .int (rd S 12 x2)] (tm_isRing l h_r3) mw_isRing im_isRing sl_isRing rfl ⟨by decide, by decide⟩ rfl (Nat.le_of_ble_eq_true rfl) dX12_findParents_189 ?_
      refine lv_if_ne (tgt := 218) C.1 C.2.1 dX12_findParents_192 (by decide) (fun c4 => ?_) (fun c4 => ?_)
      · have h := if_f h c4
        exact wm_findParents_218 C X ih h hW hS (lv_sub hl [1, 2] rfl)
      · have h := if_t h c4
        refine lv_aload_n C.1 C.2.1 dX12_findParents_195 rfl (lv_at hl 1 rfl) ?_
        refine gf_56 C X hW dX12_findParents_196 ?_
        refine lv_aload_n C.1 C.2.1 dX12_findParents_199 rfl (lv_at hl 1 rfl) ?_
        refine lv_aload_n C.1 C.2.1 dX12_findParents_200 rfl (lv_at hl 1 rfl) ?_
        refine gf_10 C X hW dX12_findParents_201 ?_
        refine lv_iload C.1 C.2.1 dX12_findParents_204 (lv_at hl 0 rfl) ?_
        obtain ⟨hin, h⟩ := ck_ok h
        refine l_10 C X hW hin dX12_findParents_206 ?_
        obtain ⟨r5, h_r5, h⟩ := bd_ok h
        refine m_callR (rest := [.ref (ad 56)]) C X hW hl.1 [.int (rd S 10 x2)] (tm_placeOf l h_r5) mw_placeOf im_placeOf sl_placeOf rfl ⟨by decide, by decide⟩ rfl (Nat.le_of_ble_eq_true rfl) dX12_findParents_207 ?_
        refine lv_aload_n C.1 C.2.1 dX12_findParents_210 rfl (lv_at hl 1 rfl) ?_
        refine gf_12 C X hW dX12_findParents_211 ?_
        refine lv_iload C.1 C.2.1 dX12_findParents_214 (lv_at hl 0 rfl) ?_
        obtain ⟨hin, h⟩ := ck_ok h
        refine l_12 C X hW hin dX12_findParents_216 ?_
        obtain ⟨hin, h⟩ := ck_ok h
        refine s_56 C X hW hS hin dX12_findParents_217 (fun H locs hW hS => ?_)
        refine lt_ok h (fun S6 e_S6 h => ?_)
        rw [e_S6] at hW
        exact wm_findParents_218 C X ih h hW hS (lv_sub hl [1, 2] rfl)
noncomputable def fm_findParents_150 (g_42 : mSt → Int32 → Int32 → Int32 → Option (mSt)) (S : mSt) (v1 : Int32) (v2 : Int32) (v3 : Int32) : Option (mSt) :=
lt (v3 + (1 : Int32)) fun x1 =>
g_42 S v1 v2 x1
set_option maxRecDepth 100000 in
set_option maxHeartbeats 4000000 in
theorem wm_findParents_150 (C : mY p R s m args meth c cX12_findParents 6 3 69 none) (X : mX s cM iS cI cZ mo ad) {g_42 : mSt → Int32 → Int32 → Int32 → Option (mSt)} (hg_42 : ∀ {S : mSt} {v1 : Int32} {v2 : Int32} {v3 : Int32} {H : Heap} {locs : List Loc} {ls : Array Slot}, g_42 S v1 v2 v3 = some S9 → mW cM iS cI cZ mo ad S H → mS (mA mo ad) s.heap H locs → lv_has ls 6 [(0, .ref mo), (1, .int v1), (2, .int v2), (3, .int v3)] → W p l e R s m args below meth c H locs 0 0 (MQ below (mQw none cM iS cI cZ mo ad S9) args s 0 0 (mA mo ad)) (F0 m 42 ls [])) : ∀ {S : mSt} {v1 : Int32} {v2 : Int32} {v3 : Int32} {H : Heap} {locs : List Loc} {ls : Array Slot}, fm_findParents_150 g_42 S v1 v2 v3 = some S9 → mW cM iS cI cZ mo ad S H → mS (mA mo ad) s.heap H locs → lv_has ls 6 [(0, .ref mo), (1, .int v1), (2, .int v2), (3, .int v3)] → W p l e R s m args below meth c H locs 0 0 (MQ below (mQw none cM iS cI cZ mo ad S9) args s 0 0 (mA mo ad)) (F0 m 150 ls []) := by
  intro S v1 v2 v3 H locs ls h hW hS hl
  unfold fm_findParents_150 at h
  refine lt_ok h (fun x1 e_x1 h => ?_)
  refine lv_iinc (v := x1) (lv' := [(3, .int x1), (0, .ref mo), (1, .int v1), (2, .int v2)]) C.1 C.2.1 dX12_findParents_150 hl (k := 3) rfl (by rw [← e_x1]; rfl) (by decide) rfl (fun ls hl => ?_)
  refine lv_goto (tgt := 42) C.1 C.2.1 dX12_findParents_153 (by decide) ?_
  exact hg_42 h hW hS (lv_sub hl [1, 2, 3, 0] rfl)
noncomputable def fm_findParents_131 (g_42 : mSt → Int32 → Int32 → Int32 → Option (mSt)) (S : mSt) (v1 : Int32) (v2 : Int32) (v3 : Int32) (v4 : Int32) (v5 : Int32) : Option (mSt) :=
ck v5 1000 (lt (wr S 58 v5 v4) fun S1 =>
lt (pu S1 57 ((S1.1 57) + (1 : Int32))) fun S2 =>
fm_findParents_150 g_42 S2 v1 v2 v3)
set_option maxRecDepth 100000 in
set_option maxHeartbeats 4000000 in
theorem wm_findParents_131 (C : mY p R s m args meth c cX12_findParents 6 3 69 none) (X : mX s cM iS cI cZ mo ad) {g_42 : mSt → Int32 → Int32 → Int32 → Option (mSt)} (hg_42 : ∀ {S : mSt} {v1 : Int32} {v2 : Int32} {v3 : Int32} {H : Heap} {locs : List Loc} {ls : Array Slot}, g_42 S v1 v2 v3 = some S9 → mW cM iS cI cZ mo ad S H → mS (mA mo ad) s.heap H locs → lv_has ls 6 [(0, .ref mo), (1, .int v1), (2, .int v2), (3, .int v3)] → W p l e R s m args below meth c H locs 0 0 (MQ below (mQw none cM iS cI cZ mo ad S9) args s 0 0 (mA mo ad)) (F0 m 42 ls [])) : ∀ {S : mSt} {v1 : Int32} {v2 : Int32} {v3 : Int32} {v4 : Int32} {v5 : Int32} {H : Heap} {locs : List Loc} {ls : Array Slot}, fm_findParents_131 g_42 S v1 v2 v3 v4 v5 = some S9 → mW cM iS cI cZ mo ad S H → mS (mA mo ad) s.heap H locs → lv_has ls 6 [(0, .ref mo), (1, .int v1), (2, .int v2), (3, .int v3), (4, .int v4), (5, .int v5)] → W p l e R s m args below meth c H locs 0 0 (MQ below (mQw none cM iS cI cZ mo ad S9) args s 0 0 (mA mo ad)) (F0 m 131 ls []) := by
  intro S v1 v2 v3 v4 v5 H locs ls h hW hS hl
  unfold fm_findParents_131 at h
  refine lv_aload_n C.1 C.2.1 dX12_findParents_131 rfl (lv_at hl 0 rfl) ?_
  refine gf_58 C X hW dX12_findParents_132 ?_
  refine lv_iload C.1 C.2.1 dX12_findParents_135 (lv_at hl 5 rfl) ?_
  refine lv_iload C.1 C.2.1 dX12_findParents_137 (lv_at hl 4 rfl) ?_
  obtain ⟨hin, h⟩ := ck_ok h
  refine s_58 C X hW hS hin dX12_findParents_139 (fun H locs hW hS => ?_)
  refine lt_ok h (fun S1 e_S1 h => ?_)
  rw [e_S1] at hW
  refine lv_aload_n C.1 C.2.1 dX12_findParents_140 rfl (lv_at hl 0 rfl) ?_
  refine lv_dup C.1 C.2.1 dX12_findParents_141 rfl ?_
  refine gf_57 C X hW dX12_findParents_142 ?_
  refine lv_iconst (v := 1) C.1 C.2.1 dX12_findParents_145 (by decide) ?_
  refine lv_iadd C.1 C.2.1 dX12_findParents_146 ?_
  refine p_57 C X hW hS dX12_findParents_147 (fun H locs hW hS => ?_)
  refine lt_ok h (fun S2 e_S2 h => ?_)
  rw [e_S2] at hW
  exact wm_findParents_150 C X hg_42 h hW hS (lv_sub hl [0, 1, 2, 3] rfl)
noncomputable def fm_findParents_86 (g_42 : mSt → Int32 → Int32 → Int32 → Option (mSt)) : Nat → mSt → Int32 → Int32 → Int32 → Int32 → Int32 → Option (mSt)
  | 0, _, _, _, _, _, _ => none
  | n + 1, S, v1, v2, v3, v4, v5 =>
    if v5 ≤ 0 then (
    fm_findParents_131 g_42 S v1 v2 v3 v4 v5)
    else (
    ck (v5 - (1 : Int32)) 1000 (
    bd (fm_isBefore S v4 (rd S 58 (v5 - (1 : Int32)))) fun r2 =>
    if r2 = 0 then (
    fm_findParents_131 g_42 S v1 v2 v3 v4 v5)
    else (
    ck (v5 - (1 : Int32)) 1000 (
    ck v5 1000 (lt (wr S 58 v5 (rd S 58 (v5 - (1 : Int32)))) fun S4 =>
    lt (v5 + (-1 : Int32)) fun x5 =>
    fm_findParents_86 g_42 n S4 v1 v2 v3 v4 x5)))))
set_option maxRecDepth 100000 in
set_option maxHeartbeats 4000000 in
theorem wm_findParents_86 (C : mY p R s m args meth c cX12_findParents 6 3 69 none) (X : mX s cM iS cI cZ mo ad) {g_42 : mSt → Int32 → Int32 → Int32 → Option (mSt)} (hg_42 : ∀ {S : mSt} {v1 : Int32} {v2 : Int32} {v3 : Int32} {H : Heap} {locs : List Loc} {ls : Array Slot}, g_42 S v1 v2 v3 = some S9 → mW cM iS cI cZ mo ad S H → mS (mA mo ad) s.heap H locs → lv_has ls 6 [(0, .ref mo), (1, .int v1), (2, .int v2), (3, .int v3)] → W p l e R s m args below meth c H locs 0 0 (MQ below (mQw none cM iS cI cZ mo ad S9) args s 0 0 (mA mo ad)) (F0 m 42 ls [])) : ∀ (n : Nat), ∀ {S : mSt} {v1 : Int32} {v2 : Int32} {v3 : Int32} {v4 : Int32} {v5 : Int32} {H : Heap} {locs : List Loc} {ls : Array Slot}, fm_findParents_86 g_42 n S v1 v2 v3 v4 v5 = some S9 → mW cM iS cI cZ mo ad S H → mS (mA mo ad) s.heap H locs → lv_has ls 6 [(0, .ref mo), (1, .int v1), (2, .int v2), (3, .int v3), (4, .int v4), (5, .int v5)] → W p l e R s m args below meth c H locs 0 0 (MQ below (mQw none cM iS cI cZ mo ad S9) args s 0 0 (mA mo ad)) (F0 m 86 ls []) := by
  intro n
  induction n with
  | zero =>
    intro S v1 v2 v3 v4 v5 H locs ls h hW hS hl
    exact absurd (show (none : Option (mSt)) = _ from h) (fun q => by cases q)
  | succ n ih =>
    intro S v1 v2 v3 v4 v5 H locs ls h hW hS hl
    rw [fm_findParents_86] at h
    refine lv_iload C.1 C.2.1 dX12_findParents_86 (lv_at hl 5 rfl) ?_
    refine lv_if_le (tgt := 131) C.1 C.2.1 dX12_findParents_88 (by decide) (fun c1 => ?_) (fun c1 => ?_)
    · have h := if_t h c1
      exact wm_findParents_131 C X hg_42 h hW hS (lv_sub hl [0, 1, 2, 3, 4, 5] rfl)
    · have h := if_f h c1
      refine lv_aload_n C.1 C.2.1 dX12_findParents_91 rfl (lv_at hl 0 rfl) ?_
      refine lv_iload C.1 C.2.1 dX12_findParents_92 (lv_at hl 4 rfl) ?_
      refine lv_aload_n C.1 C.2.1 dX12_findParents_94 rfl (lv_at hl 0 rfl) ?_
      refine gf_58 C X hW dX12_findParents_95 ?_
      refine lv_iload C.1 C.2.1 dX12_findParents_98 (lv_at hl 5 rfl) ?_
      refine lv_iconst (v := 1) C.1 C.2.1 dX12_findParents_100 (by decide) ?_
      refine lv_isub C.1 C.2.1 dX12_findParents_101 ?_
      obtain ⟨hin, h⟩ := ck_ok h
      refine l_58 C X hW hin dX12_findParents_102 ?_
      obtain ⟨r2, h_r2, h⟩ := bd_ok h
      refine m_callR (rest := []) C X hW hl.1 [.int v4, .int (rd S 58 (v5 - (1 : Int32)))] (tm_isBefore l h_r2) mw_isBefore im_isBefore sl_isBefore rfl ⟨by decide, by decide⟩ rfl (Nat.le_of_ble_eq_true rfl) dX12_findParents_103 ?_
      refine lv_if_eq (tgt := 131) C.1 C.2.1 dX12_findParents_106 (by decide) (fun c3 => ?_) (fun c3 => ?_)
      · have h := if_t h c3
        exact wm_findParents_131 C X hg_42 h hW hS (lv_sub hl [0, 1, 2, 3, 4, 5] rfl)
      · have h := if_f h c3
        refine lv_aload_n C.1 C.2.1 dX12_findParents_109 rfl (lv_at hl 0 rfl) ?_
        refine gf_58 C X hW dX12_findParents_110 ?_
        refine lv_iload C.1 C.2.1 dX12_findParents_113 (lv_at hl 5 rfl) ?_
        refine lv_aload_n C.1 C.2.1 dX12_findParents_115 rfl (lv_at hl 0 rfl) ?_
        refine gf_58 C X hW dX12_findParents_116 ?_
        refine lv_iload C.1 C.2.1 dX12_findParents_119 (lv_at hl 5 rfl) ?_
        refine lv_iconst (v := 1) C.1 C.2.1 dX12_findParents_121 (by decide) ?_
        refine lv_isub C.1 C.2.1 dX12_findParents_122 ?_
        obtain ⟨hin, h⟩ := ck_ok h
        refine l_58 C X hW hin dX12_findParents_123 ?_
        obtain ⟨hin, h⟩ := ck_ok h
        refine s_58 C X hW hS hin dX12_findParents_124 (fun H locs hW hS => ?_)
        refine lt_ok h (fun S4 e_S4 h => ?_)
        rw [e_S4] at hW
        refine lt_ok h (fun x5 e_x5 h => ?_)
        refine lv_iinc (v := x5) (lv' := [(5, .int x5), (0, .ref mo), (1, .int v1), (2, .int v2), (3, .int v3), (4, .int v4)]) C.1 C.2.1 dX12_findParents_125 hl (k := 5) rfl (by rw [← e_x5]; rfl) (by decide) rfl (fun ls hl => ?_)
        refine lv_goto (tgt := 86) C.1 C.2.1 dX12_findParents_128 (by decide) ?_
        exact ih h hW hS (lv_sub hl [1, 2, 3, 4, 5, 0] rfl)
noncomputable def fm_findParents_42 : Nat → mSt → Int32 → Int32 → Int32 → Option (mSt)
  | 0, _, _, _, _ => none
  | n + 1, S, v1, v2, v3 =>
    if v2 ≤ v3 then (
    fm_findParents_158 mFU S (0 : Int32))
    else (
    bd (fm_rowAt S v1 v3) fun r2 =>
    ck r2 1000 (
    if (rd S 9 r2) = (11 : Int32) then (
    ck r2 1000 (
    if (rd S 47 r2) = 0 then (
    fm_findParents_150 (fm_findParents_42 n) S v1 v2 v3)
    else (
    lt (S.1 57) fun x5 =>
    fm_findParents_86 (fm_findParents_42 n) mFU S v1 v2 v3 r2 x5)))
    else (
    fm_findParents_150 (fm_findParents_42 n) S v1 v2 v3)))
set_option maxRecDepth 100000 in
set_option maxHeartbeats 4000000 in
theorem wm_findParents_42 (C : mY p R s m args meth c cX12_findParents 6 3 69 none) (X : mX s cM iS cI cZ mo ad) : ∀ (n : Nat), ∀ {S : mSt} {v1 : Int32} {v2 : Int32} {v3 : Int32} {H : Heap} {locs : List Loc} {ls : Array Slot}, fm_findParents_42 n S v1 v2 v3 = some S9 → mW cM iS cI cZ mo ad S H → mS (mA mo ad) s.heap H locs → lv_has ls 6 [(0, .ref mo), (1, .int v1), (2, .int v2), (3, .int v3)] → W p l e R s m args below meth c H locs 0 0 (MQ below (mQw none cM iS cI cZ mo ad S9) args s 0 0 (mA mo ad)) (F0 m 42 ls []) := by
  intro n
  induction n with
  | zero =>
    intro S v1 v2 v3 H locs ls h hW hS hl
    exact absurd (show (none : Option (mSt)) = _ from h) (fun q => by cases q)
  | succ n ih =>
    intro S v1 v2 v3 H locs ls h hW hS hl
    rw [fm_findParents_42] at h
    refine lv_iload_n C.1 C.2.1 dX12_findParents_42 rfl (lv_at hl 3 rfl) ?_
    refine lv_iload_n C.1 C.2.1 dX12_findParents_43 rfl (lv_at hl 2 rfl) ?_
    refine lv_icmp_ge (tgt := 156) C.1 C.2.1 dX12_findParents_44 (by decide) (fun c1 => ?_) (fun c1 => ?_)
    · have h := if_t h c1
      refine lv_iconst (v := 0) C.1 C.2.1 dX12_findParents_156 (by decide) ?_
      refine lv_istore_n (lv' := [(3, .int (0 : Int32)), (0, .ref mo), (1, .int v1), (2, .int v2)]) C.1 C.2.1 dX12_findParents_157 rfl hl (by decide) rfl (fun ls hl => ?_)
      exact wm_findParents_158 C X mFU h hW hS (lv_sub hl [1, 0] rfl)
    · have h := if_f h c1
      refine lv_aload_n C.1 C.2.1 dX12_findParents_47 rfl (lv_at hl 0 rfl) ?_
      refine lv_iload_n C.1 C.2.1 dX12_findParents_48 rfl (lv_at hl 1 rfl) ?_
      refine lv_iload_n C.1 C.2.1 dX12_findParents_49 rfl (lv_at hl 3 rfl) ?_
      obtain ⟨r2, h_r2, h⟩ := bd_ok h
      refine m_callR (rest := []) C X hW hl.1 [.int v1, .int v3] (tm_rowAt l h_r2) mw_rowAt im_rowAt sl_rowAt rfl ⟨by decide, by decide⟩ rfl (Nat.le_of_ble_eq_true rfl) dX12_findParents_50 ?_
      refine lv_istore (lv' := [(4, .int r2), (0, .ref mo), (1, .int v1), (2, .int v2), (3, .int v3)]) C.1 C.2.1 dX12_findParents_53 hl (by decide) rfl (fun ls hl => ?_)
      refine lv_aload_n C.1 C.2.1 dX12_findParents_55 rfl (lv_at hl 1 rfl) ?_
      refine gf_9 C X hW dX12_findParents_56 ?_
      refine lv_iload C.1 C.2.1 dX12_findParents_59 (lv_at hl 0 rfl) ?_
      obtain ⟨hin, h⟩ := ck_ok h
      refine l_9 C X hW hin dX12_findParents_61 ?_
      refine lv_bipush (v := 11) C.1 C.2.1 dX12_findParents_62 (by decide) ?_
      refine lv_icmp_ne (tgt := 150) C.1 C.2.1 dX12_findParents_64 (by decide) (fun c3 => ?_) (fun c3 => ?_)
      · have h := if_f h c3
        exact wm_findParents_150 C X ih h hW hS (lv_sub hl [1, 2, 3, 4] rfl)
      · have h := if_t h c3
        refine lv_aload_n C.1 C.2.1 dX12_findParents_67 rfl (lv_at hl 1 rfl) ?_
        refine gf_47 C X hW dX12_findParents_68 ?_
        refine lv_iload C.1 C.2.1 dX12_findParents_71 (lv_at hl 0 rfl) ?_
        obtain ⟨hin, h⟩ := ck_ok h
        refine l_47 C X hW hin dX12_findParents_73 ?_
        refine lv_if_ne (tgt := 80) C.1 C.2.1 dX12_findParents_74 (by decide) (fun c4 => ?_) (fun c4 => ?_)
        · have h := if_f h c4
          refine lv_aload_n C.1 C.2.1 dX12_findParents_80 rfl (lv_at hl 1 rfl) ?_
          refine gf_57 C X hW dX12_findParents_81 ?_
          refine lt_ok h (fun x5 e_x5 h => ?_)
          refine lv_nm e_x5 ?_
          refine lv_istore (lv' := [(5, .int x5), (4, .int r2), (0, .ref mo), (1, .int v1), (2, .int v2), (3, .int v3)]) C.1 C.2.1 dX12_findParents_84 hl (by decide) rfl (fun ls hl => ?_)
          exact wm_findParents_86 C X ih mFU h hW hS (lv_sub hl [2, 3, 4, 5, 1, 0] rfl)
        · have h := if_t h c4
          refine lv_goto (tgt := 150) C.1 C.2.1 dX12_findParents_77 (by decide) ?_
          exact wm_findParents_150 C X ih h hW hS (lv_sub hl [1, 2, 3, 4] rfl)
noncomputable def fm_findParents_14 : Nat → mSt → Int32 → Int32 → Int32 → Option (mSt)
  | 0, _, _, _, _ => none
  | n + 1, S, v1, v2, v3 =>
    if (S.1 54) ≤ v3 then (
    lt (pu S 57 (0 : Int32)) fun S2 =>
    fm_findParents_42 mFU S2 v1 v2 (0 : Int32))
    else (
    ck v3 48 (lt (wr S 56 v3 (-1 : Int32)) fun S3 =>
    lt (v3 + (1 : Int32)) fun x4 =>
    fm_findParents_14 n S3 v1 v2 x4))
set_option maxRecDepth 100000 in
set_option maxHeartbeats 4000000 in
theorem wm_findParents_14 (C : mY p R s m args meth c cX12_findParents 6 3 69 none) (X : mX s cM iS cI cZ mo ad) : ∀ (n : Nat), ∀ {S : mSt} {v1 : Int32} {v2 : Int32} {v3 : Int32} {H : Heap} {locs : List Loc} {ls : Array Slot}, fm_findParents_14 n S v1 v2 v3 = some S9 → mW cM iS cI cZ mo ad S H → mS (mA mo ad) s.heap H locs → lv_has ls 6 [(0, .ref mo), (1, .int v1), (2, .int v2), (3, .int v3)] → W p l e R s m args below meth c H locs 0 0 (MQ below (mQw none cM iS cI cZ mo ad S9) args s 0 0 (mA mo ad)) (F0 m 14 ls []) := by
  intro n
  induction n with
  | zero =>
    intro S v1 v2 v3 H locs ls h hW hS hl
    exact absurd (show (none : Option (mSt)) = _ from h) (fun q => by cases q)
  | succ n ih =>
    intro S v1 v2 v3 H locs ls h hW hS hl
    rw [fm_findParents_14] at h
    refine lv_iload_n C.1 C.2.1 dX12_findParents_14 rfl (lv_at hl 3 rfl) ?_
    refine lv_aload_n C.1 C.2.1 dX12_findParents_15 rfl (lv_at hl 0 rfl) ?_
    refine gf_54 C X hW dX12_findParents_16 ?_
    refine lv_icmp_ge (tgt := 35) C.1 C.2.1 dX12_findParents_19 (by decide) (fun c1 => ?_) (fun c1 => ?_)
    · have h := if_t h c1
      refine lv_aload_n C.1 C.2.1 dX12_findParents_35 rfl (lv_at hl 0 rfl) ?_
      refine lv_iconst (v := 0) C.1 C.2.1 dX12_findParents_36 (by decide) ?_
      refine p_57 C X hW hS dX12_findParents_37 (fun H locs hW hS => ?_)
      refine lt_ok h (fun S2 e_S2 h => ?_)
      rw [e_S2] at hW
      refine lv_iconst (v := 0) C.1 C.2.1 dX12_findParents_40 (by decide) ?_
      refine lv_istore_n (lv' := [(3, .int (0 : Int32)), (0, .ref mo), (1, .int v1), (2, .int v2)]) C.1 C.2.1 dX12_findParents_41 rfl hl (by decide) rfl (fun ls hl => ?_)
      exact wm_findParents_42 C X mFU h hW hS (lv_sub hl [1, 2, 3, 0] rfl)
    · have h := if_f h c1
      refine lv_aload_n C.1 C.2.1 dX12_findParents_22 rfl (lv_at hl 0 rfl) ?_
      refine gf_56 C X hW dX12_findParents_23 ?_
      refine lv_iload_n C.1 C.2.1 dX12_findParents_26 rfl (lv_at hl 3 rfl) ?_
      refine lv_iconst (v := -1) C.1 C.2.1 dX12_findParents_27 (by decide) ?_
      obtain ⟨hin, h⟩ := ck_ok h
      refine s_56 C X hW hS hin dX12_findParents_28 (fun H locs hW hS => ?_)
      refine lt_ok h (fun S3 e_S3 h => ?_)
      rw [e_S3] at hW
      refine lt_ok h (fun x4 e_x4 h => ?_)
      refine lv_iinc (v := x4) (lv' := [(3, .int x4), (0, .ref mo), (1, .int v1), (2, .int v2)]) C.1 C.2.1 dX12_findParents_29 hl (k := 3) rfl (by rw [← e_x4]; rfl) (by decide) rfl (fun ls hl => ?_)
      refine lv_goto (tgt := 14) C.1 C.2.1 dX12_findParents_32 (by decide) ?_
      exact ih h hW hS (lv_sub hl [1, 2, 3, 0] rfl)
noncomputable def fm_findParents (S : mSt) (v1 : Int32) (v2 : Int32) : Option (mSt) :=
bd (fm_findObjects S v1 v2) fun S1 =>
bd (fm_judge S1 v1 v2) fun S2 =>
fm_findParents_14 mFU S2 v1 v2 (0 : Int32)
set_option maxRecDepth 100000 in
set_option maxHeartbeats 4000000 in
theorem tm_findParents (l : Launch) {cM : ClassId} {iS : Nat → Nat} {cI cZ : ClassId} {mo : Nat} {ad : Nat → Nat} {S : mSt} {v1 : Int32} {v2 : Int32} {S9 : mSt} (h : fm_findParents S v1 v2 = some S9) : Met l yX12_findParents (Cond.code yX12_findParents cX12_findParents 6 none :: lw_g) { frames := 3, cells := 0, slots := 0, locals := 69 } (mPi [.int v1, .int v2] cM iS cI cZ mo ad S) (mQw none cM iS cI cZ mo ad S9) 0 0 (mA mo ad) := by
  refine Met.ofW (cc := cX12_findParents) (maxL := 6) (ret := none) (by decide) rfl ?_
  intro p e s m args below meth c s₁ B hml hv
  obtain ⟨rfl, hW, X⟩ := hv
  have C : mY p (headSpec (Cond.code yX12_findParents cX12_findParents 6 none :: lw_g) { frames := 3, cells := 0, slots := 0, locals := 69 }).room s m _ meth c cX12_findParents 6 3 69 none := ⟨B.exec, B.bytes, hml, findClass_of_methodNamed B.named, fun w hw => atoms_spec (ws := Cond.code yX12_findParents cX12_findParents 6 none :: lw_g) B.pre w (List.mem_cons_of_mem _ hw), ⟨Nat.le_refl _, Nat.le_refl _⟩, B.returns, B.notSynchronized⟩
  have hl := lv_entry ([.ref mo, .int v1, .int v2]) (n := 6) (Nat.le_of_ble_eq_true rfl)
  rw [lg_entry_eq]
  generalize (lg_sl ([.ref mo, .int v1, .int v2]) ++ List.replicate (6 - (lg_sl ([.ref mo, .int v1, .int v2])).length) Slot.unset).toArray = ls at hl ⊢
  have hl : lv_has ls 6 [(0, .ref mo), (1, .int v1), (2, .int v2)] := hl
  have hS : mS (mA mo ad) s.heap s.heap [] := mS.rf
  unfold fm_findParents at h
  refine lv_aload_n C.1 C.2.1 dX12_findParents_0 rfl (lv_at hl 0 rfl) ?_
  refine lv_iload_n C.1 C.2.1 dX12_findParents_1 rfl (lv_at hl 1 rfl) ?_
  refine lv_iload_n C.1 C.2.1 dX12_findParents_2 rfl (lv_at hl 2 rfl) ?_
  obtain ⟨S1, h_S1, h⟩ := bd_ok h
  refine m_callW (rest := []) (ov := none) C X hW hS hl.1 [.int v1, .int v2] (tm_findObjects l h_S1) mw_findObjects im_findObjects sl_findObjects rfl ⟨by decide, by decide⟩ rfl (Nat.le_of_ble_eq_true rfl) dX12_findParents_3 (fun H locs hW hS => ?_)
  refine W.eq (g2 := F0 m 6 ls []) rfl ?_
  refine lv_aload_n C.1 C.2.1 dX12_findParents_6 rfl (lv_at hl 0 rfl) ?_
  refine lv_iload_n C.1 C.2.1 dX12_findParents_7 rfl (lv_at hl 1 rfl) ?_
  refine lv_iload_n C.1 C.2.1 dX12_findParents_8 rfl (lv_at hl 2 rfl) ?_
  obtain ⟨S2, h_S2, h⟩ := bd_ok h
  refine m_callW (rest := []) (ov := none) C X hW hS hl.1 [.int v1, .int v2] (tm_judge l h_S2) mw_judge im_judge sl_judge rfl ⟨by decide, by decide⟩ rfl (Nat.le_of_ble_eq_true rfl) dX12_findParents_9 (fun H locs hW hS => ?_)
  refine W.eq (g2 := F0 m 12 ls []) rfl ?_
  refine lv_iconst (v := 0) C.1 C.2.1 dX12_findParents_12 (by decide) ?_
  refine lv_istore_n (lv' := [(3, .int (0 : Int32)), (0, .ref mo), (1, .int v1), (2, .int v2)]) C.1 C.2.1 dX12_findParents_13 rfl hl (by decide) rfl (fun ls hl => ?_)
  exact wm_findParents_14 C X mFU h hW hS (lv_sub hl [1, 2, 3, 0] rfl)
end
theorem dX12_parentOf_0 : decode cX12_parentOf 0 = .ok (.aload_n 0, 1) := by decide +kernel
theorem dX12_parentOf_1 : decode cX12_parentOf 1 = .ok (.iload_n 1, 1) := by decide +kernel
theorem dX12_parentOf_2 : decode cX12_parentOf 2 = .ok (.aload_n 0, 1) := by decide +kernel
theorem dX12_parentOf_3 : decode cX12_parentOf 3 = .ok (.getfield 71, 3) := by decide +kernel
theorem dX12_parentOf_6 : decode cX12_parentOf 6 = .ok (.iload_n 1, 1) := by decide +kernel
theorem dX12_parentOf_7 : decode cX12_parentOf 7 = .ok (.iaload, 1) := by decide +kernel
theorem dX12_parentOf_8 : decode cX12_parentOf 8 = .ok (.invokevirtual 324, 3) := by decide +kernel
theorem dX12_parentOf_11 : decode cX12_parentOf 11 = .ok (.aload_n 0, 1) := by decide +kernel
theorem dX12_parentOf_12 : decode cX12_parentOf 12 = .ok (.getfield 151, 3) := by decide +kernel
theorem dX12_parentOf_15 : decode cX12_parentOf 15 = .ok (.aload_n 0, 1) := by decide +kernel
theorem dX12_parentOf_16 : decode cX12_parentOf 16 = .ok (.iload_n 2, 1) := by decide +kernel
theorem dX12_parentOf_17 : decode cX12_parentOf 17 = .ok (.invokevirtual 321, 3) := by decide +kernel
theorem dX12_parentOf_20 : decode cX12_parentOf 20 = .ok (.iaload, 1) := by decide +kernel
theorem dX12_parentOf_21 : decode cX12_parentOf 21 = .ok (.ireturn, 1) := by decide +kernel
theorem cd_parentOf : Cond.code yX12_parentOf cX12_parentOf 3 (some .int) ∈ lw_g := mt_at 2308 (by decide +kernel) rfl
theorem mw_parentOf : mCw 494 yX12_parentOf cX12_parentOf 3 (some .int) 2 := ⟨cd_parentOf, mt_at 2305 (by decide +kernel) rfl, in_M, by decide +kernel⟩
theorem im_parentOf : Cond.instanceMethod yX12_parentOf ∈ lw_g := mt_at 2307 (by decide +kernel) rfl
theorem sl_parentOf : Cond.selects RX12 yX12_parentOf yX12_parentOf ∈ lw_g := mt_sel 107 (by decide +kernel) rfl
section
variable {p : Program} {l : Launch} {e : Env} {R : Room} {s : State} {m : MethodId} {args : Array Value} {below : List Frame} {meth : Method} {c : Code} {cM : ClassId} {iS : Nat → Nat} {cI cZ : ClassId} {mo : Nat} {ad : Nat → Nat} {r : Int32} {S9 : mSt}
noncomputable def fm_parentOf (S : mSt) (v1 : Int32) (v2 : Int32) : Option (Int32 × mSt) :=
ck v1 4 (
bd (fm_findParents S v1 (rd S 23 v1)) fun S1 =>
bd (fm_placeOf S1 v2) fun r2 =>
ck r2 48 (
some (rd S1 56 r2, S1)))
set_option maxRecDepth 100000 in
set_option maxHeartbeats 4000000 in
theorem tm_parentOf (l : Launch) {cM : ClassId} {iS : Nat → Nat} {cI cZ : ClassId} {mo : Nat} {ad : Nat → Nat} {S : mSt} {v1 : Int32} {v2 : Int32} {r : Int32} {S9 : mSt} (h : fm_parentOf S v1 v2 = some (r, S9)) : Met l yX12_parentOf (Cond.code yX12_parentOf cX12_parentOf 3 (some .int) :: lw_g) { frames := 4, cells := 0, slots := 0, locals := 94 } (mPi [.int v1, .int v2] cM iS cI cZ mo ad S) (mQw (some (.int r)) cM iS cI cZ mo ad S9) 0 0 (mA mo ad) := by
  refine Met.ofW (cc := cX12_parentOf) (maxL := 3) (ret := (some .int)) (by decide) rfl ?_
  intro p e s m args below meth c s₁ B hml hv
  obtain ⟨rfl, hW, X⟩ := hv
  have C : mY p (headSpec (Cond.code yX12_parentOf cX12_parentOf 3 (some .int) :: lw_g) { frames := 4, cells := 0, slots := 0, locals := 94 }).room s m _ meth c cX12_parentOf 3 4 94 (some .int) := ⟨B.exec, B.bytes, hml, findClass_of_methodNamed B.named, fun w hw => atoms_spec (ws := Cond.code yX12_parentOf cX12_parentOf 3 (some .int) :: lw_g) B.pre w (List.mem_cons_of_mem _ hw), ⟨Nat.le_refl _, Nat.le_refl _⟩, B.returns, B.notSynchronized⟩
  have hl := lv_entry ([.ref mo, .int v1, .int v2]) (n := 3) (Nat.le_of_ble_eq_true rfl)
  rw [lg_entry_eq]
  generalize (lg_sl ([.ref mo, .int v1, .int v2]) ++ List.replicate (3 - (lg_sl ([.ref mo, .int v1, .int v2])).length) Slot.unset).toArray = ls at hl ⊢
  have hl : lv_has ls 3 [(0, .ref mo), (1, .int v1), (2, .int v2)] := hl
  have hS : mS (mA mo ad) s.heap s.heap [] := mS.rf
  unfold fm_parentOf at h
  refine lv_aload_n C.1 C.2.1 dX12_parentOf_0 rfl (lv_at hl 0 rfl) ?_
  refine lv_iload_n C.1 C.2.1 dX12_parentOf_1 rfl (lv_at hl 1 rfl) ?_
  refine lv_aload_n C.1 C.2.1 dX12_parentOf_2 rfl (lv_at hl 0 rfl) ?_
  refine gf_23 C X hW dX12_parentOf_3 ?_
  refine lv_iload_n C.1 C.2.1 dX12_parentOf_6 rfl (lv_at hl 1 rfl) ?_
  obtain ⟨hin, h⟩ := ck_ok h
  refine l_23 C X hW hin dX12_parentOf_7 ?_
  obtain ⟨S1, h_S1, h⟩ := bd_ok h
  refine m_callW (rest := []) (ov := none) C X hW hS hl.1 [.int v1, .int (rd S 23 v1)] (tm_findParents l h_S1) mw_findParents im_findParents sl_findParents rfl ⟨by decide, by decide⟩ rfl (Nat.le_of_ble_eq_true rfl) dX12_parentOf_8 (fun H locs hW hS => ?_)
  refine W.eq (g2 := F0 m 11 ls []) rfl ?_
  refine lv_aload_n C.1 C.2.1 dX12_parentOf_11 rfl (lv_at hl 0 rfl) ?_
  refine gf_56 C X hW dX12_parentOf_12 ?_
  refine lv_aload_n C.1 C.2.1 dX12_parentOf_15 rfl (lv_at hl 0 rfl) ?_
  refine lv_iload_n C.1 C.2.1 dX12_parentOf_16 rfl (lv_at hl 2 rfl) ?_
  obtain ⟨r2, h_r2, h⟩ := bd_ok h
  refine m_callR (rest := [.ref (ad 56)]) C X hW hl.1 [.int v2] (tm_placeOf l h_r2) mw_placeOf im_placeOf sl_placeOf rfl ⟨by decide, by decide⟩ rfl (Nat.le_of_ble_eq_true rfl) dX12_parentOf_17 ?_
  obtain ⟨hin, h⟩ := ck_ok h
  refine l_56 C X hW hin dX12_parentOf_20 ?_
  cases h
  exact m_retiW C hW hS dX12_parentOf_21
end
