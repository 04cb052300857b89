-- made by wip/whole/gen15.py: the law's cases
theorem dL_law_192 : decode cL_law 192 = .ok (.aload_n 1, 1) := by decide +kernel
theorem dL_law_193 : decode cL_law 193 = .ok (.aload_n 0, 1) := by decide +kernel
theorem dL_law_194 : decode cL_law 194 = .ok (.iload 4, 2) := by decide +kernel
theorem dL_law_196 : decode cL_law 196 = .ok (.iconst 1, 1) := by decide +kernel
theorem dL_law_197 : decode cL_law 197 = .ok (.iadd, 1) := by decide +kernel
theorem dL_law_198 : decode cL_law 198 = .ok (.iaload, 1) := by decide +kernel
theorem dL_law_199 : decode cL_law 199 = .ok (.i2l, 1) := by decide +kernel
theorem dL_law_200 : decode cL_law 200 = .ok (.bipush 32, 2) := by decide +kernel
theorem dL_law_202 : decode cL_law 202 = .ok (.lshl, 1) := by decide +kernel
theorem dL_law_203 : decode cL_law 203 = .ok (.aload_n 0, 1) := by decide +kernel
theorem dL_law_204 : decode cL_law 204 = .ok (.iload 4, 2) := by decide +kernel
theorem dL_law_206 : decode cL_law 206 = .ok (.iconst 2, 1) := by decide +kernel
theorem dL_law_207 : decode cL_law 207 = .ok (.iadd, 1) := by decide +kernel
theorem dL_law_208 : decode cL_law 208 = .ok (.iaload, 1) := by decide +kernel
theorem dL_law_209 : decode cL_law 209 = .ok (.i2l, 1) := by decide +kernel
theorem dL_law_210 : decode cL_law 210 = .ok (.ldc2_w 33, 3) := by decide +kernel
theorem dL_law_213 : decode cL_law 213 = .ok (.land, 1) := by decide +kernel
theorem dL_law_214 : decode cL_law 214 = .ok (.lor, 1) := by decide +kernel
theorem dL_law_215 : decode cL_law 215 = .ok (.aload_n 0, 1) := by decide +kernel
theorem dL_law_216 : decode cL_law 216 = .ok (.iload 4, 2) := by decide +kernel
theorem dL_law_218 : decode cL_law 218 = .ok (.iconst 3, 1) := by decide +kernel
theorem dL_law_219 : decode cL_law 219 = .ok (.iadd, 1) := by decide +kernel
theorem dL_law_220 : decode cL_law 220 = .ok (.iaload, 1) := by decide +kernel
theorem dL_law_221 : decode cL_law 221 = .ok (.invokevirtual 35, 3) := by decide +kernel
theorem dL_law_224 : decode cL_law 224 = .ok (.aload_n 2, 1) := by decide +kernel
theorem dL_law_225 : decode cL_law 225 = .ok (.aload_n 0, 1) := by decide +kernel
theorem dL_law_226 : decode cL_law 226 = .ok (.iload 4, 2) := by decide +kernel
theorem dL_law_228 : decode cL_law 228 = .ok (.iconst 1, 1) := by decide +kernel
theorem dL_law_229 : decode cL_law 229 = .ok (.iadd, 1) := by decide +kernel
theorem dL_law_230 : decode cL_law 230 = .ok (.iaload, 1) := by decide +kernel
theorem dL_law_231 : decode cL_law 231 = .ok (.i2l, 1) := by decide +kernel
theorem dL_law_232 : decode cL_law 232 = .ok (.bipush 32, 2) := by decide +kernel
theorem dL_law_234 : decode cL_law 234 = .ok (.lshl, 1) := by decide +kernel
theorem dL_law_235 : decode cL_law 235 = .ok (.aload_n 0, 1) := by decide +kernel
theorem dL_law_236 : decode cL_law 236 = .ok (.iload 4, 2) := by decide +kernel
theorem dL_law_238 : decode cL_law 238 = .ok (.iconst 2, 1) := by decide +kernel
theorem dL_law_239 : decode cL_law 239 = .ok (.iadd, 1) := by decide +kernel
theorem dL_law_240 : decode cL_law 240 = .ok (.iaload, 1) := by decide +kernel
theorem dL_law_241 : decode cL_law 241 = .ok (.i2l, 1) := by decide +kernel
theorem dL_law_242 : decode cL_law 242 = .ok (.ldc2_w 33, 3) := by decide +kernel
theorem dL_law_245 : decode cL_law 245 = .ok (.land, 1) := by decide +kernel
theorem dL_law_246 : decode cL_law 246 = .ok (.lor, 1) := by decide +kernel
theorem dL_law_247 : decode cL_law 247 = .ok (.aload_n 0, 1) := by decide +kernel
theorem dL_law_248 : decode cL_law 248 = .ok (.iload 4, 2) := by decide +kernel
theorem dL_law_250 : decode cL_law 250 = .ok (.iconst 3, 1) := by decide +kernel
theorem dL_law_251 : decode cL_law 251 = .ok (.iadd, 1) := by decide +kernel
theorem dL_law_252 : decode cL_law 252 = .ok (.iaload, 1) := by decide +kernel
theorem dL_law_253 : decode cL_law 253 = .ok (.invokevirtual 39, 3) := by decide +kernel
theorem dL_law_256 : decode cL_law 256 = .ok (.if_icmp .eq 1694, 3) := by decide +kernel
set_option maxRecDepth 100000 in
set_option maxHeartbeats 4000000 in
theorem wl_type {p : Program} {l : Launch} {e : Env} {R : Room} {s : State} {m : MethodId} {args : Array Value} {below : List Frame} {meth : Method} {c : Code} {H : Heap} {locs : List Loc} {cells slots : Nat} {Q : State → Prop} {D : cG} {S S0 : cSt} {ls : Array Slot} {cM : ClassId} {iS : Nat → Nat} {cI cZ : ClassId} {mo : Nat} {ad : Nat → Nat} {oa : Nat} {cL : ClassId} {M : mSt} {o : Int64} {b L x0 : Nat} {xs : Nat → Int32} {i : Int32} {I I' : cSt → mSt → Prop} (C : cY p R s m args meth c RL cL_law 7 2048 600128 7301098 84000 (some .boolean)) (X : lX l D S0 cM iS cI cZ mo ad cL b L xs s) (hK : lC_k x0 I) (hI : lC_type x0 I I') (hJ : lJ D S0 cM iS cI cZ mo ad oa cL s S M o H locs) (hi : I S M) (hin : lIn i L) (hce : cells + 2201 ≤ 600128 ∧ slots + 101882 ≤ 7301098) (hl : lv_has ls 7 [(0, .ref b), (1, .ref x0), (2, .ref mo), (3, .ref oa), (4, .int i)]) (kk : ∀ (S1 : cSt) (M1 : mSt) (o1 : Int64) (H1 : Heap) (locs1 : List Loc) (ls1 : Array Slot), I' S1 M1 → lJ D S0 cM iS cI cZ mo ad oa cL s S1 M1 o1 H1 locs1 → lv_has ls1 7 [(0, .ref b), (1, .ref x0), (2, .ref mo), (3, .ref oa), (4, .int i)] → W p l e R s m args below meth c H1 locs1 (cells + 2201) (slots + 101882) Q (F0 m 1950 ls1 [])) : W p l e R s m args below meth c H locs cells slots Q (F0 m 192 ls []) := by
  obtain ⟨r, S1, M1, h1, h2, hi1⟩ := hI S M (((Int32.toInt64 (xs (i + (1 : Int32)).toNatClampNeg)) <<< (Int32.toInt64 (32 : Int32) &&& 63)) ||| ((Int32.toInt64 (xs (i + (2 : Int32)).toNatClampNeg)) &&& (4294967295 : Int64))) (xs (i + (3 : Int32)).toNatClampNeg) hi
  refine lv_aload_n C.1 C.2.1 dL_law_192 rfl (lv_at hl 1 rfl) ?_
  refine lv_aload_n C.1 C.2.1 dL_law_193 rfl (lv_at hl 0 rfl) ?_
  refine lv_iload C.1 C.2.1 dL_law_194 (lv_at hl 4 rfl) ?_
  refine lv_iconst (v := 1) C.1 C.2.1 dL_law_196 (by decide) ?_
  refine lv_iadd C.1 C.2.1 dL_law_197 ?_
  refine l_sld C X hJ hin.2.1 dL_law_198 ?_
  refine lv_i2l (v := Int32.toInt64 (xs (i + (1 : Int32)).toNatClampNeg)) C.1 C.2.1 dL_law_199 rfl ?_
  refine lv_bipush (v := 32) C.1 C.2.1 dL_law_200 (by decide) ?_
  refine lv_lshl (v := (Int32.toInt64 (xs (i + (1 : Int32)).toNatClampNeg)) <<< (Int32.toInt64 (32 : Int32) &&& 63)) C.1 C.2.1 dL_law_202 rfl ?_
  refine lv_aload_n C.1 C.2.1 dL_law_203 rfl (lv_at hl 0 rfl) ?_
  refine lv_iload C.1 C.2.1 dL_law_204 (lv_at hl 4 rfl) ?_
  refine lv_iconst (v := 2) C.1 C.2.1 dL_law_206 (by decide) ?_
  refine lv_iadd C.1 C.2.1 dL_law_207 ?_
  refine l_sld C X hJ hin.2.2.1 dL_law_208 ?_
  refine lv_i2l (v := Int32.toInt64 (xs (i + (2 : Int32)).toNatClampNeg)) C.1 C.2.1 dL_law_209 rfl ?_
  refine lv_ldc2 (own := RL) (v := 4294967295) C.1 C.2.1 C.2.2.2.1 (C.2.2.2.2.1 _ klL_33) dL_law_210 ?_
  refine lv_land C.1 C.2.1 dL_law_213 ?_
  refine lv_lor C.1 C.2.1 dL_law_214 ?_
  refine lv_aload_n C.1 C.2.1 dL_law_215 rfl (lv_at hl 0 rfl) ?_
  refine lv_iload C.1 C.2.1 dL_law_216 (lv_at hl 4 rfl) ?_
  refine lv_iconst (v := 3) C.1 C.2.1 dL_law_218 (by decide) ?_
  refine lv_iadd C.1 C.2.1 dL_law_219 ?_
  refine l_sld C X hJ hin.2.2.2.1 dL_law_220 ?_
  refine l_cW (rest := []) C X hJ hl.1 (hK S M hi) [.long (((Int32.toInt64 (xs (i + (1 : Int32)).toNatClampNeg)) <<< (Int32.toInt64 (32 : Int32) &&& 63)) ||| ((Int32.toInt64 (xs (i + (2 : Int32)).toNatClampNeg)) &&& (4294967295 : Int64))), .int (xs (i + (3 : Int32)).toNatClampNeg)] (tk_11_type l h1) cwL_35 ki_11_type kl_11_type rfl ⟨by decide, by decide⟩ ⟨by omega, by omega⟩ rfl (Nat.le_of_ble_eq_true rfl) dL_law_221 (fun H locs hJ => ?_)
  refine W.eq (g2 := F0 m 224 ls [.int r]) rfl ?_
  refine lv_aload_n C.1 C.2.1 dL_law_224 rfl (lv_at hl 2 rfl) ?_
  refine lv_aload_n C.1 C.2.1 dL_law_225 rfl (lv_at hl 0 rfl) ?_
  refine lv_iload C.1 C.2.1 dL_law_226 (lv_at hl 4 rfl) ?_
  refine lv_iconst (v := 1) C.1 C.2.1 dL_law_228 (by decide) ?_
  refine lv_iadd C.1 C.2.1 dL_law_229 ?_
  refine l_sld C X hJ hin.2.1 dL_law_230 ?_
  refine lv_i2l (v := Int32.toInt64 (xs (i + (1 : Int32)).toNatClampNeg)) C.1 C.2.1 dL_law_231 rfl ?_
  refine lv_bipush (v := 32) C.1 C.2.1 dL_law_232 (by decide) ?_
  refine lv_lshl (v := (Int32.toInt64 (xs (i + (1 : Int32)).toNatClampNeg)) <<< (Int32.toInt64 (32 : Int32) &&& 63)) C.1 C.2.1 dL_law_234 rfl ?_
  refine lv_aload_n C.1 C.2.1 dL_law_235 rfl (lv_at hl 0 rfl) ?_
  refine lv_iload C.1 C.2.1 dL_law_236 (lv_at hl 4 rfl) ?_
  refine lv_iconst (v := 2) C.1 C.2.1 dL_law_238 (by decide) ?_
  refine lv_iadd C.1 C.2.1 dL_law_239 ?_
  refine l_sld C X hJ hin.2.2.1 dL_law_240 ?_
  refine lv_i2l (v := Int32.toInt64 (xs (i + (2 : Int32)).toNatClampNeg)) C.1 C.2.1 dL_law_241 rfl ?_
  refine lv_ldc2 (own := RL) (v := 4294967295) C.1 C.2.1 C.2.2.2.1 (C.2.2.2.2.1 _ klL_33) dL_law_242 ?_
  refine lv_land C.1 C.2.1 dL_law_245 ?_
  refine lv_lor C.1 C.2.1 dL_law_246 ?_
  refine lv_aload_n C.1 C.2.1 dL_law_247 rfl (lv_at hl 0 rfl) ?_
  refine lv_iload C.1 C.2.1 dL_law_248 (lv_at hl 4 rfl) ?_
  refine lv_iconst (v := 3) C.1 C.2.1 dL_law_250 (by decide) ?_
  refine lv_iadd C.1 C.2.1 dL_law_251 ?_
  refine l_sld C X hJ hin.2.2.2.1 dL_law_252 ?_
  refine l_mW (rest := [.int r]) C X hJ hl.1 [.long (((Int32.toInt64 (xs (i + (1 : Int32)).toNatClampNeg)) <<< (Int32.toInt64 (32 : Int32) &&& 63)) ||| ((Int32.toInt64 (xs (i + (2 : Int32)).toNatClampNeg)) &&& (4294967295 : Int64))), .int (xs (i + (3 : Int32)).toNatClampNeg)] (tm_type l h2) cwL_39 imL_type slL_type rfl ⟨by decide, by decide⟩ ⟨by omega, by omega⟩ rfl (Nat.le_of_ble_eq_true rfl) dL_law_253 (fun H locs hJ => ?_)
  refine W.eq (g2 := F0 m 256 ls [.int r, .int r]) rfl ?_
  refine lv_icmp_eq (tgt := 1950) C.1 C.2.1 dL_law_256 (by decide) (fun _ => ?_) (fun h9 => absurd rfl h9)
  refine W.widen (k := cells + 2201) (n := slots + 101882) (by omega) (by omega) ?_
  exact kk S1 M1 o H locs ls hi1 hJ hl
theorem dL_law_261 : decode cL_law 261 = .ok (.aload_n 1, 1) := by decide +kernel
theorem dL_law_262 : decode cL_law 262 = .ok (.aload_n 3, 1) := by decide +kernel
theorem dL_law_263 : decode cL_law 263 = .ok (.invokestatic 40, 3) := by decide +kernel
theorem dL_law_266 : decode cL_law 266 = .ok (.istore 5, 2) := by decide +kernel
theorem dL_law_268 : decode cL_law 268 = .ok (.aload_n 2, 1) := by decide +kernel
theorem dL_law_269 : decode cL_law 269 = .ok (.invokevirtual 45, 3) := by decide +kernel
theorem dL_law_272 : decode cL_law 272 = .ok (.istore 6, 2) := by decide +kernel
theorem dL_law_274 : decode cL_law 274 = .ok (.aload_n 2, 1) := by decide +kernel
theorem dL_law_275 : decode cL_law 275 = .ok (.invokevirtual 46, 3) := by decide +kernel
theorem dL_law_278 : decode cL_law 278 = .ok (.iload 5, 2) := by decide +kernel
theorem dL_law_280 : decode cL_law 280 = .ok (.if_icmp .eq 5, 3) := by decide +kernel
theorem dL_law_285 : decode cL_law 285 = .ok (.iload 5, 2) := by decide +kernel
theorem dL_law_287 : decode cL_law 287 = .ok (.ifCond .ne 15, 3) := by decide +kernel
theorem dL_law_290 : decode cL_law 290 = .ok (.aload_n 3, 1) := by decide +kernel
theorem dL_law_291 : decode cL_law 291 = .ok (.iconst 0, 1) := by decide +kernel
theorem dL_law_292 : decode cL_law 292 = .ok (.laload, 1) := by decide +kernel
theorem dL_law_293 : decode cL_law 293 = .ok (.iload 6, 2) := by decide +kernel
theorem dL_law_295 : decode cL_law 295 = .ok (.i2l, 1) := by decide +kernel
theorem dL_law_296 : decode cL_law 296 = .ok (.lcmp, 1) := by decide +kernel
theorem dL_law_297 : decode cL_law 297 = .ok (.ifCond .eq 5, 3) := by decide +kernel
theorem dL_law_302 : decode cL_law 302 = .ok (.goto 1648, 3) := by decide +kernel
set_option maxRecDepth 100000 in
set_option maxHeartbeats 4000000 in
theorem wl_kind {p : Program} {l : Launch} {e : Env} {R : Room} {s : State} {m : MethodId} {args : Array Value} {below : List Frame} {meth : Method} {c : Code} {H : Heap} {locs : List Loc} {cells slots : Nat} {Q : State → Prop} {D : cG} {S S0 : cSt} {ls : Array Slot} {cM : ClassId} {iS : Nat → Nat} {cI cZ : ClassId} {mo : Nat} {ad : Nat → Nat} {oa : Nat} {cL : ClassId} {M : mSt} {o : Int64} {b L x0 : Nat} {xs : Nat → Int32} {i : Int32} {I I' : cSt → mSt → Prop} (hz : lC_z I') (C : cY p R s m args meth c RL cL_law 7 2048 600128 7301098 84000 (some .boolean)) (X : lX l D S0 cM iS cI cZ mo ad cL b L xs s) (hK : lC_k x0 I) (hI : lC_kind x0 I I') (hJ : lJ D S0 cM iS cI cZ mo ad oa cL s S M o H locs) (hi : I S M) (hin : lIn i L) (hce : cells + 2201 ≤ 600128 ∧ slots + 101882 ≤ 7301098) (hl : lv_has ls 7 [(0, .ref b), (1, .ref x0), (2, .ref mo), (3, .ref oa), (4, .int i)]) (kk : ∀ (S1 : cSt) (M1 : mSt) (o1 : Int64) (H1 : Heap) (locs1 : List Loc) (ls1 : Array Slot), I' S1 M1 → lJ D S0 cM iS cI cZ mo ad oa cL s S1 M1 o1 H1 locs1 → lv_has ls1 7 [(0, .ref b), (1, .ref x0), (2, .ref mo), (3, .ref oa), (4, .int i)] → W p l e R s m args below meth c H1 locs1 (cells + 2201) (slots + 101882) Q (F0 m 1950 ls1 [])) : W p l e R s m args below meth c H locs cells slots Q (F0 m 261 ls []) := by
  obtain ⟨tg, r, S1, r2, M1, h1, h2, h3, hi1⟩ := hI S M hi
  refine lv_aload_n C.1 C.2.1 dL_law_261 rfl (lv_at hl 1 rfl) ?_
  refine lv_aload_n C.1 C.2.1 dL_law_262 rfl (lv_at hl 3 rfl) ?_
  refine l_help (rest := []) (hh := hhL_kind) (k := lkc tg) (o1 := if tg = 0 then Int32.toInt64 r else o) (G := lG tg S1) C X hJ hl.1 [.ref x0, .ref oa] (tl_kind l X.1 h1 (h3.elim (fun q => Or.inl q.1) (fun q => Or.inr (q.elim (fun q => Or.inl q.1) (fun q => Or.inr q.1)))) (hK S M hi) hJ.2.2.2.2.1 (lD X hJ)) (fun U hU hWm => lPk_of X hJ hU hWm) cwL_40 rfl ⟨by decide, by decide⟩ ⟨by omega, by omega⟩ rfl (Nat.le_of_ble_eq_true rfl) dL_law_263 (fun H locs S2 hG hJ => ?_)
  have hi2 : I' S2 M1 := lG_I hz hG hi1
  refine W.eq (g2 := F0 m 266 ls [.int (lkc tg)]) rfl ?_
  refine lv_istore (lv' := [(5, .int (lkc tg)), (0, .ref b), (1, .ref x0), (2, .ref mo), (3, .ref oa), (4, .int i)]) C.1 C.2.1 dL_law_266 hl (by decide) rfl (fun ls hl => ?_)
  refine lv_aload_n C.1 C.2.1 dL_law_268 rfl (lv_at hl 3 rfl) ?_
  refine l_mW (rest := []) C X hJ hl.1 [] (tm_kind l h2) cwL_45 imL_kind slL_kind rfl ⟨by decide, by decide⟩ ⟨by omega, by omega⟩ rfl (Nat.le_of_ble_eq_true rfl) dL_law_269 (fun H locs hJ => ?_)
  refine W.eq (g2 := F0 m 272 ls [.int r2]) rfl ?_
  refine lv_istore (lv' := [(6, .int r2), (5, .int (lkc tg)), (0, .ref b), (1, .ref x0), (2, .ref mo), (3, .ref oa), (4, .int i)]) C.1 C.2.1 dL_law_272 hl (by decide) rfl (fun ls hl => ?_)
  refine lv_aload_n C.1 C.2.1 dL_law_274 rfl (lv_at hl 4 rfl) ?_
  refine l_mR (rest := []) C X hJ hl.1 [] (tm_thrown l (show fm_thrown M1 = some (M1.1 0) from rfl)) cwL_46 imL_thrown slL_thrown rfl ⟨by decide, by decide⟩ ⟨by omega, by omega⟩ rfl (Nat.le_of_ble_eq_true rfl) dL_law_275 ?_
  refine W.eq (g2 := F0 m 278 ls [.int (M1.1 0)]) rfl ?_
  refine lv_iload C.1 C.2.1 dL_law_278 (lv_at hl 1 rfl) ?_
  have hth : M1.1 0 = lkc tg := by
    rcases h3 with ⟨q, q1, -⟩ | ⟨q, q1⟩ | ⟨q, q1⟩ <;> (rw [q1, q]; rfl)
  refine lv_icmp_eq (tgt := 285) C.1 C.2.1 dL_law_280 (by decide) (fun _ => ?_) (fun h9 => absurd hth h9)
  refine lv_iload C.1 C.2.1 dL_law_285 (lv_at hl 1 rfl) ?_
  have kf : W p l e R s m args below meth c H locs (cells + 1) (slots + 6) Q (F0 m 302 ls []) := by
    refine lv_goto (tgt := 1950) C.1 C.2.1 dL_law_302 (by decide) ?_
    refine W.widen (k := cells + 2201) (n := slots + 101882) (by omega) (by omega) ?_
    exact kk S2 M1 _ H locs ls hi2 hJ (lv_sub hl [2, 3, 4, 5, 6] rfl)
  refine lv_if_ne (tgt := 302) C.1 C.2.1 dL_law_287 (by decide) (fun _ => kf) (fun h9 => ?_)
  have ht0 : tg = 0 := by
    rcases h3 with ⟨q, -⟩ | ⟨q, -⟩ | ⟨q, -⟩
    · exact q
    · rw [q] at h9; exact absurd h9 (by decide)
    · rw [q] at h9; exact absurd h9 (by decide)
  have hr2 : r2 = r := by
    rcases h3 with ⟨-, -, q⟩ | ⟨q, -⟩ | ⟨q, -⟩
    · exact q
    · rw [ht0] at q; cases q
    · rw [ht0] at q; cases q
  subst hr2
  refine lv_aload_n C.1 C.2.1 dL_law_290 rfl (lv_at hl 5 rfl) ?_
  refine lv_iconst (v := 0) C.1 C.2.1 dL_law_291 (by decide) ?_
  refine l_lald C X.2.2.2.2.2.2.2 hJ.2.2.1 dL_law_292 ?_
  refine lv_iload C.1 C.2.1 dL_law_293 (lv_at hl 0 rfl) ?_
  refine lv_i2l (v := Int32.toInt64 r2) C.1 C.2.1 dL_law_295 rfl ?_
  refine W.lcmp C.1 C.2.1 dL_law_296 ?_
  refine lv_if_eq (tgt := 302) C.1 C.2.1 dL_law_297 (by decide) (fun _ => kf) (fun h9 => absurd (by rw [if_pos ht0]; exact lcmp_rf _) h9)
theorem dL_law_305 : decode cL_law 305 = .ok (.aload_n 1, 1) := by decide +kernel
theorem dL_law_306 : decode cL_law 306 = .ok (.invokevirtual 49, 3) := by decide +kernel
theorem dL_law_309 : decode cL_law 309 = .ok (.aload_n 2, 1) := by decide +kernel
theorem dL_law_310 : decode cL_law 310 = .ok (.invokevirtual 52, 3) := by decide +kernel
theorem dL_law_313 : decode cL_law 313 = .ok (.if_icmp .eq 1637, 3) := by decide +kernel
set_option maxRecDepth 100000 in
set_option maxHeartbeats 4000000 in
theorem wl_fault {p : Program} {l : Launch} {e : Env} {R : Room} {s : State} {m : MethodId} {args : Array Value} {below : List Frame} {meth : Method} {c : Code} {H : Heap} {locs : List Loc} {cells slots : Nat} {Q : State → Prop} {D : cG} {S S0 : cSt} {ls : Array Slot} {cM : ClassId} {iS : Nat → Nat} {cI cZ : ClassId} {mo : Nat} {ad : Nat → Nat} {oa : Nat} {cL : ClassId} {M : mSt} {o : Int64} {b L x0 : Nat} {xs : Nat → Int32} {i : Int32} {I I' : cSt → mSt → Prop} (C : cY p R s m args meth c RL cL_law 7 2048 600128 7301098 84000 (some .boolean)) (X : lX l D S0 cM iS cI cZ mo ad cL b L xs s) (hK : lC_k x0 I) (hI : lC_fault x0 I I') (hJ : lJ D S0 cM iS cI cZ mo ad oa cL s S M o H locs) (hi : I S M) (hin : lIn i L) (hce : cells + 2201 ≤ 600128 ∧ slots + 101882 ≤ 7301098) (hl : lv_has ls 7 [(0, .ref b), (1, .ref x0), (2, .ref mo), (3, .ref oa), (4, .int i)]) (kk : ∀ (S1 : cSt) (M1 : mSt) (o1 : Int64) (H1 : Heap) (locs1 : List Loc) (ls1 : Array Slot), I' S1 M1 → lJ D S0 cM iS cI cZ mo ad oa cL s S1 M1 o1 H1 locs1 → lv_has ls1 7 [(0, .ref b), (1, .ref x0), (2, .ref mo), (3, .ref oa), (4, .int i)] → W p l e R s m args below meth c H1 locs1 (cells + 2201) (slots + 101882) Q (F0 m 1950 ls1 [])) : W p l e R s m args below meth c H locs cells slots Q (F0 m 305 ls []) := by
  obtain ⟨r, M1, h1, h2, hi1⟩ := hI S M hi
  refine lv_aload_n C.1 C.2.1 dL_law_305 rfl (lv_at hl 1 rfl) ?_
  refine l_cR (rest := []) C X hJ hl.1 (hK S M hi) [] (tk_11_fault l h1) cwL_49 ki_11_fault kl_11_fault rfl ⟨by decide, by decide⟩ ⟨by omega, by omega⟩ rfl (Nat.le_of_ble_eq_true rfl) dL_law_306 ?_
  refine W.eq (g2 := F0 m 309 ls [.int r]) rfl ?_
  refine lv_aload_n C.1 C.2.1 dL_law_309 rfl (lv_at hl 2 rfl) ?_
  refine l_mW (rest := [.int r]) C X hJ hl.1 [] (tm_fault l h2) cwL_52 imL_fault slL_fault rfl ⟨by decide, by decide⟩ ⟨by omega, by omega⟩ rfl (Nat.le_of_ble_eq_true rfl) dL_law_310 (fun H locs hJ => ?_)
  refine W.eq (g2 := F0 m 313 ls [.int r, .int r]) rfl ?_
  refine lv_icmp_eq (tgt := 1950) C.1 C.2.1 dL_law_313 (by decide) (fun _ => ?_) (fun h9 => absurd rfl h9)
  refine W.widen (k := cells + 2201) (n := slots + 101882) (by omega) (by omega) ?_
  exact kk S M1 o H locs ls hi1 hJ hl
theorem dL_law_318 : decode cL_law 318 = .ok (.aload_n 1, 1) := by decide +kernel
theorem dL_law_319 : decode cL_law 319 = .ok (.aload_n 0, 1) := by decide +kernel
theorem dL_law_320 : decode cL_law 320 = .ok (.iload 4, 2) := by decide +kernel
theorem dL_law_322 : decode cL_law 322 = .ok (.iconst 1, 1) := by decide +kernel
theorem dL_law_323 : decode cL_law 323 = .ok (.iadd, 1) := by decide +kernel
theorem dL_law_324 : decode cL_law 324 = .ok (.iaload, 1) := by decide +kernel
theorem dL_law_325 : decode cL_law 325 = .ok (.aload_n 0, 1) := by decide +kernel
theorem dL_law_326 : decode cL_law 326 = .ok (.iload 4, 2) := by decide +kernel
theorem dL_law_328 : decode cL_law 328 = .ok (.iconst 2, 1) := by decide +kernel
theorem dL_law_329 : decode cL_law 329 = .ok (.iadd, 1) := by decide +kernel
theorem dL_law_330 : decode cL_law 330 = .ok (.iaload, 1) := by decide +kernel
theorem dL_law_331 : decode cL_law 331 = .ok (.invokevirtual 53, 3) := by decide +kernel
theorem dL_law_334 : decode cL_law 334 = .ok (.aload_n 2, 1) := by decide +kernel
theorem dL_law_335 : decode cL_law 335 = .ok (.aload_n 0, 1) := by decide +kernel
theorem dL_law_336 : decode cL_law 336 = .ok (.iload 4, 2) := by decide +kernel
theorem dL_law_338 : decode cL_law 338 = .ok (.iconst 1, 1) := by decide +kernel
theorem dL_law_339 : decode cL_law 339 = .ok (.iadd, 1) := by decide +kernel
theorem dL_law_340 : decode cL_law 340 = .ok (.iaload, 1) := by decide +kernel
theorem dL_law_341 : decode cL_law 341 = .ok (.aload_n 0, 1) := by decide +kernel
theorem dL_law_342 : decode cL_law 342 = .ok (.iload 4, 2) := by decide +kernel
theorem dL_law_344 : decode cL_law 344 = .ok (.iconst 2, 1) := by decide +kernel
theorem dL_law_345 : decode cL_law 345 = .ok (.iadd, 1) := by decide +kernel
theorem dL_law_346 : decode cL_law 346 = .ok (.iaload, 1) := by decide +kernel
theorem dL_law_347 : decode cL_law 347 = .ok (.invokevirtual 57, 3) := by decide +kernel
theorem dL_law_350 : decode cL_law 350 = .ok (.if_icmp .eq 1600, 3) := by decide +kernel
set_option maxRecDepth 100000 in
set_option maxHeartbeats 4000000 in
theorem wl_tick {p : Program} {l : Launch} {e : Env} {R : Room} {s : State} {m : MethodId} {args : Array Value} {below : List Frame} {meth : Method} {c : Code} {H : Heap} {locs : List Loc} {cells slots : Nat} {Q : State → Prop} {D : cG} {S S0 : cSt} {ls : Array Slot} {cM : ClassId} {iS : Nat → Nat} {cI cZ : ClassId} {mo : Nat} {ad : Nat → Nat} {oa : Nat} {cL : ClassId} {M : mSt} {o : Int64} {b L x0 : Nat} {xs : Nat → Int32} {i : Int32} {I I' : cSt → mSt → Prop} (C : cY p R s m args meth c RL cL_law 7 2048 600128 7301098 84000 (some .boolean)) (X : lX l D S0 cM iS cI cZ mo ad cL b L xs s) (hK : lC_k x0 I) (hI : lC_tick x0 I I') (hJ : lJ D S0 cM iS cI cZ mo ad oa cL s S M o H locs) (hi : I S M) (hin : lIn i L) (hce : cells + 2201 ≤ 600128 ∧ slots + 101882 ≤ 7301098) (hl : lv_has ls 7 [(0, .ref b), (1, .ref x0), (2, .ref mo), (3, .ref oa), (4, .int i)]) (kk : ∀ (S1 : cSt) (M1 : mSt) (o1 : Int64) (H1 : Heap) (locs1 : List Loc) (ls1 : Array Slot), I' S1 M1 → lJ D S0 cM iS cI cZ mo ad oa cL s S1 M1 o1 H1 locs1 → lv_has ls1 7 [(0, .ref b), (1, .ref x0), (2, .ref mo), (3, .ref oa), (4, .int i)] → W p l e R s m args below meth c H1 locs1 (cells + 2201) (slots + 101882) Q (F0 m 1950 ls1 [])) : W p l e R s m args below meth c H locs cells slots Q (F0 m 318 ls []) := by
  obtain ⟨r, S1, M1, h1, h2, hi1⟩ := hI S M (xs (i + (1 : Int32)).toNatClampNeg) (xs (i + (2 : Int32)).toNatClampNeg) hi
  refine lv_aload_n C.1 C.2.1 dL_law_318 rfl (lv_at hl 1 rfl) ?_
  refine lv_aload_n C.1 C.2.1 dL_law_319 rfl (lv_at hl 0 rfl) ?_
  refine lv_iload C.1 C.2.1 dL_law_320 (lv_at hl 4 rfl) ?_
  refine lv_iconst (v := 1) C.1 C.2.1 dL_law_322 (by decide) ?_
  refine lv_iadd C.1 C.2.1 dL_law_323 ?_
  refine l_sld C X hJ hin.2.1 dL_law_324 ?_
  refine lv_aload_n C.1 C.2.1 dL_law_325 rfl (lv_at hl 0 rfl) ?_
  refine lv_iload C.1 C.2.1 dL_law_326 (lv_at hl 4 rfl) ?_
  refine lv_iconst (v := 2) C.1 C.2.1 dL_law_328 (by decide) ?_
  refine lv_iadd C.1 C.2.1 dL_law_329 ?_
  refine l_sld C X hJ hin.2.2.1 dL_law_330 ?_
  refine l_cW (rest := []) C X hJ hl.1 (hK S M hi) [.int (xs (i + (1 : Int32)).toNatClampNeg), .int (xs (i + (2 : Int32)).toNatClampNeg)] (tk_11_tick l h1) cwL_53 ki_11_tick kl_11_tick rfl ⟨by decide, by decide⟩ ⟨by omega, by omega⟩ rfl (Nat.le_of_ble_eq_true rfl) dL_law_331 (fun H locs hJ => ?_)
  refine W.eq (g2 := F0 m 334 ls [.int r]) rfl ?_
  refine lv_aload_n C.1 C.2.1 dL_law_334 rfl (lv_at hl 2 rfl) ?_
  refine lv_aload_n C.1 C.2.1 dL_law_335 rfl (lv_at hl 0 rfl) ?_
  refine lv_iload C.1 C.2.1 dL_law_336 (lv_at hl 4 rfl) ?_
  refine lv_iconst (v := 1) C.1 C.2.1 dL_law_338 (by decide) ?_
  refine lv_iadd C.1 C.2.1 dL_law_339 ?_
  refine l_sld C X hJ hin.2.1 dL_law_340 ?_
  refine lv_aload_n C.1 C.2.1 dL_law_341 rfl (lv_at hl 0 rfl) ?_
  refine lv_iload C.1 C.2.1 dL_law_342 (lv_at hl 4 rfl) ?_
  refine lv_iconst (v := 2) C.1 C.2.1 dL_law_344 (by decide) ?_
  refine lv_iadd C.1 C.2.1 dL_law_345 ?_
  refine l_sld C X hJ hin.2.2.1 dL_law_346 ?_
  refine l_mW (rest := [.int r]) C X hJ hl.1 [.int (xs (i + (1 : Int32)).toNatClampNeg), .int (xs (i + (2 : Int32)).toNatClampNeg)] (tm_tick l h2) cwL_57 imL_tick slL_tick rfl ⟨by decide, by decide⟩ ⟨by omega, by omega⟩ rfl (Nat.le_of_ble_eq_true rfl) dL_law_347 (fun H locs hJ => ?_)
  refine W.eq (g2 := F0 m 350 ls [.int r, .int r]) rfl ?_
  refine lv_icmp_eq (tgt := 1950) C.1 C.2.1 dL_law_350 (by decide) (fun _ => ?_) (fun h9 => absurd rfl h9)
  refine W.widen (k := cells + 2201) (n := slots + 101882) (by omega) (by omega) ?_
  exact kk S1 M1 o H locs ls hi1 hJ hl
theorem dL_law_355 : decode cL_law 355 = .ok (.aload_n 1, 1) := by decide +kernel
theorem dL_law_356 : decode cL_law 356 = .ok (.aload_n 0, 1) := by decide +kernel
theorem dL_law_357 : decode cL_law 357 = .ok (.iload 4, 2) := by decide +kernel
theorem dL_law_359 : decode cL_law 359 = .ok (.iconst 1, 1) := by decide +kernel
theorem dL_law_360 : decode cL_law 360 = .ok (.iadd, 1) := by decide +kernel
theorem dL_law_361 : decode cL_law 361 = .ok (.iaload, 1) := by decide +kernel
theorem dL_law_362 : decode cL_law 362 = .ok (.aload_n 0, 1) := by decide +kernel
theorem dL_law_363 : decode cL_law 363 = .ok (.iload 4, 2) := by decide +kernel
theorem dL_law_365 : decode cL_law 365 = .ok (.iconst 2, 1) := by decide +kernel
theorem dL_law_366 : decode cL_law 366 = .ok (.iadd, 1) := by decide +kernel
theorem dL_law_367 : decode cL_law 367 = .ok (.iaload, 1) := by decide +kernel
theorem dL_law_368 : decode cL_law 368 = .ok (.aload_n 0, 1) := by decide +kernel
theorem dL_law_369 : decode cL_law 369 = .ok (.iload 4, 2) := by decide +kernel
theorem dL_law_371 : decode cL_law 371 = .ok (.iconst 3, 1) := by decide +kernel
theorem dL_law_372 : decode cL_law 372 = .ok (.iadd, 1) := by decide +kernel
theorem dL_law_373 : decode cL_law 373 = .ok (.iaload, 1) := by decide +kernel
theorem dL_law_374 : decode cL_law 374 = .ok (.aload_n 0, 1) := by decide +kernel
theorem dL_law_375 : decode cL_law 375 = .ok (.iload 4, 2) := by decide +kernel
theorem dL_law_377 : decode cL_law 377 = .ok (.iconst 4, 1) := by decide +kernel
theorem dL_law_378 : decode cL_law 378 = .ok (.iadd, 1) := by decide +kernel
theorem dL_law_379 : decode cL_law 379 = .ok (.iaload, 1) := by decide +kernel
theorem dL_law_380 : decode cL_law 380 = .ok (.aload_n 0, 1) := by decide +kernel
theorem dL_law_381 : decode cL_law 381 = .ok (.iload 4, 2) := by decide +kernel
theorem dL_law_383 : decode cL_law 383 = .ok (.iconst 5, 1) := by decide +kernel
theorem dL_law_384 : decode cL_law 384 = .ok (.iadd, 1) := by decide +kernel
theorem dL_law_385 : decode cL_law 385 = .ok (.iaload, 1) := by decide +kernel
theorem dL_law_386 : decode cL_law 386 = .ok (.aload_n 0, 1) := by decide +kernel
theorem dL_law_387 : decode cL_law 387 = .ok (.iload 4, 2) := by decide +kernel
theorem dL_law_389 : decode cL_law 389 = .ok (.bipush 6, 2) := by decide +kernel
theorem dL_law_391 : decode cL_law 391 = .ok (.iadd, 1) := by decide +kernel
theorem dL_law_392 : decode cL_law 392 = .ok (.iaload, 1) := by decide +kernel
theorem dL_law_393 : decode cL_law 393 = .ok (.invokevirtual 58, 3) := by decide +kernel
theorem dL_law_396 : decode cL_law 396 = .ok (.aload_n 2, 1) := by decide +kernel
theorem dL_law_397 : decode cL_law 397 = .ok (.aload_n 0, 1) := by decide +kernel
theorem dL_law_398 : decode cL_law 398 = .ok (.iload 4, 2) := by decide +kernel
theorem dL_law_400 : decode cL_law 400 = .ok (.iconst 1, 1) := by decide +kernel
theorem dL_law_401 : decode cL_law 401 = .ok (.iadd, 1) := by decide +kernel
theorem dL_law_402 : decode cL_law 402 = .ok (.iaload, 1) := by decide +kernel
theorem dL_law_403 : decode cL_law 403 = .ok (.aload_n 0, 1) := by decide +kernel
theorem dL_law_404 : decode cL_law 404 = .ok (.iload 4, 2) := by decide +kernel
theorem dL_law_406 : decode cL_law 406 = .ok (.iconst 2, 1) := by decide +kernel
theorem dL_law_407 : decode cL_law 407 = .ok (.iadd, 1) := by decide +kernel
theorem dL_law_408 : decode cL_law 408 = .ok (.iaload, 1) := by decide +kernel
theorem dL_law_409 : decode cL_law 409 = .ok (.aload_n 0, 1) := by decide +kernel
theorem dL_law_410 : decode cL_law 410 = .ok (.iload 4, 2) := by decide +kernel
theorem dL_law_412 : decode cL_law 412 = .ok (.iconst 3, 1) := by decide +kernel
theorem dL_law_413 : decode cL_law 413 = .ok (.iadd, 1) := by decide +kernel
theorem dL_law_414 : decode cL_law 414 = .ok (.iaload, 1) := by decide +kernel
theorem dL_law_415 : decode cL_law 415 = .ok (.aload_n 0, 1) := by decide +kernel
theorem dL_law_416 : decode cL_law 416 = .ok (.iload 4, 2) := by decide +kernel
theorem dL_law_418 : decode cL_law 418 = .ok (.iconst 4, 1) := by decide +kernel
theorem dL_law_419 : decode cL_law 419 = .ok (.iadd, 1) := by decide +kernel
theorem dL_law_420 : decode cL_law 420 = .ok (.iaload, 1) := by decide +kernel
theorem dL_law_421 : decode cL_law 421 = .ok (.aload_n 0, 1) := by decide +kernel
theorem dL_law_422 : decode cL_law 422 = .ok (.iload 4, 2) := by decide +kernel
theorem dL_law_424 : decode cL_law 424 = .ok (.iconst 5, 1) := by decide +kernel
theorem dL_law_425 : decode cL_law 425 = .ok (.iadd, 1) := by decide +kernel
theorem dL_law_426 : decode cL_law 426 = .ok (.iaload, 1) := by decide +kernel
theorem dL_law_427 : decode cL_law 427 = .ok (.aload_n 0, 1) := by decide +kernel
theorem dL_law_428 : decode cL_law 428 = .ok (.iload 4, 2) := by decide +kernel
theorem dL_law_430 : decode cL_law 430 = .ok (.bipush 6, 2) := by decide +kernel
theorem dL_law_432 : decode cL_law 432 = .ok (.iadd, 1) := by decide +kernel
theorem dL_law_433 : decode cL_law 433 = .ok (.iaload, 1) := by decide +kernel
theorem dL_law_434 : decode cL_law 434 = .ok (.invokevirtual 62, 3) := by decide +kernel
theorem dL_law_437 : decode cL_law 437 = .ok (.if_icmp .eq 1513, 3) := by decide +kernel
set_option maxRecDepth 100000 in
set_option maxHeartbeats 4000000 in
theorem wl_act {p : Program} {l : Launch} {e : Env} {R : Room} {s : State} {m : MethodId} {args : Array Value} {below : List Frame} {meth : Method} {c : Code} {H : Heap} {locs : List Loc} {cells slots : Nat} {Q : State → Prop} {D : cG} {S S0 : cSt} {ls : Array Slot} {cM : ClassId} {iS : Nat → Nat} {cI cZ : ClassId} {mo : Nat} {ad : Nat → Nat} {oa : Nat} {cL : ClassId} {M : mSt} {o : Int64} {b L x0 : Nat} {xs : Nat → Int32} {i : Int32} {I I' : cSt → mSt → Prop} (C : cY p R s m args meth c RL cL_law 7 2048 600128 7301098 84000 (some .boolean)) (X : lX l D S0 cM iS cI cZ mo ad cL b L xs s) (hK : lC_k x0 I) (hI : lC_act x0 I I') (hJ : lJ D S0 cM iS cI cZ mo ad oa cL s S M o H locs) (hi : I S M) (hin : lIn i L) (hce : cells + 2201 ≤ 600128 ∧ slots + 101882 ≤ 7301098) (hl : lv_has ls 7 [(0, .ref b), (1, .ref x0), (2, .ref mo), (3, .ref oa), (4, .int i)]) (kk : ∀ (S1 : cSt) (M1 : mSt) (o1 : Int64) (H1 : Heap) (locs1 : List Loc) (ls1 : Array Slot), I' S1 M1 → lJ D S0 cM iS cI cZ mo ad oa cL s S1 M1 o1 H1 locs1 → lv_has ls1 7 [(0, .ref b), (1, .ref x0), (2, .ref mo), (3, .ref oa), (4, .int i)] → W p l e R s m args below meth c H1 locs1 (cells + 2201) (slots + 101882) Q (F0 m 1950 ls1 [])) : W p l e R s m args below meth c H locs cells slots Q (F0 m 355 ls []) := by
  obtain ⟨r, S1, M1, h1, h2, hi1⟩ := hI S M (xs (i + (1 : Int32)).toNatClampNeg) (xs (i + (2 : Int32)).toNatClampNeg) (xs (i + (3 : Int32)).toNatClampNeg) (xs (i + (4 : Int32)).toNatClampNeg) (xs (i + (5 : Int32)).toNatClampNeg) (xs (i + (6 : Int32)).toNatClampNeg) hi
  refine lv_aload_n C.1 C.2.1 dL_law_355 rfl (lv_at hl 1 rfl) ?_
  refine lv_aload_n C.1 C.2.1 dL_law_356 rfl (lv_at hl 0 rfl) ?_
  refine lv_iload C.1 C.2.1 dL_law_357 (lv_at hl 4 rfl) ?_
  refine lv_iconst (v := 1) C.1 C.2.1 dL_law_359 (by decide) ?_
  refine lv_iadd C.1 C.2.1 dL_law_360 ?_
  refine l_sld C X hJ hin.2.1 dL_law_361 ?_
  refine lv_aload_n C.1 C.2.1 dL_law_362 rfl (lv_at hl 0 rfl) ?_
  refine lv_iload C.1 C.2.1 dL_law_363 (lv_at hl 4 rfl) ?_
  refine lv_iconst (v := 2) C.1 C.2.1 dL_law_365 (by decide) ?_
  refine lv_iadd C.1 C.2.1 dL_law_366 ?_
  refine l_sld C X hJ hin.2.2.1 dL_law_367 ?_
  refine lv_aload_n C.1 C.2.1 dL_law_368 rfl (lv_at hl 0 rfl) ?_
  refine lv_iload C.1 C.2.1 dL_law_369 (lv_at hl 4 rfl) ?_
  refine lv_iconst (v := 3) C.1 C.2.1 dL_law_371 (by decide) ?_
  refine lv_iadd C.1 C.2.1 dL_law_372 ?_
  refine l_sld C X hJ hin.2.2.2.1 dL_law_373 ?_
  refine lv_aload_n C.1 C.2.1 dL_law_374 rfl (lv_at hl 0 rfl) ?_
  refine lv_iload C.1 C.2.1 dL_law_375 (lv_at hl 4 rfl) ?_
  refine lv_iconst (v := 4) C.1 C.2.1 dL_law_377 (by decide) ?_
  refine lv_iadd C.1 C.2.1 dL_law_378 ?_
  refine l_sld C X hJ hin.2.2.2.2.1 dL_law_379 ?_
  refine lv_aload_n C.1 C.2.1 dL_law_380 rfl (lv_at hl 0 rfl) ?_
  refine lv_iload C.1 C.2.1 dL_law_381 (lv_at hl 4 rfl) ?_
  refine lv_iconst (v := 5) C.1 C.2.1 dL_law_383 (by decide) ?_
  refine lv_iadd C.1 C.2.1 dL_law_384 ?_
  refine l_sld C X hJ hin.2.2.2.2.2.1 dL_law_385 ?_
  refine lv_aload_n C.1 C.2.1 dL_law_386 rfl (lv_at hl 0 rfl) ?_
  refine lv_iload C.1 C.2.1 dL_law_387 (lv_at hl 4 rfl) ?_
  refine lv_bipush (v := 6) C.1 C.2.1 dL_law_389 (by decide) ?_
  refine lv_iadd C.1 C.2.1 dL_law_391 ?_
  refine l_sld C X hJ hin.2.2.2.2.2.2 dL_law_392 ?_
  refine l_cW (rest := []) C X hJ hl.1 (hK S M hi) [.int (xs (i + (1 : Int32)).toNatClampNeg), .int (xs (i + (2 : Int32)).toNatClampNeg), .int (xs (i + (3 : Int32)).toNatClampNeg), .int (xs (i + (4 : Int32)).toNatClampNeg), .int (xs (i + (5 : Int32)).toNatClampNeg), .int (xs (i + (6 : Int32)).toNatClampNeg)] (tk_11_act l h1) cwL_58 ki_11_act kl_11_act rfl ⟨by decide, by decide⟩ ⟨by omega, by omega⟩ rfl (Nat.le_of_ble_eq_true rfl) dL_law_393 (fun H locs hJ => ?_)
  refine W.eq (g2 := F0 m 396 ls [.int r]) rfl ?_
  refine lv_aload_n C.1 C.2.1 dL_law_396 rfl (lv_at hl 2 rfl) ?_
  refine lv_aload_n C.1 C.2.1 dL_law_397 rfl (lv_at hl 0 rfl) ?_
  refine lv_iload C.1 C.2.1 dL_law_398 (lv_at hl 4 rfl) ?_
  refine lv_iconst (v := 1) C.1 C.2.1 dL_law_400 (by decide) ?_
  refine lv_iadd C.1 C.2.1 dL_law_401 ?_
  refine l_sld C X hJ hin.2.1 dL_law_402 ?_
  refine lv_aload_n C.1 C.2.1 dL_law_403 rfl (lv_at hl 0 rfl) ?_
  refine lv_iload C.1 C.2.1 dL_law_404 (lv_at hl 4 rfl) ?_
  refine lv_iconst (v := 2) C.1 C.2.1 dL_law_406 (by decide) ?_
  refine lv_iadd C.1 C.2.1 dL_law_407 ?_
  refine l_sld C X hJ hin.2.2.1 dL_law_408 ?_
  refine lv_aload_n C.1 C.2.1 dL_law_409 rfl (lv_at hl 0 rfl) ?_
  refine lv_iload C.1 C.2.1 dL_law_410 (lv_at hl 4 rfl) ?_
  refine lv_iconst (v := 3) C.1 C.2.1 dL_law_412 (by decide) ?_
  refine lv_iadd C.1 C.2.1 dL_law_413 ?_
  refine l_sld C X hJ hin.2.2.2.1 dL_law_414 ?_
  refine lv_aload_n C.1 C.2.1 dL_law_415 rfl (lv_at hl 0 rfl) ?_
  refine lv_iload C.1 C.2.1 dL_law_416 (lv_at hl 4 rfl) ?_
  refine lv_iconst (v := 4) C.1 C.2.1 dL_law_418 (by decide) ?_
  refine lv_iadd C.1 C.2.1 dL_law_419 ?_
  refine l_sld C X hJ hin.2.2.2.2.1 dL_law_420 ?_
  refine lv_aload_n C.1 C.2.1 dL_law_421 rfl (lv_at hl 0 rfl) ?_
  refine lv_iload C.1 C.2.1 dL_law_422 (lv_at hl 4 rfl) ?_
  refine lv_iconst (v := 5) C.1 C.2.1 dL_law_424 (by decide) ?_
  refine lv_iadd C.1 C.2.1 dL_law_425 ?_
  refine l_sld C X hJ hin.2.2.2.2.2.1 dL_law_426 ?_
  refine lv_aload_n C.1 C.2.1 dL_law_427 rfl (lv_at hl 0 rfl) ?_
  refine lv_iload C.1 C.2.1 dL_law_428 (lv_at hl 4 rfl) ?_
  refine lv_bipush (v := 6) C.1 C.2.1 dL_law_430 (by decide) ?_
  refine lv_iadd C.1 C.2.1 dL_law_432 ?_
  refine l_sld C X hJ hin.2.2.2.2.2.2 dL_law_433 ?_
  refine l_mW (rest := [.int r]) C X hJ hl.1 [.int (xs (i + (1 : Int32)).toNatClampNeg), .int (xs (i + (2 : Int32)).toNatClampNeg), .int (xs (i + (3 : Int32)).toNatClampNeg), .int (xs (i + (4 : Int32)).toNatClampNeg), .int (xs (i + (5 : Int32)).toNatClampNeg), .int (xs (i + (6 : Int32)).toNatClampNeg)] (tm_act l h2) cwL_62 imL_act slL_act rfl ⟨by decide, by decide⟩ ⟨by omega, by omega⟩ rfl (Nat.le_of_ble_eq_true rfl) dL_law_434 (fun H locs hJ => ?_)
  refine W.eq (g2 := F0 m 437 ls [.int r, .int r]) rfl ?_
  refine lv_icmp_eq (tgt := 1950) C.1 C.2.1 dL_law_437 (by decide) (fun _ => ?_) (fun h9 => absurd rfl h9)
  refine W.widen (k := cells + 2201) (n := slots + 101882) (by omega) (by omega) ?_
  exact kk S1 M1 o H locs ls hi1 hJ hl
theorem dL_law_442 : decode cL_law 442 = .ok (.aload_n 1, 1) := by decide +kernel
theorem dL_law_443 : decode cL_law 443 = .ok (.aload_n 0, 1) := by decide +kernel
theorem dL_law_444 : decode cL_law 444 = .ok (.iload 4, 2) := by decide +kernel
theorem dL_law_446 : decode cL_law 446 = .ok (.iconst 1, 1) := by decide +kernel
theorem dL_law_447 : decode cL_law 447 = .ok (.iadd, 1) := by decide +kernel
theorem dL_law_448 : decode cL_law 448 = .ok (.iaload, 1) := by decide +kernel
theorem dL_law_449 : decode cL_law 449 = .ok (.aload_n 0, 1) := by decide +kernel
theorem dL_law_450 : decode cL_law 450 = .ok (.iload 4, 2) := by decide +kernel
theorem dL_law_452 : decode cL_law 452 = .ok (.iconst 2, 1) := by decide +kernel
theorem dL_law_453 : decode cL_law 453 = .ok (.iadd, 1) := by decide +kernel
theorem dL_law_454 : decode cL_law 454 = .ok (.iaload, 1) := by decide +kernel
theorem dL_law_455 : decode cL_law 455 = .ok (.aload_n 0, 1) := by decide +kernel
theorem dL_law_456 : decode cL_law 456 = .ok (.iload 4, 2) := by decide +kernel
theorem dL_law_458 : decode cL_law 458 = .ok (.iconst 3, 1) := by decide +kernel
theorem dL_law_459 : decode cL_law 459 = .ok (.iadd, 1) := by decide +kernel
theorem dL_law_460 : decode cL_law 460 = .ok (.iaload, 1) := by decide +kernel
theorem dL_law_461 : decode cL_law 461 = .ok (.invokevirtual 63, 3) := by decide +kernel
theorem dL_law_464 : decode cL_law 464 = .ok (.aload_n 2, 1) := by decide +kernel
theorem dL_law_465 : decode cL_law 465 = .ok (.aload_n 0, 1) := by decide +kernel
theorem dL_law_466 : decode cL_law 466 = .ok (.iload 4, 2) := by decide +kernel
theorem dL_law_468 : decode cL_law 468 = .ok (.iconst 1, 1) := by decide +kernel
theorem dL_law_469 : decode cL_law 469 = .ok (.iadd, 1) := by decide +kernel
theorem dL_law_470 : decode cL_law 470 = .ok (.iaload, 1) := by decide +kernel
theorem dL_law_471 : decode cL_law 471 = .ok (.aload_n 0, 1) := by decide +kernel
theorem dL_law_472 : decode cL_law 472 = .ok (.iload 4, 2) := by decide +kernel
theorem dL_law_474 : decode cL_law 474 = .ok (.iconst 2, 1) := by decide +kernel
theorem dL_law_475 : decode cL_law 475 = .ok (.iadd, 1) := by decide +kernel
theorem dL_law_476 : decode cL_law 476 = .ok (.iaload, 1) := by decide +kernel
theorem dL_law_477 : decode cL_law 477 = .ok (.aload_n 0, 1) := by decide +kernel
theorem dL_law_478 : decode cL_law 478 = .ok (.iload 4, 2) := by decide +kernel
theorem dL_law_480 : decode cL_law 480 = .ok (.iconst 3, 1) := by decide +kernel
theorem dL_law_481 : decode cL_law 481 = .ok (.iadd, 1) := by decide +kernel
theorem dL_law_482 : decode cL_law 482 = .ok (.iaload, 1) := by decide +kernel
theorem dL_law_483 : decode cL_law 483 = .ok (.invokevirtual 67, 3) := by decide +kernel
theorem dL_law_486 : decode cL_law 486 = .ok (.if_icmp .eq 1464, 3) := by decide +kernel
set_option maxRecDepth 100000 in
set_option maxHeartbeats 4000000 in
theorem wl_commit {p : Program} {l : Launch} {e : Env} {R : Room} {s : State} {m : MethodId} {args : Array Value} {below : List Frame} {meth : Method} {c : Code} {H : Heap} {locs : List Loc} {cells slots : Nat} {Q : State → Prop} {D : cG} {S S0 : cSt} {ls : Array Slot} {cM : ClassId} {iS : Nat → Nat} {cI cZ : ClassId} {mo : Nat} {ad : Nat → Nat} {oa : Nat} {cL : ClassId} {M : mSt} {o : Int64} {b L x0 : Nat} {xs : Nat → Int32} {i : Int32} {I I' : cSt → mSt → Prop} (C : cY p R s m args meth c RL cL_law 7 2048 600128 7301098 84000 (some .boolean)) (X : lX l D S0 cM iS cI cZ mo ad cL b L xs s) (hK : lC_k x0 I) (hI : lC_commit x0 I I') (hJ : lJ D S0 cM iS cI cZ mo ad oa cL s S M o H locs) (hi : I S M) (hin : lIn i L) (hce : cells + 2201 ≤ 600128 ∧ slots + 101882 ≤ 7301098) (hl : lv_has ls 7 [(0, .ref b), (1, .ref x0), (2, .ref mo), (3, .ref oa), (4, .int i)]) (kk : ∀ (S1 : cSt) (M1 : mSt) (o1 : Int64) (H1 : Heap) (locs1 : List Loc) (ls1 : Array Slot), I' S1 M1 → lJ D S0 cM iS cI cZ mo ad oa cL s S1 M1 o1 H1 locs1 → lv_has ls1 7 [(0, .ref b), (1, .ref x0), (2, .ref mo), (3, .ref oa), (4, .int i)] → W p l e R s m args below meth c H1 locs1 (cells + 2201) (slots + 101882) Q (F0 m 1950 ls1 [])) : W p l e R s m args below meth c H locs cells slots Q (F0 m 442 ls []) := by
  obtain ⟨r, S1, M1, h1, h2, hi1⟩ := hI S M (xs (i + (1 : Int32)).toNatClampNeg) (xs (i + (2 : Int32)).toNatClampNeg) (xs (i + (3 : Int32)).toNatClampNeg) hi
  refine lv_aload_n C.1 C.2.1 dL_law_442 rfl (lv_at hl 1 rfl) ?_
  refine lv_aload_n C.1 C.2.1 dL_law_443 rfl (lv_at hl 0 rfl) ?_
  refine lv_iload C.1 C.2.1 dL_law_444 (lv_at hl 4 rfl) ?_
  refine lv_iconst (v := 1) C.1 C.2.1 dL_law_446 (by decide) ?_
  refine lv_iadd C.1 C.2.1 dL_law_447 ?_
  refine l_sld C X hJ hin.2.1 dL_law_448 ?_
  refine lv_aload_n C.1 C.2.1 dL_law_449 rfl (lv_at hl 0 rfl) ?_
  refine lv_iload C.1 C.2.1 dL_law_450 (lv_at hl 4 rfl) ?_
  refine lv_iconst (v := 2) C.1 C.2.1 dL_law_452 (by decide) ?_
  refine lv_iadd C.1 C.2.1 dL_law_453 ?_
  refine l_sld C X hJ hin.2.2.1 dL_law_454 ?_
  refine lv_aload_n C.1 C.2.1 dL_law_455 rfl (lv_at hl 0 rfl) ?_
  refine lv_iload C.1 C.2.1 dL_law_456 (lv_at hl 4 rfl) ?_
  refine lv_iconst (v := 3) C.1 C.2.1 dL_law_458 (by decide) ?_
  refine lv_iadd C.1 C.2.1 dL_law_459 ?_
  refine l_sld C X hJ hin.2.2.2.1 dL_law_460 ?_
  refine l_cW (rest := []) C X hJ hl.1 (hK S M hi) [.int (xs (i + (1 : Int32)).toNatClampNeg), .int (xs (i + (2 : Int32)).toNatClampNeg), .int (xs (i + (3 : Int32)).toNatClampNeg)] (tk_11_commit l h1) cwL_63 ki_11_commit kl_11_commit rfl ⟨by decide, by decide⟩ ⟨by omega, by omega⟩ rfl (Nat.le_of_ble_eq_true rfl) dL_law_461 (fun H locs hJ => ?_)
  refine W.eq (g2 := F0 m 464 ls [.int r]) rfl ?_
  refine lv_aload_n C.1 C.2.1 dL_law_464 rfl (lv_at hl 2 rfl) ?_
  refine lv_aload_n C.1 C.2.1 dL_law_465 rfl (lv_at hl 0 rfl) ?_
  refine lv_iload C.1 C.2.1 dL_law_466 (lv_at hl 4 rfl) ?_
  refine lv_iconst (v := 1) C.1 C.2.1 dL_law_468 (by decide) ?_
  refine lv_iadd C.1 C.2.1 dL_law_469 ?_
  refine l_sld C X hJ hin.2.1 dL_law_470 ?_
  refine lv_aload_n C.1 C.2.1 dL_law_471 rfl (lv_at hl 0 rfl) ?_
  refine lv_iload C.1 C.2.1 dL_law_472 (lv_at hl 4 rfl) ?_
  refine lv_iconst (v := 2) C.1 C.2.1 dL_law_474 (by decide) ?_
  refine lv_iadd C.1 C.2.1 dL_law_475 ?_
  refine l_sld C X hJ hin.2.2.1 dL_law_476 ?_
  refine lv_aload_n C.1 C.2.1 dL_law_477 rfl (lv_at hl 0 rfl) ?_
  refine lv_iload C.1 C.2.1 dL_law_478 (lv_at hl 4 rfl) ?_
  refine lv_iconst (v := 3) C.1 C.2.1 dL_law_480 (by decide) ?_
  refine lv_iadd C.1 C.2.1 dL_law_481 ?_
  refine l_sld C X hJ hin.2.2.2.1 dL_law_482 ?_
  refine l_mW (rest := [.int r]) C X hJ hl.1 [.int (xs (i + (1 : Int32)).toNatClampNeg), .int (xs (i + (2 : Int32)).toNatClampNeg), .int (xs (i + (3 : Int32)).toNatClampNeg)] (tm_commit l h2) cwL_67 imL_commit slL_commit rfl ⟨by decide, by decide⟩ ⟨by omega, by omega⟩ rfl (Nat.le_of_ble_eq_true rfl) dL_law_483 (fun H locs hJ => ?_)
  refine W.eq (g2 := F0 m 486 ls [.int r, .int r]) rfl ?_
  refine lv_icmp_eq (tgt := 1950) C.1 C.2.1 dL_law_486 (by decide) (fun _ => ?_) (fun h9 => absurd rfl h9)
  refine W.widen (k := cells + 2201) (n := slots + 101882) (by omega) (by omega) ?_
  exact kk S1 M1 o H locs ls hi1 hJ hl
theorem dL_law_491 : decode cL_law 491 = .ok (.aload_n 1, 1) := by decide +kernel
theorem dL_law_492 : decode cL_law 492 = .ok (.aload_n 0, 1) := by decide +kernel
theorem dL_law_493 : decode cL_law 493 = .ok (.iload 4, 2) := by decide +kernel
theorem dL_law_495 : decode cL_law 495 = .ok (.iconst 1, 1) := by decide +kernel
theorem dL_law_496 : decode cL_law 496 = .ok (.iadd, 1) := by decide +kernel
theorem dL_law_497 : decode cL_law 497 = .ok (.iaload, 1) := by decide +kernel
theorem dL_law_498 : decode cL_law 498 = .ok (.aload_n 0, 1) := by decide +kernel
theorem dL_law_499 : decode cL_law 499 = .ok (.iload 4, 2) := by decide +kernel
theorem dL_law_501 : decode cL_law 501 = .ok (.iconst 2, 1) := by decide +kernel
theorem dL_law_502 : decode cL_law 502 = .ok (.iadd, 1) := by decide +kernel
theorem dL_law_503 : decode cL_law 503 = .ok (.iaload, 1) := by decide +kernel
theorem dL_law_504 : decode cL_law 504 = .ok (.aload_n 0, 1) := by decide +kernel
theorem dL_law_505 : decode cL_law 505 = .ok (.iload 4, 2) := by decide +kernel
theorem dL_law_507 : decode cL_law 507 = .ok (.iconst 3, 1) := by decide +kernel
theorem dL_law_508 : decode cL_law 508 = .ok (.iadd, 1) := by decide +kernel
theorem dL_law_509 : decode cL_law 509 = .ok (.iaload, 1) := by decide +kernel
theorem dL_law_510 : decode cL_law 510 = .ok (.aload_n 0, 1) := by decide +kernel
theorem dL_law_511 : decode cL_law 511 = .ok (.iload 4, 2) := by decide +kernel
theorem dL_law_513 : decode cL_law 513 = .ok (.iconst 4, 1) := by decide +kernel
theorem dL_law_514 : decode cL_law 514 = .ok (.iadd, 1) := by decide +kernel
theorem dL_law_515 : decode cL_law 515 = .ok (.iaload, 1) := by decide +kernel
theorem dL_law_516 : decode cL_law 516 = .ok (.invokevirtual 68, 3) := by decide +kernel
theorem dL_law_519 : decode cL_law 519 = .ok (.aload_n 2, 1) := by decide +kernel
theorem dL_law_520 : decode cL_law 520 = .ok (.aload_n 0, 1) := by decide +kernel
theorem dL_law_521 : decode cL_law 521 = .ok (.iload 4, 2) := by decide +kernel
theorem dL_law_523 : decode cL_law 523 = .ok (.iconst 1, 1) := by decide +kernel
theorem dL_law_524 : decode cL_law 524 = .ok (.iadd, 1) := by decide +kernel
theorem dL_law_525 : decode cL_law 525 = .ok (.iaload, 1) := by decide +kernel
theorem dL_law_526 : decode cL_law 526 = .ok (.aload_n 0, 1) := by decide +kernel
theorem dL_law_527 : decode cL_law 527 = .ok (.iload 4, 2) := by decide +kernel
theorem dL_law_529 : decode cL_law 529 = .ok (.iconst 2, 1) := by decide +kernel
theorem dL_law_530 : decode cL_law 530 = .ok (.iadd, 1) := by decide +kernel
theorem dL_law_531 : decode cL_law 531 = .ok (.iaload, 1) := by decide +kernel
theorem dL_law_532 : decode cL_law 532 = .ok (.aload_n 0, 1) := by decide +kernel
theorem dL_law_533 : decode cL_law 533 = .ok (.iload 4, 2) := by decide +kernel
theorem dL_law_535 : decode cL_law 535 = .ok (.iconst 3, 1) := by decide +kernel
theorem dL_law_536 : decode cL_law 536 = .ok (.iadd, 1) := by decide +kernel
theorem dL_law_537 : decode cL_law 537 = .ok (.iaload, 1) := by decide +kernel
theorem dL_law_538 : decode cL_law 538 = .ok (.aload_n 0, 1) := by decide +kernel
theorem dL_law_539 : decode cL_law 539 = .ok (.iload 4, 2) := by decide +kernel
theorem dL_law_541 : decode cL_law 541 = .ok (.iconst 4, 1) := by decide +kernel
theorem dL_law_542 : decode cL_law 542 = .ok (.iadd, 1) := by decide +kernel
theorem dL_law_543 : decode cL_law 543 = .ok (.iaload, 1) := by decide +kernel
theorem dL_law_544 : decode cL_law 544 = .ok (.invokevirtual 72, 3) := by decide +kernel
theorem dL_law_547 : decode cL_law 547 = .ok (.if_icmp .eq 1403, 3) := by decide +kernel
set_option maxRecDepth 100000 in
set_option maxHeartbeats 4000000 in
theorem wl_cursor {p : Program} {l : Launch} {e : Env} {R : Room} {s : State} {m : MethodId} {args : Array Value} {below : List Frame} {meth : Method} {c : Code} {H : Heap} {locs : List Loc} {cells slots : Nat} {Q : State → Prop} {D : cG} {S S0 : cSt} {ls : Array Slot} {cM : ClassId} {iS : Nat → Nat} {cI cZ : ClassId} {mo : Nat} {ad : Nat → Nat} {oa : Nat} {cL : ClassId} {M : mSt} {o : Int64} {b L x0 : Nat} {xs : Nat → Int32} {i : Int32} {I I' : cSt → mSt → Prop} (C : cY p R s m args meth c RL cL_law 7 2048 600128 7301098 84000 (some .boolean)) (X : lX l D S0 cM iS cI cZ mo ad cL b L xs s) (hK : lC_k x0 I) (hI : lC_cursor x0 I I') (hJ : lJ D S0 cM iS cI cZ mo ad oa cL s S M o H locs) (hi : I S M) (hin : lIn i L) (hce : cells + 2201 ≤ 600128 ∧ slots + 101882 ≤ 7301098) (hl : lv_has ls 7 [(0, .ref b), (1, .ref x0), (2, .ref mo), (3, .ref oa), (4, .int i)]) (kk : ∀ (S1 : cSt) (M1 : mSt) (o1 : Int64) (H1 : Heap) (locs1 : List Loc) (ls1 : Array Slot), I' S1 M1 → lJ D S0 cM iS cI cZ mo ad oa cL s S1 M1 o1 H1 locs1 → lv_has ls1 7 [(0, .ref b), (1, .ref x0), (2, .ref mo), (3, .ref oa), (4, .int i)] → W p l e R s m args below meth c H1 locs1 (cells + 2201) (slots + 101882) Q (F0 m 1950 ls1 [])) : W p l e R s m args below meth c H locs cells slots Q (F0 m 491 ls []) := by
  obtain ⟨r, S1, M1, h1, h2, hi1⟩ := hI S M (xs (i + (1 : Int32)).toNatClampNeg) (xs (i + (2 : Int32)).toNatClampNeg) (xs (i + (3 : Int32)).toNatClampNeg) (xs (i + (4 : Int32)).toNatClampNeg) hi
  refine lv_aload_n C.1 C.2.1 dL_law_491 rfl (lv_at hl 1 rfl) ?_
  refine lv_aload_n C.1 C.2.1 dL_law_492 rfl (lv_at hl 0 rfl) ?_
  refine lv_iload C.1 C.2.1 dL_law_493 (lv_at hl 4 rfl) ?_
  refine lv_iconst (v := 1) C.1 C.2.1 dL_law_495 (by decide) ?_
  refine lv_iadd C.1 C.2.1 dL_law_496 ?_
  refine l_sld C X hJ hin.2.1 dL_law_497 ?_
  refine lv_aload_n C.1 C.2.1 dL_law_498 rfl (lv_at hl 0 rfl) ?_
  refine lv_iload C.1 C.2.1 dL_law_499 (lv_at hl 4 rfl) ?_
  refine lv_iconst (v := 2) C.1 C.2.1 dL_law_501 (by decide) ?_
  refine lv_iadd C.1 C.2.1 dL_law_502 ?_
  refine l_sld C X hJ hin.2.2.1 dL_law_503 ?_
  refine lv_aload_n C.1 C.2.1 dL_law_504 rfl (lv_at hl 0 rfl) ?_
  refine lv_iload C.1 C.2.1 dL_law_505 (lv_at hl 4 rfl) ?_
  refine lv_iconst (v := 3) C.1 C.2.1 dL_law_507 (by decide) ?_
  refine lv_iadd C.1 C.2.1 dL_law_508 ?_
  refine l_sld C X hJ hin.2.2.2.1 dL_law_509 ?_
  refine lv_aload_n C.1 C.2.1 dL_law_510 rfl (lv_at hl 0 rfl) ?_
  refine lv_iload C.1 C.2.1 dL_law_511 (lv_at hl 4 rfl) ?_
  refine lv_iconst (v := 4) C.1 C.2.1 dL_law_513 (by decide) ?_
  refine lv_iadd C.1 C.2.1 dL_law_514 ?_
  refine l_sld C X hJ hin.2.2.2.2.1 dL_law_515 ?_
  refine l_cW (rest := []) C X hJ hl.1 (hK S M hi) [.int (xs (i + (1 : Int32)).toNatClampNeg), .int (xs (i + (2 : Int32)).toNatClampNeg), .int (xs (i + (3 : Int32)).toNatClampNeg), .int (xs (i + (4 : Int32)).toNatClampNeg)] (tk_11_cursor l h1) cwL_68 ki_11_cursor kl_11_cursor rfl ⟨by decide, by decide⟩ ⟨by omega, by omega⟩ rfl (Nat.le_of_ble_eq_true rfl) dL_law_516 (fun H locs hJ => ?_)
  refine W.eq (g2 := F0 m 519 ls [.int r]) rfl ?_
  refine lv_aload_n C.1 C.2.1 dL_law_519 rfl (lv_at hl 2 rfl) ?_
  refine lv_aload_n C.1 C.2.1 dL_law_520 rfl (lv_at hl 0 rfl) ?_
  refine lv_iload C.1 C.2.1 dL_law_521 (lv_at hl 4 rfl) ?_
  refine lv_iconst (v := 1) C.1 C.2.1 dL_law_523 (by decide) ?_
  refine lv_iadd C.1 C.2.1 dL_law_524 ?_
  refine l_sld C X hJ hin.2.1 dL_law_525 ?_
  refine lv_aload_n C.1 C.2.1 dL_law_526 rfl (lv_at hl 0 rfl) ?_
  refine lv_iload C.1 C.2.1 dL_law_527 (lv_at hl 4 rfl) ?_
  refine lv_iconst (v := 2) C.1 C.2.1 dL_law_529 (by decide) ?_
  refine lv_iadd C.1 C.2.1 dL_law_530 ?_
  refine l_sld C X hJ hin.2.2.1 dL_law_531 ?_
  refine lv_aload_n C.1 C.2.1 dL_law_532 rfl (lv_at hl 0 rfl) ?_
  refine lv_iload C.1 C.2.1 dL_law_533 (lv_at hl 4 rfl) ?_
  refine lv_iconst (v := 3) C.1 C.2.1 dL_law_535 (by decide) ?_
  refine lv_iadd C.1 C.2.1 dL_law_536 ?_
  refine l_sld C X hJ hin.2.2.2.1 dL_law_537 ?_
  refine lv_aload_n C.1 C.2.1 dL_law_538 rfl (lv_at hl 0 rfl) ?_
  refine lv_iload C.1 C.2.1 dL_law_539 (lv_at hl 4 rfl) ?_
  refine lv_iconst (v := 4) C.1 C.2.1 dL_law_541 (by decide) ?_
  refine lv_iadd C.1 C.2.1 dL_law_542 ?_
  refine l_sld C X hJ hin.2.2.2.2.1 dL_law_543 ?_
  refine l_mW (rest := [.int r]) C X hJ hl.1 [.int (xs (i + (1 : Int32)).toNatClampNeg), .int (xs (i + (2 : Int32)).toNatClampNeg), .int (xs (i + (3 : Int32)).toNatClampNeg), .int (xs (i + (4 : Int32)).toNatClampNeg)] (tm_cursor l h2) cwL_72 imL_cursor slL_cursor rfl ⟨by decide, by decide⟩ ⟨by omega, by omega⟩ rfl (Nat.le_of_ble_eq_true rfl) dL_law_544 (fun H locs hJ => ?_)
  refine W.eq (g2 := F0 m 547 ls [.int r, .int r]) rfl ?_
  refine lv_icmp_eq (tgt := 1950) C.1 C.2.1 dL_law_547 (by decide) (fun _ => ?_) (fun h9 => absurd rfl h9)
  refine W.widen (k := cells + 2201) (n := slots + 101882) (by omega) (by omega) ?_
  exact kk S1 M1 o H locs ls hi1 hJ hl
theorem dL_law_552 : decode cL_law 552 = .ok (.aload_n 1, 1) := by decide +kernel
theorem dL_law_553 : decode cL_law 553 = .ok (.aload_n 0, 1) := by decide +kernel
theorem dL_law_554 : decode cL_law 554 = .ok (.iload 4, 2) := by decide +kernel
theorem dL_law_556 : decode cL_law 556 = .ok (.iconst 1, 1) := by decide +kernel
theorem dL_law_557 : decode cL_law 557 = .ok (.iadd, 1) := by decide +kernel
theorem dL_law_558 : decode cL_law 558 = .ok (.iaload, 1) := by decide +kernel
theorem dL_law_559 : decode cL_law 559 = .ok (.aload_n 0, 1) := by decide +kernel
theorem dL_law_560 : decode cL_law 560 = .ok (.iload 4, 2) := by decide +kernel
theorem dL_law_562 : decode cL_law 562 = .ok (.iconst 2, 1) := by decide +kernel
theorem dL_law_563 : decode cL_law 563 = .ok (.iadd, 1) := by decide +kernel
theorem dL_law_564 : decode cL_law 564 = .ok (.iaload, 1) := by decide +kernel
theorem dL_law_565 : decode cL_law 565 = .ok (.aload_n 0, 1) := by decide +kernel
theorem dL_law_566 : decode cL_law 566 = .ok (.iload 4, 2) := by decide +kernel
theorem dL_law_568 : decode cL_law 568 = .ok (.iconst 3, 1) := by decide +kernel
theorem dL_law_569 : decode cL_law 569 = .ok (.iadd, 1) := by decide +kernel
theorem dL_law_570 : decode cL_law 570 = .ok (.iaload, 1) := by decide +kernel
theorem dL_law_571 : decode cL_law 571 = .ok (.invokevirtual 73, 3) := by decide +kernel
theorem dL_law_574 : decode cL_law 574 = .ok (.aload_n 2, 1) := by decide +kernel
theorem dL_law_575 : decode cL_law 575 = .ok (.aload_n 0, 1) := by decide +kernel
theorem dL_law_576 : decode cL_law 576 = .ok (.iload 4, 2) := by decide +kernel
theorem dL_law_578 : decode cL_law 578 = .ok (.iconst 1, 1) := by decide +kernel
theorem dL_law_579 : decode cL_law 579 = .ok (.iadd, 1) := by decide +kernel
theorem dL_law_580 : decode cL_law 580 = .ok (.iaload, 1) := by decide +kernel
theorem dL_law_581 : decode cL_law 581 = .ok (.aload_n 0, 1) := by decide +kernel
theorem dL_law_582 : decode cL_law 582 = .ok (.iload 4, 2) := by decide +kernel
theorem dL_law_584 : decode cL_law 584 = .ok (.iconst 2, 1) := by decide +kernel
theorem dL_law_585 : decode cL_law 585 = .ok (.iadd, 1) := by decide +kernel
theorem dL_law_586 : decode cL_law 586 = .ok (.iaload, 1) := by decide +kernel
theorem dL_law_587 : decode cL_law 587 = .ok (.aload_n 0, 1) := by decide +kernel
theorem dL_law_588 : decode cL_law 588 = .ok (.iload 4, 2) := by decide +kernel
theorem dL_law_590 : decode cL_law 590 = .ok (.iconst 3, 1) := by decide +kernel
theorem dL_law_591 : decode cL_law 591 = .ok (.iadd, 1) := by decide +kernel
theorem dL_law_592 : decode cL_law 592 = .ok (.iaload, 1) := by decide +kernel
theorem dL_law_593 : decode cL_law 593 = .ok (.invokevirtual 76, 3) := by decide +kernel
theorem dL_law_596 : decode cL_law 596 = .ok (.if_icmp .eq 1354, 3) := by decide +kernel
set_option maxRecDepth 100000 in
set_option maxHeartbeats 4000000 in
theorem wl_where {p : Program} {l : Launch} {e : Env} {R : Room} {s : State} {m : MethodId} {args : Array Value} {below : List Frame} {meth : Method} {c : Code} {H : Heap} {locs : List Loc} {cells slots : Nat} {Q : State → Prop} {D : cG} {S S0 : cSt} {ls : Array Slot} {cM : ClassId} {iS : Nat → Nat} {cI cZ : ClassId} {mo : Nat} {ad : Nat → Nat} {oa : Nat} {cL : ClassId} {M : mSt} {o : Int64} {b L x0 : Nat} {xs : Nat → Int32} {i : Int32} {I I' : cSt → mSt → Prop} (C : cY p R s m args meth c RL cL_law 7 2048 600128 7301098 84000 (some .boolean)) (X : lX l D S0 cM iS cI cZ mo ad cL b L xs s) (hK : lC_k x0 I) (hI : lC_where x0 I I') (hJ : lJ D S0 cM iS cI cZ mo ad oa cL s S M o H locs) (hi : I S M) (hin : lIn i L) (hce : cells + 2201 ≤ 600128 ∧ slots + 101882 ≤ 7301098) (hl : lv_has ls 7 [(0, .ref b), (1, .ref x0), (2, .ref mo), (3, .ref oa), (4, .int i)]) (kk : ∀ (S1 : cSt) (M1 : mSt) (o1 : Int64) (H1 : Heap) (locs1 : List Loc) (ls1 : Array Slot), I' S1 M1 → lJ D S0 cM iS cI cZ mo ad oa cL s S1 M1 o1 H1 locs1 → lv_has ls1 7 [(0, .ref b), (1, .ref x0), (2, .ref mo), (3, .ref oa), (4, .int i)] → W p l e R s m args below meth c H1 locs1 (cells + 2201) (slots + 101882) Q (F0 m 1950 ls1 [])) : W p l e R s m args below meth c H locs cells slots Q (F0 m 552 ls []) := by
  obtain ⟨r, S1, M1, h1, h2, hi1⟩ := hI S M (xs (i + (1 : Int32)).toNatClampNeg) (xs (i + (2 : Int32)).toNatClampNeg) (xs (i + (3 : Int32)).toNatClampNeg) hi
  refine lv_aload_n C.1 C.2.1 dL_law_552 rfl (lv_at hl 1 rfl) ?_
  refine lv_aload_n C.1 C.2.1 dL_law_553 rfl (lv_at hl 0 rfl) ?_
  refine lv_iload C.1 C.2.1 dL_law_554 (lv_at hl 4 rfl) ?_
  refine lv_iconst (v := 1) C.1 C.2.1 dL_law_556 (by decide) ?_
  refine lv_iadd C.1 C.2.1 dL_law_557 ?_
  refine l_sld C X hJ hin.2.1 dL_law_558 ?_
  refine lv_aload_n C.1 C.2.1 dL_law_559 rfl (lv_at hl 0 rfl) ?_
  refine lv_iload C.1 C.2.1 dL_law_560 (lv_at hl 4 rfl) ?_
  refine lv_iconst (v := 2) C.1 C.2.1 dL_law_562 (by decide) ?_
  refine lv_iadd C.1 C.2.1 dL_law_563 ?_
  refine l_sld C X hJ hin.2.2.1 dL_law_564 ?_
  refine lv_aload_n C.1 C.2.1 dL_law_565 rfl (lv_at hl 0 rfl) ?_
  refine lv_iload C.1 C.2.1 dL_law_566 (lv_at hl 4 rfl) ?_
  refine lv_iconst (v := 3) C.1 C.2.1 dL_law_568 (by decide) ?_
  refine lv_iadd C.1 C.2.1 dL_law_569 ?_
  refine l_sld C X hJ hin.2.2.2.1 dL_law_570 ?_
  refine l_cW (rest := []) C X hJ hl.1 (hK S M hi) [.int (xs (i + (1 : Int32)).toNatClampNeg), .int (xs (i + (2 : Int32)).toNatClampNeg), .int (xs (i + (3 : Int32)).toNatClampNeg)] (tk_11_where l h1) cwL_73 ki_11_where kl_11_where rfl ⟨by decide, by decide⟩ ⟨by omega, by omega⟩ rfl (Nat.le_of_ble_eq_true rfl) dL_law_571 (fun H locs hJ => ?_)
  refine W.eq (g2 := F0 m 574 ls [.int r]) rfl ?_
  refine lv_aload_n C.1 C.2.1 dL_law_574 rfl (lv_at hl 2 rfl) ?_
  refine lv_aload_n C.1 C.2.1 dL_law_575 rfl (lv_at hl 0 rfl) ?_
  refine lv_iload C.1 C.2.1 dL_law_576 (lv_at hl 4 rfl) ?_
  refine lv_iconst (v := 1) C.1 C.2.1 dL_law_578 (by decide) ?_
  refine lv_iadd C.1 C.2.1 dL_law_579 ?_
  refine l_sld C X hJ hin.2.1 dL_law_580 ?_
  refine lv_aload_n C.1 C.2.1 dL_law_581 rfl (lv_at hl 0 rfl) ?_
  refine lv_iload C.1 C.2.1 dL_law_582 (lv_at hl 4 rfl) ?_
  refine lv_iconst (v := 2) C.1 C.2.1 dL_law_584 (by decide) ?_
  refine lv_iadd C.1 C.2.1 dL_law_585 ?_
  refine l_sld C X hJ hin.2.2.1 dL_law_586 ?_
  refine lv_aload_n C.1 C.2.1 dL_law_587 rfl (lv_at hl 0 rfl) ?_
  refine lv_iload C.1 C.2.1 dL_law_588 (lv_at hl 4 rfl) ?_
  refine lv_iconst (v := 3) C.1 C.2.1 dL_law_590 (by decide) ?_
  refine lv_iadd C.1 C.2.1 dL_law_591 ?_
  refine l_sld C X hJ hin.2.2.2.1 dL_law_592 ?_
  refine l_mW (rest := [.int r]) C X hJ hl.1 [.int (xs (i + (1 : Int32)).toNatClampNeg), .int (xs (i + (2 : Int32)).toNatClampNeg), .int (xs (i + (3 : Int32)).toNatClampNeg)] (tm_where l h2) cwL_76 imL_where slL_where rfl ⟨by decide, by decide⟩ ⟨by omega, by omega⟩ rfl (Nat.le_of_ble_eq_true rfl) dL_law_593 (fun H locs hJ => ?_)
  refine W.eq (g2 := F0 m 596 ls [.int r, .int r]) rfl ?_
  refine lv_icmp_eq (tgt := 1950) C.1 C.2.1 dL_law_596 (by decide) (fun _ => ?_) (fun h9 => absurd rfl h9)
  refine W.widen (k := cells + 2201) (n := slots + 101882) (by omega) (by omega) ?_
  exact kk S1 M1 o H locs ls hi1 hJ hl
theorem dL_law_601 : decode cL_law 601 = .ok (.aload_n 1, 1) := by decide +kernel
theorem dL_law_602 : decode cL_law 602 = .ok (.aload_n 0, 1) := by decide +kernel
theorem dL_law_603 : decode cL_law 603 = .ok (.iload 4, 2) := by decide +kernel
theorem dL_law_605 : decode cL_law 605 = .ok (.iconst 1, 1) := by decide +kernel
theorem dL_law_606 : decode cL_law 606 = .ok (.iadd, 1) := by decide +kernel
theorem dL_law_607 : decode cL_law 607 = .ok (.iaload, 1) := by decide +kernel
theorem dL_law_608 : decode cL_law 608 = .ok (.aload_n 0, 1) := by decide +kernel
theorem dL_law_609 : decode cL_law 609 = .ok (.iload 4, 2) := by decide +kernel
theorem dL_law_611 : decode cL_law 611 = .ok (.iconst 2, 1) := by decide +kernel
theorem dL_law_612 : decode cL_law 612 = .ok (.iadd, 1) := by decide +kernel
theorem dL_law_613 : decode cL_law 613 = .ok (.iaload, 1) := by decide +kernel
theorem dL_law_614 : decode cL_law 614 = .ok (.aload_n 0, 1) := by decide +kernel
theorem dL_law_615 : decode cL_law 615 = .ok (.iload 4, 2) := by decide +kernel
theorem dL_law_617 : decode cL_law 617 = .ok (.iconst 3, 1) := by decide +kernel
theorem dL_law_618 : decode cL_law 618 = .ok (.iadd, 1) := by decide +kernel
theorem dL_law_619 : decode cL_law 619 = .ok (.iaload, 1) := by decide +kernel
theorem dL_law_620 : decode cL_law 620 = .ok (.aload_n 0, 1) := by decide +kernel
theorem dL_law_621 : decode cL_law 621 = .ok (.iload 4, 2) := by decide +kernel
theorem dL_law_623 : decode cL_law 623 = .ok (.iconst 4, 1) := by decide +kernel
theorem dL_law_624 : decode cL_law 624 = .ok (.iadd, 1) := by decide +kernel
theorem dL_law_625 : decode cL_law 625 = .ok (.iaload, 1) := by decide +kernel
theorem dL_law_626 : decode cL_law 626 = .ok (.aload_n 0, 1) := by decide +kernel
theorem dL_law_627 : decode cL_law 627 = .ok (.iload 4, 2) := by decide +kernel
theorem dL_law_629 : decode cL_law 629 = .ok (.iconst 5, 1) := by decide +kernel
theorem dL_law_630 : decode cL_law 630 = .ok (.iadd, 1) := by decide +kernel
theorem dL_law_631 : decode cL_law 631 = .ok (.iaload, 1) := by decide +kernel
theorem dL_law_632 : decode cL_law 632 = .ok (.aload_n 0, 1) := by decide +kernel
theorem dL_law_633 : decode cL_law 633 = .ok (.iload 4, 2) := by decide +kernel
theorem dL_law_635 : decode cL_law 635 = .ok (.bipush 6, 2) := by decide +kernel
theorem dL_law_637 : decode cL_law 637 = .ok (.iadd, 1) := by decide +kernel
theorem dL_law_638 : decode cL_law 638 = .ok (.iaload, 1) := by decide +kernel
theorem dL_law_639 : decode cL_law 639 = .ok (.invokevirtual 77, 3) := by decide +kernel
theorem dL_law_642 : decode cL_law 642 = .ok (.aload_n 2, 1) := by decide +kernel
theorem dL_law_643 : decode cL_law 643 = .ok (.aload_n 0, 1) := by decide +kernel
theorem dL_law_644 : decode cL_law 644 = .ok (.iload 4, 2) := by decide +kernel
theorem dL_law_646 : decode cL_law 646 = .ok (.iconst 1, 1) := by decide +kernel
theorem dL_law_647 : decode cL_law 647 = .ok (.iadd, 1) := by decide +kernel
theorem dL_law_648 : decode cL_law 648 = .ok (.iaload, 1) := by decide +kernel
theorem dL_law_649 : decode cL_law 649 = .ok (.aload_n 0, 1) := by decide +kernel
theorem dL_law_650 : decode cL_law 650 = .ok (.iload 4, 2) := by decide +kernel
theorem dL_law_652 : decode cL_law 652 = .ok (.iconst 2, 1) := by decide +kernel
theorem dL_law_653 : decode cL_law 653 = .ok (.iadd, 1) := by decide +kernel
theorem dL_law_654 : decode cL_law 654 = .ok (.iaload, 1) := by decide +kernel
theorem dL_law_655 : decode cL_law 655 = .ok (.aload_n 0, 1) := by decide +kernel
theorem dL_law_656 : decode cL_law 656 = .ok (.iload 4, 2) := by decide +kernel
theorem dL_law_658 : decode cL_law 658 = .ok (.iconst 3, 1) := by decide +kernel
theorem dL_law_659 : decode cL_law 659 = .ok (.iadd, 1) := by decide +kernel
theorem dL_law_660 : decode cL_law 660 = .ok (.iaload, 1) := by decide +kernel
theorem dL_law_661 : decode cL_law 661 = .ok (.aload_n 0, 1) := by decide +kernel
theorem dL_law_662 : decode cL_law 662 = .ok (.iload 4, 2) := by decide +kernel
theorem dL_law_664 : decode cL_law 664 = .ok (.iconst 4, 1) := by decide +kernel
theorem dL_law_665 : decode cL_law 665 = .ok (.iadd, 1) := by decide +kernel
theorem dL_law_666 : decode cL_law 666 = .ok (.iaload, 1) := by decide +kernel
theorem dL_law_667 : decode cL_law 667 = .ok (.aload_n 0, 1) := by decide +kernel
theorem dL_law_668 : decode cL_law 668 = .ok (.iload 4, 2) := by decide +kernel
theorem dL_law_670 : decode cL_law 670 = .ok (.iconst 5, 1) := by decide +kernel
theorem dL_law_671 : decode cL_law 671 = .ok (.iadd, 1) := by decide +kernel
theorem dL_law_672 : decode cL_law 672 = .ok (.iaload, 1) := by decide +kernel
theorem dL_law_673 : decode cL_law 673 = .ok (.aload_n 0, 1) := by decide +kernel
theorem dL_law_674 : decode cL_law 674 = .ok (.iload 4, 2) := by decide +kernel
theorem dL_law_676 : decode cL_law 676 = .ok (.bipush 6, 2) := by decide +kernel
theorem dL_law_678 : decode cL_law 678 = .ok (.iadd, 1) := by decide +kernel
theorem dL_law_679 : decode cL_law 679 = .ok (.iaload, 1) := by decide +kernel
theorem dL_law_680 : decode cL_law 680 = .ok (.invokevirtual 81, 3) := by decide +kernel
theorem dL_law_683 : decode cL_law 683 = .ok (.if_icmp .eq 1267, 3) := by decide +kernel
set_option maxRecDepth 100000 in
set_option maxHeartbeats 4000000 in
theorem wl_stand {p : Program} {l : Launch} {e : Env} {R : Room} {s : State} {m : MethodId} {args : Array Value} {below : List Frame} {meth : Method} {c : Code} {H : Heap} {locs : List Loc} {cells slots : Nat} {Q : State → Prop} {D : cG} {S S0 : cSt} {ls : Array Slot} {cM : ClassId} {iS : Nat → Nat} {cI cZ : ClassId} {mo : Nat} {ad : Nat → Nat} {oa : Nat} {cL : ClassId} {M : mSt} {o : Int64} {b L x0 : Nat} {xs : Nat → Int32} {i : Int32} {I I' : cSt → mSt → Prop} (C : cY p R s m args meth c RL cL_law 7 2048 600128 7301098 84000 (some .boolean)) (X : lX l D S0 cM iS cI cZ mo ad cL b L xs s) (hK : lC_k x0 I) (hI : lC_stand x0 I I') (hJ : lJ D S0 cM iS cI cZ mo ad oa cL s S M o H locs) (hi : I S M) (hin : lIn i L) (hce : cells + 2201 ≤ 600128 ∧ slots + 101882 ≤ 7301098) (hl : lv_has ls 7 [(0, .ref b), (1, .ref x0), (2, .ref mo), (3, .ref oa), (4, .int i)]) (kk : ∀ (S1 : cSt) (M1 : mSt) (o1 : Int64) (H1 : Heap) (locs1 : List Loc) (ls1 : Array Slot), I' S1 M1 → lJ D S0 cM iS cI cZ mo ad oa cL s S1 M1 o1 H1 locs1 → lv_has ls1 7 [(0, .ref b), (1, .ref x0), (2, .ref mo), (3, .ref oa), (4, .int i)] → W p l e R s m args below meth c H1 locs1 (cells + 2201) (slots + 101882) Q (F0 m 1950 ls1 [])) : W p l e R s m args below meth c H locs cells slots Q (F0 m 601 ls []) := by
  obtain ⟨r, S1, M1, h1, h2, hi1⟩ := hI S M (xs (i + (1 : Int32)).toNatClampNeg) (xs (i + (2 : Int32)).toNatClampNeg) (xs (i + (3 : Int32)).toNatClampNeg) (xs (i + (4 : Int32)).toNatClampNeg) (xs (i + (5 : Int32)).toNatClampNeg) (xs (i + (6 : Int32)).toNatClampNeg) hi
  refine lv_aload_n C.1 C.2.1 dL_law_601 rfl (lv_at hl 1 rfl) ?_
  refine lv_aload_n C.1 C.2.1 dL_law_602 rfl (lv_at hl 0 rfl) ?_
  refine lv_iload C.1 C.2.1 dL_law_603 (lv_at hl 4 rfl) ?_
  refine lv_iconst (v := 1) C.1 C.2.1 dL_law_605 (by decide) ?_
  refine lv_iadd C.1 C.2.1 dL_law_606 ?_
  refine l_sld C X hJ hin.2.1 dL_law_607 ?_
  refine lv_aload_n C.1 C.2.1 dL_law_608 rfl (lv_at hl 0 rfl) ?_
  refine lv_iload C.1 C.2.1 dL_law_609 (lv_at hl 4 rfl) ?_
  refine lv_iconst (v := 2) C.1 C.2.1 dL_law_611 (by decide) ?_
  refine lv_iadd C.1 C.2.1 dL_law_612 ?_
  refine l_sld C X hJ hin.2.2.1 dL_law_613 ?_
  refine lv_aload_n C.1 C.2.1 dL_law_614 rfl (lv_at hl 0 rfl) ?_
  refine lv_iload C.1 C.2.1 dL_law_615 (lv_at hl 4 rfl) ?_
  refine lv_iconst (v := 3) C.1 C.2.1 dL_law_617 (by decide) ?_
  refine lv_iadd C.1 C.2.1 dL_law_618 ?_
  refine l_sld C X hJ hin.2.2.2.1 dL_law_619 ?_
  refine lv_aload_n C.1 C.2.1 dL_law_620 rfl (lv_at hl 0 rfl) ?_
  refine lv_iload C.1 C.2.1 dL_law_621 (lv_at hl 4 rfl) ?_
  refine lv_iconst (v := 4) C.1 C.2.1 dL_law_623 (by decide) ?_
  refine lv_iadd C.1 C.2.1 dL_law_624 ?_
  refine l_sld C X hJ hin.2.2.2.2.1 dL_law_625 ?_
  refine lv_aload_n C.1 C.2.1 dL_law_626 rfl (lv_at hl 0 rfl) ?_
  refine lv_iload C.1 C.2.1 dL_law_627 (lv_at hl 4 rfl) ?_
  refine lv_iconst (v := 5) C.1 C.2.1 dL_law_629 (by decide) ?_
  refine lv_iadd C.1 C.2.1 dL_law_630 ?_
  refine l_sld C X hJ hin.2.2.2.2.2.1 dL_law_631 ?_
  refine lv_aload_n C.1 C.2.1 dL_law_632 rfl (lv_at hl 0 rfl) ?_
  refine lv_iload C.1 C.2.1 dL_law_633 (lv_at hl 4 rfl) ?_
  refine lv_bipush (v := 6) C.1 C.2.1 dL_law_635 (by decide) ?_
  refine lv_iadd C.1 C.2.1 dL_law_637 ?_
  refine l_sld C X hJ hin.2.2.2.2.2.2 dL_law_638 ?_
  refine l_cW (rest := []) C X hJ hl.1 (hK S M hi) [.int (xs (i + (1 : Int32)).toNatClampNeg), .int (xs (i + (2 : Int32)).toNatClampNeg), .int (xs (i + (3 : Int32)).toNatClampNeg), .int (xs (i + (4 : Int32)).toNatClampNeg), .int (xs (i + (5 : Int32)).toNatClampNeg), .int (xs (i + (6 : Int32)).toNatClampNeg)] (tk_11_stand l h1) cwL_77 ki_11_stand kl_11_stand rfl ⟨by decide, by decide⟩ ⟨by omega, by omega⟩ rfl (Nat.le_of_ble_eq_true rfl) dL_law_639 (fun H locs hJ => ?_)
  refine W.eq (g2 := F0 m 642 ls [.int r]) rfl ?_
  refine lv_aload_n C.1 C.2.1 dL_law_642 rfl (lv_at hl 2 rfl) ?_
  refine lv_aload_n C.1 C.2.1 dL_law_643 rfl (lv_at hl 0 rfl) ?_
  refine lv_iload C.1 C.2.1 dL_law_644 (lv_at hl 4 rfl) ?_
  refine lv_iconst (v := 1) C.1 C.2.1 dL_law_646 (by decide) ?_
  refine lv_iadd C.1 C.2.1 dL_law_647 ?_
  refine l_sld C X hJ hin.2.1 dL_law_648 ?_
  refine lv_aload_n C.1 C.2.1 dL_law_649 rfl (lv_at hl 0 rfl) ?_
  refine lv_iload C.1 C.2.1 dL_law_650 (lv_at hl 4 rfl) ?_
  refine lv_iconst (v := 2) C.1 C.2.1 dL_law_652 (by decide) ?_
  refine lv_iadd C.1 C.2.1 dL_law_653 ?_
  refine l_sld C X hJ hin.2.2.1 dL_law_654 ?_
  refine lv_aload_n C.1 C.2.1 dL_law_655 rfl (lv_at hl 0 rfl) ?_
  refine lv_iload C.1 C.2.1 dL_law_656 (lv_at hl 4 rfl) ?_
  refine lv_iconst (v := 3) C.1 C.2.1 dL_law_658 (by decide) ?_
  refine lv_iadd C.1 C.2.1 dL_law_659 ?_
  refine l_sld C X hJ hin.2.2.2.1 dL_law_660 ?_
  refine lv_aload_n C.1 C.2.1 dL_law_661 rfl (lv_at hl 0 rfl) ?_
  refine lv_iload C.1 C.2.1 dL_law_662 (lv_at hl 4 rfl) ?_
  refine lv_iconst (v := 4) C.1 C.2.1 dL_law_664 (by decide) ?_
  refine lv_iadd C.1 C.2.1 dL_law_665 ?_
  refine l_sld C X hJ hin.2.2.2.2.1 dL_law_666 ?_
  refine lv_aload_n C.1 C.2.1 dL_law_667 rfl (lv_at hl 0 rfl) ?_
  refine lv_iload C.1 C.2.1 dL_law_668 (lv_at hl 4 rfl) ?_
  refine lv_iconst (v := 5) C.1 C.2.1 dL_law_670 (by decide) ?_
  refine lv_iadd C.1 C.2.1 dL_law_671 ?_
  refine l_sld C X hJ hin.2.2.2.2.2.1 dL_law_672 ?_
  refine lv_aload_n C.1 C.2.1 dL_law_673 rfl (lv_at hl 0 rfl) ?_
  refine lv_iload C.1 C.2.1 dL_law_674 (lv_at hl 4 rfl) ?_
  refine lv_bipush (v := 6) C.1 C.2.1 dL_law_676 (by decide) ?_
  refine lv_iadd C.1 C.2.1 dL_law_678 ?_
  refine l_sld C X hJ hin.2.2.2.2.2.2 dL_law_679 ?_
  refine l_mW (rest := [.int r]) C X hJ hl.1 [.int (xs (i + (1 : Int32)).toNatClampNeg), .int (xs (i + (2 : Int32)).toNatClampNeg), .int (xs (i + (3 : Int32)).toNatClampNeg), .int (xs (i + (4 : Int32)).toNatClampNeg), .int (xs (i + (5 : Int32)).toNatClampNeg), .int (xs (i + (6 : Int32)).toNatClampNeg)] (tm_stand l h2) cwL_81 imL_stand slL_stand rfl ⟨by decide, by decide⟩ ⟨by omega, by omega⟩ rfl (Nat.le_of_ble_eq_true rfl) dL_law_680 (fun H locs hJ => ?_)
  refine W.eq (g2 := F0 m 683 ls [.int r, .int r]) rfl ?_
  refine lv_icmp_eq (tgt := 1950) C.1 C.2.1 dL_law_683 (by decide) (fun _ => ?_) (fun h9 => absurd rfl h9)
  refine W.widen (k := cells + 2201) (n := slots + 101882) (by omega) (by omega) ?_
  exact kk S1 M1 o H locs ls hi1 hJ hl
