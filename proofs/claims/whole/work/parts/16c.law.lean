-- made by wip/whole/gen15.py: the law's cases
theorem dL_law_1239 : decode cL_law 1239 = .ok (.aload_n 1, 1) := by decide +kernel
theorem dL_law_1240 : decode cL_law 1240 = .ok (.aload_n 0, 1) := by decide +kernel
theorem dL_law_1241 : decode cL_law 1241 = .ok (.iload 4, 2) := by decide +kernel
theorem dL_law_1243 : decode cL_law 1243 = .ok (.iconst 1, 1) := by decide +kernel
theorem dL_law_1244 : decode cL_law 1244 = .ok (.iadd, 1) := by decide +kernel
theorem dL_law_1245 : decode cL_law 1245 = .ok (.iaload, 1) := by decide +kernel
theorem dL_law_1246 : decode cL_law 1246 = .ok (.aload_n 0, 1) := by decide +kernel
theorem dL_law_1247 : decode cL_law 1247 = .ok (.iload 4, 2) := by decide +kernel
theorem dL_law_1249 : decode cL_law 1249 = .ok (.iconst 2, 1) := by decide +kernel
theorem dL_law_1250 : decode cL_law 1250 = .ok (.iadd, 1) := by decide +kernel
theorem dL_law_1251 : decode cL_law 1251 = .ok (.iaload, 1) := by decide +kernel
theorem dL_law_1252 : decode cL_law 1252 = .ok (.aload_n 0, 1) := by decide +kernel
theorem dL_law_1253 : decode cL_law 1253 = .ok (.iload 4, 2) := by decide +kernel
theorem dL_law_1255 : decode cL_law 1255 = .ok (.iconst 3, 1) := by decide +kernel
theorem dL_law_1256 : decode cL_law 1256 = .ok (.iadd, 1) := by decide +kernel
theorem dL_law_1257 : decode cL_law 1257 = .ok (.iaload, 1) := by decide +kernel
theorem dL_law_1258 : decode cL_law 1258 = .ok (.aload_n 0, 1) := by decide +kernel
theorem dL_law_1259 : decode cL_law 1259 = .ok (.iload 4, 2) := by decide +kernel
theorem dL_law_1261 : decode cL_law 1261 = .ok (.iconst 4, 1) := by decide +kernel
theorem dL_law_1262 : decode cL_law 1262 = .ok (.iadd, 1) := by decide +kernel
theorem dL_law_1263 : decode cL_law 1263 = .ok (.iaload, 1) := by decide +kernel
theorem dL_law_1264 : decode cL_law 1264 = .ok (.aload_n 3, 1) := by decide +kernel
theorem dL_law_1265 : decode cL_law 1265 = .ok (.invokestatic 135, 3) := by decide +kernel
theorem dL_law_1268 : decode cL_law 1268 = .ok (.istore 5, 2) := by decide +kernel
theorem dL_law_1270 : decode cL_law 1270 = .ok (.aload_n 2, 1) := by decide +kernel
theorem dL_law_1271 : decode cL_law 1271 = .ok (.aload_n 0, 1) := by decide +kernel
theorem dL_law_1272 : decode cL_law 1272 = .ok (.iload 4, 2) := by decide +kernel
theorem dL_law_1274 : decode cL_law 1274 = .ok (.iconst 1, 1) := by decide +kernel
theorem dL_law_1275 : decode cL_law 1275 = .ok (.iadd, 1) := by decide +kernel
theorem dL_law_1276 : decode cL_law 1276 = .ok (.iaload, 1) := by decide +kernel
theorem dL_law_1277 : decode cL_law 1277 = .ok (.aload_n 0, 1) := by decide +kernel
theorem dL_law_1278 : decode cL_law 1278 = .ok (.iload 4, 2) := by decide +kernel
theorem dL_law_1280 : decode cL_law 1280 = .ok (.iconst 2, 1) := by decide +kernel
theorem dL_law_1281 : decode cL_law 1281 = .ok (.iadd, 1) := by decide +kernel
theorem dL_law_1282 : decode cL_law 1282 = .ok (.iaload, 1) := by decide +kernel
theorem dL_law_1283 : decode cL_law 1283 = .ok (.aload_n 0, 1) := by decide +kernel
theorem dL_law_1284 : decode cL_law 1284 = .ok (.iload 4, 2) := by decide +kernel
theorem dL_law_1286 : decode cL_law 1286 = .ok (.iconst 3, 1) := by decide +kernel
theorem dL_law_1287 : decode cL_law 1287 = .ok (.iadd, 1) := by decide +kernel
theorem dL_law_1288 : decode cL_law 1288 = .ok (.iaload, 1) := by decide +kernel
theorem dL_law_1289 : decode cL_law 1289 = .ok (.aload_n 0, 1) := by decide +kernel
theorem dL_law_1290 : decode cL_law 1290 = .ok (.iload 4, 2) := by decide +kernel
theorem dL_law_1292 : decode cL_law 1292 = .ok (.iconst 4, 1) := by decide +kernel
theorem dL_law_1293 : decode cL_law 1293 = .ok (.iadd, 1) := by decide +kernel
theorem dL_law_1294 : decode cL_law 1294 = .ok (.iaload, 1) := by decide +kernel
theorem dL_law_1295 : decode cL_law 1295 = .ok (.invokevirtual 137, 3) := by decide +kernel
theorem dL_law_1298 : decode cL_law 1298 = .ok (.istore 6, 2) := by decide +kernel
theorem dL_law_1300 : decode cL_law 1300 = .ok (.aload_n 2, 1) := by decide +kernel
theorem dL_law_1301 : decode cL_law 1301 = .ok (.invokevirtual 46, 3) := by decide +kernel
theorem dL_law_1304 : decode cL_law 1304 = .ok (.iload 5, 2) := by decide +kernel
theorem dL_law_1306 : decode cL_law 1306 = .ok (.if_icmp .eq 5, 3) := by decide +kernel
theorem dL_law_1311 : decode cL_law 1311 = .ok (.iload 5, 2) := by decide +kernel
theorem dL_law_1313 : decode cL_law 1313 = .ok (.ifCond .ne 15, 3) := by decide +kernel
theorem dL_law_1316 : decode cL_law 1316 = .ok (.aload_n 3, 1) := by decide +kernel
theorem dL_law_1317 : decode cL_law 1317 = .ok (.iconst 0, 1) := by decide +kernel
theorem dL_law_1318 : decode cL_law 1318 = .ok (.laload, 1) := by decide +kernel
theorem dL_law_1319 : decode cL_law 1319 = .ok (.iload 6, 2) := by decide +kernel
theorem dL_law_1321 : decode cL_law 1321 = .ok (.i2l, 1) := by decide +kernel
theorem dL_law_1322 : decode cL_law 1322 = .ok (.lcmp, 1) := by decide +kernel
theorem dL_law_1323 : decode cL_law 1323 = .ok (.ifCond .eq 5, 3) := by decide +kernel
theorem dL_law_1328 : decode cL_law 1328 = .ok (.goto 622, 3) := by decide +kernel
set_option maxRecDepth 100000 in
set_option maxHeartbeats 4000000 in
theorem wl_bound {p : Program} {l : Launch} {e : Env} {R : Room} {s : State} {m : MethodId} {args : Array Value} {below : List Frame} {meth : Method} {c : Code} {H : Heap} {locs : List Loc} {cells slots : Nat} {Q : State → Prop} {D : cG} {S S0 : cSt} {ls : Array Slot} {cM : ClassId} {iS : Nat → Nat} {cI cZ : ClassId} {mo : Nat} {ad : Nat → Nat} {oa : Nat} {cL : ClassId} {M : mSt} {o : Int64} {b L x0 : Nat} {xs : Nat → Int32} {i : Int32} {I I' : cSt → mSt → Prop} (hz : lC_z I') (C : cY p R s m args meth c RL cL_law 7 2048 600128 7301098 84000 (some .boolean)) (X : lX l D S0 cM iS cI cZ mo ad cL b L xs s) (hK : lC_k x0 I) (hI : lC_bound x0 I I') (hJ : lJ D S0 cM iS cI cZ mo ad oa cL s S M o H locs) (hi : I S M) (hin : lIn i L) (hce : cells + 2201 ≤ 600128 ∧ slots + 101882 ≤ 7301098) (hl : lv_has ls 7 [(0, .ref b), (1, .ref x0), (2, .ref mo), (3, .ref oa), (4, .int i)]) (kk : ∀ (S1 : cSt) (M1 : mSt) (o1 : Int64) (H1 : Heap) (locs1 : List Loc) (ls1 : Array Slot), I' S1 M1 → lJ D S0 cM iS cI cZ mo ad oa cL s S1 M1 o1 H1 locs1 → lv_has ls1 7 [(0, .ref b), (1, .ref x0), (2, .ref mo), (3, .ref oa), (4, .int i)] → W p l e R s m args below meth c H1 locs1 (cells + 2201) (slots + 101882) Q (F0 m 1950 ls1 [])) : W p l e R s m args below meth c H locs cells slots Q (F0 m 1239 ls []) := by
  obtain ⟨tg, r, S1, r2, M1, h1, h2, h3, hi1⟩ := hI S M (xs (i + (1 : Int32)).toNatClampNeg) (xs (i + (2 : Int32)).toNatClampNeg) (xs (i + (3 : Int32)).toNatClampNeg) (xs (i + (4 : Int32)).toNatClampNeg) hi
  refine lv_aload_n C.1 C.2.1 dL_law_1239 rfl (lv_at hl 1 rfl) ?_
  refine lv_aload_n C.1 C.2.1 dL_law_1240 rfl (lv_at hl 0 rfl) ?_
  refine lv_iload C.1 C.2.1 dL_law_1241 (lv_at hl 4 rfl) ?_
  refine lv_iconst (v := 1) C.1 C.2.1 dL_law_1243 (by decide) ?_
  refine lv_iadd C.1 C.2.1 dL_law_1244 ?_
  refine l_sld C X hJ hin.2.1 dL_law_1245 ?_
  refine lv_aload_n C.1 C.2.1 dL_law_1246 rfl (lv_at hl 0 rfl) ?_
  refine lv_iload C.1 C.2.1 dL_law_1247 (lv_at hl 4 rfl) ?_
  refine lv_iconst (v := 2) C.1 C.2.1 dL_law_1249 (by decide) ?_
  refine lv_iadd C.1 C.2.1 dL_law_1250 ?_
  refine l_sld C X hJ hin.2.2.1 dL_law_1251 ?_
  refine lv_aload_n C.1 C.2.1 dL_law_1252 rfl (lv_at hl 0 rfl) ?_
  refine lv_iload C.1 C.2.1 dL_law_1253 (lv_at hl 4 rfl) ?_
  refine lv_iconst (v := 3) C.1 C.2.1 dL_law_1255 (by decide) ?_
  refine lv_iadd C.1 C.2.1 dL_law_1256 ?_
  refine l_sld C X hJ hin.2.2.2.1 dL_law_1257 ?_
  refine lv_aload_n C.1 C.2.1 dL_law_1258 rfl (lv_at hl 0 rfl) ?_
  refine lv_iload C.1 C.2.1 dL_law_1259 (lv_at hl 4 rfl) ?_
  refine lv_iconst (v := 4) C.1 C.2.1 dL_law_1261 (by decide) ?_
  refine lv_iadd C.1 C.2.1 dL_law_1262 ?_
  refine l_sld C X hJ hin.2.2.2.2.1 dL_law_1263 ?_
  refine lv_aload_n C.1 C.2.1 dL_law_1264 rfl (lv_at hl 3 rfl) ?_
  refine l_help (rest := []) (hh := hhL_bound) (k := lkv tg) (o1 := if tg = 0 then Int32.toInt64 r else o) (G := lG tg S1) C X hJ hl.1 [.ref x0, .int (xs (i + (1 : Int32)).toNatClampNeg), .int (xs (i + (2 : Int32)).toNatClampNeg), .int (xs (i + (3 : Int32)).toNatClampNeg), .int (xs (i + (4 : Int32)).toNatClampNeg), .ref oa] (tl_bound l X.1 h1 (h3.elim (fun q => Or.inl q.1) (fun q => Or.inr q.1)) (hK S M hi) hJ.2.2.2.2.1 (lD X hJ)) (fun U hU hWm => lPk_of X hJ hU hWm) cwL_135 rfl ⟨by decide, by decide⟩ ⟨by omega, by omega⟩ rfl (Nat.le_of_ble_eq_true rfl) dL_law_1265 (fun H locs S2 hG hJ => ?_)
  have hi2 : I' S2 M1 := lG_I hz hG hi1
  refine W.eq (g2 := F0 m 1268 ls [.int (lkv tg)]) rfl ?_
  refine lv_istore (lv' := [(5, .int (lkv tg)), (0, .ref b), (1, .ref x0), (2, .ref mo), (3, .ref oa), (4, .int i)]) C.1 C.2.1 dL_law_1268 hl (by decide) rfl (fun ls hl => ?_)
  refine lv_aload_n C.1 C.2.1 dL_law_1270 rfl (lv_at hl 3 rfl) ?_
  refine lv_aload_n C.1 C.2.1 dL_law_1271 rfl (lv_at hl 1 rfl) ?_
  refine lv_iload C.1 C.2.1 dL_law_1272 (lv_at hl 5 rfl) ?_
  refine lv_iconst (v := 1) C.1 C.2.1 dL_law_1274 (by decide) ?_
  refine lv_iadd C.1 C.2.1 dL_law_1275 ?_
  refine l_sld C X hJ hin.2.1 dL_law_1276 ?_
  refine lv_aload_n C.1 C.2.1 dL_law_1277 rfl (lv_at hl 1 rfl) ?_
  refine lv_iload C.1 C.2.1 dL_law_1278 (lv_at hl 5 rfl) ?_
  refine lv_iconst (v := 2) C.1 C.2.1 dL_law_1280 (by decide) ?_
  refine lv_iadd C.1 C.2.1 dL_law_1281 ?_
  refine l_sld C X hJ hin.2.2.1 dL_law_1282 ?_
  refine lv_aload_n C.1 C.2.1 dL_law_1283 rfl (lv_at hl 1 rfl) ?_
  refine lv_iload C.1 C.2.1 dL_law_1284 (lv_at hl 5 rfl) ?_
  refine lv_iconst (v := 3) C.1 C.2.1 dL_law_1286 (by decide) ?_
  refine lv_iadd C.1 C.2.1 dL_law_1287 ?_
  refine l_sld C X hJ hin.2.2.2.1 dL_law_1288 ?_
  refine lv_aload_n C.1 C.2.1 dL_law_1289 rfl (lv_at hl 1 rfl) ?_
  refine lv_iload C.1 C.2.1 dL_law_1290 (lv_at hl 5 rfl) ?_
  refine lv_iconst (v := 4) C.1 C.2.1 dL_law_1292 (by decide) ?_
  refine lv_iadd C.1 C.2.1 dL_law_1293 ?_
  refine l_sld C X hJ hin.2.2.2.2.1 dL_law_1294 ?_
  refine l_mW (rest := []) C X hJ hl.1 [.int (xs (i + (1 : Int32)).toNatClampNeg), .int (xs (i + (2 : Int32)).toNatClampNeg), .int (xs (i + (3 : Int32)).toNatClampNeg), .int (xs (i + (4 : Int32)).toNatClampNeg)] (tm_bound l h2) cwL_137 imL_bound slL_bound rfl ⟨by decide, by decide⟩ ⟨by omega, by omega⟩ rfl (Nat.le_of_ble_eq_true rfl) dL_law_1295 (fun H locs hJ => ?_)
  refine W.eq (g2 := F0 m 1298 ls [.int r2]) rfl ?_
  refine lv_istore (lv' := [(6, .int r2), (5, .int (lkv tg)), (0, .ref b), (1, .ref x0), (2, .ref mo), (3, .ref oa), (4, .int i)]) C.1 C.2.1 dL_law_1298 hl (by decide) rfl (fun ls hl => ?_)
  refine lv_aload_n C.1 C.2.1 dL_law_1300 rfl (lv_at hl 4 rfl) ?_
  refine l_mR (rest := []) C X hJ hl.1 [] (tm_thrown l (show fm_thrown M1 = some (M1.1 0) from rfl)) cwL_46 imL_thrown slL_thrown rfl ⟨by decide, by decide⟩ ⟨by omega, by omega⟩ rfl (Nat.le_of_ble_eq_true rfl) dL_law_1301 ?_
  refine W.eq (g2 := F0 m 1304 ls [.int (M1.1 0)]) rfl ?_
  refine lv_iload C.1 C.2.1 dL_law_1304 (lv_at hl 1 rfl) ?_
  have hth : M1.1 0 = lkv tg := by
    rcases h3 with ⟨q, q1, -⟩ | ⟨q, q1⟩ <;> (rw [q1, q]; rfl)
  refine lv_icmp_eq (tgt := 1311) C.1 C.2.1 dL_law_1306 (by decide) (fun _ => ?_) (fun h9 => absurd hth h9)
  refine lv_iload C.1 C.2.1 dL_law_1311 (lv_at hl 1 rfl) ?_
  have kf : W p l e R s m args below meth c H locs (cells + 1) (slots + 6) Q (F0 m 1328 ls []) := by
    refine lv_goto (tgt := 1950) C.1 C.2.1 dL_law_1328 (by decide) ?_
    refine W.widen (k := cells + 2201) (n := slots + 101882) (by omega) (by omega) ?_
    exact kk S2 M1 _ H locs ls hi2 hJ (lv_sub hl [2, 3, 4, 5, 6] rfl)
  refine lv_if_ne (tgt := 1328) C.1 C.2.1 dL_law_1313 (by decide) (fun _ => kf) (fun h9 => ?_)
  have ht0 : tg = 0 := by
    rcases h3 with ⟨q, -⟩ | ⟨q, -⟩
    · exact q
    · rw [q] at h9; exact absurd h9 (by decide)
  have hr2 : r2 = r := by
    rcases h3 with ⟨-, -, q⟩ | ⟨q, -⟩
    · exact q
    · rw [ht0] at q; cases q
  subst hr2
  refine lv_aload_n C.1 C.2.1 dL_law_1316 rfl (lv_at hl 5 rfl) ?_
  refine lv_iconst (v := 0) C.1 C.2.1 dL_law_1317 (by decide) ?_
  refine l_lald C X.2.2.2.2.2.2.2 hJ.2.2.1 dL_law_1318 ?_
  refine lv_iload C.1 C.2.1 dL_law_1319 (lv_at hl 0 rfl) ?_
  refine lv_i2l (v := Int32.toInt64 r2) C.1 C.2.1 dL_law_1321 rfl ?_
  refine W.lcmp C.1 C.2.1 dL_law_1322 ?_
  refine lv_if_eq (tgt := 1328) C.1 C.2.1 dL_law_1323 (by decide) (fun _ => kf) (fun h9 => absurd (by rw [if_pos ht0]; exact lcmp_rf _) h9)
theorem dL_law_1331 : decode cL_law 1331 = .ok (.aload_n 1, 1) := by decide +kernel
theorem dL_law_1332 : decode cL_law 1332 = .ok (.aload_n 0, 1) := by decide +kernel
theorem dL_law_1333 : decode cL_law 1333 = .ok (.iload 4, 2) := by decide +kernel
theorem dL_law_1335 : decode cL_law 1335 = .ok (.iconst 1, 1) := by decide +kernel
theorem dL_law_1336 : decode cL_law 1336 = .ok (.iadd, 1) := by decide +kernel
theorem dL_law_1337 : decode cL_law 1337 = .ok (.iaload, 1) := by decide +kernel
theorem dL_law_1338 : decode cL_law 1338 = .ok (.aload_n 0, 1) := by decide +kernel
theorem dL_law_1339 : decode cL_law 1339 = .ok (.iload 4, 2) := by decide +kernel
theorem dL_law_1341 : decode cL_law 1341 = .ok (.iconst 2, 1) := by decide +kernel
theorem dL_law_1342 : decode cL_law 1342 = .ok (.iadd, 1) := by decide +kernel
theorem dL_law_1343 : decode cL_law 1343 = .ok (.iaload, 1) := by decide +kernel
theorem dL_law_1344 : decode cL_law 1344 = .ok (.aload_n 0, 1) := by decide +kernel
theorem dL_law_1345 : decode cL_law 1345 = .ok (.iload 4, 2) := by decide +kernel
theorem dL_law_1347 : decode cL_law 1347 = .ok (.iconst 3, 1) := by decide +kernel
theorem dL_law_1348 : decode cL_law 1348 = .ok (.iadd, 1) := by decide +kernel
theorem dL_law_1349 : decode cL_law 1349 = .ok (.iaload, 1) := by decide +kernel
theorem dL_law_1350 : decode cL_law 1350 = .ok (.aload_n 0, 1) := by decide +kernel
theorem dL_law_1351 : decode cL_law 1351 = .ok (.iload 4, 2) := by decide +kernel
theorem dL_law_1353 : decode cL_law 1353 = .ok (.iconst 4, 1) := by decide +kernel
theorem dL_law_1354 : decode cL_law 1354 = .ok (.iadd, 1) := by decide +kernel
theorem dL_law_1355 : decode cL_law 1355 = .ok (.iaload, 1) := by decide +kernel
theorem dL_law_1356 : decode cL_law 1356 = .ok (.invokevirtual 138, 3) := by decide +kernel
theorem dL_law_1359 : decode cL_law 1359 = .ok (.aload_n 2, 1) := by decide +kernel
theorem dL_law_1360 : decode cL_law 1360 = .ok (.aload_n 0, 1) := by decide +kernel
theorem dL_law_1361 : decode cL_law 1361 = .ok (.iload 4, 2) := by decide +kernel
theorem dL_law_1363 : decode cL_law 1363 = .ok (.iconst 1, 1) := by decide +kernel
theorem dL_law_1364 : decode cL_law 1364 = .ok (.iadd, 1) := by decide +kernel
theorem dL_law_1365 : decode cL_law 1365 = .ok (.iaload, 1) := by decide +kernel
theorem dL_law_1366 : decode cL_law 1366 = .ok (.aload_n 0, 1) := by decide +kernel
theorem dL_law_1367 : decode cL_law 1367 = .ok (.iload 4, 2) := by decide +kernel
theorem dL_law_1369 : decode cL_law 1369 = .ok (.iconst 2, 1) := by decide +kernel
theorem dL_law_1370 : decode cL_law 1370 = .ok (.iadd, 1) := by decide +kernel
theorem dL_law_1371 : decode cL_law 1371 = .ok (.iaload, 1) := by decide +kernel
theorem dL_law_1372 : decode cL_law 1372 = .ok (.aload_n 0, 1) := by decide +kernel
theorem dL_law_1373 : decode cL_law 1373 = .ok (.iload 4, 2) := by decide +kernel
theorem dL_law_1375 : decode cL_law 1375 = .ok (.iconst 3, 1) := by decide +kernel
theorem dL_law_1376 : decode cL_law 1376 = .ok (.iadd, 1) := by decide +kernel
theorem dL_law_1377 : decode cL_law 1377 = .ok (.iaload, 1) := by decide +kernel
theorem dL_law_1378 : decode cL_law 1378 = .ok (.aload_n 0, 1) := by decide +kernel
theorem dL_law_1379 : decode cL_law 1379 = .ok (.iload 4, 2) := by decide +kernel
theorem dL_law_1381 : decode cL_law 1381 = .ok (.iconst 4, 1) := by decide +kernel
theorem dL_law_1382 : decode cL_law 1382 = .ok (.iadd, 1) := by decide +kernel
theorem dL_law_1383 : decode cL_law 1383 = .ok (.iaload, 1) := by decide +kernel
theorem dL_law_1384 : decode cL_law 1384 = .ok (.invokevirtual 141, 3) := by decide +kernel
theorem dL_law_1387 : decode cL_law 1387 = .ok (.if_icmp .eq 563, 3) := by decide +kernel
set_option maxRecDepth 100000 in
set_option maxHeartbeats 4000000 in
theorem wl_by {p : Program} {l : Launch} {e : Env} {R : Room} {s : State} {m : MethodId} {args : Array Value} {below : List Frame} {meth : Method} {c : Code} {H : Heap} {locs : List Loc} {cells slots : Nat} {Q : State → Prop} {D : cG} {S S0 : cSt} {ls : Array Slot} {cM : ClassId} {iS : Nat → Nat} {cI cZ : ClassId} {mo : Nat} {ad : Nat → Nat} {oa : Nat} {cL : ClassId} {M : mSt} {o : Int64} {b L x0 : Nat} {xs : Nat → Int32} {i : Int32} {I I' : cSt → mSt → Prop} (C : cY p R s m args meth c RL cL_law 7 2048 600128 7301098 84000 (some .boolean)) (X : lX l D S0 cM iS cI cZ mo ad cL b L xs s) (hK : lC_k x0 I) (hI : lC_by x0 I I') (hJ : lJ D S0 cM iS cI cZ mo ad oa cL s S M o H locs) (hi : I S M) (hin : lIn i L) (hce : cells + 2201 ≤ 600128 ∧ slots + 101882 ≤ 7301098) (hl : lv_has ls 7 [(0, .ref b), (1, .ref x0), (2, .ref mo), (3, .ref oa), (4, .int i)]) (kk : ∀ (S1 : cSt) (M1 : mSt) (o1 : Int64) (H1 : Heap) (locs1 : List Loc) (ls1 : Array Slot), I' S1 M1 → lJ D S0 cM iS cI cZ mo ad oa cL s S1 M1 o1 H1 locs1 → lv_has ls1 7 [(0, .ref b), (1, .ref x0), (2, .ref mo), (3, .ref oa), (4, .int i)] → W p l e R s m args below meth c H1 locs1 (cells + 2201) (slots + 101882) Q (F0 m 1950 ls1 [])) : W p l e R s m args below meth c H locs cells slots Q (F0 m 1331 ls []) := by
  obtain ⟨r, S1, M1, h1, h2, hi1⟩ := hI S M (xs (i + (1 : Int32)).toNatClampNeg) (xs (i + (2 : Int32)).toNatClampNeg) (xs (i + (3 : Int32)).toNatClampNeg) (xs (i + (4 : Int32)).toNatClampNeg) hi
  refine lv_aload_n C.1 C.2.1 dL_law_1331 rfl (lv_at hl 1 rfl) ?_
  refine lv_aload_n C.1 C.2.1 dL_law_1332 rfl (lv_at hl 0 rfl) ?_
  refine lv_iload C.1 C.2.1 dL_law_1333 (lv_at hl 4 rfl) ?_
  refine lv_iconst (v := 1) C.1 C.2.1 dL_law_1335 (by decide) ?_
  refine lv_iadd C.1 C.2.1 dL_law_1336 ?_
  refine l_sld C X hJ hin.2.1 dL_law_1337 ?_
  refine lv_aload_n C.1 C.2.1 dL_law_1338 rfl (lv_at hl 0 rfl) ?_
  refine lv_iload C.1 C.2.1 dL_law_1339 (lv_at hl 4 rfl) ?_
  refine lv_iconst (v := 2) C.1 C.2.1 dL_law_1341 (by decide) ?_
  refine lv_iadd C.1 C.2.1 dL_law_1342 ?_
  refine l_sld C X hJ hin.2.2.1 dL_law_1343 ?_
  refine lv_aload_n C.1 C.2.1 dL_law_1344 rfl (lv_at hl 0 rfl) ?_
  refine lv_iload C.1 C.2.1 dL_law_1345 (lv_at hl 4 rfl) ?_
  refine lv_iconst (v := 3) C.1 C.2.1 dL_law_1347 (by decide) ?_
  refine lv_iadd C.1 C.2.1 dL_law_1348 ?_
  refine l_sld C X hJ hin.2.2.2.1 dL_law_1349 ?_
  refine lv_aload_n C.1 C.2.1 dL_law_1350 rfl (lv_at hl 0 rfl) ?_
  refine lv_iload C.1 C.2.1 dL_law_1351 (lv_at hl 4 rfl) ?_
  refine lv_iconst (v := 4) C.1 C.2.1 dL_law_1353 (by decide) ?_
  refine lv_iadd C.1 C.2.1 dL_law_1354 ?_
  refine l_sld C X hJ hin.2.2.2.2.1 dL_law_1355 ?_
  refine l_cW (rest := []) C X hJ hl.1 (hK S M hi) [.int (xs (i + (1 : Int32)).toNatClampNeg), .int (xs (i + (2 : Int32)).toNatClampNeg), .int (xs (i + (3 : Int32)).toNatClampNeg), .int (xs (i + (4 : Int32)).toNatClampNeg)] (tk_11_by l h1) cwL_138 ki_11_by kl_11_by rfl ⟨by decide, by decide⟩ ⟨by omega, by omega⟩ rfl (Nat.le_of_ble_eq_true rfl) dL_law_1356 (fun H locs hJ => ?_)
  refine W.eq (g2 := F0 m 1359 ls [.int r]) rfl ?_
  refine lv_aload_n C.1 C.2.1 dL_law_1359 rfl (lv_at hl 2 rfl) ?_
  refine lv_aload_n C.1 C.2.1 dL_law_1360 rfl (lv_at hl 0 rfl) ?_
  refine lv_iload C.1 C.2.1 dL_law_1361 (lv_at hl 4 rfl) ?_
  refine lv_iconst (v := 1) C.1 C.2.1 dL_law_1363 (by decide) ?_
  refine lv_iadd C.1 C.2.1 dL_law_1364 ?_
  refine l_sld C X hJ hin.2.1 dL_law_1365 ?_
  refine lv_aload_n C.1 C.2.1 dL_law_1366 rfl (lv_at hl 0 rfl) ?_
  refine lv_iload C.1 C.2.1 dL_law_1367 (lv_at hl 4 rfl) ?_
  refine lv_iconst (v := 2) C.1 C.2.1 dL_law_1369 (by decide) ?_
  refine lv_iadd C.1 C.2.1 dL_law_1370 ?_
  refine l_sld C X hJ hin.2.2.1 dL_law_1371 ?_
  refine lv_aload_n C.1 C.2.1 dL_law_1372 rfl (lv_at hl 0 rfl) ?_
  refine lv_iload C.1 C.2.1 dL_law_1373 (lv_at hl 4 rfl) ?_
  refine lv_iconst (v := 3) C.1 C.2.1 dL_law_1375 (by decide) ?_
  refine lv_iadd C.1 C.2.1 dL_law_1376 ?_
  refine l_sld C X hJ hin.2.2.2.1 dL_law_1377 ?_
  refine lv_aload_n C.1 C.2.1 dL_law_1378 rfl (lv_at hl 0 rfl) ?_
  refine lv_iload C.1 C.2.1 dL_law_1379 (lv_at hl 4 rfl) ?_
  refine lv_iconst (v := 4) C.1 C.2.1 dL_law_1381 (by decide) ?_
  refine lv_iadd C.1 C.2.1 dL_law_1382 ?_
  refine l_sld C X hJ hin.2.2.2.2.1 dL_law_1383 ?_
  refine l_mW (rest := [.int r]) C X hJ hl.1 [.int (xs (i + (1 : Int32)).toNatClampNeg), .int (xs (i + (2 : Int32)).toNatClampNeg), .int (xs (i + (3 : Int32)).toNatClampNeg), .int (xs (i + (4 : Int32)).toNatClampNeg)] (tm_by l h2) cwL_141 imL_by slL_by rfl ⟨by decide, by decide⟩ ⟨by omega, by omega⟩ rfl (Nat.le_of_ble_eq_true rfl) dL_law_1384 (fun H locs hJ => ?_)
  refine W.eq (g2 := F0 m 1387 ls [.int r, .int r]) rfl ?_
  refine lv_icmp_eq (tgt := 1950) C.1 C.2.1 dL_law_1387 (by decide) (fun _ => ?_) (fun h9 => absurd rfl h9)
  refine W.widen (k := cells + 2201) (n := slots + 101882) (by omega) (by omega) ?_
  exact kk S1 M1 o H locs ls hi1 hJ hl
theorem dL_law_1392 : decode cL_law 1392 = .ok (.aload_n 1, 1) := by decide +kernel
theorem dL_law_1393 : decode cL_law 1393 = .ok (.aload_n 0, 1) := by decide +kernel
theorem dL_law_1394 : decode cL_law 1394 = .ok (.iload 4, 2) := by decide +kernel
theorem dL_law_1396 : decode cL_law 1396 = .ok (.iconst 1, 1) := by decide +kernel
theorem dL_law_1397 : decode cL_law 1397 = .ok (.iadd, 1) := by decide +kernel
theorem dL_law_1398 : decode cL_law 1398 = .ok (.iaload, 1) := by decide +kernel
theorem dL_law_1399 : decode cL_law 1399 = .ok (.aload_n 0, 1) := by decide +kernel
theorem dL_law_1400 : decode cL_law 1400 = .ok (.iload 4, 2) := by decide +kernel
theorem dL_law_1402 : decode cL_law 1402 = .ok (.iconst 2, 1) := by decide +kernel
theorem dL_law_1403 : decode cL_law 1403 = .ok (.iadd, 1) := by decide +kernel
theorem dL_law_1404 : decode cL_law 1404 = .ok (.iaload, 1) := by decide +kernel
theorem dL_law_1405 : decode cL_law 1405 = .ok (.invokevirtual 142, 3) := by decide +kernel
theorem dL_law_1408 : decode cL_law 1408 = .ok (.aload_n 2, 1) := by decide +kernel
theorem dL_law_1409 : decode cL_law 1409 = .ok (.aload_n 0, 1) := by decide +kernel
theorem dL_law_1410 : decode cL_law 1410 = .ok (.iload 4, 2) := by decide +kernel
theorem dL_law_1412 : decode cL_law 1412 = .ok (.iconst 1, 1) := by decide +kernel
theorem dL_law_1413 : decode cL_law 1413 = .ok (.iadd, 1) := by decide +kernel
theorem dL_law_1414 : decode cL_law 1414 = .ok (.iaload, 1) := by decide +kernel
theorem dL_law_1415 : decode cL_law 1415 = .ok (.aload_n 0, 1) := by decide +kernel
theorem dL_law_1416 : decode cL_law 1416 = .ok (.iload 4, 2) := by decide +kernel
theorem dL_law_1418 : decode cL_law 1418 = .ok (.iconst 2, 1) := by decide +kernel
theorem dL_law_1419 : decode cL_law 1419 = .ok (.iadd, 1) := by decide +kernel
theorem dL_law_1420 : decode cL_law 1420 = .ok (.iaload, 1) := by decide +kernel
theorem dL_law_1421 : decode cL_law 1421 = .ok (.invokevirtual 145, 3) := by decide +kernel
theorem dL_law_1424 : decode cL_law 1424 = .ok (.if_icmp .eq 526, 3) := by decide +kernel
set_option maxRecDepth 100000 in
set_option maxHeartbeats 4000000 in
theorem wl_list {p : Program} {l : Launch} {e : Env} {R : Room} {s : State} {m : MethodId} {args : Array Value} {below : List Frame} {meth : Method} {c : Code} {H : Heap} {locs : List Loc} {cells slots : Nat} {Q : State → Prop} {D : cG} {S S0 : cSt} {ls : Array Slot} {cM : ClassId} {iS : Nat → Nat} {cI cZ : ClassId} {mo : Nat} {ad : Nat → Nat} {oa : Nat} {cL : ClassId} {M : mSt} {o : Int64} {b L x0 : Nat} {xs : Nat → Int32} {i : Int32} {I I' : cSt → mSt → Prop} (C : cY p R s m args meth c RL cL_law 7 2048 600128 7301098 84000 (some .boolean)) (X : lX l D S0 cM iS cI cZ mo ad cL b L xs s) (hK : lC_k x0 I) (hI : lC_list x0 I I') (hJ : lJ D S0 cM iS cI cZ mo ad oa cL s S M o H locs) (hi : I S M) (hin : lIn i L) (hce : cells + 2201 ≤ 600128 ∧ slots + 101882 ≤ 7301098) (hl : lv_has ls 7 [(0, .ref b), (1, .ref x0), (2, .ref mo), (3, .ref oa), (4, .int i)]) (kk : ∀ (S1 : cSt) (M1 : mSt) (o1 : Int64) (H1 : Heap) (locs1 : List Loc) (ls1 : Array Slot), I' S1 M1 → lJ D S0 cM iS cI cZ mo ad oa cL s S1 M1 o1 H1 locs1 → lv_has ls1 7 [(0, .ref b), (1, .ref x0), (2, .ref mo), (3, .ref oa), (4, .int i)] → W p l e R s m args below meth c H1 locs1 (cells + 2201) (slots + 101882) Q (F0 m 1950 ls1 [])) : W p l e R s m args below meth c H locs cells slots Q (F0 m 1392 ls []) := by
  obtain ⟨r, M1, h1, h2, hi1⟩ := hI S M (xs (i + (1 : Int32)).toNatClampNeg) (xs (i + (2 : Int32)).toNatClampNeg) hi
  refine lv_aload_n C.1 C.2.1 dL_law_1392 rfl (lv_at hl 1 rfl) ?_
  refine lv_aload_n C.1 C.2.1 dL_law_1393 rfl (lv_at hl 0 rfl) ?_
  refine lv_iload C.1 C.2.1 dL_law_1394 (lv_at hl 4 rfl) ?_
  refine lv_iconst (v := 1) C.1 C.2.1 dL_law_1396 (by decide) ?_
  refine lv_iadd C.1 C.2.1 dL_law_1397 ?_
  refine l_sld C X hJ hin.2.1 dL_law_1398 ?_
  refine lv_aload_n C.1 C.2.1 dL_law_1399 rfl (lv_at hl 0 rfl) ?_
  refine lv_iload C.1 C.2.1 dL_law_1400 (lv_at hl 4 rfl) ?_
  refine lv_iconst (v := 2) C.1 C.2.1 dL_law_1402 (by decide) ?_
  refine lv_iadd C.1 C.2.1 dL_law_1403 ?_
  refine l_sld C X hJ hin.2.2.1 dL_law_1404 ?_
  refine l_cR (rest := []) C X hJ hl.1 (hK S M hi) [.int (xs (i + (1 : Int32)).toNatClampNeg), .int (xs (i + (2 : Int32)).toNatClampNeg)] (tk_11_list l h1) cwL_142 ki_11_list kl_11_list rfl ⟨by decide, by decide⟩ ⟨by omega, by omega⟩ rfl (Nat.le_of_ble_eq_true rfl) dL_law_1405 ?_
  refine W.eq (g2 := F0 m 1408 ls [.int r]) rfl ?_
  refine lv_aload_n C.1 C.2.1 dL_law_1408 rfl (lv_at hl 2 rfl) ?_
  refine lv_aload_n C.1 C.2.1 dL_law_1409 rfl (lv_at hl 0 rfl) ?_
  refine lv_iload C.1 C.2.1 dL_law_1410 (lv_at hl 4 rfl) ?_
  refine lv_iconst (v := 1) C.1 C.2.1 dL_law_1412 (by decide) ?_
  refine lv_iadd C.1 C.2.1 dL_law_1413 ?_
  refine l_sld C X hJ hin.2.1 dL_law_1414 ?_
  refine lv_aload_n C.1 C.2.1 dL_law_1415 rfl (lv_at hl 0 rfl) ?_
  refine lv_iload C.1 C.2.1 dL_law_1416 (lv_at hl 4 rfl) ?_
  refine lv_iconst (v := 2) C.1 C.2.1 dL_law_1418 (by decide) ?_
  refine lv_iadd C.1 C.2.1 dL_law_1419 ?_
  refine l_sld C X hJ hin.2.2.1 dL_law_1420 ?_
  refine l_mW (rest := [.int r]) C X hJ hl.1 [.int (xs (i + (1 : Int32)).toNatClampNeg), .int (xs (i + (2 : Int32)).toNatClampNeg)] (tm_list l h2) cwL_145 imL_list slL_list rfl ⟨by decide, by decide⟩ ⟨by omega, by omega⟩ rfl (Nat.le_of_ble_eq_true rfl) dL_law_1421 (fun H locs hJ => ?_)
  refine W.eq (g2 := F0 m 1424 ls [.int r, .int r]) rfl ?_
  refine lv_icmp_eq (tgt := 1950) C.1 C.2.1 dL_law_1424 (by decide) (fun _ => ?_) (fun h9 => absurd rfl h9)
  refine W.widen (k := cells + 2201) (n := slots + 101882) (by omega) (by omega) ?_
  exact kk S M1 o H locs ls hi1 hJ hl
theorem dL_law_1429 : decode cL_law 1429 = .ok (.aload_n 1, 1) := by decide +kernel
theorem dL_law_1430 : decode cL_law 1430 = .ok (.aload_n 0, 1) := by decide +kernel
theorem dL_law_1431 : decode cL_law 1431 = .ok (.iload 4, 2) := by decide +kernel
theorem dL_law_1433 : decode cL_law 1433 = .ok (.iconst 1, 1) := by decide +kernel
theorem dL_law_1434 : decode cL_law 1434 = .ok (.iadd, 1) := by decide +kernel
theorem dL_law_1435 : decode cL_law 1435 = .ok (.iaload, 1) := by decide +kernel
theorem dL_law_1436 : decode cL_law 1436 = .ok (.aload_n 0, 1) := by decide +kernel
theorem dL_law_1437 : decode cL_law 1437 = .ok (.iload 4, 2) := by decide +kernel
theorem dL_law_1439 : decode cL_law 1439 = .ok (.iconst 2, 1) := by decide +kernel
theorem dL_law_1440 : decode cL_law 1440 = .ok (.iadd, 1) := by decide +kernel
theorem dL_law_1441 : decode cL_law 1441 = .ok (.iaload, 1) := by decide +kernel
theorem dL_law_1442 : decode cL_law 1442 = .ok (.aload_n 0, 1) := by decide +kernel
theorem dL_law_1443 : decode cL_law 1443 = .ok (.iload 4, 2) := by decide +kernel
theorem dL_law_1445 : decode cL_law 1445 = .ok (.iconst 3, 1) := by decide +kernel
theorem dL_law_1446 : decode cL_law 1446 = .ok (.iadd, 1) := by decide +kernel
theorem dL_law_1447 : decode cL_law 1447 = .ok (.iaload, 1) := by decide +kernel
theorem dL_law_1448 : decode cL_law 1448 = .ok (.aload_n 0, 1) := by decide +kernel
theorem dL_law_1449 : decode cL_law 1449 = .ok (.iload 4, 2) := by decide +kernel
theorem dL_law_1451 : decode cL_law 1451 = .ok (.iconst 4, 1) := by decide +kernel
theorem dL_law_1452 : decode cL_law 1452 = .ok (.iadd, 1) := by decide +kernel
theorem dL_law_1453 : decode cL_law 1453 = .ok (.iaload, 1) := by decide +kernel
theorem dL_law_1454 : decode cL_law 1454 = .ok (.aload_n 0, 1) := by decide +kernel
theorem dL_law_1455 : decode cL_law 1455 = .ok (.iload 4, 2) := by decide +kernel
theorem dL_law_1457 : decode cL_law 1457 = .ok (.iconst 5, 1) := by decide +kernel
theorem dL_law_1458 : decode cL_law 1458 = .ok (.iadd, 1) := by decide +kernel
theorem dL_law_1459 : decode cL_law 1459 = .ok (.iaload, 1) := by decide +kernel
theorem dL_law_1460 : decode cL_law 1460 = .ok (.invokevirtual 146, 3) := by decide +kernel
theorem dL_law_1463 : decode cL_law 1463 = .ok (.aload_n 2, 1) := by decide +kernel
theorem dL_law_1464 : decode cL_law 1464 = .ok (.aload_n 0, 1) := by decide +kernel
theorem dL_law_1465 : decode cL_law 1465 = .ok (.iload 4, 2) := by decide +kernel
theorem dL_law_1467 : decode cL_law 1467 = .ok (.iconst 1, 1) := by decide +kernel
theorem dL_law_1468 : decode cL_law 1468 = .ok (.iadd, 1) := by decide +kernel
theorem dL_law_1469 : decode cL_law 1469 = .ok (.iaload, 1) := by decide +kernel
theorem dL_law_1470 : decode cL_law 1470 = .ok (.aload_n 0, 1) := by decide +kernel
theorem dL_law_1471 : decode cL_law 1471 = .ok (.iload 4, 2) := by decide +kernel
theorem dL_law_1473 : decode cL_law 1473 = .ok (.iconst 2, 1) := by decide +kernel
theorem dL_law_1474 : decode cL_law 1474 = .ok (.iadd, 1) := by decide +kernel
theorem dL_law_1475 : decode cL_law 1475 = .ok (.iaload, 1) := by decide +kernel
theorem dL_law_1476 : decode cL_law 1476 = .ok (.aload_n 0, 1) := by decide +kernel
theorem dL_law_1477 : decode cL_law 1477 = .ok (.iload 4, 2) := by decide +kernel
theorem dL_law_1479 : decode cL_law 1479 = .ok (.iconst 3, 1) := by decide +kernel
theorem dL_law_1480 : decode cL_law 1480 = .ok (.iadd, 1) := by decide +kernel
theorem dL_law_1481 : decode cL_law 1481 = .ok (.iaload, 1) := by decide +kernel
theorem dL_law_1482 : decode cL_law 1482 = .ok (.aload_n 0, 1) := by decide +kernel
theorem dL_law_1483 : decode cL_law 1483 = .ok (.iload 4, 2) := by decide +kernel
theorem dL_law_1485 : decode cL_law 1485 = .ok (.iconst 4, 1) := by decide +kernel
theorem dL_law_1486 : decode cL_law 1486 = .ok (.iadd, 1) := by decide +kernel
theorem dL_law_1487 : decode cL_law 1487 = .ok (.iaload, 1) := by decide +kernel
theorem dL_law_1488 : decode cL_law 1488 = .ok (.aload_n 0, 1) := by decide +kernel
theorem dL_law_1489 : decode cL_law 1489 = .ok (.iload 4, 2) := by decide +kernel
theorem dL_law_1491 : decode cL_law 1491 = .ok (.iconst 5, 1) := by decide +kernel
theorem dL_law_1492 : decode cL_law 1492 = .ok (.iadd, 1) := by decide +kernel
theorem dL_law_1493 : decode cL_law 1493 = .ok (.iaload, 1) := by decide +kernel
theorem dL_law_1494 : decode cL_law 1494 = .ok (.invokevirtual 150, 3) := by decide +kernel
theorem dL_law_1497 : decode cL_law 1497 = .ok (.if_icmp .eq 453, 3) := by decide +kernel
set_option maxRecDepth 100000 in
set_option maxHeartbeats 4000000 in
theorem wl_count {p : Program} {l : Launch} {e : Env} {R : Room} {s : State} {m : MethodId} {args : Array Value} {below : List Frame} {meth : Method} {c : Code} {H : Heap} {locs : List Loc} {cells slots : Nat} {Q : State → Prop} {D : cG} {S S0 : cSt} {ls : Array Slot} {cM : ClassId} {iS : Nat → Nat} {cI cZ : ClassId} {mo : Nat} {ad : Nat → Nat} {oa : Nat} {cL : ClassId} {M : mSt} {o : Int64} {b L x0 : Nat} {xs : Nat → Int32} {i : Int32} {I I' : cSt → mSt → Prop} (C : cY p R s m args meth c RL cL_law 7 2048 600128 7301098 84000 (some .boolean)) (X : lX l D S0 cM iS cI cZ mo ad cL b L xs s) (hK : lC_k x0 I) (hI : lC_count x0 I I') (hJ : lJ D S0 cM iS cI cZ mo ad oa cL s S M o H locs) (hi : I S M) (hin : lIn i L) (hce : cells + 2201 ≤ 600128 ∧ slots + 101882 ≤ 7301098) (hl : lv_has ls 7 [(0, .ref b), (1, .ref x0), (2, .ref mo), (3, .ref oa), (4, .int i)]) (kk : ∀ (S1 : cSt) (M1 : mSt) (o1 : Int64) (H1 : Heap) (locs1 : List Loc) (ls1 : Array Slot), I' S1 M1 → lJ D S0 cM iS cI cZ mo ad oa cL s S1 M1 o1 H1 locs1 → lv_has ls1 7 [(0, .ref b), (1, .ref x0), (2, .ref mo), (3, .ref oa), (4, .int i)] → W p l e R s m args below meth c H1 locs1 (cells + 2201) (slots + 101882) Q (F0 m 1950 ls1 [])) : W p l e R s m args below meth c H locs cells slots Q (F0 m 1429 ls []) := by
  obtain ⟨r, M1, h1, h2, hi1⟩ := hI S M (xs (i + (1 : Int32)).toNatClampNeg) (xs (i + (2 : Int32)).toNatClampNeg) (xs (i + (3 : Int32)).toNatClampNeg) (xs (i + (4 : Int32)).toNatClampNeg) (xs (i + (5 : Int32)).toNatClampNeg) hi
  refine lv_aload_n C.1 C.2.1 dL_law_1429 rfl (lv_at hl 1 rfl) ?_
  refine lv_aload_n C.1 C.2.1 dL_law_1430 rfl (lv_at hl 0 rfl) ?_
  refine lv_iload C.1 C.2.1 dL_law_1431 (lv_at hl 4 rfl) ?_
  refine lv_iconst (v := 1) C.1 C.2.1 dL_law_1433 (by decide) ?_
  refine lv_iadd C.1 C.2.1 dL_law_1434 ?_
  refine l_sld C X hJ hin.2.1 dL_law_1435 ?_
  refine lv_aload_n C.1 C.2.1 dL_law_1436 rfl (lv_at hl 0 rfl) ?_
  refine lv_iload C.1 C.2.1 dL_law_1437 (lv_at hl 4 rfl) ?_
  refine lv_iconst (v := 2) C.1 C.2.1 dL_law_1439 (by decide) ?_
  refine lv_iadd C.1 C.2.1 dL_law_1440 ?_
  refine l_sld C X hJ hin.2.2.1 dL_law_1441 ?_
  refine lv_aload_n C.1 C.2.1 dL_law_1442 rfl (lv_at hl 0 rfl) ?_
  refine lv_iload C.1 C.2.1 dL_law_1443 (lv_at hl 4 rfl) ?_
  refine lv_iconst (v := 3) C.1 C.2.1 dL_law_1445 (by decide) ?_
  refine lv_iadd C.1 C.2.1 dL_law_1446 ?_
  refine l_sld C X hJ hin.2.2.2.1 dL_law_1447 ?_
  refine lv_aload_n C.1 C.2.1 dL_law_1448 rfl (lv_at hl 0 rfl) ?_
  refine lv_iload C.1 C.2.1 dL_law_1449 (lv_at hl 4 rfl) ?_
  refine lv_iconst (v := 4) C.1 C.2.1 dL_law_1451 (by decide) ?_
  refine lv_iadd C.1 C.2.1 dL_law_1452 ?_
  refine l_sld C X hJ hin.2.2.2.2.1 dL_law_1453 ?_
  refine lv_aload_n C.1 C.2.1 dL_law_1454 rfl (lv_at hl 0 rfl) ?_
  refine lv_iload C.1 C.2.1 dL_law_1455 (lv_at hl 4 rfl) ?_
  refine lv_iconst (v := 5) C.1 C.2.1 dL_law_1457 (by decide) ?_
  refine lv_iadd C.1 C.2.1 dL_law_1458 ?_
  refine l_sld C X hJ hin.2.2.2.2.2.1 dL_law_1459 ?_
  refine l_cR (rest := []) C X hJ hl.1 (hK S M hi) [.int (xs (i + (1 : Int32)).toNatClampNeg), .int (xs (i + (2 : Int32)).toNatClampNeg), .int (xs (i + (3 : Int32)).toNatClampNeg), .int (xs (i + (4 : Int32)).toNatClampNeg), .int (xs (i + (5 : Int32)).toNatClampNeg)] (tk_11_count l h1) cwL_146 ki_11_count kl_11_count rfl ⟨by decide, by decide⟩ ⟨by omega, by omega⟩ rfl (Nat.le_of_ble_eq_true rfl) dL_law_1460 ?_
  refine W.eq (g2 := F0 m 1463 ls [.int r]) rfl ?_
  refine lv_aload_n C.1 C.2.1 dL_law_1463 rfl (lv_at hl 2 rfl) ?_
  refine lv_aload_n C.1 C.2.1 dL_law_1464 rfl (lv_at hl 0 rfl) ?_
  refine lv_iload C.1 C.2.1 dL_law_1465 (lv_at hl 4 rfl) ?_
  refine lv_iconst (v := 1) C.1 C.2.1 dL_law_1467 (by decide) ?_
  refine lv_iadd C.1 C.2.1 dL_law_1468 ?_
  refine l_sld C X hJ hin.2.1 dL_law_1469 ?_
  refine lv_aload_n C.1 C.2.1 dL_law_1470 rfl (lv_at hl 0 rfl) ?_
  refine lv_iload C.1 C.2.1 dL_law_1471 (lv_at hl 4 rfl) ?_
  refine lv_iconst (v := 2) C.1 C.2.1 dL_law_1473 (by decide) ?_
  refine lv_iadd C.1 C.2.1 dL_law_1474 ?_
  refine l_sld C X hJ hin.2.2.1 dL_law_1475 ?_
  refine lv_aload_n C.1 C.2.1 dL_law_1476 rfl (lv_at hl 0 rfl) ?_
  refine lv_iload C.1 C.2.1 dL_law_1477 (lv_at hl 4 rfl) ?_
  refine lv_iconst (v := 3) C.1 C.2.1 dL_law_1479 (by decide) ?_
  refine lv_iadd C.1 C.2.1 dL_law_1480 ?_
  refine l_sld C X hJ hin.2.2.2.1 dL_law_1481 ?_
  refine lv_aload_n C.1 C.2.1 dL_law_1482 rfl (lv_at hl 0 rfl) ?_
  refine lv_iload C.1 C.2.1 dL_law_1483 (lv_at hl 4 rfl) ?_
  refine lv_iconst (v := 4) C.1 C.2.1 dL_law_1485 (by decide) ?_
  refine lv_iadd C.1 C.2.1 dL_law_1486 ?_
  refine l_sld C X hJ hin.2.2.2.2.1 dL_law_1487 ?_
  refine lv_aload_n C.1 C.2.1 dL_law_1488 rfl (lv_at hl 0 rfl) ?_
  refine lv_iload C.1 C.2.1 dL_law_1489 (lv_at hl 4 rfl) ?_
  refine lv_iconst (v := 5) C.1 C.2.1 dL_law_1491 (by decide) ?_
  refine lv_iadd C.1 C.2.1 dL_law_1492 ?_
  refine l_sld C X hJ hin.2.2.2.2.2.1 dL_law_1493 ?_
  refine l_mW (rest := [.int r]) C X hJ hl.1 [.int (xs (i + (1 : Int32)).toNatClampNeg), .int (xs (i + (2 : Int32)).toNatClampNeg), .int (xs (i + (3 : Int32)).toNatClampNeg), .int (xs (i + (4 : Int32)).toNatClampNeg), .int (xs (i + (5 : Int32)).toNatClampNeg)] (tm_count l h2) cwL_150 imL_count slL_count rfl ⟨by decide, by decide⟩ ⟨by omega, by omega⟩ rfl (Nat.le_of_ble_eq_true rfl) dL_law_1494 (fun H locs hJ => ?_)
  refine W.eq (g2 := F0 m 1497 ls [.int r, .int r]) rfl ?_
  refine lv_icmp_eq (tgt := 1950) C.1 C.2.1 dL_law_1497 (by decide) (fun _ => ?_) (fun h9 => absurd rfl h9)
  refine W.widen (k := cells + 2201) (n := slots + 101882) (by omega) (by omega) ?_
  exact kk S M1 o H locs ls hi1 hJ hl
theorem dL_law_1502 : decode cL_law 1502 = .ok (.aload_n 1, 1) := by decide +kernel
theorem dL_law_1503 : decode cL_law 1503 = .ok (.aload_n 0, 1) := by decide +kernel
theorem dL_law_1504 : decode cL_law 1504 = .ok (.iload 4, 2) := by decide +kernel
theorem dL_law_1506 : decode cL_law 1506 = .ok (.iconst 1, 1) := by decide +kernel
theorem dL_law_1507 : decode cL_law 1507 = .ok (.iadd, 1) := by decide +kernel
theorem dL_law_1508 : decode cL_law 1508 = .ok (.iaload, 1) := by decide +kernel
theorem dL_law_1509 : decode cL_law 1509 = .ok (.aload_n 0, 1) := by decide +kernel
theorem dL_law_1510 : decode cL_law 1510 = .ok (.iload 4, 2) := by decide +kernel
theorem dL_law_1512 : decode cL_law 1512 = .ok (.iconst 2, 1) := by decide +kernel
theorem dL_law_1513 : decode cL_law 1513 = .ok (.iadd, 1) := by decide +kernel
theorem dL_law_1514 : decode cL_law 1514 = .ok (.iaload, 1) := by decide +kernel
theorem dL_law_1515 : decode cL_law 1515 = .ok (.aload_n 0, 1) := by decide +kernel
theorem dL_law_1516 : decode cL_law 1516 = .ok (.iload 4, 2) := by decide +kernel
theorem dL_law_1518 : decode cL_law 1518 = .ok (.iconst 3, 1) := by decide +kernel
theorem dL_law_1519 : decode cL_law 1519 = .ok (.iadd, 1) := by decide +kernel
theorem dL_law_1520 : decode cL_law 1520 = .ok (.iaload, 1) := by decide +kernel
theorem dL_law_1521 : decode cL_law 1521 = .ok (.aload_n 0, 1) := by decide +kernel
theorem dL_law_1522 : decode cL_law 1522 = .ok (.iload 4, 2) := by decide +kernel
theorem dL_law_1524 : decode cL_law 1524 = .ok (.iconst 4, 1) := by decide +kernel
theorem dL_law_1525 : decode cL_law 1525 = .ok (.iadd, 1) := by decide +kernel
theorem dL_law_1526 : decode cL_law 1526 = .ok (.iaload, 1) := by decide +kernel
theorem dL_law_1527 : decode cL_law 1527 = .ok (.invokevirtual 151, 3) := by decide +kernel
theorem dL_law_1530 : decode cL_law 1530 = .ok (.aload_n 2, 1) := by decide +kernel
theorem dL_law_1531 : decode cL_law 1531 = .ok (.aload_n 0, 1) := by decide +kernel
theorem dL_law_1532 : decode cL_law 1532 = .ok (.iload 4, 2) := by decide +kernel
theorem dL_law_1534 : decode cL_law 1534 = .ok (.iconst 1, 1) := by decide +kernel
theorem dL_law_1535 : decode cL_law 1535 = .ok (.iadd, 1) := by decide +kernel
theorem dL_law_1536 : decode cL_law 1536 = .ok (.iaload, 1) := by decide +kernel
theorem dL_law_1537 : decode cL_law 1537 = .ok (.aload_n 0, 1) := by decide +kernel
theorem dL_law_1538 : decode cL_law 1538 = .ok (.iload 4, 2) := by decide +kernel
theorem dL_law_1540 : decode cL_law 1540 = .ok (.iconst 2, 1) := by decide +kernel
theorem dL_law_1541 : decode cL_law 1541 = .ok (.iadd, 1) := by decide +kernel
theorem dL_law_1542 : decode cL_law 1542 = .ok (.iaload, 1) := by decide +kernel
theorem dL_law_1543 : decode cL_law 1543 = .ok (.aload_n 0, 1) := by decide +kernel
theorem dL_law_1544 : decode cL_law 1544 = .ok (.iload 4, 2) := by decide +kernel
theorem dL_law_1546 : decode cL_law 1546 = .ok (.iconst 3, 1) := by decide +kernel
theorem dL_law_1547 : decode cL_law 1547 = .ok (.iadd, 1) := by decide +kernel
theorem dL_law_1548 : decode cL_law 1548 = .ok (.iaload, 1) := by decide +kernel
theorem dL_law_1549 : decode cL_law 1549 = .ok (.aload_n 0, 1) := by decide +kernel
theorem dL_law_1550 : decode cL_law 1550 = .ok (.iload 4, 2) := by decide +kernel
theorem dL_law_1552 : decode cL_law 1552 = .ok (.iconst 4, 1) := by decide +kernel
theorem dL_law_1553 : decode cL_law 1553 = .ok (.iadd, 1) := by decide +kernel
theorem dL_law_1554 : decode cL_law 1554 = .ok (.iaload, 1) := by decide +kernel
theorem dL_law_1555 : decode cL_law 1555 = .ok (.invokevirtual 154, 3) := by decide +kernel
theorem dL_law_1558 : decode cL_law 1558 = .ok (.if_icmp .eq 392, 3) := by decide +kernel
set_option maxRecDepth 100000 in
set_option maxHeartbeats 4000000 in
theorem wl_ranked {p : Program} {l : Launch} {e : Env} {R : Room} {s : State} {m : MethodId} {args : Array Value} {below : List Frame} {meth : Method} {c : Code} {H : Heap} {locs : List Loc} {cells slots : Nat} {Q : State → Prop} {D : cG} {S S0 : cSt} {ls : Array Slot} {cM : ClassId} {iS : Nat → Nat} {cI cZ : ClassId} {mo : Nat} {ad : Nat → Nat} {oa : Nat} {cL : ClassId} {M : mSt} {o : Int64} {b L x0 : Nat} {xs : Nat → Int32} {i : Int32} {I I' : cSt → mSt → Prop} (C : cY p R s m args meth c RL cL_law 7 2048 600128 7301098 84000 (some .boolean)) (X : lX l D S0 cM iS cI cZ mo ad cL b L xs s) (hK : lC_k x0 I) (hI : lC_ranked x0 I I') (hJ : lJ D S0 cM iS cI cZ mo ad oa cL s S M o H locs) (hi : I S M) (hin : lIn i L) (hce : cells + 2201 ≤ 600128 ∧ slots + 101882 ≤ 7301098) (hl : lv_has ls 7 [(0, .ref b), (1, .ref x0), (2, .ref mo), (3, .ref oa), (4, .int i)]) (kk : ∀ (S1 : cSt) (M1 : mSt) (o1 : Int64) (H1 : Heap) (locs1 : List Loc) (ls1 : Array Slot), I' S1 M1 → lJ D S0 cM iS cI cZ mo ad oa cL s S1 M1 o1 H1 locs1 → lv_has ls1 7 [(0, .ref b), (1, .ref x0), (2, .ref mo), (3, .ref oa), (4, .int i)] → W p l e R s m args below meth c H1 locs1 (cells + 2201) (slots + 101882) Q (F0 m 1950 ls1 [])) : W p l e R s m args below meth c H locs cells slots Q (F0 m 1502 ls []) := by
  obtain ⟨r, S1, M1, h1, h2, hi1⟩ := hI S M (xs (i + (1 : Int32)).toNatClampNeg) (xs (i + (2 : Int32)).toNatClampNeg) (xs (i + (3 : Int32)).toNatClampNeg) (xs (i + (4 : Int32)).toNatClampNeg) hi
  refine lv_aload_n C.1 C.2.1 dL_law_1502 rfl (lv_at hl 1 rfl) ?_
  refine lv_aload_n C.1 C.2.1 dL_law_1503 rfl (lv_at hl 0 rfl) ?_
  refine lv_iload C.1 C.2.1 dL_law_1504 (lv_at hl 4 rfl) ?_
  refine lv_iconst (v := 1) C.1 C.2.1 dL_law_1506 (by decide) ?_
  refine lv_iadd C.1 C.2.1 dL_law_1507 ?_
  refine l_sld C X hJ hin.2.1 dL_law_1508 ?_
  refine lv_aload_n C.1 C.2.1 dL_law_1509 rfl (lv_at hl 0 rfl) ?_
  refine lv_iload C.1 C.2.1 dL_law_1510 (lv_at hl 4 rfl) ?_
  refine lv_iconst (v := 2) C.1 C.2.1 dL_law_1512 (by decide) ?_
  refine lv_iadd C.1 C.2.1 dL_law_1513 ?_
  refine l_sld C X hJ hin.2.2.1 dL_law_1514 ?_
  refine lv_aload_n C.1 C.2.1 dL_law_1515 rfl (lv_at hl 0 rfl) ?_
  refine lv_iload C.1 C.2.1 dL_law_1516 (lv_at hl 4 rfl) ?_
  refine lv_iconst (v := 3) C.1 C.2.1 dL_law_1518 (by decide) ?_
  refine lv_iadd C.1 C.2.1 dL_law_1519 ?_
  refine l_sld C X hJ hin.2.2.2.1 dL_law_1520 ?_
  refine lv_aload_n C.1 C.2.1 dL_law_1521 rfl (lv_at hl 0 rfl) ?_
  refine lv_iload C.1 C.2.1 dL_law_1522 (lv_at hl 4 rfl) ?_
  refine lv_iconst (v := 4) C.1 C.2.1 dL_law_1524 (by decide) ?_
  refine lv_iadd C.1 C.2.1 dL_law_1525 ?_
  refine l_sld C X hJ hin.2.2.2.2.1 dL_law_1526 ?_
  refine l_cW (rest := []) C X hJ hl.1 (hK S M hi) [.int (xs (i + (1 : Int32)).toNatClampNeg), .int (xs (i + (2 : Int32)).toNatClampNeg), .int (xs (i + (3 : Int32)).toNatClampNeg), .int (xs (i + (4 : Int32)).toNatClampNeg)] (tk_11_ranked l h1) cwL_151 ki_11_ranked kl_11_ranked rfl ⟨by decide, by decide⟩ ⟨by omega, by omega⟩ rfl (Nat.le_of_ble_eq_true rfl) dL_law_1527 (fun H locs hJ => ?_)
  refine W.eq (g2 := F0 m 1530 ls [.int r]) rfl ?_
  refine lv_aload_n C.1 C.2.1 dL_law_1530 rfl (lv_at hl 2 rfl) ?_
  refine lv_aload_n C.1 C.2.1 dL_law_1531 rfl (lv_at hl 0 rfl) ?_
  refine lv_iload C.1 C.2.1 dL_law_1532 (lv_at hl 4 rfl) ?_
  refine lv_iconst (v := 1) C.1 C.2.1 dL_law_1534 (by decide) ?_
  refine lv_iadd C.1 C.2.1 dL_law_1535 ?_
  refine l_sld C X hJ hin.2.1 dL_law_1536 ?_
  refine lv_aload_n C.1 C.2.1 dL_law_1537 rfl (lv_at hl 0 rfl) ?_
  refine lv_iload C.1 C.2.1 dL_law_1538 (lv_at hl 4 rfl) ?_
  refine lv_iconst (v := 2) C.1 C.2.1 dL_law_1540 (by decide) ?_
  refine lv_iadd C.1 C.2.1 dL_law_1541 ?_
  refine l_sld C X hJ hin.2.2.1 dL_law_1542 ?_
  refine lv_aload_n C.1 C.2.1 dL_law_1543 rfl (lv_at hl 0 rfl) ?_
  refine lv_iload C.1 C.2.1 dL_law_1544 (lv_at hl 4 rfl) ?_
  refine lv_iconst (v := 3) C.1 C.2.1 dL_law_1546 (by decide) ?_
  refine lv_iadd C.1 C.2.1 dL_law_1547 ?_
  refine l_sld C X hJ hin.2.2.2.1 dL_law_1548 ?_
  refine lv_aload_n C.1 C.2.1 dL_law_1549 rfl (lv_at hl 0 rfl) ?_
  refine lv_iload C.1 C.2.1 dL_law_1550 (lv_at hl 4 rfl) ?_
  refine lv_iconst (v := 4) C.1 C.2.1 dL_law_1552 (by decide) ?_
  refine lv_iadd C.1 C.2.1 dL_law_1553 ?_
  refine l_sld C X hJ hin.2.2.2.2.1 dL_law_1554 ?_
  refine l_mW (rest := [.int r]) C X hJ hl.1 [.int (xs (i + (1 : Int32)).toNatClampNeg), .int (xs (i + (2 : Int32)).toNatClampNeg), .int (xs (i + (3 : Int32)).toNatClampNeg), .int (xs (i + (4 : Int32)).toNatClampNeg)] (tm_ranked l h2) cwL_154 imL_ranked slL_ranked rfl ⟨by decide, by decide⟩ ⟨by omega, by omega⟩ rfl (Nat.le_of_ble_eq_true rfl) dL_law_1555 (fun H locs hJ => ?_)
  refine W.eq (g2 := F0 m 1558 ls [.int r, .int r]) rfl ?_
  refine lv_icmp_eq (tgt := 1950) C.1 C.2.1 dL_law_1558 (by decide) (fun _ => ?_) (fun h9 => absurd rfl h9)
  refine W.widen (k := cells + 2201) (n := slots + 101882) (by omega) (by omega) ?_
  exact kk S1 M1 o H locs ls hi1 hJ hl
theorem dL_law_1563 : decode cL_law 1563 = .ok (.aload_n 1, 1) := by decide +kernel
theorem dL_law_1564 : decode cL_law 1564 = .ok (.aload_n 0, 1) := by decide +kernel
theorem dL_law_1565 : decode cL_law 1565 = .ok (.iload 4, 2) := by decide +kernel
theorem dL_law_1567 : decode cL_law 1567 = .ok (.iconst 1, 1) := by decide +kernel
theorem dL_law_1568 : decode cL_law 1568 = .ok (.iadd, 1) := by decide +kernel
theorem dL_law_1569 : decode cL_law 1569 = .ok (.iaload, 1) := by decide +kernel
theorem dL_law_1570 : decode cL_law 1570 = .ok (.aload_n 0, 1) := by decide +kernel
theorem dL_law_1571 : decode cL_law 1571 = .ok (.iload 4, 2) := by decide +kernel
theorem dL_law_1573 : decode cL_law 1573 = .ok (.iconst 2, 1) := by decide +kernel
theorem dL_law_1574 : decode cL_law 1574 = .ok (.iadd, 1) := by decide +kernel
theorem dL_law_1575 : decode cL_law 1575 = .ok (.iaload, 1) := by decide +kernel
theorem dL_law_1576 : decode cL_law 1576 = .ok (.aload_n 0, 1) := by decide +kernel
theorem dL_law_1577 : decode cL_law 1577 = .ok (.iload 4, 2) := by decide +kernel
theorem dL_law_1579 : decode cL_law 1579 = .ok (.iconst 3, 1) := by decide +kernel
theorem dL_law_1580 : decode cL_law 1580 = .ok (.iadd, 1) := by decide +kernel
theorem dL_law_1581 : decode cL_law 1581 = .ok (.iaload, 1) := by decide +kernel
theorem dL_law_1582 : decode cL_law 1582 = .ok (.aload_n 0, 1) := by decide +kernel
theorem dL_law_1583 : decode cL_law 1583 = .ok (.iload 4, 2) := by decide +kernel
theorem dL_law_1585 : decode cL_law 1585 = .ok (.iconst 4, 1) := by decide +kernel
theorem dL_law_1586 : decode cL_law 1586 = .ok (.iadd, 1) := by decide +kernel
theorem dL_law_1587 : decode cL_law 1587 = .ok (.iaload, 1) := by decide +kernel
theorem dL_law_1588 : decode cL_law 1588 = .ok (.aload_n 3, 1) := by decide +kernel
theorem dL_law_1589 : decode cL_law 1589 = .ok (.invokestatic 155, 3) := by decide +kernel
theorem dL_law_1592 : decode cL_law 1592 = .ok (.istore 5, 2) := by decide +kernel
theorem dL_law_1594 : decode cL_law 1594 = .ok (.aload_n 2, 1) := by decide +kernel
theorem dL_law_1595 : decode cL_law 1595 = .ok (.aload_n 0, 1) := by decide +kernel
theorem dL_law_1596 : decode cL_law 1596 = .ok (.iload 4, 2) := by decide +kernel
theorem dL_law_1598 : decode cL_law 1598 = .ok (.iconst 1, 1) := by decide +kernel
theorem dL_law_1599 : decode cL_law 1599 = .ok (.iadd, 1) := by decide +kernel
theorem dL_law_1600 : decode cL_law 1600 = .ok (.iaload, 1) := by decide +kernel
theorem dL_law_1601 : decode cL_law 1601 = .ok (.aload_n 0, 1) := by decide +kernel
theorem dL_law_1602 : decode cL_law 1602 = .ok (.iload 4, 2) := by decide +kernel
theorem dL_law_1604 : decode cL_law 1604 = .ok (.iconst 2, 1) := by decide +kernel
theorem dL_law_1605 : decode cL_law 1605 = .ok (.iadd, 1) := by decide +kernel
theorem dL_law_1606 : decode cL_law 1606 = .ok (.iaload, 1) := by decide +kernel
theorem dL_law_1607 : decode cL_law 1607 = .ok (.aload_n 0, 1) := by decide +kernel
theorem dL_law_1608 : decode cL_law 1608 = .ok (.iload 4, 2) := by decide +kernel
theorem dL_law_1610 : decode cL_law 1610 = .ok (.iconst 3, 1) := by decide +kernel
theorem dL_law_1611 : decode cL_law 1611 = .ok (.iadd, 1) := by decide +kernel
theorem dL_law_1612 : decode cL_law 1612 = .ok (.iaload, 1) := by decide +kernel
theorem dL_law_1613 : decode cL_law 1613 = .ok (.aload_n 0, 1) := by decide +kernel
theorem dL_law_1614 : decode cL_law 1614 = .ok (.iload 4, 2) := by decide +kernel
theorem dL_law_1616 : decode cL_law 1616 = .ok (.iconst 4, 1) := by decide +kernel
theorem dL_law_1617 : decode cL_law 1617 = .ok (.iadd, 1) := by decide +kernel
theorem dL_law_1618 : decode cL_law 1618 = .ok (.iaload, 1) := by decide +kernel
theorem dL_law_1619 : decode cL_law 1619 = .ok (.invokevirtual 157, 3) := by decide +kernel
theorem dL_law_1622 : decode cL_law 1622 = .ok (.istore 6, 2) := by decide +kernel
theorem dL_law_1624 : decode cL_law 1624 = .ok (.aload_n 2, 1) := by decide +kernel
theorem dL_law_1625 : decode cL_law 1625 = .ok (.invokevirtual 46, 3) := by decide +kernel
theorem dL_law_1628 : decode cL_law 1628 = .ok (.iload 5, 2) := by decide +kernel
theorem dL_law_1630 : decode cL_law 1630 = .ok (.if_icmp .eq 5, 3) := by decide +kernel
theorem dL_law_1635 : decode cL_law 1635 = .ok (.iload 5, 2) := by decide +kernel
theorem dL_law_1637 : decode cL_law 1637 = .ok (.ifCond .ne 15, 3) := by decide +kernel
theorem dL_law_1640 : decode cL_law 1640 = .ok (.aload_n 3, 1) := by decide +kernel
theorem dL_law_1641 : decode cL_law 1641 = .ok (.iconst 0, 1) := by decide +kernel
theorem dL_law_1642 : decode cL_law 1642 = .ok (.laload, 1) := by decide +kernel
theorem dL_law_1643 : decode cL_law 1643 = .ok (.iload 6, 2) := by decide +kernel
theorem dL_law_1645 : decode cL_law 1645 = .ok (.i2l, 1) := by decide +kernel
theorem dL_law_1646 : decode cL_law 1646 = .ok (.lcmp, 1) := by decide +kernel
theorem dL_law_1647 : decode cL_law 1647 = .ok (.ifCond .eq 5, 3) := by decide +kernel
theorem dL_law_1652 : decode cL_law 1652 = .ok (.goto 298, 3) := by decide +kernel
set_option maxRecDepth 100000 in
set_option maxHeartbeats 4000000 in
theorem wl_past {p : Program} {l : Launch} {e : Env} {R : Room} {s : State} {m : MethodId} {args : Array Value} {below : List Frame} {meth : Method} {c : Code} {H : Heap} {locs : List Loc} {cells slots : Nat} {Q : State → Prop} {D : cG} {S S0 : cSt} {ls : Array Slot} {cM : ClassId} {iS : Nat → Nat} {cI cZ : ClassId} {mo : Nat} {ad : Nat → Nat} {oa : Nat} {cL : ClassId} {M : mSt} {o : Int64} {b L x0 : Nat} {xs : Nat → Int32} {i : Int32} {I I' : cSt → mSt → Prop} (hz : lC_z I') (C : cY p R s m args meth c RL cL_law 7 2048 600128 7301098 84000 (some .boolean)) (X : lX l D S0 cM iS cI cZ mo ad cL b L xs s) (hK : lC_k x0 I) (hI : lC_past x0 I I') (hJ : lJ D S0 cM iS cI cZ mo ad oa cL s S M o H locs) (hi : I S M) (hin : lIn i L) (hce : cells + 2201 ≤ 600128 ∧ slots + 101882 ≤ 7301098) (hl : lv_has ls 7 [(0, .ref b), (1, .ref x0), (2, .ref mo), (3, .ref oa), (4, .int i)]) (kk : ∀ (S1 : cSt) (M1 : mSt) (o1 : Int64) (H1 : Heap) (locs1 : List Loc) (ls1 : Array Slot), I' S1 M1 → lJ D S0 cM iS cI cZ mo ad oa cL s S1 M1 o1 H1 locs1 → lv_has ls1 7 [(0, .ref b), (1, .ref x0), (2, .ref mo), (3, .ref oa), (4, .int i)] → W p l e R s m args below meth c H1 locs1 (cells + 2201) (slots + 101882) Q (F0 m 1950 ls1 [])) : W p l e R s m args below meth c H locs cells slots Q (F0 m 1563 ls []) := by
  obtain ⟨tg, r, S1, r2, M1, h1, h2, h3, hi1⟩ := hI S M (xs (i + (1 : Int32)).toNatClampNeg) (xs (i + (2 : Int32)).toNatClampNeg) (xs (i + (3 : Int32)).toNatClampNeg) (xs (i + (4 : Int32)).toNatClampNeg) hi
  refine lv_aload_n C.1 C.2.1 dL_law_1563 rfl (lv_at hl 1 rfl) ?_
  refine lv_aload_n C.1 C.2.1 dL_law_1564 rfl (lv_at hl 0 rfl) ?_
  refine lv_iload C.1 C.2.1 dL_law_1565 (lv_at hl 4 rfl) ?_
  refine lv_iconst (v := 1) C.1 C.2.1 dL_law_1567 (by decide) ?_
  refine lv_iadd C.1 C.2.1 dL_law_1568 ?_
  refine l_sld C X hJ hin.2.1 dL_law_1569 ?_
  refine lv_aload_n C.1 C.2.1 dL_law_1570 rfl (lv_at hl 0 rfl) ?_
  refine lv_iload C.1 C.2.1 dL_law_1571 (lv_at hl 4 rfl) ?_
  refine lv_iconst (v := 2) C.1 C.2.1 dL_law_1573 (by decide) ?_
  refine lv_iadd C.1 C.2.1 dL_law_1574 ?_
  refine l_sld C X hJ hin.2.2.1 dL_law_1575 ?_
  refine lv_aload_n C.1 C.2.1 dL_law_1576 rfl (lv_at hl 0 rfl) ?_
  refine lv_iload C.1 C.2.1 dL_law_1577 (lv_at hl 4 rfl) ?_
  refine lv_iconst (v := 3) C.1 C.2.1 dL_law_1579 (by decide) ?_
  refine lv_iadd C.1 C.2.1 dL_law_1580 ?_
  refine l_sld C X hJ hin.2.2.2.1 dL_law_1581 ?_
  refine lv_aload_n C.1 C.2.1 dL_law_1582 rfl (lv_at hl 0 rfl) ?_
  refine lv_iload C.1 C.2.1 dL_law_1583 (lv_at hl 4 rfl) ?_
  refine lv_iconst (v := 4) C.1 C.2.1 dL_law_1585 (by decide) ?_
  refine lv_iadd C.1 C.2.1 dL_law_1586 ?_
  refine l_sld C X hJ hin.2.2.2.2.1 dL_law_1587 ?_
  refine lv_aload_n C.1 C.2.1 dL_law_1588 rfl (lv_at hl 3 rfl) ?_
  refine l_help (rest := []) (hh := hhL_past) (k := lkv tg) (o1 := if tg = 0 then Int32.toInt64 r else o) (G := lG tg S1) C X hJ hl.1 [.ref x0, .int (xs (i + (1 : Int32)).toNatClampNeg), .int (xs (i + (2 : Int32)).toNatClampNeg), .int (xs (i + (3 : Int32)).toNatClampNeg), .int (xs (i + (4 : Int32)).toNatClampNeg), .ref oa] (tl_past l X.1 h1 (h3.elim (fun q => Or.inl q.1) (fun q => Or.inr q.1)) (hK S M hi) hJ.2.2.2.2.1 (lD X hJ)) (fun U hU hWm => lPk_of X hJ hU hWm) cwL_155 rfl ⟨by decide, by decide⟩ ⟨by omega, by omega⟩ rfl (Nat.le_of_ble_eq_true rfl) dL_law_1589 (fun H locs S2 hG hJ => ?_)
  have hi2 : I' S2 M1 := lG_I hz hG hi1
  refine W.eq (g2 := F0 m 1592 ls [.int (lkv tg)]) rfl ?_
  refine lv_istore (lv' := [(5, .int (lkv tg)), (0, .ref b), (1, .ref x0), (2, .ref mo), (3, .ref oa), (4, .int i)]) C.1 C.2.1 dL_law_1592 hl (by decide) rfl (fun ls hl => ?_)
  refine lv_aload_n C.1 C.2.1 dL_law_1594 rfl (lv_at hl 3 rfl) ?_
  refine lv_aload_n C.1 C.2.1 dL_law_1595 rfl (lv_at hl 1 rfl) ?_
  refine lv_iload C.1 C.2.1 dL_law_1596 (lv_at hl 5 rfl) ?_
  refine lv_iconst (v := 1) C.1 C.2.1 dL_law_1598 (by decide) ?_
  refine lv_iadd C.1 C.2.1 dL_law_1599 ?_
  refine l_sld C X hJ hin.2.1 dL_law_1600 ?_
  refine lv_aload_n C.1 C.2.1 dL_law_1601 rfl (lv_at hl 1 rfl) ?_
  refine lv_iload C.1 C.2.1 dL_law_1602 (lv_at hl 5 rfl) ?_
  refine lv_iconst (v := 2) C.1 C.2.1 dL_law_1604 (by decide) ?_
  refine lv_iadd C.1 C.2.1 dL_law_1605 ?_
  refine l_sld C X hJ hin.2.2.1 dL_law_1606 ?_
  refine lv_aload_n C.1 C.2.1 dL_law_1607 rfl (lv_at hl 1 rfl) ?_
  refine lv_iload C.1 C.2.1 dL_law_1608 (lv_at hl 5 rfl) ?_
  refine lv_iconst (v := 3) C.1 C.2.1 dL_law_1610 (by decide) ?_
  refine lv_iadd C.1 C.2.1 dL_law_1611 ?_
  refine l_sld C X hJ hin.2.2.2.1 dL_law_1612 ?_
  refine lv_aload_n C.1 C.2.1 dL_law_1613 rfl (lv_at hl 1 rfl) ?_
  refine lv_iload C.1 C.2.1 dL_law_1614 (lv_at hl 5 rfl) ?_
  refine lv_iconst (v := 4) C.1 C.2.1 dL_law_1616 (by decide) ?_
  refine lv_iadd C.1 C.2.1 dL_law_1617 ?_
  refine l_sld C X hJ hin.2.2.2.2.1 dL_law_1618 ?_
  refine l_mW (rest := []) C X hJ hl.1 [.int (xs (i + (1 : Int32)).toNatClampNeg), .int (xs (i + (2 : Int32)).toNatClampNeg), .int (xs (i + (3 : Int32)).toNatClampNeg), .int (xs (i + (4 : Int32)).toNatClampNeg)] (tm_past l h2) cwL_157 imL_past slL_past rfl ⟨by decide, by decide⟩ ⟨by omega, by omega⟩ rfl (Nat.le_of_ble_eq_true rfl) dL_law_1619 (fun H locs hJ => ?_)
  refine W.eq (g2 := F0 m 1622 ls [.int r2]) rfl ?_
  refine lv_istore (lv' := [(6, .int r2), (5, .int (lkv tg)), (0, .ref b), (1, .ref x0), (2, .ref mo), (3, .ref oa), (4, .int i)]) C.1 C.2.1 dL_law_1622 hl (by decide) rfl (fun ls hl => ?_)
  refine lv_aload_n C.1 C.2.1 dL_law_1624 rfl (lv_at hl 4 rfl) ?_
  refine l_mR (rest := []) C X hJ hl.1 [] (tm_thrown l (show fm_thrown M1 = some (M1.1 0) from rfl)) cwL_46 imL_thrown slL_thrown rfl ⟨by decide, by decide⟩ ⟨by omega, by omega⟩ rfl (Nat.le_of_ble_eq_true rfl) dL_law_1625 ?_
  refine W.eq (g2 := F0 m 1628 ls [.int (M1.1 0)]) rfl ?_
  refine lv_iload C.1 C.2.1 dL_law_1628 (lv_at hl 1 rfl) ?_
  have hth : M1.1 0 = lkv tg := by
    rcases h3 with ⟨q, q1, -⟩ | ⟨q, q1⟩ <;> (rw [q1, q]; rfl)
  refine lv_icmp_eq (tgt := 1635) C.1 C.2.1 dL_law_1630 (by decide) (fun _ => ?_) (fun h9 => absurd hth h9)
  refine lv_iload C.1 C.2.1 dL_law_1635 (lv_at hl 1 rfl) ?_
  have kf : W p l e R s m args below meth c H locs (cells + 1) (slots + 6) Q (F0 m 1652 ls []) := by
    refine lv_goto (tgt := 1950) C.1 C.2.1 dL_law_1652 (by decide) ?_
    refine W.widen (k := cells + 2201) (n := slots + 101882) (by omega) (by omega) ?_
    exact kk S2 M1 _ H locs ls hi2 hJ (lv_sub hl [2, 3, 4, 5, 6] rfl)
  refine lv_if_ne (tgt := 1652) C.1 C.2.1 dL_law_1637 (by decide) (fun _ => kf) (fun h9 => ?_)
  have ht0 : tg = 0 := by
    rcases h3 with ⟨q, -⟩ | ⟨q, -⟩
    · exact q
    · rw [q] at h9; exact absurd h9 (by decide)
  have hr2 : r2 = r := by
    rcases h3 with ⟨-, -, q⟩ | ⟨q, -⟩
    · exact q
    · rw [ht0] at q; cases q
  subst hr2
  refine lv_aload_n C.1 C.2.1 dL_law_1640 rfl (lv_at hl 5 rfl) ?_
  refine lv_iconst (v := 0) C.1 C.2.1 dL_law_1641 (by decide) ?_
  refine l_lald C X.2.2.2.2.2.2.2 hJ.2.2.1 dL_law_1642 ?_
  refine lv_iload C.1 C.2.1 dL_law_1643 (lv_at hl 0 rfl) ?_
  refine lv_i2l (v := Int32.toInt64 r2) C.1 C.2.1 dL_law_1645 rfl ?_
  refine W.lcmp C.1 C.2.1 dL_law_1646 ?_
  refine lv_if_eq (tgt := 1652) C.1 C.2.1 dL_law_1647 (by decide) (fun _ => kf) (fun h9 => absurd (by rw [if_pos ht0]; exact lcmp_rf _) h9)
theorem dL_law_1655 : decode cL_law 1655 = .ok (.aload_n 1, 1) := by decide +kernel
theorem dL_law_1656 : decode cL_law 1656 = .ok (.aload_n 0, 1) := by decide +kernel
theorem dL_law_1657 : decode cL_law 1657 = .ok (.iload 4, 2) := by decide +kernel
theorem dL_law_1659 : decode cL_law 1659 = .ok (.iconst 1, 1) := by decide +kernel
theorem dL_law_1660 : decode cL_law 1660 = .ok (.iadd, 1) := by decide +kernel
theorem dL_law_1661 : decode cL_law 1661 = .ok (.iaload, 1) := by decide +kernel
theorem dL_law_1662 : decode cL_law 1662 = .ok (.aload_n 0, 1) := by decide +kernel
theorem dL_law_1663 : decode cL_law 1663 = .ok (.iload 4, 2) := by decide +kernel
theorem dL_law_1665 : decode cL_law 1665 = .ok (.iconst 2, 1) := by decide +kernel
theorem dL_law_1666 : decode cL_law 1666 = .ok (.iadd, 1) := by decide +kernel
theorem dL_law_1667 : decode cL_law 1667 = .ok (.iaload, 1) := by decide +kernel
theorem dL_law_1668 : decode cL_law 1668 = .ok (.aload_n 0, 1) := by decide +kernel
theorem dL_law_1669 : decode cL_law 1669 = .ok (.iload 4, 2) := by decide +kernel
theorem dL_law_1671 : decode cL_law 1671 = .ok (.iconst 3, 1) := by decide +kernel
theorem dL_law_1672 : decode cL_law 1672 = .ok (.iadd, 1) := by decide +kernel
theorem dL_law_1673 : decode cL_law 1673 = .ok (.iaload, 1) := by decide +kernel
theorem dL_law_1674 : decode cL_law 1674 = .ok (.aload_n 0, 1) := by decide +kernel
theorem dL_law_1675 : decode cL_law 1675 = .ok (.iload 4, 2) := by decide +kernel
theorem dL_law_1677 : decode cL_law 1677 = .ok (.iconst 4, 1) := by decide +kernel
theorem dL_law_1678 : decode cL_law 1678 = .ok (.iadd, 1) := by decide +kernel
theorem dL_law_1679 : decode cL_law 1679 = .ok (.iaload, 1) := by decide +kernel
theorem dL_law_1680 : decode cL_law 1680 = .ok (.aload_n 0, 1) := by decide +kernel
theorem dL_law_1681 : decode cL_law 1681 = .ok (.iload 4, 2) := by decide +kernel
theorem dL_law_1683 : decode cL_law 1683 = .ok (.iconst 5, 1) := by decide +kernel
theorem dL_law_1684 : decode cL_law 1684 = .ok (.iadd, 1) := by decide +kernel
theorem dL_law_1685 : decode cL_law 1685 = .ok (.iaload, 1) := by decide +kernel
theorem dL_law_1686 : decode cL_law 1686 = .ok (.invokevirtual 158, 3) := by decide +kernel
theorem dL_law_1689 : decode cL_law 1689 = .ok (.aload_n 2, 1) := by decide +kernel
theorem dL_law_1690 : decode cL_law 1690 = .ok (.aload_n 0, 1) := by decide +kernel
theorem dL_law_1691 : decode cL_law 1691 = .ok (.iload 4, 2) := by decide +kernel
theorem dL_law_1693 : decode cL_law 1693 = .ok (.iconst 1, 1) := by decide +kernel
theorem dL_law_1694 : decode cL_law 1694 = .ok (.iadd, 1) := by decide +kernel
theorem dL_law_1695 : decode cL_law 1695 = .ok (.iaload, 1) := by decide +kernel
theorem dL_law_1696 : decode cL_law 1696 = .ok (.aload_n 0, 1) := by decide +kernel
theorem dL_law_1697 : decode cL_law 1697 = .ok (.iload 4, 2) := by decide +kernel
theorem dL_law_1699 : decode cL_law 1699 = .ok (.iconst 2, 1) := by decide +kernel
theorem dL_law_1700 : decode cL_law 1700 = .ok (.iadd, 1) := by decide +kernel
theorem dL_law_1701 : decode cL_law 1701 = .ok (.iaload, 1) := by decide +kernel
theorem dL_law_1702 : decode cL_law 1702 = .ok (.aload_n 0, 1) := by decide +kernel
theorem dL_law_1703 : decode cL_law 1703 = .ok (.iload 4, 2) := by decide +kernel
theorem dL_law_1705 : decode cL_law 1705 = .ok (.iconst 3, 1) := by decide +kernel
theorem dL_law_1706 : decode cL_law 1706 = .ok (.iadd, 1) := by decide +kernel
theorem dL_law_1707 : decode cL_law 1707 = .ok (.iaload, 1) := by decide +kernel
theorem dL_law_1708 : decode cL_law 1708 = .ok (.aload_n 0, 1) := by decide +kernel
theorem dL_law_1709 : decode cL_law 1709 = .ok (.iload 4, 2) := by decide +kernel
theorem dL_law_1711 : decode cL_law 1711 = .ok (.iconst 4, 1) := by decide +kernel
theorem dL_law_1712 : decode cL_law 1712 = .ok (.iadd, 1) := by decide +kernel
theorem dL_law_1713 : decode cL_law 1713 = .ok (.iaload, 1) := by decide +kernel
theorem dL_law_1714 : decode cL_law 1714 = .ok (.aload_n 0, 1) := by decide +kernel
theorem dL_law_1715 : decode cL_law 1715 = .ok (.iload 4, 2) := by decide +kernel
theorem dL_law_1717 : decode cL_law 1717 = .ok (.iconst 5, 1) := by decide +kernel
theorem dL_law_1718 : decode cL_law 1718 = .ok (.iadd, 1) := by decide +kernel
theorem dL_law_1719 : decode cL_law 1719 = .ok (.iaload, 1) := by decide +kernel
theorem dL_law_1720 : decode cL_law 1720 = .ok (.invokevirtual 161, 3) := by decide +kernel
theorem dL_law_1723 : decode cL_law 1723 = .ok (.if_icmp .eq 227, 3) := by decide +kernel
set_option maxRecDepth 100000 in
set_option maxHeartbeats 4000000 in
theorem wl_was {p : Program} {l : Launch} {e : Env} {R : Room} {s : State} {m : MethodId} {args : Array Value} {below : List Frame} {meth : Method} {c : Code} {H : Heap} {locs : List Loc} {cells slots : Nat} {Q : State → Prop} {D : cG} {S S0 : cSt} {ls : Array Slot} {cM : ClassId} {iS : Nat → Nat} {cI cZ : ClassId} {mo : Nat} {ad : Nat → Nat} {oa : Nat} {cL : ClassId} {M : mSt} {o : Int64} {b L x0 : Nat} {xs : Nat → Int32} {i : Int32} {I I' : cSt → mSt → Prop} (C : cY p R s m args meth c RL cL_law 7 2048 600128 7301098 84000 (some .boolean)) (X : lX l D S0 cM iS cI cZ mo ad cL b L xs s) (hK : lC_k x0 I) (hI : lC_was x0 I I') (hJ : lJ D S0 cM iS cI cZ mo ad oa cL s S M o H locs) (hi : I S M) (hin : lIn i L) (hce : cells + 2201 ≤ 600128 ∧ slots + 101882 ≤ 7301098) (hl : lv_has ls 7 [(0, .ref b), (1, .ref x0), (2, .ref mo), (3, .ref oa), (4, .int i)]) (kk : ∀ (S1 : cSt) (M1 : mSt) (o1 : Int64) (H1 : Heap) (locs1 : List Loc) (ls1 : Array Slot), I' S1 M1 → lJ D S0 cM iS cI cZ mo ad oa cL s S1 M1 o1 H1 locs1 → lv_has ls1 7 [(0, .ref b), (1, .ref x0), (2, .ref mo), (3, .ref oa), (4, .int i)] → W p l e R s m args below meth c H1 locs1 (cells + 2201) (slots + 101882) Q (F0 m 1950 ls1 [])) : W p l e R s m args below meth c H locs cells slots Q (F0 m 1655 ls []) := by
  obtain ⟨r, S1, M1, h1, h2, hi1⟩ := hI S M (xs (i + (1 : Int32)).toNatClampNeg) (xs (i + (2 : Int32)).toNatClampNeg) (xs (i + (3 : Int32)).toNatClampNeg) (xs (i + (4 : Int32)).toNatClampNeg) (xs (i + (5 : Int32)).toNatClampNeg) hi
  refine lv_aload_n C.1 C.2.1 dL_law_1655 rfl (lv_at hl 1 rfl) ?_
  refine lv_aload_n C.1 C.2.1 dL_law_1656 rfl (lv_at hl 0 rfl) ?_
  refine lv_iload C.1 C.2.1 dL_law_1657 (lv_at hl 4 rfl) ?_
  refine lv_iconst (v := 1) C.1 C.2.1 dL_law_1659 (by decide) ?_
  refine lv_iadd C.1 C.2.1 dL_law_1660 ?_
  refine l_sld C X hJ hin.2.1 dL_law_1661 ?_
  refine lv_aload_n C.1 C.2.1 dL_law_1662 rfl (lv_at hl 0 rfl) ?_
  refine lv_iload C.1 C.2.1 dL_law_1663 (lv_at hl 4 rfl) ?_
  refine lv_iconst (v := 2) C.1 C.2.1 dL_law_1665 (by decide) ?_
  refine lv_iadd C.1 C.2.1 dL_law_1666 ?_
  refine l_sld C X hJ hin.2.2.1 dL_law_1667 ?_
  refine lv_aload_n C.1 C.2.1 dL_law_1668 rfl (lv_at hl 0 rfl) ?_
  refine lv_iload C.1 C.2.1 dL_law_1669 (lv_at hl 4 rfl) ?_
  refine lv_iconst (v := 3) C.1 C.2.1 dL_law_1671 (by decide) ?_
  refine lv_iadd C.1 C.2.1 dL_law_1672 ?_
  refine l_sld C X hJ hin.2.2.2.1 dL_law_1673 ?_
  refine lv_aload_n C.1 C.2.1 dL_law_1674 rfl (lv_at hl 0 rfl) ?_
  refine lv_iload C.1 C.2.1 dL_law_1675 (lv_at hl 4 rfl) ?_
  refine lv_iconst (v := 4) C.1 C.2.1 dL_law_1677 (by decide) ?_
  refine lv_iadd C.1 C.2.1 dL_law_1678 ?_
  refine l_sld C X hJ hin.2.2.2.2.1 dL_law_1679 ?_
  refine lv_aload_n C.1 C.2.1 dL_law_1680 rfl (lv_at hl 0 rfl) ?_
  refine lv_iload C.1 C.2.1 dL_law_1681 (lv_at hl 4 rfl) ?_
  refine lv_iconst (v := 5) C.1 C.2.1 dL_law_1683 (by decide) ?_
  refine lv_iadd C.1 C.2.1 dL_law_1684 ?_
  refine l_sld C X hJ hin.2.2.2.2.2.1 dL_law_1685 ?_
  refine l_cW (rest := []) C X hJ hl.1 (hK S M hi) [.int (xs (i + (1 : Int32)).toNatClampNeg), .int (xs (i + (2 : Int32)).toNatClampNeg), .int (xs (i + (3 : Int32)).toNatClampNeg), .int (xs (i + (4 : Int32)).toNatClampNeg), .int (xs (i + (5 : Int32)).toNatClampNeg)] (tk_11_was l h1) cwL_158 ki_11_was kl_11_was rfl ⟨by decide, by decide⟩ ⟨by omega, by omega⟩ rfl (Nat.le_of_ble_eq_true rfl) dL_law_1686 (fun H locs hJ => ?_)
  refine W.eq (g2 := F0 m 1689 ls [.int r]) rfl ?_
  refine lv_aload_n C.1 C.2.1 dL_law_1689 rfl (lv_at hl 2 rfl) ?_
  refine lv_aload_n C.1 C.2.1 dL_law_1690 rfl (lv_at hl 0 rfl) ?_
  refine lv_iload C.1 C.2.1 dL_law_1691 (lv_at hl 4 rfl) ?_
  refine lv_iconst (v := 1) C.1 C.2.1 dL_law_1693 (by decide) ?_
  refine lv_iadd C.1 C.2.1 dL_law_1694 ?_
  refine l_sld C X hJ hin.2.1 dL_law_1695 ?_
  refine lv_aload_n C.1 C.2.1 dL_law_1696 rfl (lv_at hl 0 rfl) ?_
  refine lv_iload C.1 C.2.1 dL_law_1697 (lv_at hl 4 rfl) ?_
  refine lv_iconst (v := 2) C.1 C.2.1 dL_law_1699 (by decide) ?_
  refine lv_iadd C.1 C.2.1 dL_law_1700 ?_
  refine l_sld C X hJ hin.2.2.1 dL_law_1701 ?_
  refine lv_aload_n C.1 C.2.1 dL_law_1702 rfl (lv_at hl 0 rfl) ?_
  refine lv_iload C.1 C.2.1 dL_law_1703 (lv_at hl 4 rfl) ?_
  refine lv_iconst (v := 3) C.1 C.2.1 dL_law_1705 (by decide) ?_
  refine lv_iadd C.1 C.2.1 dL_law_1706 ?_
  refine l_sld C X hJ hin.2.2.2.1 dL_law_1707 ?_
  refine lv_aload_n C.1 C.2.1 dL_law_1708 rfl (lv_at hl 0 rfl) ?_
  refine lv_iload C.1 C.2.1 dL_law_1709 (lv_at hl 4 rfl) ?_
  refine lv_iconst (v := 4) C.1 C.2.1 dL_law_1711 (by decide) ?_
  refine lv_iadd C.1 C.2.1 dL_law_1712 ?_
  refine l_sld C X hJ hin.2.2.2.2.1 dL_law_1713 ?_
  refine lv_aload_n C.1 C.2.1 dL_law_1714 rfl (lv_at hl 0 rfl) ?_
  refine lv_iload C.1 C.2.1 dL_law_1715 (lv_at hl 4 rfl) ?_
  refine lv_iconst (v := 5) C.1 C.2.1 dL_law_1717 (by decide) ?_
  refine lv_iadd C.1 C.2.1 dL_law_1718 ?_
  refine l_sld C X hJ hin.2.2.2.2.2.1 dL_law_1719 ?_
  refine l_mW (rest := [.int r]) C X hJ hl.1 [.int (xs (i + (1 : Int32)).toNatClampNeg), .int (xs (i + (2 : Int32)).toNatClampNeg), .int (xs (i + (3 : Int32)).toNatClampNeg), .int (xs (i + (4 : Int32)).toNatClampNeg), .int (xs (i + (5 : Int32)).toNatClampNeg)] (tm_was l h2) cwL_161 imL_was slL_was rfl ⟨by decide, by decide⟩ ⟨by omega, by omega⟩ rfl (Nat.le_of_ble_eq_true rfl) dL_law_1720 (fun H locs hJ => ?_)
  refine W.eq (g2 := F0 m 1723 ls [.int r, .int r]) rfl ?_
  refine lv_icmp_eq (tgt := 1950) C.1 C.2.1 dL_law_1723 (by decide) (fun _ => ?_) (fun h9 => absurd rfl h9)
  refine W.widen (k := cells + 2201) (n := slots + 101882) (by omega) (by omega) ?_
  exact kk S1 M1 o H locs ls hi1 hJ hl
