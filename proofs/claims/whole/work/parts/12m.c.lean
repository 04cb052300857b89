-- made by wip/whole/gen12.py: 11_row, 11_frame, 11_news, 11_calm, 11_thereAt, 11_node, 11_total
theorem dX11_row_0 : decode cX11_row 0 = .ok (.iload_n 1, 1) := by decide +kernel
theorem dX11_row_1 : decode cX11_row 1 = .ok (.invokestatic 112, 3) := by decide +kernel
theorem dX11_row_4 : decode cX11_row 4 = .ok (.ifCond .eq 14, 3) := by decide +kernel
theorem dX11_row_7 : decode cX11_row 7 = .ok (.aload_n 0, 1) := by decide +kernel
theorem dX11_row_8 : decode cX11_row 8 = .ok (.getfield 19, 3) := by decide +kernel
theorem dX11_row_11 : decode cX11_row 11 = .ok (.iload_n 2, 1) := by decide +kernel
theorem dX11_row_12 : decode cX11_row 12 = .ok (.invokevirtual 381, 3) := by decide +kernel
theorem dX11_row_15 : decode cX11_row 15 = .ok (.goto 4, 3) := by decide +kernel
theorem dX11_row_18 : decode cX11_row 18 = .ok (.aconst_null, 1) := by decide +kernel
theorem dX11_row_19 : decode cX11_row 19 = .ok (.astore 4, 2) := by decide +kernel
theorem dX11_row_21 : decode cX11_row 21 = .ok (.aload 4, 2) := by decide +kernel
theorem dX11_row_23 : decode cX11_row 23 = .ok (.ifnull 20, 3) := by decide +kernel
theorem dX11_row_26 : decode cX11_row 26 = .ok (.aload_n 0, 1) := by decide +kernel
theorem dX11_row_27 : decode cX11_row 27 = .ok (.getfield 25, 3) := by decide +kernel
theorem dX11_row_30 : decode cX11_row 30 = .ok (.iload_n 1, 1) := by decide +kernel
theorem dX11_row_31 : decode cX11_row 31 = .ok (.aaload, 1) := by decide +kernel
theorem dX11_row_32 : decode cX11_row 32 = .ok (.getfield 68, 3) := by decide +kernel
theorem dX11_row_35 : decode cX11_row 35 = .ok (.aload 4, 2) := by decide +kernel
theorem dX11_row_37 : decode cX11_row 37 = .ok (.invokevirtual 385, 3) := by decide +kernel
theorem dX11_row_40 : decode cX11_row 40 = .ok (.ifCond .ne 5, 3) := by decide +kernel
theorem dX11_row_43 : decode cX11_row 43 = .ok (.iconst (-1), 1) := by decide +kernel
theorem dX11_row_44 : decode cX11_row 44 = .ok (.ireturn, 1) := by decide +kernel
theorem dX11_row_45 : decode cX11_row 45 = .ok (.aload_n 0, 1) := by decide +kernel
theorem dX11_row_46 : decode cX11_row 46 = .ok (.getfield 25, 3) := by decide +kernel
theorem dX11_row_49 : decode cX11_row 49 = .ok (.iload_n 1, 1) := by decide +kernel
theorem dX11_row_50 : decode cX11_row 50 = .ok (.aaload, 1) := by decide +kernel
theorem dX11_row_51 : decode cX11_row 51 = .ok (.astore 5, 2) := by decide +kernel
theorem dX11_row_53 : decode cX11_row 53 = .ok (.iload_n 3, 1) := by decide +kernel
theorem dX11_row_54 : decode cX11_row 54 = .ok (.tableswitch 148 0 9 #[54, 60, 66, 72, 78, 84, 90, 96, 115, 131], 54) := by decide +kernel
theorem dX11_row_108 : decode cX11_row 108 = .ok (.aload 4, 2) := by decide +kernel
theorem dX11_row_110 : decode cX11_row 110 = .ok (.getfield 389, 3) := by decide +kernel
theorem dX11_row_113 : decode cX11_row 113 = .ok (.ireturn, 1) := by decide +kernel
theorem dX11_row_114 : decode cX11_row 114 = .ok (.aload 4, 2) := by decide +kernel
theorem dX11_row_116 : decode cX11_row 116 = .ok (.getfield 392, 3) := by decide +kernel
theorem dX11_row_119 : decode cX11_row 119 = .ok (.ireturn, 1) := by decide +kernel
theorem dX11_row_120 : decode cX11_row 120 = .ok (.aload 4, 2) := by decide +kernel
theorem dX11_row_122 : decode cX11_row 122 = .ok (.getfield 395, 3) := by decide +kernel
theorem dX11_row_125 : decode cX11_row 125 = .ok (.ireturn, 1) := by decide +kernel
theorem dX11_row_126 : decode cX11_row 126 = .ok (.aload 4, 2) := by decide +kernel
theorem dX11_row_128 : decode cX11_row 128 = .ok (.getfield 340, 3) := by decide +kernel
theorem dX11_row_131 : decode cX11_row 131 = .ok (.ireturn, 1) := by decide +kernel
theorem dX11_row_132 : decode cX11_row 132 = .ok (.aload 4, 2) := by decide +kernel
theorem dX11_row_134 : decode cX11_row 134 = .ok (.getfield 351, 3) := by decide +kernel
theorem dX11_row_137 : decode cX11_row 137 = .ok (.ireturn, 1) := by decide +kernel
theorem dX11_row_138 : decode cX11_row 138 = .ok (.aload 4, 2) := by decide +kernel
theorem dX11_row_140 : decode cX11_row 140 = .ok (.getfield 398, 3) := by decide +kernel
theorem dX11_row_143 : decode cX11_row 143 = .ok (.ireturn, 1) := by decide +kernel
theorem dX11_row_144 : decode cX11_row 144 = .ok (.aload 4, 2) := by decide +kernel
theorem dX11_row_146 : decode cX11_row 146 = .ok (.getfield 401, 3) := by decide +kernel
theorem dX11_row_149 : decode cX11_row 149 = .ok (.ireturn, 1) := by decide +kernel
theorem dX11_row_150 : decode cX11_row 150 = .ok (.aload 5, 2) := by decide +kernel
theorem dX11_row_152 : decode cX11_row 152 = .ok (.getfield 147, 3) := by decide +kernel
theorem dX11_row_155 : decode cX11_row 155 = .ok (.aload 4, 2) := by decide +kernel
theorem dX11_row_157 : decode cX11_row 157 = .ok (.invokevirtual 404, 3) := by decide +kernel
theorem dX11_row_160 : decode cX11_row 160 = .ok (.ifCond .eq 7, 3) := by decide +kernel
theorem dX11_row_163 : decode cX11_row 163 = .ok (.iconst 1, 1) := by decide +kernel
theorem dX11_row_164 : decode cX11_row 164 = .ok (.goto 4, 3) := by decide +kernel
theorem dX11_row_167 : decode cX11_row 167 = .ok (.iconst 0, 1) := by decide +kernel
theorem dX11_row_168 : decode cX11_row 168 = .ok (.ireturn, 1) := by decide +kernel
theorem dX11_row_169 : decode cX11_row 169 = .ok (.aload 5, 2) := by decide +kernel
theorem dX11_row_171 : decode cX11_row 171 = .ok (.aload 4, 2) := by decide +kernel
theorem dX11_row_173 : decode cX11_row 173 = .ok (.invokevirtual 407, 3) := by decide +kernel
theorem dX11_row_176 : decode cX11_row 176 = .ok (.ifCond .eq 7, 3) := by decide +kernel
theorem dX11_row_179 : decode cX11_row 179 = .ok (.iconst 1, 1) := by decide +kernel
theorem dX11_row_180 : decode cX11_row 180 = .ok (.goto 4, 3) := by decide +kernel
theorem dX11_row_183 : decode cX11_row 183 = .ok (.iconst 0, 1) := by decide +kernel
theorem dX11_row_184 : decode cX11_row 184 = .ok (.ireturn, 1) := by decide +kernel
theorem dX11_row_185 : decode cX11_row 185 = .ok (.aload 5, 2) := by decide +kernel
theorem dX11_row_187 : decode cX11_row 187 = .ok (.getfield 68, 3) := by decide +kernel
theorem dX11_row_190 : decode cX11_row 190 = .ok (.getfield 410, 3) := by decide +kernel
theorem dX11_row_193 : decode cX11_row 193 = .ok (.aload 4, 2) := by decide +kernel
theorem dX11_row_195 : decode cX11_row 195 = .ok (.getfield 413, 3) := by decide +kernel
theorem dX11_row_198 : decode cX11_row 198 = .ok (.iaload, 1) := by decide +kernel
theorem dX11_row_199 : decode cX11_row 199 = .ok (.iconst 1, 1) := by decide +kernel
theorem dX11_row_200 : decode cX11_row 200 = .ok (.isub, 1) := by decide +kernel
theorem dX11_row_201 : decode cX11_row 201 = .ok (.ireturn, 1) := by decide +kernel
theorem dX11_row_202 : decode cX11_row 202 = .ok (.iload_n 3, 1) := by decide +kernel
theorem dX11_row_203 : decode cX11_row 203 = .ok (.bipush 10, 2) := by decide +kernel
theorem dX11_row_205 : decode cX11_row 205 = .ok (.if_icmp .lt 22, 3) := by decide +kernel
theorem dX11_row_208 : decode cX11_row 208 = .ok (.iload_n 3, 1) := by decide +kernel
theorem dX11_row_209 : decode cX11_row 209 = .ok (.bipush 13, 2) := by decide +kernel
theorem dX11_row_211 : decode cX11_row 211 = .ok (.if_icmp .gt 16, 3) := by decide +kernel
theorem dX11_row_214 : decode cX11_row 214 = .ok (.aload 4, 2) := by decide +kernel
theorem dX11_row_216 : decode cX11_row 216 = .ok (.getfield 416, 3) := by decide +kernel
theorem dX11_row_219 : decode cX11_row 219 = .ok (.iload_n 3, 1) := by decide +kernel
theorem dX11_row_220 : decode cX11_row 220 = .ok (.bipush 10, 2) := by decide +kernel
theorem dX11_row_222 : decode cX11_row 222 = .ok (.isub, 1) := by decide +kernel
theorem dX11_row_223 : decode cX11_row 223 = .ok (.iaload, 1) := by decide +kernel
theorem dX11_row_224 : decode cX11_row 224 = .ok (.goto 4, 3) := by decide +kernel
theorem dX11_row_227 : decode cX11_row 227 = .ok (.iconst (-1), 1) := by decide +kernel
theorem dX11_row_228 : decode cX11_row 228 = .ok (.ireturn, 1) := by decide +kernel
theorem kd_11_row : Cond.code yX11_row cX11_row 6 (some .int) ∈ lw_g := mt_at 1522 (by decide +kernel) rfl
theorem ki_11_row : Cond.instanceMethod yX11_row ∈ lw_g := mt_at 1520 (by decide +kernel) rfl
theorem kl_11_row : Cond.selects (kRn 11) yX11_row yX11_row ∈ lw_g := mt_at 1521 (by decide +kernel) rfl
theorem cw11_404 : cCw RX11 404 yX10_isGood cX10_isGood 3 (some .boolean) 1 := ⟨kd_10_isGood, mt_at 1523 (by decide +kernel) rfl, mt_at 10 (by decide +kernel) rfl, by decide +kernel⟩
theorem cw11_407 : cCw RX11 407 yX7_isStable cX7_isStable 2 (some .boolean) 1 := ⟨kd_7_isStable, mt_at 1524 (by decide +kernel) rfl, mt_at 7 (by decide +kernel) rfl, by decide +kernel⟩
section
variable {p : Program} {l : Launch} {e : Env} {R : Room} {s : State} {m : MethodId} {args : Array Value} {below : List Frame} {meth : Method} {c : Code} {H : Heap} {locs : List Loc} {cells slots : Nat} {Q : State → Prop}
variable {D : cG} {S S0 : cSt} {cc : ByteArray} {nL : Nat} {pc : Nat} {ls : Array Slot} {rest : List Value} {H0 : Heap} {nF nR nC nS : Nat} {ret : Option FieldType} {a : Nat}
theorem gk11_351 (C : cY p R s m args meth c RX11 cc nL nF nC nS nR ret) (X : cX D s) (hW : cW D S H) (hk : kK S a = 9) (hdg : decode cc pc = .ok (.getfield 351, 3)) (kk : W p l e R s m args below meth c H locs cells slots Q (F0 m (pc + 3) ls (.int (kF S a 5) :: rest))) : W p l e R s m args below meth c H locs cells slots Q (F0 m pc ls (.ref a :: rest)) := c_get C X hW 8 (by decide) ly_8 hk 5 (by decide) (mt_at 993 (by decide +kernel) (by decide +kernel)) hdg (by rw [cV_I (by decide +kernel)]; exact kk)
theorem gk11_389 (C : cY p R s m args meth c RX11 cc nL nF nC nS nR ret) (X : cX D s) (hW : cW D S H) (hk : kK S a = 9) (hdg : decode cc pc = .ok (.getfield 389, 3)) (kk : W p l e R s m args below meth c H locs cells slots Q (F0 m (pc + 3) ls (.int (kF S a 0) :: rest))) : W p l e R s m args below meth c H locs cells slots Q (F0 m pc ls (.ref a :: rest)) := c_get C X hW 8 (by decide) ly_8 hk 0 (by decide) (mt_at 969 (by decide +kernel) (by decide +kernel)) hdg (by rw [cV_I (by decide +kernel)]; exact kk)
theorem gk11_392 (C : cY p R s m args meth c RX11 cc nL nF nC nS nR ret) (X : cX D s) (hW : cW D S H) (hk : kK S a = 9) (hdg : decode cc pc = .ok (.getfield 392, 3)) (kk : W p l e R s m args below meth c H locs cells slots Q (F0 m (pc + 3) ls (.int (kF S a 2) :: rest))) : W p l e R s m args below meth c H locs cells slots Q (F0 m pc ls (.ref a :: rest)) := c_get C X hW 8 (by decide) ly_8 hk 2 (by decide) (mt_at 976 (by decide +kernel) (by decide +kernel)) hdg (by rw [cV_I (by decide +kernel)]; exact kk)
theorem gk11_395 (C : cY p R s m args meth c RX11 cc nL nF nC nS nR ret) (X : cX D s) (hW : cW D S H) (hk : kK S a = 9) (hdg : decode cc pc = .ok (.getfield 395, 3)) (kk : W p l e R s m args below meth c H locs cells slots Q (F0 m (pc + 3) ls (.int (kF S a 3) :: rest))) : W p l e R s m args below meth c H locs cells slots Q (F0 m pc ls (.ref a :: rest)) := c_get C X hW 8 (by decide) ly_8 hk 3 (by decide) (mt_at 980 (by decide +kernel) (by decide +kernel)) hdg (by rw [cV_I (by decide +kernel)]; exact kk)
theorem gk11_398 (C : cY p R s m args meth c RX11 cc nL nF nC nS nR ret) (X : cX D s) (hW : cW D S H) (hk : kK S a = 9) (hdg : decode cc pc = .ok (.getfield 398, 3)) (kk : W p l e R s m args below meth c H locs cells slots Q (F0 m (pc + 3) ls (.int (kF S a 8) :: rest))) : W p l e R s m args below meth c H locs cells slots Q (F0 m pc ls (.ref a :: rest)) := c_get C X hW 8 (by decide) ly_8 hk 8 (by decide) (mt_at 1008 (by decide +kernel) (by decide +kernel)) hdg (by rw [cV_I (by decide +kernel)]; exact kk)
theorem gk11_401 (C : cY p R s m args meth c RX11 cc nL nF nC nS nR ret) (X : cX D s) (hW : cW D S H) (hk : kK S a = 9) (hdg : decode cc pc = .ok (.getfield 401, 3)) (kk : W p l e R s m args below meth c H locs cells slots Q (F0 m (pc + 3) ls (.int (kF S a 9) :: rest))) : W p l e R s m args below meth c H locs cells slots Q (F0 m pc ls (.ref a :: rest)) := c_get C X hW 8 (by decide) ly_8 hk 9 (by decide) (mt_at 1012 (by decide +kernel) (by decide +kernel)) hdg (by rw [cV_I (by decide +kernel)]; exact kk)
theorem gk11_410 (C : cY p R s m args meth c RX11 cc nL nF nC nS nR ret) (X : cX D s) (hW : cW D S H) (hk : kK S a = 5) {x : Nat} (hx : kR S a 1 = some x) (hdg : decode cc pc = .ok (.getfield 410, 3)) (kk : W p l e R s m args below meth c H locs cells slots Q (F0 m (pc + 3) ls (.ref x :: rest))) : W p l e R s m args below meth c H locs cells slots Q (F0 m pc ls (.ref a :: rest)) := c_get C X hW 4 (by decide) ly_4 hk 1 (by decide) (mt_at 230 (by decide +kernel) (by decide +kernel)) hdg (by rw [cV_R (by decide +kernel) hx]; exact kk)
theorem gk11_413 (C : cY p R s m args meth c RX11 cc nL nF nC nS nR ret) (X : cX D s) (hW : cW D S H) (hk : kK S a = 9) (hdg : decode cc pc = .ok (.getfield 413, 3)) (kk : W p l e R s m args below meth c H locs cells slots Q (F0 m (pc + 3) ls (.int (kF S a 12) :: rest))) : W p l e R s m args below meth c H locs cells slots Q (F0 m pc ls (.ref a :: rest)) := c_get C X hW 8 (by decide) ly_8 hk 12 (by decide) (mt_at 1029 (by decide +kernel) (by decide +kernel)) hdg (by rw [cV_I (by decide +kernel)]; exact kk)
theorem gk11_416 (C : cY p R s m args meth c RX11 cc nL nF nC nS nR ret) (X : cX D s) (hW : cW D S H) (hk : kK S a = 9) {x : Nat} (hx : kR S a 10 = some x) (hdg : decode cc pc = .ok (.getfield 416, 3)) (kk : W p l e R s m args below meth c H locs cells slots Q (F0 m (pc + 3) ls (.ref x :: rest))) : W p l e R s m args below meth c H locs cells slots Q (F0 m pc ls (.ref a :: rest)) := c_get C X hW 8 (by decide) ly_8 hk 10 (by decide) (mt_at 1017 (by decide +kernel) (by decide +kernel)) hdg (by rw [cV_R (by decide +kernel) hx]; exact kk)
end
section
variable {p : Program} {l : Launch} {e : Env} {R : Room} {s : State} {m : MethodId} {args : Array Value} {below : List Frame} {meth : Method} {c : Code} {D : cG} {S : cSt} {r : Int32}
noncomputable def fk_11_row_43 (S : cSt) : Option (Int32) :=
some (-1 : Int32)
set_option maxRecDepth 100000 in
set_option maxHeartbeats 4000000 in
theorem wk_11_row_43 (C : cY p R s m args meth c RX11 cX11_row 6 4 0 0 104 (some .int)) (X : cX D s) (hW : cW D S s.heap) : ∀ {ls : Array Slot}, fk_11_row_43 S = some r → lv_has ls 6 [] → W p l e R s m args below meth c s.heap [] 0 0 (MQ below (kQ (some (.int r))) args s 0 0 mNo) (F0 m 43 ls []) := by
  intro ls h hl
  unfold fk_11_row_43 at h
  refine lv_iconst (v := -1) C.1 C.2.1 dX11_row_43 (by decide) ?_
  cases h
  exact c_reti C rfl rfl dX11_row_44
noncomputable def fk_11_row_228 (S : cSt) (s0 : Int32) : Option (Int32) :=
some s0
set_option maxRecDepth 100000 in
set_option maxHeartbeats 4000000 in
theorem wk_11_row_228 (C : cY p R s m args meth c RX11 cX11_row 6 4 0 0 104 (some .int)) (X : cX D s) (hW : cW D S s.heap) : ∀ {s0 : Int32} {ls : Array Slot}, fk_11_row_228 S s0 = some r → lv_has ls 6 [] → W p l e R s m args below meth c s.heap [] 0 0 (MQ below (kQ (some (.int r))) args s 0 0 mNo) (F0 m 228 ls [.int s0]) := by
  intro s0 ls h hl
  unfold fk_11_row_228 at h
  cases h
  exact c_reti C rfl rfl dX11_row_228
noncomputable def fk_11_row_227 (S : cSt) : Option (Int32) :=
fk_11_row_228 S (-1 : Int32)
set_option maxRecDepth 100000 in
set_option maxHeartbeats 4000000 in
theorem wk_11_row_227 (C : cY p R s m args meth c RX11 cX11_row 6 4 0 0 104 (some .int)) (X : cX D s) (hW : cW D S s.heap) : ∀ {ls : Array Slot}, fk_11_row_227 S = some r → lv_has ls 6 [] → W p l e R s m args below meth c s.heap [] 0 0 (MQ below (kQ (some (.int r))) args s 0 0 mNo) (F0 m 227 ls []) := by
  intro ls h hl
  unfold fk_11_row_227 at h
  refine lv_iconst (v := -1) C.1 C.2.1 dX11_row_227 (by decide) ?_
  exact wk_11_row_228 C X hW h (lv_sub hl [] rfl)
noncomputable def fk_11_row_168 (S : cSt) (s0 : Int32) : Option (Int32) :=
some s0
set_option maxRecDepth 100000 in
set_option maxHeartbeats 4000000 in
theorem wk_11_row_168 (C : cY p R s m args meth c RX11 cX11_row 6 4 0 0 104 (some .int)) (X : cX D s) (hW : cW D S s.heap) : ∀ {s0 : Int32} {ls : Array Slot}, fk_11_row_168 S s0 = some r → lv_has ls 6 [] → W p l e R s m args below meth c s.heap [] 0 0 (MQ below (kQ (some (.int r))) args s 0 0 mNo) (F0 m 168 ls [.int s0]) := by
  intro s0 ls h hl
  unfold fk_11_row_168 at h
  cases h
  exact c_reti C rfl rfl dX11_row_168
noncomputable def fk_11_row_184 (S : cSt) (s0 : Int32) : Option (Int32) :=
some s0
set_option maxRecDepth 100000 in
set_option maxHeartbeats 4000000 in
theorem wk_11_row_184 (C : cY p R s m args meth c RX11 cX11_row 6 4 0 0 104 (some .int)) (X : cX D s) (hW : cW D S s.heap) : ∀ {s0 : Int32} {ls : Array Slot}, fk_11_row_184 S s0 = some r → lv_has ls 6 [] → W p l e R s m args below meth c s.heap [] 0 0 (MQ below (kQ (some (.int r))) args s 0 0 mNo) (F0 m 184 ls [.int s0]) := by
  intro s0 ls h hl
  unfold fk_11_row_184 at h
  cases h
  exact c_reti C rfl rfl dX11_row_184
noncomputable def fk_11_row_19 (S : cSt) (v0 : Nat) (v1 : Int32) (v3 : Int32) (s0 : Option Nat) : Option (Int32) :=
cs s0 (
fk_11_row_43 S) (fun a1 =>
ckk S v0 12 (bd (kR S v0 2) fun a2 =>
ckk S a2 31 (ck v1 (kL S a2) (lt (kO S a2 (Int32.toNatClampNeg v1)) fun o3 =>
bd o3 fun a4 =>
ckk S a4 8 (bd (kR S a4 1) fun a5 =>
ckk S a5 5 (bd (fk_4_has S a5 a1) fun r6 =>
if r6 = 0 then (
fk_11_row_43 S)
else (
ckk S v0 12 (bd (kR S v0 2) fun a8 =>
ckk S a8 31 (ck v1 (kL S a8) (lt (kO S a8 (Int32.toNatClampNeg v1)) fun o9 =>
if v3 = (0 : Int32) then (
ckk S a1 9 (
some (kF S a1 0)))
else if v3 = (1 : Int32) then (
ckk S a1 9 (
some (kF S a1 2)))
else if v3 = (2 : Int32) then (
ckk S a1 9 (
some (kF S a1 3)))
else if v3 = (3 : Int32) then (
ckk S a1 9 (
some (kF S a1 4)))
else if v3 = (4 : Int32) then (
ckk S a1 9 (
some (kF S a1 5)))
else if v3 = (5 : Int32) then (
ckk S a1 9 (
some (kF S a1 8)))
else if v3 = (6 : Int32) then (
ckk S a1 9 (
some (kF S a1 9)))
else if v3 = (7 : Int32) then (
bd o9 fun a18 =>
ckk S a18 8 (bd (kR S a18 2) fun a19 =>
ckk S a19 11 (bd (fk_10_isGood S a19 a1) fun r20 =>
if r20 = 0 then (
fk_11_row_168 S (0 : Int32))
else (
fk_11_row_168 S (1 : Int32)))))
else if v3 = (8 : Int32) then (
bd o9 fun a23 =>
ckk S a23 8 (bd (fk_7_isStable S a23 a1) fun r24 =>
if r24 = 0 then (
fk_11_row_184 S (0 : Int32))
else (
fk_11_row_184 S (1 : Int32))))
else if v3 = (9 : Int32) then (
bd o9 fun a27 =>
ckk S a27 8 (bd (kR S a27 1) fun a28 =>
ckk S a28 5 (bd (kR S a28 1) fun a29 =>
ckk S a1 9 (
ckk S a29 20 (ck (kF S a1 12) (kL S a29) (
some ((kI S a29 (Int32.toNatClampNeg (kF S a1 12))) - (1 : Int32))))))))
else (
if v3 < (10 : Int32) then (
fk_11_row_227 S)
else (
if (13 : Int32) < v3 then (
fk_11_row_227 S)
else (
ckk S a1 9 (bd (kR S a1 10) fun a32 =>
ckk S a32 20 (ck (v3 - (10 : Int32)) (kL S a32) (
fk_11_row_228 S (kI S a32 (Int32.toNatClampNeg (v3 - (10 : Int32))))))))))))))))))))
set_option maxRecDepth 100000 in
set_option maxHeartbeats 4000000 in
theorem wk_11_row_19 (C : cY p R s m args meth c RX11 cX11_row 6 4 0 0 104 (some .int)) (X : cX D s) (hW : cW D S s.heap) : ∀ {v0 : Nat} {v1 : Int32} {v3 : Int32} {s0 : Option Nat} {ls : Array Slot}, fk_11_row_19 S v0 v1 v3 s0 = some r → lv_has ls 6 [(0, .ref v0), (1, .int v1), (3, .int v3)] → W p l e R s m args below meth c s.heap [] 0 0 (MQ below (kQ (some (.int r))) args s 0 0 mNo) (F0 m 19 ls [va_rf s0]) := by
  intro v0 v1 v3 s0 ls h hl
  unfold fk_11_row_19 at h
  refine lv_astoreq (o := s0) (lv' := [(4, va_rf s0), (0, .ref v0), (1, .int v1), (3, .int v3)]) C.1 C.2.1 dX11_row_19 hl (by decide) rfl (fun ls hl => ?_)
  refine lv_aloadq (o := s0) C.1 C.2.1 dX11_row_21 (lv_at hl 0 rfl) ?_
  rcases s0 with _ | a1
  · replace h := cs_n h
    refine lv_ifnullN (tgt := 43) C.1 C.2.1 dX11_row_23 (by decide) ?_
    exact wk_11_row_43 C X hW h (lv_sub hl [] rfl)
  · replace h := cs_s h
    refine lv_ifnull C.1 C.2.1 dX11_row_23 ?_
    refine lv_aload_n C.1 C.2.1 dX11_row_26 rfl (lv_at hl 1 rfl) ?_
    obtain ⟨hk, h⟩ := ckk_ok h
    obtain ⟨a2, h_a2, h⟩ := bd_ok h
    refine gk11_25 C X hW hk h_a2 dX11_row_27 ?_
    refine lv_iload_n C.1 C.2.1 dX11_row_30 rfl (lv_at hl 2 rfl) ?_
    obtain ⟨hk, h⟩ := ckk_ok h
    obtain ⟨hin2, h⟩ := ck_ok h
    refine c_aald C 31 (by decide) X.2.2.2.2.2.1 hW hk hin2 dX11_row_31 ?_
    refine lt_ok h (fun o3 e_o3 h => ?_)
    refine lv_nmq e_o3 ?_
    obtain ⟨a4, e_a4, h⟩ := bd_ok h
    subst e_a4
    obtain ⟨hk, h⟩ := ckk_ok h
    obtain ⟨a5, h_a5, h⟩ := bd_ok h
    refine gk11_68 C X hW hk h_a5 dX11_row_32 ?_
    refine lv_aload C.1 C.2.1 dX11_row_35 (lv_at hl 0 rfl) ?_
    obtain ⟨hk, h⟩ := ckk_ok h
    obtain ⟨r6, h_r6, h⟩ := bd_ok h
    refine c_callR (rest := []) C X hW hl.1 4 (by decide) hk [.ref a1] (tk_4_has l h_r6) cw11_385 ki_4_has kl_4_has rfl ⟨by decide, by decide⟩ ⟨(by decide), (by decide)⟩ rfl (Nat.le_of_ble_eq_true rfl) dX11_row_37 ?_
    refine W.eq (g2 := F0 m 40 ls [.int r6]) rfl ?_
    refine lv_if_ne (tgt := 45) C.1 C.2.1 dX11_row_40 (by decide) (fun c7 => ?_) (fun c7 => ?_)
    · have h := if_f h c7
      refine lv_aload_n C.1 C.2.1 dX11_row_45 rfl (lv_at hl 1 rfl) ?_
      obtain ⟨hk, h⟩ := ckk_ok h
      obtain ⟨a8, h_a8, h⟩ := bd_ok h
      refine gk11_25 C X hW hk h_a8 dX11_row_46 ?_
      refine lv_iload_n C.1 C.2.1 dX11_row_49 rfl (lv_at hl 2 rfl) ?_
      obtain ⟨hk, h⟩ := ckk_ok h
      obtain ⟨hin2, h⟩ := ck_ok h
      refine c_aald C 31 (by decide) X.2.2.2.2.2.1 hW hk hin2 dX11_row_50 ?_
      refine lt_ok h (fun o9 e_o9 h => ?_)
      refine lv_nmq e_o9 ?_
      refine lv_astoreq (o := o9) (lv' := [(5, va_rf o9), (4, .ref a1), (0, .ref v0), (1, .int v1), (3, .int v3)]) C.1 C.2.1 dX11_row_51 hl (by decide) rfl (fun ls hl => ?_)
      refine lv_iload_n C.1 C.2.1 dX11_row_53 rfl (lv_at hl 4 rfl) ?_
      by_cases c10 : v3 = (0 : Int32)
      · have h := if_t h c10
        refine lv_tableIn (off := 54) (tgt := 108) C.1 C.2.1 dX11_row_54 (by rw [c10]; decide) (by rw [c10]; decide) (by rw [c10]; rfl) (by decide) ?_
        refine lv_aload C.1 C.2.1 dX11_row_108 (lv_at hl 1 rfl) ?_
        obtain ⟨hk, h⟩ := ckk_ok h
        refine gk11_389 C X hW hk dX11_row_110 ?_
        cases h
        exact c_reti C rfl rfl dX11_row_113
      · have h := if_f h c10
        by_cases c11 : v3 = (1 : Int32)
        · have h := if_t h c11
          refine lv_tableIn (off := 60) (tgt := 114) C.1 C.2.1 dX11_row_54 (by rw [c11]; decide) (by rw [c11]; decide) (by rw [c11]; rfl) (by decide) ?_
          refine lv_aload C.1 C.2.1 dX11_row_114 (lv_at hl 1 rfl) ?_
          obtain ⟨hk, h⟩ := ckk_ok h
          refine gk11_392 C X hW hk dX11_row_116 ?_
          cases h
          exact c_reti C rfl rfl dX11_row_119
        · have h := if_f h c11
          by_cases c12 : v3 = (2 : Int32)
          · have h := if_t h c12
            refine lv_tableIn (off := 66) (tgt := 120) C.1 C.2.1 dX11_row_54 (by rw [c12]; decide) (by rw [c12]; decide) (by rw [c12]; rfl) (by decide) ?_
            refine lv_aload C.1 C.2.1 dX11_row_120 (lv_at hl 1 rfl) ?_
            obtain ⟨hk, h⟩ := ckk_ok h
            refine gk11_395 C X hW hk dX11_row_122 ?_
            cases h
            exact c_reti C rfl rfl dX11_row_125
          · have h := if_f h c12
            by_cases c13 : v3 = (3 : Int32)
            · have h := if_t h c13
              refine lv_tableIn (off := 72) (tgt := 126) C.1 C.2.1 dX11_row_54 (by rw [c13]; decide) (by rw [c13]; decide) (by rw [c13]; rfl) (by decide) ?_
              refine lv_aload C.1 C.2.1 dX11_row_126 (lv_at hl 1 rfl) ?_
              obtain ⟨hk, h⟩ := ckk_ok h
              refine gk11_340 C X hW hk dX11_row_128 ?_
              cases h
              exact c_reti C rfl rfl dX11_row_131
            · have h := if_f h c13
              by_cases c14 : v3 = (4 : Int32)
              · have h := if_t h c14
                refine lv_tableIn (off := 78) (tgt := 132) C.1 C.2.1 dX11_row_54 (by rw [c14]; decide) (by rw [c14]; decide) (by rw [c14]; rfl) (by decide) ?_
                refine lv_aload C.1 C.2.1 dX11_row_132 (lv_at hl 1 rfl) ?_
                obtain ⟨hk, h⟩ := ckk_ok h
                refine gk11_351 C X hW hk dX11_row_134 ?_
                cases h
                exact c_reti C rfl rfl dX11_row_137
              · have h := if_f h c14
                by_cases c15 : v3 = (5 : Int32)
                · have h := if_t h c15
                  refine lv_tableIn (off := 84) (tgt := 138) C.1 C.2.1 dX11_row_54 (by rw [c15]; decide) (by rw [c15]; decide) (by rw [c15]; rfl) (by decide) ?_
                  refine lv_aload C.1 C.2.1 dX11_row_138 (lv_at hl 1 rfl) ?_
                  obtain ⟨hk, h⟩ := ckk_ok h
                  refine gk11_398 C X hW hk dX11_row_140 ?_
                  cases h
                  exact c_reti C rfl rfl dX11_row_143
                · have h := if_f h c15
                  by_cases c16 : v3 = (6 : Int32)
                  · have h := if_t h c16
                    refine lv_tableIn (off := 90) (tgt := 144) C.1 C.2.1 dX11_row_54 (by rw [c16]; decide) (by rw [c16]; decide) (by rw [c16]; rfl) (by decide) ?_
                    refine lv_aload C.1 C.2.1 dX11_row_144 (lv_at hl 1 rfl) ?_
                    obtain ⟨hk, h⟩ := ckk_ok h
                    refine gk11_401 C X hW hk dX11_row_146 ?_
                    cases h
                    exact c_reti C rfl rfl dX11_row_149
                  · have h := if_f h c16
                    by_cases c17 : v3 = (7 : Int32)
                    · have h := if_t h c17
                      refine lv_tableIn (off := 96) (tgt := 150) C.1 C.2.1 dX11_row_54 (by rw [c17]; decide) (by rw [c17]; decide) (by rw [c17]; rfl) (by decide) ?_
                      refine lv_aloadq (o := o9) C.1 C.2.1 dX11_row_150 (lv_at hl 0 rfl) ?_
                      obtain ⟨a18, e_a18, h⟩ := bd_ok h
                      subst e_a18
                      obtain ⟨hk, h⟩ := ckk_ok h
                      obtain ⟨a19, h_a19, h⟩ := bd_ok h
                      refine gk11_147 C X hW hk h_a19 dX11_row_152 ?_
                      refine lv_aload C.1 C.2.1 dX11_row_155 (lv_at hl 1 rfl) ?_
                      obtain ⟨hk, h⟩ := ckk_ok h
                      obtain ⟨r20, h_r20, h⟩ := bd_ok h
                      refine c_callR (rest := []) C X hW hl.1 10 (by decide) hk [.ref a1] (tk_10_isGood l h_r20) cw11_404 ki_10_isGood kl_10_isGood rfl ⟨by decide, by decide⟩ ⟨(by decide), (by decide)⟩ rfl (Nat.le_of_ble_eq_true rfl) dX11_row_157 ?_
                      refine W.eq (g2 := F0 m 160 ls [.int r20]) rfl ?_
                      refine lv_if_eq (tgt := 167) C.1 C.2.1 dX11_row_160 (by decide) (fun c21 => ?_) (fun c21 => ?_)
                      · have h := if_t h c21
                        refine lv_iconst (v := 0) C.1 C.2.1 dX11_row_167 (by decide) ?_
                        exact wk_11_row_168 C X hW h (lv_sub hl [] rfl)
                      · have h := if_f h c21
                        refine lv_iconst (v := 1) C.1 C.2.1 dX11_row_163 (by decide) ?_
                        refine lv_goto (tgt := 168) C.1 C.2.1 dX11_row_164 (by decide) ?_
                        exact wk_11_row_168 C X hW h (lv_sub hl [] rfl)
                    · have h := if_f h c17
                      by_cases c22 : v3 = (8 : Int32)
                      · have h := if_t h c22
                        refine lv_tableIn (off := 115) (tgt := 169) C.1 C.2.1 dX11_row_54 (by rw [c22]; decide) (by rw [c22]; decide) (by rw [c22]; rfl) (by decide) ?_
                        refine lv_aloadq (o := o9) C.1 C.2.1 dX11_row_169 (lv_at hl 0 rfl) ?_
                        refine lv_aload C.1 C.2.1 dX11_row_171 (lv_at hl 1 rfl) ?_
                        obtain ⟨a23, e_a23, h⟩ := bd_ok h
                        subst e_a23
                        obtain ⟨hk, h⟩ := ckk_ok h
                        obtain ⟨r24, h_r24, h⟩ := bd_ok h
                        refine c_callR (rest := []) C X hW hl.1 7 (by decide) hk [.ref a1] (tk_7_isStable l h_r24) cw11_407 ki_7_isStable kl_7_isStable rfl ⟨by decide, by decide⟩ ⟨(by decide), (by decide)⟩ rfl (Nat.le_of_ble_eq_true rfl) dX11_row_173 ?_
                        refine W.eq (g2 := F0 m 176 ls [.int r24]) rfl ?_
                        refine lv_if_eq (tgt := 183) C.1 C.2.1 dX11_row_176 (by decide) (fun c25 => ?_) (fun c25 => ?_)
                        · have h := if_t h c25
                          refine lv_iconst (v := 0) C.1 C.2.1 dX11_row_183 (by decide) ?_
                          exact wk_11_row_184 C X hW h (lv_sub hl [] rfl)
                        · have h := if_f h c25
                          refine lv_iconst (v := 1) C.1 C.2.1 dX11_row_179 (by decide) ?_
                          refine lv_goto (tgt := 184) C.1 C.2.1 dX11_row_180 (by decide) ?_
                          exact wk_11_row_184 C X hW h (lv_sub hl [] rfl)
                      · have h := if_f h c22
                        by_cases c26 : v3 = (9 : Int32)
                        · have h := if_t h c26
                          refine lv_tableIn (off := 131) (tgt := 185) C.1 C.2.1 dX11_row_54 (by rw [c26]; decide) (by rw [c26]; decide) (by rw [c26]; rfl) (by decide) ?_
                          refine lv_aloadq (o := o9) C.1 C.2.1 dX11_row_185 (lv_at hl 0 rfl) ?_
                          obtain ⟨a27, e_a27, h⟩ := bd_ok h
                          subst e_a27
                          obtain ⟨hk, h⟩ := ckk_ok h
                          obtain ⟨a28, h_a28, h⟩ := bd_ok h
                          refine gk11_68 C X hW hk h_a28 dX11_row_187 ?_
                          obtain ⟨hk, h⟩ := ckk_ok h
                          obtain ⟨a29, h_a29, h⟩ := bd_ok h
                          refine gk11_410 C X hW hk h_a29 dX11_row_190 ?_
                          refine lv_aload C.1 C.2.1 dX11_row_193 (lv_at hl 1 rfl) ?_
                          obtain ⟨hk, h⟩ := ckk_ok h
                          refine gk11_413 C X hW hk dX11_row_195 ?_
                          obtain ⟨hk, h⟩ := ckk_ok h
                          obtain ⟨hin2, h⟩ := ck_ok h
                          refine c_iald C X hW hk hin2 dX11_row_198 ?_
                          refine lv_iconst (v := 1) C.1 C.2.1 dX11_row_199 (by decide) ?_
                          refine lv_isub C.1 C.2.1 dX11_row_200 ?_
                          cases h
                          exact c_reti C rfl rfl dX11_row_201
                        · have h := if_f h c26
                          have n_c10 := lv_neT c10 (a := 0) rfl
                          have n_c11 := lv_neT c11 (a := 1) rfl
                          have n_c12 := lv_neT c12 (a := 2) rfl
                          have n_c13 := lv_neT c13 (a := 3) rfl
                          have n_c14 := lv_neT c14 (a := 4) rfl
                          have n_c15 := lv_neT c15 (a := 5) rfl
                          have n_c16 := lv_neT c16 (a := 6) rfl
                          have n_c17 := lv_neT c17 (a := 7) rfl
                          have n_c22 := lv_neT c22 (a := 8) rfl
                          have n_c26 := lv_neT c26 (a := 9) rfl
                          refine lv_tableOut (tgt := 202) C.1 C.2.1 dX11_row_54 (by omega) (by decide) ?_
                          refine lv_iload_n C.1 C.2.1 dX11_row_202 rfl (lv_at hl 4 rfl) ?_
                          refine lv_bipush (v := 10) C.1 C.2.1 dX11_row_203 (by decide) ?_
                          refine lv_icmp_lt (tgt := 227) C.1 C.2.1 dX11_row_205 (by decide) (fun c30 => ?_) (fun c30 => ?_)
                          · have h := if_t h c30
                            exact wk_11_row_227 C X hW h (lv_sub hl [] rfl)
                          · have h := if_f h c30
                            refine lv_iload_n C.1 C.2.1 dX11_row_208 rfl (lv_at hl 4 rfl) ?_
                            refine lv_bipush (v := 13) C.1 C.2.1 dX11_row_209 (by decide) ?_
                            refine lv_icmp_gt (tgt := 227) C.1 C.2.1 dX11_row_211 (by decide) (fun c31 => ?_) (fun c31 => ?_)
                            · have h := if_t h c31
                              exact wk_11_row_227 C X hW h (lv_sub hl [] rfl)
                            · have h := if_f h c31
                              refine lv_aload C.1 C.2.1 dX11_row_214 (lv_at hl 1 rfl) ?_
                              obtain ⟨hk, h⟩ := ckk_ok h
                              obtain ⟨a32, h_a32, h⟩ := bd_ok h
                              refine gk11_416 C X hW hk h_a32 dX11_row_216 ?_
                              refine lv_iload_n C.1 C.2.1 dX11_row_219 rfl (lv_at hl 4 rfl) ?_
                              refine lv_bipush (v := 10) C.1 C.2.1 dX11_row_220 (by decide) ?_
                              refine lv_isub C.1 C.2.1 dX11_row_222 ?_
                              obtain ⟨hk, h⟩ := ckk_ok h
                              obtain ⟨hin2, h⟩ := ck_ok h
                              refine c_iald C X hW hk hin2 dX11_row_223 ?_
                              refine lv_goto (tgt := 228) C.1 C.2.1 dX11_row_224 (by decide) ?_
                              exact wk_11_row_228 C X hW h (lv_sub hl [] rfl)
    · have h := if_t h c7
      exact wk_11_row_43 C X hW h (lv_sub hl [] rfl)
noncomputable def fk_11_row (S : cSt) (v0 : Nat) (v1 : Int32) (v2 : Int32) (v3 : Int32) : Option (Int32) :=
bd (fk_11_isNode v1) fun r1 =>
if r1 = 0 then (
fk_11_row_19 S v0 v1 v3 none)
else (
ckk S v0 12 (bd (kR S v0 1) fun a3 =>
ckk S a3 1 (bd (fk_0_rowNamed S a3 v2) fun o4 =>
fk_11_row_19 S v0 v1 v3 o4)))
set_option maxRecDepth 100000 in
set_option maxHeartbeats 4000000 in
theorem tk_11_row (l : Launch) {D : cG} {S : cSt} {v0 : Nat} {v1 : Int32} {v2 : Int32} {v3 : Int32} {r : Int32}  (h : fk_11_row S v0 v1 v2 v3 = some r) : Met l yX11_row (Cond.code yX11_row cX11_row 6 (some .int) :: lw_g) { frames := 4, cells := 0, slots := 0, locals := 104 } (kPi [.ref v0, .int v1, .int v2, .int v3] D S) (kQ (some (.int r))) 0 0 (mNo) := by
  refine Met.ofW (cc := cX11_row) (maxL := 6) (ret := (some .int)) (by decide) rfl ?_
  intro p e s m args below meth c s₁ B hml hv
  obtain ⟨rfl, hW, X⟩ := hv
  have C : cY p (headSpec (Cond.code yX11_row cX11_row 6 (some .int) :: lw_g) { frames := 4, cells := 0, slots := 0, locals := 104 }).room s m _ meth c RX11 cX11_row 6 4 0 0 104 (some .int) := ⟨B.exec, B.bytes, hml, findClass_of_methodNamed B.named, fun w hw => atoms_spec (ws := Cond.code yX11_row cX11_row 6 (some .int) :: lw_g) B.pre w (List.mem_cons_of_mem _ hw), ⟨Nat.le_refl _, Nat.le_refl _, Nat.le_refl _, Nat.le_refl _⟩, B.returns, B.notSynchronized⟩
  have hl := lv_entry ([.ref v0, .int v1, .int v2, .int v3]) (n := 6) (Nat.le_of_ble_eq_true rfl)
  rw [lg_entry_eq]
  generalize (lg_sl ([.ref v0, .int v1, .int v2, .int v3]) ++ List.replicate (6 - (lg_sl ([.ref v0, .int v1, .int v2, .int v3])).length) Slot.unset).toArray = ls at hl ⊢
  have hl : lv_has ls 6 [(0, .ref v0), (1, .int v1), (2, .int v2), (3, .int v3)] := hl
  unfold fk_11_row at h
  refine lv_iload_n C.1 C.2.1 dX11_row_0 rfl (lv_at hl 1 rfl) ?_
  obtain ⟨r1, h_r1, h⟩ := bd_ok h
  refine c_callS (rest := []) C hl.1 [.int v1] (tk_11_isNode l h_r1) cw11_112 ks_11_isNode rfl ⟨by decide, by decide⟩ ⟨(by decide), (by decide)⟩ rfl (Nat.le_of_ble_eq_true rfl) dX11_row_1 ?_
  refine W.eq (g2 := F0 m 4 ls [.int r1]) rfl ?_
  refine lv_if_eq (tgt := 18) C.1 C.2.1 dX11_row_4 (by decide) (fun c2 => ?_) (fun c2 => ?_)
  · have h := if_t h c2
    refine lv_null C.1 C.2.1 dX11_row_18 ?_
    exact wk_11_row_19 C X hW h (lv_sub hl [0, 1, 3] rfl)
  · have h := if_f h c2
    refine lv_aload_n C.1 C.2.1 dX11_row_7 rfl (lv_at hl 0 rfl) ?_
    obtain ⟨hk, h⟩ := ckk_ok h
    obtain ⟨a3, h_a3, h⟩ := bd_ok h
    refine gk11_19 C X hW hk h_a3 dX11_row_8 ?_
    refine lv_iload_n C.1 C.2.1 dX11_row_11 rfl (lv_at hl 2 rfl) ?_
    obtain ⟨hk, h⟩ := ckk_ok h
    obtain ⟨o4, h_o4, h⟩ := bd_ok h
    refine c_callR (rest := []) C X hW hl.1 0 (by decide) hk [.int v2] (tk_0_rowNamed l h_o4) cw11_381 ki_0_rowNamed kl_0_rowNamed rfl ⟨by decide, by decide⟩ ⟨(by decide), (by decide)⟩ rfl (Nat.le_of_ble_eq_true rfl) dX11_row_12 ?_
    refine W.eq (g2 := F0 m 15 ls [va_rf o4]) rfl ?_
    refine lv_goto (tgt := 19) C.1 C.2.1 dX11_row_15 (by decide) ?_
    exact wk_11_row_19 C X hW h (lv_sub hl [0, 1, 3] rfl)
end
theorem dX11_frame_0 : decode cX11_frame 0 = .ok (.aload_n 0, 1) := by decide +kernel
theorem dX11_frame_1 : decode cX11_frame 1 = .ok (.getfield 32, 3) := by decide +kernel
theorem dX11_frame_4 : decode cX11_frame 4 = .ok (.iload_n 1, 1) := by decide +kernel
theorem dX11_frame_5 : decode cX11_frame 5 = .ok (.invokevirtual 220, 3) := by decide +kernel
theorem dX11_frame_8 : decode cX11_frame 8 = .ok (.astore_n 3, 1) := by decide +kernel
theorem dX11_frame_9 : decode cX11_frame 9 = .ok (.aload_n 3, 1) := by decide +kernel
theorem dX11_frame_10 : decode cX11_frame 10 = .ok (.ifnull 7, 3) := by decide +kernel
theorem dX11_frame_13 : decode cX11_frame 13 = .ok (.iload_n 2, 1) := by decide +kernel
theorem dX11_frame_14 : decode cX11_frame 14 = .ok (.ifCond .ge 5, 3) := by decide +kernel
theorem dX11_frame_17 : decode cX11_frame 17 = .ok (.iconst (-1), 1) := by decide +kernel
theorem dX11_frame_18 : decode cX11_frame 18 = .ok (.ireturn, 1) := by decide +kernel
theorem dX11_frame_19 : decode cX11_frame 19 = .ok (.iload_n 2, 1) := by decide +kernel
theorem dX11_frame_20 : decode cX11_frame 20 = .ok (.tableswitch 60 0 3 #[32, 37, 42, 55], 32) := by decide +kernel
theorem dX11_frame_52 : decode cX11_frame 52 = .ok (.aload_n 3, 1) := by decide +kernel
theorem dX11_frame_53 : decode cX11_frame 53 = .ok (.getfield 236, 3) := by decide +kernel
theorem dX11_frame_56 : decode cX11_frame 56 = .ok (.ireturn, 1) := by decide +kernel
theorem dX11_frame_57 : decode cX11_frame 57 = .ok (.aload_n 3, 1) := by decide +kernel
theorem dX11_frame_58 : decode cX11_frame 58 = .ok (.getfield 239, 3) := by decide +kernel
theorem dX11_frame_61 : decode cX11_frame 61 = .ok (.ireturn, 1) := by decide +kernel
theorem dX11_frame_62 : decode cX11_frame 62 = .ok (.aload_n 3, 1) := by decide +kernel
theorem dX11_frame_63 : decode cX11_frame 63 = .ok (.getfield 246, 3) := by decide +kernel
theorem dX11_frame_66 : decode cX11_frame 66 = .ok (.ifCond .eq 7, 3) := by decide +kernel
theorem dX11_frame_69 : decode cX11_frame 69 = .ok (.iconst 1, 1) := by decide +kernel
theorem dX11_frame_70 : decode cX11_frame 70 = .ok (.goto 4, 3) := by decide +kernel
theorem dX11_frame_73 : decode cX11_frame 73 = .ok (.iconst 0, 1) := by decide +kernel
theorem dX11_frame_74 : decode cX11_frame 74 = .ok (.ireturn, 1) := by decide +kernel
theorem dX11_frame_75 : decode cX11_frame 75 = .ok (.aload_n 3, 1) := by decide +kernel
theorem dX11_frame_76 : decode cX11_frame 76 = .ok (.getfield 417, 3) := by decide +kernel
theorem dX11_frame_79 : decode cX11_frame 79 = .ok (.ireturn, 1) := by decide +kernel
theorem dX11_frame_80 : decode cX11_frame 80 = .ok (.iload_n 2, 1) := by decide +kernel
theorem dX11_frame_81 : decode cX11_frame 81 = .ok (.bipush 8, 2) := by decide +kernel
theorem dX11_frame_83 : decode cX11_frame 83 = .ok (.if_icmp .ge 12, 3) := by decide +kernel
theorem dX11_frame_86 : decode cX11_frame 86 = .ok (.aload_n 3, 1) := by decide +kernel
theorem dX11_frame_87 : decode cX11_frame 87 = .ok (.getfield 250, 3) := by decide +kernel
theorem dX11_frame_90 : decode cX11_frame 90 = .ok (.iload_n 2, 1) := by decide +kernel
theorem dX11_frame_91 : decode cX11_frame 91 = .ok (.iconst 4, 1) := by decide +kernel
theorem dX11_frame_92 : decode cX11_frame 92 = .ok (.isub, 1) := by decide +kernel
theorem dX11_frame_93 : decode cX11_frame 93 = .ok (.iaload, 1) := by decide +kernel
theorem dX11_frame_94 : decode cX11_frame 94 = .ok (.ireturn, 1) := by decide +kernel
theorem dX11_frame_95 : decode cX11_frame 95 = .ok (.iload_n 2, 1) := by decide +kernel
theorem dX11_frame_96 : decode cX11_frame 96 = .ok (.bipush 8, 2) := by decide +kernel
theorem dX11_frame_98 : decode cX11_frame 98 = .ok (.isub, 1) := by decide +kernel
theorem dX11_frame_99 : decode cX11_frame 99 = .ok (.aload_n 3, 1) := by decide +kernel
theorem dX11_frame_100 : decode cX11_frame 100 = .ok (.getfield 417, 3) := by decide +kernel
theorem dX11_frame_103 : decode cX11_frame 103 = .ok (.if_icmp .ge 18, 3) := by decide +kernel
theorem dX11_frame_106 : decode cX11_frame 106 = .ok (.aload_n 3, 1) := by decide +kernel
theorem dX11_frame_107 : decode cX11_frame 107 = .ok (.getfield 420, 3) := by decide +kernel
theorem dX11_frame_110 : decode cX11_frame 110 = .ok (.iload_n 2, 1) := by decide +kernel
theorem dX11_frame_111 : decode cX11_frame 111 = .ok (.bipush 8, 2) := by decide +kernel
theorem dX11_frame_113 : decode cX11_frame 113 = .ok (.isub, 1) := by decide +kernel
theorem dX11_frame_114 : decode cX11_frame 114 = .ok (.aaload, 1) := by decide +kernel
theorem dX11_frame_115 : decode cX11_frame 115 = .ok (.getfield 142, 3) := by decide +kernel
theorem dX11_frame_118 : decode cX11_frame 118 = .ok (.goto 4, 3) := by decide +kernel
theorem dX11_frame_121 : decode cX11_frame 121 = .ok (.iconst (-1), 1) := by decide +kernel
theorem dX11_frame_122 : decode cX11_frame 122 = .ok (.ireturn, 1) := by decide +kernel
theorem kd_11_frame : Cond.code yX11_frame cX11_frame 4 (some .int) ∈ lw_g := mt_at 1528 (by decide +kernel) rfl
theorem ki_11_frame : Cond.instanceMethod yX11_frame ∈ lw_g := mt_at 1526 (by decide +kernel) rfl
theorem kl_11_frame : Cond.selects (kRn 11) yX11_frame yX11_frame ∈ lw_g := mt_at 1527 (by decide +kernel) rfl
section
variable {p : Program} {l : Launch} {e : Env} {R : Room} {s : State} {m : MethodId} {args : Array Value} {below : List Frame} {meth : Method} {c : Code} {H : Heap} {locs : List Loc} {cells slots : Nat} {Q : State → Prop}
variable {D : cG} {S S0 : cSt} {cc : ByteArray} {nL : Nat} {pc : Nat} {ls : Array Slot} {rest : List Value} {H0 : Heap} {nF nR nC nS : Nat} {ret : Option FieldType} {a : Nat}
theorem gk11_417 (C : cY p R s m args meth c RX11 cc nL nF nC nS nR ret) (X : cX D s) (hW : cW D S H) (hk : kK S a = 3) (hdg : decode cc pc = .ok (.getfield 417, 3)) (kk : W p l e R s m args below meth c H locs cells slots Q (F0 m (pc + 3) ls (.int (kF S a 6) :: rest))) : W p l e R s m args below meth c H locs cells slots Q (F0 m pc ls (.ref a :: rest)) := c_get C X hW 2 (by decide) ly_2 hk 6 (by decide) (mt_at 1287 (by decide +kernel) (by decide +kernel)) hdg (by rw [cV_I (by decide +kernel)]; exact kk)
theorem gk11_420 (C : cY p R s m args meth c RX11 cc nL nF nC nS nR ret) (X : cX D s) (hW : cW D S H) (hk : kK S a = 3) {x : Nat} (hx : kR S a 2 = some x) (hdg : decode cc pc = .ok (.getfield 420, 3)) (kk : W p l e R s m args below meth c H locs cells slots Q (F0 m (pc + 3) ls (.ref x :: rest))) : W p l e R s m args below meth c H locs cells slots Q (F0 m pc ls (.ref a :: rest)) := c_get C X hW 2 (by decide) ly_2 hk 2 (by decide) (mt_at 1276 (by decide +kernel) (by decide +kernel)) hdg (by rw [cV_R (by decide +kernel) hx]; exact kk)
end
section
variable {p : Program} {l : Launch} {e : Env} {R : Room} {s : State} {m : MethodId} {args : Array Value} {below : List Frame} {meth : Method} {c : Code} {D : cG} {S : cSt} {r : Int32}
noncomputable def fk_11_frame_17 (S : cSt) : Option (Int32) :=
some (-1 : Int32)
set_option maxRecDepth 100000 in
set_option maxHeartbeats 4000000 in
theorem wk_11_frame_17 (C : cY p R s m args meth c RX11 cX11_frame 4 1 0 0 21 (some .int)) (X : cX D s) (hW : cW D S s.heap) : ∀ {ls : Array Slot}, fk_11_frame_17 S = some r → lv_has ls 4 [] → W p l e R s m args below meth c s.heap [] 0 0 (MQ below (kQ (some (.int r))) args s 0 0 mNo) (F0 m 17 ls []) := by
  intro ls h hl
  unfold fk_11_frame_17 at h
  refine lv_iconst (v := -1) C.1 C.2.1 dX11_frame_17 (by decide) ?_
  cases h
  exact c_reti C rfl rfl dX11_frame_18
noncomputable def fk_11_frame_122 (S : cSt) (s0 : Int32) : Option (Int32) :=
some s0
set_option maxRecDepth 100000 in
set_option maxHeartbeats 4000000 in
theorem wk_11_frame_122 (C : cY p R s m args meth c RX11 cX11_frame 4 1 0 0 21 (some .int)) (X : cX D s) (hW : cW D S s.heap) : ∀ {s0 : Int32} {ls : Array Slot}, fk_11_frame_122 S s0 = some r → lv_has ls 4 [] → W p l e R s m args below meth c s.heap [] 0 0 (MQ below (kQ (some (.int r))) args s 0 0 mNo) (F0 m 122 ls [.int s0]) := by
  intro s0 ls h hl
  unfold fk_11_frame_122 at h
  cases h
  exact c_reti C rfl rfl dX11_frame_122
noncomputable def fk_11_frame_74 (S : cSt) (s0 : Int32) : Option (Int32) :=
some s0
set_option maxRecDepth 100000 in
set_option maxHeartbeats 4000000 in
theorem wk_11_frame_74 (C : cY p R s m args meth c RX11 cX11_frame 4 1 0 0 21 (some .int)) (X : cX D s) (hW : cW D S s.heap) : ∀ {s0 : Int32} {ls : Array Slot}, fk_11_frame_74 S s0 = some r → lv_has ls 4 [] → W p l e R s m args below meth c s.heap [] 0 0 (MQ below (kQ (some (.int r))) args s 0 0 mNo) (F0 m 74 ls [.int s0]) := by
  intro s0 ls h hl
  unfold fk_11_frame_74 at h
  cases h
  exact c_reti C rfl rfl dX11_frame_74
noncomputable def fk_11_frame (S : cSt) (v0 : Nat) (v1 : Int32) (v2 : Int32) : Option (Int32) :=
ckk S v0 12 (bd (kR S v0 3) fun a1 =>
ckk S a1 6 (bd (fk_5_at S a1 v1) fun o2 =>
cs o2 (
fk_11_frame_17 S) (fun a3 =>
if 0 ≤ v2 then (
if v2 = (0 : Int32) then (
ckk S a3 3 (
some (kF S a3 3)))
else if v2 = (1 : Int32) then (
ckk S a3 3 (
some (kF S a3 4)))
else if v2 = (2 : Int32) then (
ckk S a3 3 (
if (kF S a3 5) = 0 then (
fk_11_frame_74 S (0 : Int32))
else (
fk_11_frame_74 S (1 : Int32))))
else if v2 = (3 : Int32) then (
ckk S a3 3 (
some (kF S a3 6)))
else (
if (8 : Int32) ≤ v2 then (
ckk S a3 3 (
if (kF S a3 6) ≤ (v2 - (8 : Int32)) then (
fk_11_frame_122 S (-1 : Int32))
else (
ckk S a3 3 (bd (kR S a3 2) fun a12 =>
ckk S a12 30 (ck (v2 - (8 : Int32)) (kL S a12) (lt (kO S a12 (Int32.toNatClampNeg (v2 - (8 : Int32)))) fun o13 =>
bd o13 fun a14 =>
ckk S a14 9 (
fk_11_frame_122 S (kF S a14 11))))))))
else (
ckk S a3 3 (bd (kR S a3 0) fun a15 =>
ckk S a15 20 (ck (v2 - (4 : Int32)) (kL S a15) (
some (kI S a15 (Int32.toNatClampNeg (v2 - (4 : Int32))))))))))
else (
fk_11_frame_17 S))))
set_option maxRecDepth 100000 in
set_option maxHeartbeats 4000000 in
theorem tk_11_frame (l : Launch) {D : cG} {S : cSt} {v0 : Nat} {v1 : Int32} {v2 : Int32} {r : Int32}  (h : fk_11_frame S v0 v1 v2 = some r) : Met l yX11_frame (Cond.code yX11_frame cX11_frame 4 (some .int) :: lw_g) { frames := 1, cells := 0, slots := 0, locals := 21 } (kPi [.ref v0, .int v1, .int v2] D S) (kQ (some (.int r))) 0 0 (mNo) := by
  refine Met.ofW (cc := cX11_frame) (maxL := 4) (ret := (some .int)) (by decide) rfl ?_
  intro p e s m args below meth c s₁ B hml hv
  obtain ⟨rfl, hW, X⟩ := hv
  have C : cY p (headSpec (Cond.code yX11_frame cX11_frame 4 (some .int) :: lw_g) { frames := 1, cells := 0, slots := 0, locals := 21 }).room s m _ meth c RX11 cX11_frame 4 1 0 0 21 (some .int) := ⟨B.exec, B.bytes, hml, findClass_of_methodNamed B.named, fun w hw => atoms_spec (ws := Cond.code yX11_frame cX11_frame 4 (some .int) :: lw_g) B.pre w (List.mem_cons_of_mem _ hw), ⟨Nat.le_refl _, Nat.le_refl _, Nat.le_refl _, Nat.le_refl _⟩, B.returns, B.notSynchronized⟩
  have hl := lv_entry ([.ref v0, .int v1, .int v2]) (n := 4) (Nat.le_of_ble_eq_true rfl)
  rw [lg_entry_eq]
  generalize (lg_sl ([.ref v0, .int v1, .int v2]) ++ List.replicate (4 - (lg_sl ([.ref v0, .int v1, .int v2])).length) Slot.unset).toArray = ls at hl ⊢
  have hl : lv_has ls 4 [(0, .ref v0), (1, .int v1), (2, .int v2)] := hl
  unfold fk_11_frame at h
  refine lv_aload_n C.1 C.2.1 dX11_frame_0 rfl (lv_at hl 0 rfl) ?_
  obtain ⟨hk, h⟩ := ckk_ok h
  obtain ⟨a1, h_a1, h⟩ := bd_ok h
  refine gk11_32 C X hW hk h_a1 dX11_frame_1 ?_
  refine lv_iload_n C.1 C.2.1 dX11_frame_4 rfl (lv_at hl 1 rfl) ?_
  obtain ⟨hk, h⟩ := ckk_ok h
  obtain ⟨o2, h_o2, h⟩ := bd_ok h
  refine c_callR (rest := []) C X hW hl.1 5 (by decide) hk [.int v1] (tk_5_at l h_o2) cw11_220 ki_5_at kl_5_at rfl ⟨by decide, by decide⟩ ⟨(by decide), (by decide)⟩ rfl (Nat.le_of_ble_eq_true rfl) dX11_frame_5 ?_
  refine W.eq (g2 := F0 m 8 ls [va_rf o2]) rfl ?_
  refine lv_astore_nq (o := o2) (lv' := [(3, va_rf o2), (0, .ref v0), (1, .int v1), (2, .int v2)]) C.1 C.2.1 dX11_frame_8 rfl hl (by decide) rfl (fun ls hl => ?_)
  refine lv_aload_nq (o := o2) C.1 C.2.1 dX11_frame_9 rfl (lv_at hl 0 rfl) ?_
  rcases o2 with _ | a3
  · replace h := cs_n h
    refine lv_ifnullN (tgt := 17) C.1 C.2.1 dX11_frame_10 (by decide) ?_
    exact wk_11_frame_17 C X hW h (lv_sub hl [] rfl)
  · replace h := cs_s h
    refine lv_ifnull C.1 C.2.1 dX11_frame_10 ?_
    refine lv_iload_n C.1 C.2.1 dX11_frame_13 rfl (lv_at hl 3 rfl) ?_
    refine lv_if_ge (tgt := 19) C.1 C.2.1 dX11_frame_14 (by decide) (fun c4 => ?_) (fun c4 => ?_)
    · have h := if_t h c4
      refine lv_iload_n C.1 C.2.1 dX11_frame_19 rfl (lv_at hl 3 rfl) ?_
      by_cases c5 : v2 = (0 : Int32)
      · have h := if_t h c5
        refine lv_tableIn (off := 32) (tgt := 52) C.1 C.2.1 dX11_frame_20 (by rw [c5]; decide) (by rw [c5]; decide) (by rw [c5]; rfl) (by decide) ?_
        refine lv_aload_n C.1 C.2.1 dX11_frame_52 rfl (lv_at hl 0 rfl) ?_
        obtain ⟨hk, h⟩ := ckk_ok h
        refine gk11_236 C X hW hk dX11_frame_53 ?_
        cases h
        exact c_reti C rfl rfl dX11_frame_56
      · have h := if_f h c5
        by_cases c6 : v2 = (1 : Int32)
        · have h := if_t h c6
          refine lv_tableIn (off := 37) (tgt := 57) C.1 C.2.1 dX11_frame_20 (by rw [c6]; decide) (by rw [c6]; decide) (by rw [c6]; rfl) (by decide) ?_
          refine lv_aload_n C.1 C.2.1 dX11_frame_57 rfl (lv_at hl 0 rfl) ?_
          obtain ⟨hk, h⟩ := ckk_ok h
          refine gk11_239 C X hW hk dX11_frame_58 ?_
          cases h
          exact c_reti C rfl rfl dX11_frame_61
        · have h := if_f h c6
          by_cases c7 : v2 = (2 : Int32)
          · have h := if_t h c7
            refine lv_tableIn (off := 42) (tgt := 62) C.1 C.2.1 dX11_frame_20 (by rw [c7]; decide) (by rw [c7]; decide) (by rw [c7]; rfl) (by decide) ?_
            refine lv_aload_n C.1 C.2.1 dX11_frame_62 rfl (lv_at hl 0 rfl) ?_
            obtain ⟨hk, h⟩ := ckk_ok h
            refine gk11_246 C X hW hk dX11_frame_63 ?_
            refine lv_if_eq (tgt := 73) C.1 C.2.1 dX11_frame_66 (by decide) (fun c8 => ?_) (fun c8 => ?_)
            · have h := if_t h c8
              refine lv_iconst (v := 0) C.1 C.2.1 dX11_frame_73 (by decide) ?_
              exact wk_11_frame_74 C X hW h (lv_sub hl [] rfl)
            · have h := if_f h c8
              refine lv_iconst (v := 1) C.1 C.2.1 dX11_frame_69 (by decide) ?_
              refine lv_goto (tgt := 74) C.1 C.2.1 dX11_frame_70 (by decide) ?_
              exact wk_11_frame_74 C X hW h (lv_sub hl [] rfl)
          · have h := if_f h c7
            by_cases c9 : v2 = (3 : Int32)
            · have h := if_t h c9
              refine lv_tableIn (off := 55) (tgt := 75) C.1 C.2.1 dX11_frame_20 (by rw [c9]; decide) (by rw [c9]; decide) (by rw [c9]; rfl) (by decide) ?_
              refine lv_aload_n C.1 C.2.1 dX11_frame_75 rfl (lv_at hl 0 rfl) ?_
              obtain ⟨hk, h⟩ := ckk_ok h
              refine gk11_417 C X hW hk dX11_frame_76 ?_
              cases h
              exact c_reti C rfl rfl dX11_frame_79
            · have h := if_f h c9
              have n_c5 := lv_neT c5 (a := 0) rfl
              have n_c6 := lv_neT c6 (a := 1) rfl
              have n_c7 := lv_neT c7 (a := 2) rfl
              have n_c9 := lv_neT c9 (a := 3) rfl
              refine lv_tableOut (tgt := 80) C.1 C.2.1 dX11_frame_20 (by omega) (by decide) ?_
              refine lv_iload_n C.1 C.2.1 dX11_frame_80 rfl (lv_at hl 3 rfl) ?_
              refine lv_bipush (v := 8) C.1 C.2.1 dX11_frame_81 (by decide) ?_
              refine lv_icmp_ge (tgt := 95) C.1 C.2.1 dX11_frame_83 (by decide) (fun c10 => ?_) (fun c10 => ?_)
              · have h := if_t h c10
                refine lv_iload_n C.1 C.2.1 dX11_frame_95 rfl (lv_at hl 3 rfl) ?_
                refine lv_bipush (v := 8) C.1 C.2.1 dX11_frame_96 (by decide) ?_
                refine lv_isub C.1 C.2.1 dX11_frame_98 ?_
                refine lv_aload_n C.1 C.2.1 dX11_frame_99 rfl (lv_at hl 0 rfl) ?_
                obtain ⟨hk, h⟩ := ckk_ok h
                refine gk11_417 C X hW hk dX11_frame_100 ?_
                refine lv_icmp_ge (tgt := 121) C.1 C.2.1 dX11_frame_103 (by decide) (fun c11 => ?_) (fun c11 => ?_)
                · have h := if_t h c11
                  refine lv_iconst (v := -1) C.1 C.2.1 dX11_frame_121 (by decide) ?_
                  exact wk_11_frame_122 C X hW h (lv_sub hl [] rfl)
                · have h := if_f h c11
                  refine lv_aload_n C.1 C.2.1 dX11_frame_106 rfl (lv_at hl 0 rfl) ?_
                  obtain ⟨hk, h⟩ := ckk_ok h
                  obtain ⟨a12, h_a12, h⟩ := bd_ok h
                  refine gk11_420 C X hW hk h_a12 dX11_frame_107 ?_
                  refine lv_iload_n C.1 C.2.1 dX11_frame_110 rfl (lv_at hl 3 rfl) ?_
                  refine lv_bipush (v := 8) C.1 C.2.1 dX11_frame_111 (by decide) ?_
                  refine lv_isub C.1 C.2.1 dX11_frame_113 ?_
                  obtain ⟨hk, h⟩ := ckk_ok h
                  obtain ⟨hin2, h⟩ := ck_ok h
                  refine c_aald C 30 (by decide) X.2.2.2.2.1 hW hk hin2 dX11_frame_114 ?_
                  refine lt_ok h (fun o13 e_o13 h => ?_)
                  refine lv_nmq e_o13 ?_
                  obtain ⟨a14, e_a14, h⟩ := bd_ok h
                  subst e_a14
                  obtain ⟨hk, h⟩ := ckk_ok h
                  refine gk11_142 C X hW hk dX11_frame_115 ?_
                  refine lv_goto (tgt := 122) C.1 C.2.1 dX11_frame_118 (by decide) ?_
                  exact wk_11_frame_122 C X hW h (lv_sub hl [] rfl)
              · have h := if_f h c10
                refine lv_aload_n C.1 C.2.1 dX11_frame_86 rfl (lv_at hl 0 rfl) ?_
                obtain ⟨hk, h⟩ := ckk_ok h
                obtain ⟨a15, h_a15, h⟩ := bd_ok h
                refine gk11_250 C X hW hk h_a15 dX11_frame_87 ?_
                refine lv_iload_n C.1 C.2.1 dX11_frame_90 rfl (lv_at hl 3 rfl) ?_
                refine lv_iconst (v := 4) C.1 C.2.1 dX11_frame_91 (by decide) ?_
                refine lv_isub C.1 C.2.1 dX11_frame_92 ?_
                obtain ⟨hk, h⟩ := ckk_ok h
                obtain ⟨hin2, h⟩ := ck_ok h
                refine c_iald C X hW hk hin2 dX11_frame_93 ?_
                cases h
                exact c_reti C rfl rfl dX11_frame_94
    · have h := if_f h c4
      exact wk_11_frame_17 C X hW h (lv_sub hl [] rfl)
end
theorem dX11_news_0 : decode cX11_news 0 = .ok (.iload_n 1, 1) := by decide +kernel
theorem dX11_news_1 : decode cX11_news 1 = .ok (.invokestatic 112, 3) := by decide +kernel
theorem dX11_news_4 : decode cX11_news 4 = .ok (.ifCond .eq 20, 3) := by decide +kernel
theorem dX11_news_7 : decode cX11_news 7 = .ok (.aload_n 0, 1) := by decide +kernel
theorem dX11_news_8 : decode cX11_news 8 = .ok (.getfield 25, 3) := by decide +kernel
theorem dX11_news_11 : decode cX11_news 11 = .ok (.iload_n 1, 1) := by decide +kernel
theorem dX11_news_12 : decode cX11_news 12 = .ok (.aaload, 1) := by decide +kernel
theorem dX11_news_13 : decode cX11_news 13 = .ok (.getfield 423, 3) := by decide +kernel
theorem dX11_news_16 : decode cX11_news 16 = .ok (.iload_n 2, 1) := by decide +kernel
theorem dX11_news_17 : decode cX11_news 17 = .ok (.iload_n 3, 1) := by decide +kernel
theorem dX11_news_18 : decode cX11_news 18 = .ok (.invokevirtual 208, 3) := by decide +kernel
theorem dX11_news_21 : decode cX11_news 21 = .ok (.goto 4, 3) := by decide +kernel
theorem dX11_news_24 : decode cX11_news 24 = .ok (.iconst (-1), 1) := by decide +kernel
theorem dX11_news_25 : decode cX11_news 25 = .ok (.ireturn, 1) := by decide +kernel
theorem kd_11_news : Cond.code yX11_news cX11_news 4 (some .int) ∈ lw_g := mt_at 1532 (by decide +kernel) rfl
theorem ki_11_news : Cond.instanceMethod yX11_news ∈ lw_g := mt_at 1530 (by decide +kernel) rfl
theorem kl_11_news : Cond.selects (kRn 11) yX11_news yX11_news ∈ lw_g := mt_at 1531 (by decide +kernel) rfl
section
variable {p : Program} {l : Launch} {e : Env} {R : Room} {s : State} {m : MethodId} {args : Array Value} {below : List Frame} {meth : Method} {c : Code} {H : Heap} {locs : List Loc} {cells slots : Nat} {Q : State → Prop}
variable {D : cG} {S S0 : cSt} {cc : ByteArray} {nL : Nat} {pc : Nat} {ls : Array Slot} {rest : List Value} {H0 : Heap} {nF nR nC nS : Nat} {ret : Option FieldType} {a : Nat}
theorem gk11_423 (C : cY p R s m args meth c RX11 cc nL nF nC nS nR ret) (X : cX D s) (hW : cW D S H) (hk : kK S a = 8) {x : Nat} (hx : kR S a 3 = some x) (hdg : decode cc pc = .ok (.getfield 423, 3)) (kk : W p l e R s m args below meth c H locs cells slots Q (F0 m (pc + 3) ls (.ref x :: rest))) : W p l e R s m args below meth c H locs cells slots Q (F0 m pc ls (.ref a :: rest)) := c_get C X hW 7 (by decide) ly_7 hk 3 (by decide) (mt_at 310 (by decide +kernel) (by decide +kernel)) hdg (by rw [cV_R (by decide +kernel) hx]; exact kk)
end
section
variable {p : Program} {l : Launch} {e : Env} {R : Room} {s : State} {m : MethodId} {args : Array Value} {below : List Frame} {meth : Method} {c : Code} {D : cG} {S : cSt} {r : Int32}
noncomputable def fk_11_news_25 (S : cSt) (s0 : Int32) : Option (Int32) :=
some s0
set_option maxRecDepth 100000 in
set_option maxHeartbeats 4000000 in
theorem wk_11_news_25 (C : cY p R s m args meth c RX11 cX11_news 4 1 0 0 23 (some .int)) (X : cX D s) (hW : cW D S s.heap) : ∀ {s0 : Int32} {ls : Array Slot}, fk_11_news_25 S s0 = some r → lv_has ls 4 [] → W p l e R s m args below meth c s.heap [] 0 0 (MQ below (kQ (some (.int r))) args s 0 0 mNo) (F0 m 25 ls [.int s0]) := by
  intro s0 ls h hl
  unfold fk_11_news_25 at h
  cases h
  exact c_reti C rfl rfl dX11_news_25
noncomputable def fk_11_news (S : cSt) (v0 : Nat) (v1 : Int32) (v2 : Int32) (v3 : Int32) : Option (Int32) :=
bd (fk_11_isNode v1) fun r1 =>
if r1 = 0 then (
fk_11_news_25 S (-1 : Int32))
else (
ckk S v0 12 (bd (kR S v0 2) fun a3 =>
ckk S a3 31 (ck v1 (kL S a3) (lt (kO S a3 (Int32.toNatClampNeg v1)) fun o4 =>
bd o4 fun a5 =>
ckk S a5 8 (bd (kR S a5 3) fun a6 =>
ckk S a6 7 (bd (fk_6_read S a6 v2 v3) fun r7 =>
fk_11_news_25 S r7))))))
set_option maxRecDepth 100000 in
set_option maxHeartbeats 4000000 in
theorem tk_11_news (l : Launch) {D : cG} {S : cSt} {v0 : Nat} {v1 : Int32} {v2 : Int32} {v3 : Int32} {r : Int32}  (h : fk_11_news S v0 v1 v2 v3 = some r) : Met l yX11_news (Cond.code yX11_news cX11_news 4 (some .int) :: lw_g) { frames := 1, cells := 0, slots := 0, locals := 23 } (kPi [.ref v0, .int v1, .int v2, .int v3] D S) (kQ (some (.int r))) 0 0 (mNo) := by
  refine Met.ofW (cc := cX11_news) (maxL := 4) (ret := (some .int)) (by decide) rfl ?_
  intro p e s m args below meth c s₁ B hml hv
  obtain ⟨rfl, hW, X⟩ := hv
  have C : cY p (headSpec (Cond.code yX11_news cX11_news 4 (some .int) :: lw_g) { frames := 1, cells := 0, slots := 0, locals := 23 }).room s m _ meth c RX11 cX11_news 4 1 0 0 23 (some .int) := ⟨B.exec, B.bytes, hml, findClass_of_methodNamed B.named, fun w hw => atoms_spec (ws := Cond.code yX11_news cX11_news 4 (some .int) :: lw_g) B.pre w (List.mem_cons_of_mem _ hw), ⟨Nat.le_refl _, Nat.le_refl _, Nat.le_refl _, Nat.le_refl _⟩, B.returns, B.notSynchronized⟩
  have hl := lv_entry ([.ref v0, .int v1, .int v2, .int v3]) (n := 4) (Nat.le_of_ble_eq_true rfl)
  rw [lg_entry_eq]
  generalize (lg_sl ([.ref v0, .int v1, .int v2, .int v3]) ++ List.replicate (4 - (lg_sl ([.ref v0, .int v1, .int v2, .int v3])).length) Slot.unset).toArray = ls at hl ⊢
  have hl : lv_has ls 4 [(0, .ref v0), (1, .int v1), (2, .int v2), (3, .int v3)] := hl
  unfold fk_11_news at h
  refine lv_iload_n C.1 C.2.1 dX11_news_0 rfl (lv_at hl 1 rfl) ?_
  obtain ⟨r1, h_r1, h⟩ := bd_ok h
  refine c_callS (rest := []) C hl.1 [.int v1] (tk_11_isNode l h_r1) cw11_112 ks_11_isNode rfl ⟨by decide, by decide⟩ ⟨(by decide), (by decide)⟩ rfl (Nat.le_of_ble_eq_true rfl) dX11_news_1 ?_
  refine W.eq (g2 := F0 m 4 ls [.int r1]) rfl ?_
  refine lv_if_eq (tgt := 24) C.1 C.2.1 dX11_news_4 (by decide) (fun c2 => ?_) (fun c2 => ?_)
  · have h := if_t h c2
    refine lv_iconst (v := -1) C.1 C.2.1 dX11_news_24 (by decide) ?_
    exact wk_11_news_25 C X hW h (lv_sub hl [] rfl)
  · have h := if_f h c2
    refine lv_aload_n C.1 C.2.1 dX11_news_7 rfl (lv_at hl 0 rfl) ?_
    obtain ⟨hk, h⟩ := ckk_ok h
    obtain ⟨a3, h_a3, h⟩ := bd_ok h
    refine gk11_25 C X hW hk h_a3 dX11_news_8 ?_
    refine lv_iload_n C.1 C.2.1 dX11_news_11 rfl (lv_at hl 1 rfl) ?_
    obtain ⟨hk, h⟩ := ckk_ok h
    obtain ⟨hin2, h⟩ := ck_ok h
    refine c_aald C 31 (by decide) X.2.2.2.2.2.1 hW hk hin2 dX11_news_12 ?_
    refine lt_ok h (fun o4 e_o4 h => ?_)
    refine lv_nmq e_o4 ?_
    obtain ⟨a5, e_a5, h⟩ := bd_ok h
    subst e_a5
    obtain ⟨hk, h⟩ := ckk_ok h
    obtain ⟨a6, h_a6, h⟩ := bd_ok h
    refine gk11_423 C X hW hk h_a6 dX11_news_13 ?_
    refine lv_iload_n C.1 C.2.1 dX11_news_16 rfl (lv_at hl 2 rfl) ?_
    refine lv_iload_n C.1 C.2.1 dX11_news_17 rfl (lv_at hl 3 rfl) ?_
    obtain ⟨hk, h⟩ := ckk_ok h
    obtain ⟨r7, h_r7, h⟩ := bd_ok h
    refine c_callR (rest := []) C X hW hl.1 6 (by decide) hk [.int v2, .int v3] (tk_6_read l h_r7) cw11_208 ki_6_read kl_6_read rfl ⟨by decide, by decide⟩ ⟨(by decide), (by decide)⟩ rfl (Nat.le_of_ble_eq_true rfl) dX11_news_18 ?_
    refine W.eq (g2 := F0 m 21 ls [.int r7]) rfl ?_
    refine lv_goto (tgt := 25) C.1 C.2.1 dX11_news_21 (by decide) ?_
    exact wk_11_news_25 C X hW h (lv_sub hl [] rfl)
end
theorem dX11_calm_0 : decode cX11_calm 0 = .ok (.iload_n 1, 1) := by decide +kernel
theorem dX11_calm_1 : decode cX11_calm 1 = .ok (.invokestatic 112, 3) := by decide +kernel
theorem dX11_calm_4 : decode cX11_calm 4 = .ok (.ifCond .ne 5, 3) := by decide +kernel
theorem dX11_calm_7 : decode cX11_calm 7 = .ok (.iconst (-1), 1) := by decide +kernel
theorem dX11_calm_8 : decode cX11_calm 8 = .ok (.ireturn, 1) := by decide +kernel
theorem dX11_calm_9 : decode cX11_calm 9 = .ok (.aload_n 0, 1) := by decide +kernel
theorem dX11_calm_10 : decode cX11_calm 10 = .ok (.getfield 25, 3) := by decide +kernel
theorem dX11_calm_13 : decode cX11_calm 13 = .ok (.iload_n 1, 1) := by decide +kernel
theorem dX11_calm_14 : decode cX11_calm 14 = .ok (.aaload, 1) := by decide +kernel
theorem dX11_calm_15 : decode cX11_calm 15 = .ok (.getfield 423, 3) := by decide +kernel
theorem dX11_calm_18 : decode cX11_calm 18 = .ok (.getfield 426, 3) := by decide +kernel
theorem dX11_calm_21 : decode cX11_calm 21 = .ok (.istore_n 2, 1) := by decide +kernel
theorem dX11_calm_22 : decode cX11_calm 22 = .ok (.aload_n 0, 1) := by decide +kernel
theorem dX11_calm_23 : decode cX11_calm 23 = .ok (.getfield 25, 3) := by decide +kernel
theorem dX11_calm_26 : decode cX11_calm 26 = .ok (.iload_n 1, 1) := by decide +kernel
theorem dX11_calm_27 : decode cX11_calm 27 = .ok (.aaload, 1) := by decide +kernel
theorem dX11_calm_28 : decode cX11_calm 28 = .ok (.getfield 423, 3) := by decide +kernel
theorem dX11_calm_31 : decode cX11_calm 31 = .ok (.iconst 0, 1) := by decide +kernel
theorem dX11_calm_32 : decode cX11_calm 32 = .ok (.putfield 426, 3) := by decide +kernel
theorem dX11_calm_35 : decode cX11_calm 35 = .ok (.aload_n 0, 1) := by decide +kernel
theorem dX11_calm_36 : decode cX11_calm 36 = .ok (.getfield 25, 3) := by decide +kernel
theorem dX11_calm_39 : decode cX11_calm 39 = .ok (.iload_n 1, 1) := by decide +kernel
theorem dX11_calm_40 : decode cX11_calm 40 = .ok (.aaload, 1) := by decide +kernel
theorem dX11_calm_41 : decode cX11_calm 41 = .ok (.getfield 204, 3) := by decide +kernel
theorem dX11_calm_44 : decode cX11_calm 44 = .ok (.iconst 0, 1) := by decide +kernel
theorem dX11_calm_45 : decode cX11_calm 45 = .ok (.putfield 426, 3) := by decide +kernel
theorem dX11_calm_48 : decode cX11_calm 48 = .ok (.iload_n 2, 1) := by decide +kernel
theorem dX11_calm_49 : decode cX11_calm 49 = .ok (.ireturn, 1) := by decide +kernel
theorem kd_11_calm : Cond.code yX11_calm cX11_calm 3 (some .int) ∈ lw_g := mt_at 1536 (by decide +kernel) rfl
theorem ki_11_calm : Cond.instanceMethod yX11_calm ∈ lw_g := mt_at 1534 (by decide +kernel) rfl
theorem kl_11_calm : Cond.selects (kRn 11) yX11_calm yX11_calm ∈ lw_g := mt_at 1535 (by decide +kernel) rfl
section
variable {p : Program} {l : Launch} {e : Env} {R : Room} {s : State} {m : MethodId} {args : Array Value} {below : List Frame} {meth : Method} {c : Code} {H : Heap} {locs : List Loc} {cells slots : Nat} {Q : State → Prop}
variable {D : cG} {S S0 : cSt} {cc : ByteArray} {nL : Nat} {pc : Nat} {ls : Array Slot} {rest : List Value} {H0 : Heap} {nF nR nC nS : Nat} {ret : Option FieldType} {a : Nat}
theorem gk11_426 (C : cY p R s m args meth c RX11 cc nL nF nC nS nR ret) (X : cX D s) (hW : cW D S H) (hk : kK S a = 7) (hdg : decode cc pc = .ok (.getfield 426, 3)) (kk : W p l e R s m args below meth c H locs cells slots Q (F0 m (pc + 3) ls (.int (kF S a 0) :: rest))) : W p l e R s m args below meth c H locs cells slots Q (F0 m pc ls (.ref a :: rest)) := c_get C X hW 6 (by decide) ly_6 hk 0 (by decide) (mt_at 205 (by decide +kernel) (by decide +kernel)) hdg (by rw [cV_I (by decide +kernel)]; exact kk)
theorem pk11_426 {x : Int32} (C : cY p R s m args meth c RX11 cc nL nF nC nS nR ret) (X : cX D s) (hJ : cJ D S0 H0 S H locs) (hk : kK S a = 7) (hdg : decode cc pc = .ok (.putfield 426, 3)) (kk : ∀ (H1 : Heap) (locs1 : List Loc), cJ D S0 H0 (cPi S a 0 x) H1 locs1 → W p l e R s m args below meth c H1 locs1 cells slots Q (F0 m (pc + 3) ls (rest))) : W p l e R s m args below meth c H locs cells slots Q (F0 m pc ls (.int x :: .ref a :: rest)) := c_put (S1 := (cPi S a 0 x)) C X hJ 6 (by decide) ly_6 hk 0 (by decide) (by decide +kernel)  rfl rfl (by decide) rfl rfl (fun j _ => c_vI (by decide +kernel)) c_oPi (mt_at 205 (by decide +kernel) (by decide +kernel)) hdg kk
end
section
variable {p : Program} {l : Launch} {e : Env} {R : Room} {s : State} {m : MethodId} {args : Array Value} {below : List Frame} {meth : Method} {c : Code} {D : cG} {S0 S9 : cSt} {r : Int32}
noncomputable def fk_11_calm (S : cSt) (v0 : Nat) (v1 : Int32) : Option (Int32 × cSt) :=
bd (fk_11_isNode v1) fun r1 =>
if r1 = 0 then (
some ((-1 : Int32), S))
else (
ckk S v0 12 (bd (kR S v0 2) fun a3 =>
ckk S a3 31 (ck v1 (kL S a3) (lt (kO S a3 (Int32.toNatClampNeg v1)) fun o4 =>
bd o4 fun a5 =>
ckk S a5 8 (bd (kR S a5 3) fun a6 =>
ckk S a6 7 (
lt (kF S a6 0) fun x7 =>
ckk S v0 12 (bd (kR S v0 2) fun a8 =>
ckk S a8 31 (ck v1 (kL S a8) (lt (kO S a8 (Int32.toNatClampNeg v1)) fun o9 =>
bd o9 fun a10 =>
ckk S a10 8 (bd (kR S a10 3) fun a11 =>
ckk S a11 7 (lt (cPi S a11 0 (0 : Int32)) fun S12 =>
ckk S12 v0 12 (bd (kR S12 v0 2) fun a13 =>
ckk S12 a13 31 (ck v1 (kL S12 a13) (lt (kO S12 a13 (Int32.toNatClampNeg v1)) fun o14 =>
bd o14 fun a15 =>
ckk S12 a15 8 (bd (kR S12 a15 4) fun a16 =>
ckk S12 a16 7 (lt (cPi S12 a16 0 (0 : Int32)) fun S17 =>
some (x7, S17)))))))))))))))))
set_option maxRecDepth 100000 in
set_option maxHeartbeats 4000000 in
theorem tk_11_calm (l : Launch) {D : cG} {S : cSt} {v0 : Nat} {v1 : Int32} {r : Int32} {S9 : cSt} (h : fk_11_calm S v0 v1 = some (r, S9)) : Met l yX11_calm (Cond.code yX11_calm cX11_calm 3 (some .int) :: lw_g) { frames := 1, cells := 0, slots := 0, locals := 20 } (kPi [.ref v0, .int v1] D S) (kW (some (.int r)) D S S9) 0 0 (cA S) := by
  refine Met.ofW (cc := cX11_calm) (maxL := 3) (ret := (some .int)) (by decide) rfl ?_
  intro p e s m args below meth c s₁ B hml hv
  obtain ⟨rfl, hW, X⟩ := hv
  have C : cY p (headSpec (Cond.code yX11_calm cX11_calm 3 (some .int) :: lw_g) { frames := 1, cells := 0, slots := 0, locals := 20 }).room s m _ meth c RX11 cX11_calm 3 1 0 0 20 (some .int) := ⟨B.exec, B.bytes, hml, findClass_of_methodNamed B.named, fun w hw => atoms_spec (ws := Cond.code yX11_calm cX11_calm 3 (some .int) :: lw_g) B.pre w (List.mem_cons_of_mem _ hw), ⟨Nat.le_refl _, Nat.le_refl _, Nat.le_refl _, Nat.le_refl _⟩, B.returns, B.notSynchronized⟩
  have hl := lv_entry ([.ref v0, .int v1]) (n := 3) (Nat.le_of_ble_eq_true rfl)
  rw [lg_entry_eq]
  generalize (lg_sl ([.ref v0, .int v1]) ++ List.replicate (3 - (lg_sl ([.ref v0, .int v1])).length) Slot.unset).toArray = ls at hl ⊢
  have hl : lv_has ls 3 [(0, .ref v0), (1, .int v1)] := hl
  have hJ : cJ D S s.heap S s.heap [] := cJ.rf hW
  unfold fk_11_calm at h
  refine lv_iload_n C.1 C.2.1 dX11_calm_0 rfl (lv_at hl 1 rfl) ?_
  obtain ⟨r1, h_r1, h⟩ := bd_ok h
  refine c_callS (rest := []) C hl.1 [.int v1] (tk_11_isNode l h_r1) cw11_112 ks_11_isNode rfl ⟨by decide, by decide⟩ ⟨(by decide), (by decide)⟩ rfl (Nat.le_of_ble_eq_true rfl) dX11_calm_1 ?_
  refine W.eq (g2 := F0 m 4 ls [.int r1]) rfl ?_
  refine lv_if_ne (tgt := 9) C.1 C.2.1 dX11_calm_4 (by decide) (fun c2 => ?_) (fun c2 => ?_)
  · have h := if_f h c2
    refine lv_aload_n C.1 C.2.1 dX11_calm_9 rfl (lv_at hl 0 rfl) ?_
    obtain ⟨hk, h⟩ := ckk_ok h
    obtain ⟨a3, h_a3, h⟩ := bd_ok h
    refine gk11_25 C X hJ.1 hk h_a3 dX11_calm_10 ?_
    refine lv_iload_n C.1 C.2.1 dX11_calm_13 rfl (lv_at hl 1 rfl) ?_
    obtain ⟨hk, h⟩ := ckk_ok h
    obtain ⟨hin2, h⟩ := ck_ok h
    refine c_aald C 31 (by decide) X.2.2.2.2.2.1 hJ.1 hk hin2 dX11_calm_14 ?_
    refine lt_ok h (fun o4 e_o4 h => ?_)
    refine lv_nmq e_o4 ?_
    obtain ⟨a5, e_a5, h⟩ := bd_ok h
    subst e_a5
    obtain ⟨hk, h⟩ := ckk_ok h
    obtain ⟨a6, h_a6, h⟩ := bd_ok h
    refine gk11_423 C X hJ.1 hk h_a6 dX11_calm_15 ?_
    obtain ⟨hk, h⟩ := ckk_ok h
    refine gk11_426 C X hJ.1 hk dX11_calm_18 ?_
    refine lt_ok h (fun x7 e_x7 h => ?_)
    refine lv_nm e_x7 ?_
    refine lv_istore_n (lv' := [(2, .int x7), (0, .ref v0), (1, .int v1)]) C.1 C.2.1 dX11_calm_21 rfl hl (by decide) rfl (fun ls hl => ?_)
    refine lv_aload_n C.1 C.2.1 dX11_calm_22 rfl (lv_at hl 1 rfl) ?_
    obtain ⟨hk, h⟩ := ckk_ok h
    obtain ⟨a8, h_a8, h⟩ := bd_ok h
    refine gk11_25 C X hJ.1 hk h_a8 dX11_calm_23 ?_
    refine lv_iload_n C.1 C.2.1 dX11_calm_26 rfl (lv_at hl 2 rfl) ?_
    obtain ⟨hk, h⟩ := ckk_ok h
    obtain ⟨hin2, h⟩ := ck_ok h
    refine c_aald C 31 (by decide) X.2.2.2.2.2.1 hJ.1 hk hin2 dX11_calm_27 ?_
    refine lt_ok h (fun o9 e_o9 h => ?_)
    refine lv_nmq e_o9 ?_
    obtain ⟨a10, e_a10, h⟩ := bd_ok h
    subst e_a10
    obtain ⟨hk, h⟩ := ckk_ok h
    obtain ⟨a11, h_a11, h⟩ := bd_ok h
    refine gk11_423 C X hJ.1 hk h_a11 dX11_calm_28 ?_
    refine lv_iconst (v := 0) C.1 C.2.1 dX11_calm_31 (by decide) ?_
    obtain ⟨hk, h⟩ := ckk_ok h
    refine pk11_426 C X hJ hk dX11_calm_32 (fun H locs hJ => ?_)
    refine lt_ok h (fun S12 e_S12 h => ?_)
    rw [e_S12] at hJ
    refine lv_aload_n C.1 C.2.1 dX11_calm_35 rfl (lv_at hl 1 rfl) ?_
    obtain ⟨hk, h⟩ := ckk_ok h
    obtain ⟨a13, h_a13, h⟩ := bd_ok h
    refine gk11_25 C X hJ.1 hk h_a13 dX11_calm_36 ?_
    refine lv_iload_n C.1 C.2.1 dX11_calm_39 rfl (lv_at hl 2 rfl) ?_
    obtain ⟨hk, h⟩ := ckk_ok h
    obtain ⟨hin2, h⟩ := ck_ok h
    refine c_aald C 31 (by decide) X.2.2.2.2.2.1 hJ.1 hk hin2 dX11_calm_40 ?_
    refine lt_ok h (fun o14 e_o14 h => ?_)
    refine lv_nmq e_o14 ?_
    obtain ⟨a15, e_a15, h⟩ := bd_ok h
    subst e_a15
    obtain ⟨hk, h⟩ := ckk_ok h
    obtain ⟨a16, h_a16, h⟩ := bd_ok h
    refine gk11_204 C X hJ.1 hk h_a16 dX11_calm_41 ?_
    refine lv_iconst (v := 0) C.1 C.2.1 dX11_calm_44 (by decide) ?_
    obtain ⟨hk, h⟩ := ckk_ok h
    refine pk11_426 C X hJ hk dX11_calm_45 (fun H locs hJ => ?_)
    refine lt_ok h (fun S17 e_S17 h => ?_)
    rw [e_S17] at hJ
    refine lv_iload_n C.1 C.2.1 dX11_calm_48 rfl (lv_at hl 0 rfl) ?_
    cases h
    exact c_retiW C hJ dX11_calm_49
  · have h := if_t h c2
    refine lv_iconst (v := -1) C.1 C.2.1 dX11_calm_7 (by decide) ?_
    cases h
    exact c_retiW C hJ dX11_calm_8
end
theorem dX11_thereAt_0 : decode cX11_thereAt 0 = .ok (.iconst 0, 1) := by decide +kernel
theorem dX11_thereAt_1 : decode cX11_thereAt 1 = .ok (.istore_n 1, 1) := by decide +kernel
theorem dX11_thereAt_2 : decode cX11_thereAt 2 = .ok (.iconst 0, 1) := by decide +kernel
theorem dX11_thereAt_3 : decode cX11_thereAt 3 = .ok (.istore_n 2, 1) := by decide +kernel
theorem dX11_thereAt_4 : decode cX11_thereAt 4 = .ok (.iload_n 2, 1) := by decide +kernel
theorem dX11_thereAt_5 : decode cX11_thereAt 5 = .ok (.bipush 48, 2) := by decide +kernel
theorem dX11_thereAt_7 : decode cX11_thereAt 7 = .ok (.if_icmp .ge 23, 3) := by decide +kernel
theorem dX11_thereAt_10 : decode cX11_thereAt 10 = .ok (.aload_n 0, 1) := by decide +kernel
theorem dX11_thereAt_11 : decode cX11_thereAt 11 = .ok (.getfield 147, 3) := by decide +kernel
theorem dX11_thereAt_14 : decode cX11_thereAt 14 = .ok (.iload_n 2, 1) := by decide +kernel
theorem dX11_thereAt_15 : decode cX11_thereAt 15 = .ok (.invokevirtual 298, 3) := by decide +kernel
theorem dX11_thereAt_18 : decode cX11_thereAt 18 = .ok (.ifCond .eq 6, 3) := by decide +kernel
theorem dX11_thereAt_21 : decode cX11_thereAt 21 = .ok (.iinc 1 1, 3) := by decide +kernel
theorem dX11_thereAt_24 : decode cX11_thereAt 24 = .ok (.iinc 2 1, 3) := by decide +kernel
theorem dX11_thereAt_27 : decode cX11_thereAt 27 = .ok (.goto (-23), 3) := by decide +kernel
theorem dX11_thereAt_30 : decode cX11_thereAt 30 = .ok (.iload_n 1, 1) := by decide +kernel
theorem dX11_thereAt_31 : decode cX11_thereAt 31 = .ok (.ireturn, 1) := by decide +kernel
theorem kd_11_thereAt : Cond.code yX11_thereAt cX11_thereAt 3 (some .int) ∈ lw_g := mt_at 1544 (by decide +kernel) rfl
theorem ks_11_thereAt : Cond.static yX11_thereAt ∈ lw_g := mt_at 1543 (by decide +kernel) rfl
section
variable {p : Program} {l : Launch} {e : Env} {R : Room} {s : State} {m : MethodId} {args : Array Value} {below : List Frame} {meth : Method} {c : Code} {D : cG} {S : cSt} {r : Int32}
noncomputable def fk_11_thereAt_24 (g_4 : Nat → Int32 → Int32 → Option (Int32)) (S : cSt) (v0 : Nat) (v1 : Int32) (v2 : Int32) : Option (Int32) :=
lt (v2 + (1 : Int32)) fun x1 =>
g_4 v0 v1 x1
set_option maxRecDepth 100000 in
set_option maxHeartbeats 4000000 in
theorem wk_11_thereAt_24 (C : cY p R s m args meth c RX11 cX11_thereAt 3 3 0 0 65 (some .int)) (X : cX D s) (hW : cW D S s.heap) {g_4 : Nat → Int32 → Int32 → Option (Int32)} (hg_4 : ∀ {v0 : Nat} {v1 : Int32} {v2 : Int32} {ls : Array Slot}, g_4 v0 v1 v2 = some r → lv_has ls 3 [(0, .ref v0), (1, .int v1), (2, .int v2)] → W p l e R s m args below meth c s.heap [] 0 0 (MQ below (kQ (some (.int r))) args s 0 0 mNo) (F0 m 4 ls [])) : ∀ {v0 : Nat} {v1 : Int32} {v2 : Int32} {ls : Array Slot}, fk_11_thereAt_24 g_4 S v0 v1 v2 = some r → lv_has ls 3 [(0, .ref v0), (1, .int v1), (2, .int v2)] → W p l e R s m args below meth c s.heap [] 0 0 (MQ below (kQ (some (.int r))) args s 0 0 mNo) (F0 m 24 ls []) := by
  intro v0 v1 v2 ls h hl
  unfold fk_11_thereAt_24 at h
  refine lt_ok h (fun x1 e_x1 h => ?_)
  refine lv_iinc (v := x1) (lv' := [(2, .int x1), (0, .ref v0), (1, .int v1)]) C.1 C.2.1 dX11_thereAt_24 hl (k := 2) rfl (by rw [← e_x1]; rfl) (by decide) rfl (fun ls hl => ?_)
  refine lv_goto (tgt := 4) C.1 C.2.1 dX11_thereAt_27 (by decide) ?_
  exact hg_4 h (lv_sub hl [1, 2, 0] rfl)
noncomputable def fk_11_thereAt_4 (S : cSt) : Nat → Nat → Int32 → Int32 → Option (Int32)
  | 0, _, _, _ => none
  | n + 1, v0, v1, v2 =>
    if (48 : Int32) ≤ v2 then (
    some v1)
    else (
    ckk S v0 8 (bd (kR S v0 2) fun a2 =>
    ckk S a2 11 (bd (fk_10_isThere S a2 v2) fun r3 =>
    if r3 = 0 then (
    fk_11_thereAt_24 (fk_11_thereAt_4 S n) S v0 v1 v2)
    else (
    lt (v1 + (1 : Int32)) fun x5 =>
    fk_11_thereAt_24 (fk_11_thereAt_4 S n) S v0 x5 v2))))
set_option maxRecDepth 100000 in
set_option maxHeartbeats 4000000 in
theorem wk_11_thereAt_4 (C : cY p R s m args meth c RX11 cX11_thereAt 3 3 0 0 65 (some .int)) (X : cX D s) (hW : cW D S s.heap) : ∀ (n : Nat), ∀ {v0 : Nat} {v1 : Int32} {v2 : Int32} {ls : Array Slot}, fk_11_thereAt_4 S n v0 v1 v2 = some r → lv_has ls 3 [(0, .ref v0), (1, .int v1), (2, .int v2)] → W p l e R s m args below meth c s.heap [] 0 0 (MQ below (kQ (some (.int r))) args s 0 0 mNo) (F0 m 4 ls []) := by
  intro n
  induction n with
  | zero =>
    intro v0 v1 v2 ls h hl
    exact absurd (show (none : Option (Int32)) = _ from h) (fun q => by cases q)
  | succ n ih =>
    intro v0 v1 v2 ls h hl
    rw [fk_11_thereAt_4] at h
    refine lv_iload_n C.1 C.2.1 dX11_thereAt_4 rfl (lv_at hl 2 rfl) ?_
    refine lv_bipush (v := 48) C.1 C.2.1 dX11_thereAt_5 (by decide) ?_
    refine lv_icmp_ge (tgt := 30) C.1 C.2.1 dX11_thereAt_7 (by decide) (fun c1 => ?_) (fun c1 => ?_)
    · have h := if_t h c1
      refine lv_iload_n C.1 C.2.1 dX11_thereAt_30 rfl (lv_at hl 1 rfl) ?_
      cases h
      exact c_reti C rfl rfl dX11_thereAt_31
    · have h := if_f h c1
      refine lv_aload_n C.1 C.2.1 dX11_thereAt_10 rfl (lv_at hl 0 rfl) ?_
      obtain ⟨hk, h⟩ := ckk_ok h
      obtain ⟨a2, h_a2, h⟩ := bd_ok h
      refine gk11_147 C X hW hk h_a2 dX11_thereAt_11 ?_
      refine lv_iload_n C.1 C.2.1 dX11_thereAt_14 rfl (lv_at hl 2 rfl) ?_
      obtain ⟨hk, h⟩ := ckk_ok h
      obtain ⟨r3, h_r3, h⟩ := bd_ok h
      refine c_callR (rest := []) C X hW hl.1 10 (by decide) hk [.int v2] (tk_10_isThere l h_r3) cw11_298 ki_10_isThere kl_10_isThere rfl ⟨by decide, by decide⟩ ⟨(by decide), (by decide)⟩ rfl (Nat.le_of_ble_eq_true rfl) dX11_thereAt_15 ?_
      refine W.eq (g2 := F0 m 18 ls [.int r3]) rfl ?_
      refine lv_if_eq (tgt := 24) C.1 C.2.1 dX11_thereAt_18 (by decide) (fun c4 => ?_) (fun c4 => ?_)
      · have h := if_t h c4
        exact wk_11_thereAt_24 C X hW ih h (lv_sub hl [0, 1, 2] rfl)
      · have h := if_f h c4
        refine lt_ok h (fun x5 e_x5 h => ?_)
        refine lv_iinc (v := x5) (lv' := [(1, .int x5), (0, .ref v0), (2, .int v2)]) C.1 C.2.1 dX11_thereAt_21 hl (k := 1) rfl (by rw [← e_x5]; rfl) (by decide) rfl (fun ls hl => ?_)
        exact wk_11_thereAt_24 C X hW ih h (lv_sub hl [1, 0, 2] rfl)
noncomputable def fk_11_thereAt (S : cSt) (v0 : Nat) : Option (Int32) :=
fk_11_thereAt_4 S mFU v0 (0 : Int32) (0 : Int32)
set_option maxRecDepth 100000 in
set_option maxHeartbeats 4000000 in
theorem tk_11_thereAt (l : Launch) {D : cG} {S : cSt} {v0 : Nat} {r : Int32}  (h : fk_11_thereAt S v0 = some r) : Met l yX11_thereAt (Cond.code yX11_thereAt cX11_thereAt 3 (some .int) :: lw_g) { frames := 3, cells := 0, slots := 0, locals := 65 } (kPi [.ref v0] D S) (kQ (some (.int r))) 0 0 (mNo) := by
  refine Met.ofW (cc := cX11_thereAt) (maxL := 3) (ret := (some .int)) (by decide) rfl ?_
  intro p e s m args below meth c s₁ B hml hv
  obtain ⟨rfl, hW, X⟩ := hv
  have C : cY p (headSpec (Cond.code yX11_thereAt cX11_thereAt 3 (some .int) :: lw_g) { frames := 3, cells := 0, slots := 0, locals := 65 }).room s m _ meth c RX11 cX11_thereAt 3 3 0 0 65 (some .int) := ⟨B.exec, B.bytes, hml, findClass_of_methodNamed B.named, fun w hw => atoms_spec (ws := Cond.code yX11_thereAt cX11_thereAt 3 (some .int) :: lw_g) B.pre w (List.mem_cons_of_mem _ hw), ⟨Nat.le_refl _, Nat.le_refl _, Nat.le_refl _, Nat.le_refl _⟩, B.returns, B.notSynchronized⟩
  have hl := lv_entry ([.ref v0]) (n := 3) (Nat.le_of_ble_eq_true rfl)
  rw [lg_entry_eq]
  generalize (lg_sl ([.ref v0]) ++ List.replicate (3 - (lg_sl ([.ref v0])).length) Slot.unset).toArray = ls at hl ⊢
  have hl : lv_has ls 3 [(0, .ref v0)] := hl
  unfold fk_11_thereAt at h
  refine lv_iconst (v := 0) C.1 C.2.1 dX11_thereAt_0 (by decide) ?_
  refine lv_istore_n (lv' := [(1, .int (0 : Int32)), (0, .ref v0)]) C.1 C.2.1 dX11_thereAt_1 rfl hl (by decide) rfl (fun ls hl => ?_)
  refine lv_iconst (v := 0) C.1 C.2.1 dX11_thereAt_2 (by decide) ?_
  refine lv_istore_n (lv' := [(2, .int (0 : Int32)), (1, .int (0 : Int32)), (0, .ref v0)]) C.1 C.2.1 dX11_thereAt_3 rfl hl (by decide) rfl (fun ls hl => ?_)
  exact wk_11_thereAt_4 C X hW mFU h (lv_sub hl [2, 1, 0] rfl)
end
theorem dX11_node_0 : decode cX11_node 0 = .ok (.iload_n 1, 1) := by decide +kernel
theorem dX11_node_1 : decode cX11_node 1 = .ok (.invokestatic 112, 3) := by decide +kernel
theorem dX11_node_4 : decode cX11_node 4 = .ok (.ifCond .ne 5, 3) := by decide +kernel
theorem dX11_node_7 : decode cX11_node 7 = .ok (.iconst (-1), 1) := by decide +kernel
theorem dX11_node_8 : decode cX11_node 8 = .ok (.ireturn, 1) := by decide +kernel
theorem dX11_node_9 : decode cX11_node 9 = .ok (.aload_n 0, 1) := by decide +kernel
theorem dX11_node_10 : decode cX11_node 10 = .ok (.getfield 25, 3) := by decide +kernel
theorem dX11_node_13 : decode cX11_node 13 = .ok (.iload_n 1, 1) := by decide +kernel
theorem dX11_node_14 : decode cX11_node 14 = .ok (.aaload, 1) := by decide +kernel
theorem dX11_node_15 : decode cX11_node 15 = .ok (.astore_n 3, 1) := by decide +kernel
theorem dX11_node_16 : decode cX11_node 16 = .ok (.iload_n 2, 1) := by decide +kernel
theorem dX11_node_17 : decode cX11_node 17 = .ok (.bipush 40, 2) := by decide +kernel
theorem dX11_node_19 : decode cX11_node 19 = .ok (.if_icmp .lt 19, 3) := by decide +kernel
theorem dX11_node_22 : decode cX11_node 22 = .ok (.iload_n 2, 1) := by decide +kernel
theorem dX11_node_23 : decode cX11_node 23 = .ok (.bipush 56, 2) := by decide +kernel
theorem dX11_node_25 : decode cX11_node 25 = .ok (.if_icmp .ge 13, 3) := by decide +kernel
theorem dX11_node_28 : decode cX11_node 28 = .ok (.aload_n 3, 1) := by decide +kernel
theorem dX11_node_29 : decode cX11_node 29 = .ok (.getfield 253, 3) := by decide +kernel
theorem dX11_node_32 : decode cX11_node 32 = .ok (.iload_n 2, 1) := by decide +kernel
theorem dX11_node_33 : decode cX11_node 33 = .ok (.bipush 40, 2) := by decide +kernel
theorem dX11_node_35 : decode cX11_node 35 = .ok (.isub, 1) := by decide +kernel
theorem dX11_node_36 : decode cX11_node 36 = .ok (.iaload, 1) := by decide +kernel
theorem dX11_node_37 : decode cX11_node 37 = .ok (.ireturn, 1) := by decide +kernel
theorem dX11_node_38 : decode cX11_node 38 = .ok (.iload_n 2, 1) := by decide +kernel
theorem dX11_node_39 : decode cX11_node 39 = .ok (.bipush 20, 2) := by decide +kernel
theorem dX11_node_41 : decode cX11_node 41 = .ok (.if_icmp .lt 19, 3) := by decide +kernel
theorem dX11_node_44 : decode cX11_node 44 = .ok (.iload_n 2, 1) := by decide +kernel
theorem dX11_node_45 : decode cX11_node 45 = .ok (.bipush 36, 2) := by decide +kernel
theorem dX11_node_47 : decode cX11_node 47 = .ok (.if_icmp .ge 13, 3) := by decide +kernel
theorem dX11_node_50 : decode cX11_node 50 = .ok (.aload_n 3, 1) := by decide +kernel
theorem dX11_node_51 : decode cX11_node 51 = .ok (.getfield 429, 3) := by decide +kernel
theorem dX11_node_54 : decode cX11_node 54 = .ok (.iload_n 2, 1) := by decide +kernel
theorem dX11_node_55 : decode cX11_node 55 = .ok (.bipush 20, 2) := by decide +kernel
theorem dX11_node_57 : decode cX11_node 57 = .ok (.isub, 1) := by decide +kernel
theorem dX11_node_58 : decode cX11_node 58 = .ok (.iaload, 1) := by decide +kernel
theorem dX11_node_59 : decode cX11_node 59 = .ok (.ireturn, 1) := by decide +kernel
theorem dX11_node_60 : decode cX11_node 60 = .ok (.iload_n 2, 1) := by decide +kernel
theorem dX11_node_61 : decode cX11_node 61 = .ok (.bipush 10, 2) := by decide +kernel
theorem dX11_node_63 : decode cX11_node 63 = .ok (.if_icmp .lt 18, 3) := by decide +kernel
theorem dX11_node_66 : decode cX11_node 66 = .ok (.iload_n 2, 1) := by decide +kernel
theorem dX11_node_67 : decode cX11_node 67 = .ok (.bipush 14, 2) := by decide +kernel
theorem dX11_node_69 : decode cX11_node 69 = .ok (.if_icmp .ge 12, 3) := by decide +kernel
theorem dX11_node_72 : decode cX11_node 72 = .ok (.aload_n 3, 1) := by decide +kernel
theorem dX11_node_73 : decode cX11_node 73 = .ok (.iload_n 2, 1) := by decide +kernel
theorem dX11_node_74 : decode cX11_node 74 = .ok (.bipush 10, 2) := by decide +kernel
theorem dX11_node_76 : decode cX11_node 76 = .ok (.isub, 1) := by decide +kernel
theorem dX11_node_77 : decode cX11_node 77 = .ok (.invokevirtual 432, 3) := by decide +kernel
theorem dX11_node_80 : decode cX11_node 80 = .ok (.ireturn, 1) := by decide +kernel
theorem dX11_node_81 : decode cX11_node 81 = .ok (.iload_n 2, 1) := by decide +kernel
theorem dX11_node_82 : decode cX11_node 82 = .ok (.tableswitch 113 0 9 #[54, 59, 67, 72, 80, 85, 90, 95, 100, 108], 54) := by decide +kernel
theorem dX11_node_136 : decode cX11_node 136 = .ok (.aload_n 3, 1) := by decide +kernel
theorem dX11_node_137 : decode cX11_node 137 = .ok (.getfield 116, 3) := by decide +kernel
theorem dX11_node_140 : decode cX11_node 140 = .ok (.ireturn, 1) := by decide +kernel
theorem dX11_node_141 : decode cX11_node 141 = .ok (.aload_n 3, 1) := by decide +kernel
theorem dX11_node_142 : decode cX11_node 142 = .ok (.getfield 68, 3) := by decide +kernel
theorem dX11_node_145 : decode cX11_node 145 = .ok (.getfield 366, 3) := by decide +kernel
theorem dX11_node_148 : decode cX11_node 148 = .ok (.ireturn, 1) := by decide +kernel
theorem dX11_node_149 : decode cX11_node 149 = .ok (.aload_n 3, 1) := by decide +kernel
theorem dX11_node_150 : decode cX11_node 150 = .ok (.getfield 435, 3) := by decide +kernel
theorem dX11_node_153 : decode cX11_node 153 = .ok (.ireturn, 1) := by decide +kernel
theorem dX11_node_154 : decode cX11_node 154 = .ok (.aload_n 3, 1) := by decide +kernel
theorem dX11_node_155 : decode cX11_node 155 = .ok (.getfield 423, 3) := by decide +kernel
theorem dX11_node_158 : decode cX11_node 158 = .ok (.getfield 426, 3) := by decide +kernel
theorem dX11_node_161 : decode cX11_node 161 = .ok (.ireturn, 1) := by decide +kernel
theorem dX11_node_162 : decode cX11_node 162 = .ok (.aload_n 3, 1) := by decide +kernel
theorem dX11_node_163 : decode cX11_node 163 = .ok (.invokestatic 438, 3) := by decide +kernel
theorem dX11_node_166 : decode cX11_node 166 = .ok (.ireturn, 1) := by decide +kernel
theorem dX11_node_167 : decode cX11_node 167 = .ok (.aload_n 3, 1) := by decide +kernel
theorem dX11_node_168 : decode cX11_node 168 = .ok (.getfield 442, 3) := by decide +kernel
theorem dX11_node_171 : decode cX11_node 171 = .ok (.ireturn, 1) := by decide +kernel
theorem dX11_node_172 : decode cX11_node 172 = .ok (.aload_n 3, 1) := by decide +kernel
theorem dX11_node_173 : decode cX11_node 173 = .ok (.getfield 445, 3) := by decide +kernel
theorem dX11_node_176 : decode cX11_node 176 = .ok (.ireturn, 1) := by decide +kernel
theorem dX11_node_177 : decode cX11_node 177 = .ok (.aload_n 3, 1) := by decide +kernel
theorem dX11_node_178 : decode cX11_node 178 = .ok (.invokevirtual 448, 3) := by decide +kernel
theorem dX11_node_181 : decode cX11_node 181 = .ok (.ireturn, 1) := by decide +kernel
theorem dX11_node_182 : decode cX11_node 182 = .ok (.aload_n 3, 1) := by decide +kernel
theorem dX11_node_183 : decode cX11_node 183 = .ok (.getfield 204, 3) := by decide +kernel
theorem dX11_node_186 : decode cX11_node 186 = .ok (.getfield 426, 3) := by decide +kernel
theorem dX11_node_189 : decode cX11_node 189 = .ok (.ireturn, 1) := by decide +kernel
theorem dX11_node_190 : decode cX11_node 190 = .ok (.aload_n 3, 1) := by decide +kernel
theorem dX11_node_191 : decode cX11_node 191 = .ok (.invokevirtual 310, 3) := by decide +kernel
theorem dX11_node_194 : decode cX11_node 194 = .ok (.ireturn, 1) := by decide +kernel
theorem dX11_node_195 : decode cX11_node 195 = .ok (.iconst (-1), 1) := by decide +kernel
theorem dX11_node_196 : decode cX11_node 196 = .ok (.ireturn, 1) := by decide +kernel
theorem kd_11_node : Cond.code yX11_node cX11_node 4 (some .int) ∈ lw_g := mt_at 1540 (by decide +kernel) rfl
theorem ki_11_node : Cond.instanceMethod yX11_node ∈ lw_g := mt_at 1538 (by decide +kernel) rfl
theorem kl_11_node : Cond.selects (kRn 11) yX11_node yX11_node ∈ lw_g := mt_at 1539 (by decide +kernel) rfl
theorem cw11_432 : cCw RX11 432 yX7_knownOf cX7_knownOf 2 (some .int) 1 := ⟨kd_7_knownOf, mt_at 1541 (by decide +kernel) rfl, mt_at 7 (by decide +kernel) rfl, by decide +kernel⟩
theorem cw11_438 : cCw RX11 438 yX11_thereAt cX11_thereAt 3 (some .int) 1 := ⟨kd_11_thereAt, mt_at 1542 (by decide +kernel) rfl, mt_at 1 (by decide +kernel) rfl, by decide +kernel⟩
theorem cw11_448 : cCw RX11 448 yX7_stableRows cX7_stableRows 1 (some .int) 0 := ⟨kd_7_stableRows, mt_at 1545 (by decide +kernel) rfl, mt_at 7 (by decide +kernel) rfl, by decide +kernel⟩
section
variable {p : Program} {l : Launch} {e : Env} {R : Room} {s : State} {m : MethodId} {args : Array Value} {below : List Frame} {meth : Method} {c : Code} {H : Heap} {locs : List Loc} {cells slots : Nat} {Q : State → Prop}
variable {D : cG} {S S0 : cSt} {cc : ByteArray} {nL : Nat} {pc : Nat} {ls : Array Slot} {rest : List Value} {H0 : Heap} {nF nR nC nS : Nat} {ret : Option FieldType} {a : Nat}
theorem gk11_429 (C : cY p R s m args meth c RX11 cc nL nF nC nS nR ret) (X : cX D s) (hW : cW D S H) (hk : kK S a = 8) {x : Nat} (hx : kR S a 5 = some x) (hdg : decode cc pc = .ok (.getfield 429, 3)) (kk : W p l e R s m args below meth c H locs cells slots Q (F0 m (pc + 3) ls (.ref x :: rest))) : W p l e R s m args below meth c H locs cells slots Q (F0 m pc ls (.ref a :: rest)) := c_get C X hW 7 (by decide) ly_7 hk 5 (by decide) (mt_at 315 (by decide +kernel) (by decide +kernel)) hdg (by rw [cV_R (by decide +kernel) hx]; exact kk)
theorem gk11_435 (C : cY p R s m args meth c RX11 cc nL nF nC nS nR ret) (X : cX D s) (hW : cW D S H) (hk : kK S a = 8) (hdg : decode cc pc = .ok (.getfield 435, 3)) (kk : W p l e R s m args below meth c H locs cells slots Q (F0 m (pc + 3) ls (.int (kF S a 11) :: rest))) : W p l e R s m args below meth c H locs cells slots Q (F0 m pc ls (.ref a :: rest)) := c_get C X hW 7 (by decide) ly_7 hk 11 (by decide) (mt_at 328 (by decide +kernel) (by decide +kernel)) hdg (by rw [cV_I (by decide +kernel)]; exact kk)
theorem gk11_442 (C : cY p R s m args meth c RX11 cc nL nF nC nS nR ret) (X : cX D s) (hW : cW D S H) (hk : kK S a = 8) (hdg : decode cc pc = .ok (.getfield 442, 3)) (kk : W p l e R s m args below meth c H locs cells slots Q (F0 m (pc + 3) ls (.int (kF S a 9) :: rest))) : W p l e R s m args below meth c H locs cells slots Q (F0 m pc ls (.ref a :: rest)) := c_get C X hW 7 (by decide) ly_7 hk 9 (by decide) (mt_at 324 (by decide +kernel) (by decide +kernel)) hdg (by rw [cV_I (by decide +kernel)]; exact kk)
theorem gk11_445 (C : cY p R s m args meth c RX11 cc nL nF nC nS nR ret) (X : cX D s) (hW : cW D S H) (hk : kK S a = 8) (hdg : decode cc pc = .ok (.getfield 445, 3)) (kk : W p l e R s m args below meth c H locs cells slots Q (F0 m (pc + 3) ls (.int (kF S a 10) :: rest))) : W p l e R s m args below meth c H locs cells slots Q (F0 m pc ls (.ref a :: rest)) := c_get C X hW 7 (by decide) ly_7 hk 10 (by decide) (mt_at 326 (by decide +kernel) (by decide +kernel)) hdg (by rw [cV_I (by decide +kernel)]; exact kk)
end
section
variable {p : Program} {l : Launch} {e : Env} {R : Room} {s : State} {m : MethodId} {args : Array Value} {below : List Frame} {meth : Method} {c : Code} {D : cG} {S : cSt} {r : Int32}
noncomputable def fk_11_node_81 (S : cSt) (v2 : Int32) (v3 : Option Nat) : Option (Int32) :=
if v2 = (0 : Int32) then (
bd v3 fun a2 =>
ckk S a2 8 (
some (kF S a2 8)))
else if v2 = (1 : Int32) then (
bd v3 fun a4 =>
ckk S a4 8 (bd (kR S a4 1) fun a5 =>
ckk S a5 5 (
some (kF S a5 7))))
else if v2 = (2 : Int32) then (
bd v3 fun a7 =>
ckk S a7 8 (
some (kF S a7 11)))
else if v2 = (3 : Int32) then (
bd v3 fun a9 =>
ckk S a9 8 (bd (kR S a9 3) fun a10 =>
ckk S a10 7 (
some (kF S a10 0))))
else if v2 = (4 : Int32) then (
bd v3 fun a12 =>
bd (fk_11_thereAt S a12) fun r13 =>
some r13)
else if v2 = (5 : Int32) then (
bd v3 fun a15 =>
ckk S a15 8 (
some (kF S a15 9)))
else if v2 = (6 : Int32) then (
bd v3 fun a17 =>
ckk S a17 8 (
some (kF S a17 10)))
else if v2 = (7 : Int32) then (
bd v3 fun a19 =>
ckk S a19 8 (bd (fk_7_stableRows S a19) fun r20 =>
some r20))
else if v2 = (8 : Int32) then (
bd v3 fun a22 =>
ckk S a22 8 (bd (kR S a22 4) fun a23 =>
ckk S a23 7 (
some (kF S a23 0))))
else if v2 = (9 : Int32) then (
bd v3 fun a25 =>
ckk S a25 8 (bd (fk_7_timeNow S a25) fun r26 =>
some r26))
else (
some (-1 : Int32))
set_option maxRecDepth 100000 in
set_option maxHeartbeats 4000000 in
theorem wk_11_node_81 (C : cY p R s m args meth c RX11 cX11_node 4 4 0 0 103 (some .int)) (X : cX D s) (hW : cW D S s.heap) : ∀ {v2 : Int32} {v3 : Option Nat} {ls : Array Slot}, fk_11_node_81 S v2 v3 = some r → lv_has ls 4 [(2, .int v2), (3, va_rf v3)] → W p l e R s m args below meth c s.heap [] 0 0 (MQ below (kQ (some (.int r))) args s 0 0 mNo) (F0 m 81 ls []) := by
  intro v2 v3 ls h hl
  unfold fk_11_node_81 at h
  refine lv_iload_n C.1 C.2.1 dX11_node_81 rfl (lv_at hl 0 rfl) ?_
  by_cases c1 : v2 = (0 : Int32)
  · have h := if_t h c1
    refine lv_tableIn (off := 54) (tgt := 136) C.1 C.2.1 dX11_node_82 (by rw [c1]; decide) (by rw [c1]; decide) (by rw [c1]; rfl) (by decide) ?_
    refine lv_aload_nq (o := v3) C.1 C.2.1 dX11_node_136 rfl (lv_at hl 1 rfl) ?_
    obtain ⟨a2, e_a2, h⟩ := bd_ok h
    subst e_a2
    obtain ⟨hk, h⟩ := ckk_ok h
    refine gk11_116 C X hW hk dX11_node_137 ?_
    cases h
    exact c_reti C rfl rfl dX11_node_140
  · have h := if_f h c1
    by_cases c3 : v2 = (1 : Int32)
    · have h := if_t h c3
      refine lv_tableIn (off := 59) (tgt := 141) C.1 C.2.1 dX11_node_82 (by rw [c3]; decide) (by rw [c3]; decide) (by rw [c3]; rfl) (by decide) ?_
      refine lv_aload_nq (o := v3) C.1 C.2.1 dX11_node_141 rfl (lv_at hl 1 rfl) ?_
      obtain ⟨a4, e_a4, h⟩ := bd_ok h
      subst e_a4
      obtain ⟨hk, h⟩ := ckk_ok h
      obtain ⟨a5, h_a5, h⟩ := bd_ok h
      refine gk11_68 C X hW hk h_a5 dX11_node_142 ?_
      obtain ⟨hk, h⟩ := ckk_ok h
      refine gk11_366 C X hW hk dX11_node_145 ?_
      cases h
      exact c_reti C rfl rfl dX11_node_148
    · have h := if_f h c3
      by_cases c6 : v2 = (2 : Int32)
      · have h := if_t h c6
        refine lv_tableIn (off := 67) (tgt := 149) C.1 C.2.1 dX11_node_82 (by rw [c6]; decide) (by rw [c6]; decide) (by rw [c6]; rfl) (by decide) ?_
        refine lv_aload_nq (o := v3) C.1 C.2.1 dX11_node_149 rfl (lv_at hl 1 rfl) ?_
        obtain ⟨a7, e_a7, h⟩ := bd_ok h
        subst e_a7
        obtain ⟨hk, h⟩ := ckk_ok h
        refine gk11_435 C X hW hk dX11_node_150 ?_
        cases h
        exact c_reti C rfl rfl dX11_node_153
      · have h := if_f h c6
        by_cases c8 : v2 = (3 : Int32)
        · have h := if_t h c8
          refine lv_tableIn (off := 72) (tgt := 154) C.1 C.2.1 dX11_node_82 (by rw [c8]; decide) (by rw [c8]; decide) (by rw [c8]; rfl) (by decide) ?_
          refine lv_aload_nq (o := v3) C.1 C.2.1 dX11_node_154 rfl (lv_at hl 1 rfl) ?_
          obtain ⟨a9, e_a9, h⟩ := bd_ok h
          subst e_a9
          obtain ⟨hk, h⟩ := ckk_ok h
          obtain ⟨a10, h_a10, h⟩ := bd_ok h
          refine gk11_423 C X hW hk h_a10 dX11_node_155 ?_
          obtain ⟨hk, h⟩ := ckk_ok h
          refine gk11_426 C X hW hk dX11_node_158 ?_
          cases h
          exact c_reti C rfl rfl dX11_node_161
        · have h := if_f h c8
          by_cases c11 : v2 = (4 : Int32)
          · have h := if_t h c11
            refine lv_tableIn (off := 80) (tgt := 162) C.1 C.2.1 dX11_node_82 (by rw [c11]; decide) (by rw [c11]; decide) (by rw [c11]; rfl) (by decide) ?_
            refine lv_aload_nq (o := v3) C.1 C.2.1 dX11_node_162 rfl (lv_at hl 1 rfl) ?_
            obtain ⟨a12, e_a12, h⟩ := bd_ok h
            subst e_a12
            obtain ⟨r13, h_r13, h⟩ := bd_ok h
            refine c_callSR (rest := []) C X hW hl.1 [.ref a12] (tk_11_thereAt l h_r13) cw11_438 ks_11_thereAt rfl ⟨by decide, by decide⟩ ⟨(by decide), (by decide)⟩ rfl (Nat.le_of_ble_eq_true rfl) dX11_node_163 ?_
            refine W.eq (g2 := F0 m 166 ls [.int r13]) rfl ?_
            cases h
            exact c_reti C rfl rfl dX11_node_166
          · have h := if_f h c11
            by_cases c14 : v2 = (5 : Int32)
            · have h := if_t h c14
              refine lv_tableIn (off := 85) (tgt := 167) C.1 C.2.1 dX11_node_82 (by rw [c14]; decide) (by rw [c14]; decide) (by rw [c14]; rfl) (by decide) ?_
              refine lv_aload_nq (o := v3) C.1 C.2.1 dX11_node_167 rfl (lv_at hl 1 rfl) ?_
              obtain ⟨a15, e_a15, h⟩ := bd_ok h
              subst e_a15
              obtain ⟨hk, h⟩ := ckk_ok h
              refine gk11_442 C X hW hk dX11_node_168 ?_
              cases h
              exact c_reti C rfl rfl dX11_node_171
            · have h := if_f h c14
              by_cases c16 : v2 = (6 : Int32)
              · have h := if_t h c16
                refine lv_tableIn (off := 90) (tgt := 172) C.1 C.2.1 dX11_node_82 (by rw [c16]; decide) (by rw [c16]; decide) (by rw [c16]; rfl) (by decide) ?_
                refine lv_aload_nq (o := v3) C.1 C.2.1 dX11_node_172 rfl (lv_at hl 1 rfl) ?_
                obtain ⟨a17, e_a17, h⟩ := bd_ok h
                subst e_a17
                obtain ⟨hk, h⟩ := ckk_ok h
                refine gk11_445 C X hW hk dX11_node_173 ?_
                cases h
                exact c_reti C rfl rfl dX11_node_176
              · have h := if_f h c16
                by_cases c18 : v2 = (7 : Int32)
                · have h := if_t h c18
                  refine lv_tableIn (off := 95) (tgt := 177) C.1 C.2.1 dX11_node_82 (by rw [c18]; decide) (by rw [c18]; decide) (by rw [c18]; rfl) (by decide) ?_
                  refine lv_aload_nq (o := v3) C.1 C.2.1 dX11_node_177 rfl (lv_at hl 1 rfl) ?_
                  obtain ⟨a19, e_a19, h⟩ := bd_ok h
                  subst e_a19
                  obtain ⟨hk, h⟩ := ckk_ok h
                  obtain ⟨r20, h_r20, h⟩ := bd_ok h
                  refine c_callR (rest := []) C X hW hl.1 7 (by decide) hk [] (tk_7_stableRows l h_r20) cw11_448 ki_7_stableRows kl_7_stableRows rfl ⟨by decide, by decide⟩ ⟨(by decide), (by decide)⟩ rfl (Nat.le_of_ble_eq_true rfl) dX11_node_178 ?_
                  refine W.eq (g2 := F0 m 181 ls [.int r20]) rfl ?_
                  cases h
                  exact c_reti C rfl rfl dX11_node_181
                · have h := if_f h c18
                  by_cases c21 : v2 = (8 : Int32)
                  · have h := if_t h c21
                    refine lv_tableIn (off := 100) (tgt := 182) C.1 C.2.1 dX11_node_82 (by rw [c21]; decide) (by rw [c21]; decide) (by rw [c21]; rfl) (by decide) ?_
                    refine lv_aload_nq (o := v3) C.1 C.2.1 dX11_node_182 rfl (lv_at hl 1 rfl) ?_
                    obtain ⟨a22, e_a22, h⟩ := bd_ok h
                    subst e_a22
                    obtain ⟨hk, h⟩ := ckk_ok h
                    obtain ⟨a23, h_a23, h⟩ := bd_ok h
                    refine gk11_204 C X hW hk h_a23 dX11_node_183 ?_
                    obtain ⟨hk, h⟩ := ckk_ok h
                    refine gk11_426 C X hW hk dX11_node_186 ?_
                    cases h
                    exact c_reti C rfl rfl dX11_node_189
                  · have h := if_f h c21
                    by_cases c24 : v2 = (9 : Int32)
                    · have h := if_t h c24
                      refine lv_tableIn (off := 108) (tgt := 190) C.1 C.2.1 dX11_node_82 (by rw [c24]; decide) (by rw [c24]; decide) (by rw [c24]; rfl) (by decide) ?_
                      refine lv_aload_nq (o := v3) C.1 C.2.1 dX11_node_190 rfl (lv_at hl 1 rfl) ?_
                      obtain ⟨a25, e_a25, h⟩ := bd_ok h
                      subst e_a25
                      obtain ⟨hk, h⟩ := ckk_ok h
                      obtain ⟨r26, h_r26, h⟩ := bd_ok h
                      refine c_callR (rest := []) C X hW hl.1 7 (by decide) hk [] (tk_7_timeNow l h_r26) cw11_310 ki_7_timeNow kl_7_timeNow rfl ⟨by decide, by decide⟩ ⟨(by decide), (by decide)⟩ rfl (Nat.le_of_ble_eq_true rfl) dX11_node_191 ?_
                      refine W.eq (g2 := F0 m 194 ls [.int r26]) rfl ?_
                      cases h
                      exact c_reti C rfl rfl dX11_node_194
                    · have h := if_f h c24
                      have n_c1 := lv_neT c1 (a := 0) rfl
                      have n_c3 := lv_neT c3 (a := 1) rfl
                      have n_c6 := lv_neT c6 (a := 2) rfl
                      have n_c8 := lv_neT c8 (a := 3) rfl
                      have n_c11 := lv_neT c11 (a := 4) rfl
                      have n_c14 := lv_neT c14 (a := 5) rfl
                      have n_c16 := lv_neT c16 (a := 6) rfl
                      have n_c18 := lv_neT c18 (a := 7) rfl
                      have n_c21 := lv_neT c21 (a := 8) rfl
                      have n_c24 := lv_neT c24 (a := 9) rfl
                      refine lv_tableOut (tgt := 195) C.1 C.2.1 dX11_node_82 (by omega) (by decide) ?_
                      refine lv_iconst (v := -1) C.1 C.2.1 dX11_node_195 (by decide) ?_
                      cases h
                      exact c_reti C rfl rfl dX11_node_196
noncomputable def fk_11_node_60 (S : cSt) (v2 : Int32) (v3 : Option Nat) : Option (Int32) :=
if v2 < (10 : Int32) then (
fk_11_node_81 S v2 v3)
else (
if (14 : Int32) ≤ v2 then (
fk_11_node_81 S v2 v3)
else (
bd v3 fun a3 =>
ckk S a3 8 (bd (fk_7_knownOf S a3 (v2 - (10 : Int32))) fun r4 =>
some r4)))
set_option maxRecDepth 100000 in
set_option maxHeartbeats 4000000 in
theorem wk_11_node_60 (C : cY p R s m args meth c RX11 cX11_node 4 4 0 0 103 (some .int)) (X : cX D s) (hW : cW D S s.heap) : ∀ {v2 : Int32} {v3 : Option Nat} {ls : Array Slot}, fk_11_node_60 S v2 v3 = some r → lv_has ls 4 [(2, .int v2), (3, va_rf v3)] → W p l e R s m args below meth c s.heap [] 0 0 (MQ below (kQ (some (.int r))) args s 0 0 mNo) (F0 m 60 ls []) := by
  intro v2 v3 ls h hl
  unfold fk_11_node_60 at h
  refine lv_iload_n C.1 C.2.1 dX11_node_60 rfl (lv_at hl 0 rfl) ?_
  refine lv_bipush (v := 10) C.1 C.2.1 dX11_node_61 (by decide) ?_
  refine lv_icmp_lt (tgt := 81) C.1 C.2.1 dX11_node_63 (by decide) (fun c1 => ?_) (fun c1 => ?_)
  · have h := if_t h c1
    exact wk_11_node_81 C X hW h (lv_sub hl [0, 1] rfl)
  · have h := if_f h c1
    refine lv_iload_n C.1 C.2.1 dX11_node_66 rfl (lv_at hl 0 rfl) ?_
    refine lv_bipush (v := 14) C.1 C.2.1 dX11_node_67 (by decide) ?_
    refine lv_icmp_ge (tgt := 81) C.1 C.2.1 dX11_node_69 (by decide) (fun c2 => ?_) (fun c2 => ?_)
    · have h := if_t h c2
      exact wk_11_node_81 C X hW h (lv_sub hl [0, 1] rfl)
    · have h := if_f h c2
      refine lv_aload_nq (o := v3) C.1 C.2.1 dX11_node_72 rfl (lv_at hl 1 rfl) ?_
      refine lv_iload_n C.1 C.2.1 dX11_node_73 rfl (lv_at hl 0 rfl) ?_
      refine lv_bipush (v := 10) C.1 C.2.1 dX11_node_74 (by decide) ?_
      refine lv_isub C.1 C.2.1 dX11_node_76 ?_
      obtain ⟨a3, e_a3, h⟩ := bd_ok h
      subst e_a3
      obtain ⟨hk, h⟩ := ckk_ok h
      obtain ⟨r4, h_r4, h⟩ := bd_ok h
      refine c_callR (rest := []) C X hW hl.1 7 (by decide) hk [.int (v2 - (10 : Int32))] (tk_7_knownOf l h_r4) cw11_432 ki_7_knownOf kl_7_knownOf rfl ⟨by decide, by decide⟩ ⟨(by decide), (by decide)⟩ rfl (Nat.le_of_ble_eq_true rfl) dX11_node_77 ?_
      refine W.eq (g2 := F0 m 80 ls [.int r4]) rfl ?_
      cases h
      exact c_reti C rfl rfl dX11_node_80
noncomputable def fk_11_node_38 (S : cSt) (v2 : Int32) (v3 : Option Nat) : Option (Int32) :=
if v2 < (20 : Int32) then (
fk_11_node_60 S v2 v3)
else (
if (36 : Int32) ≤ v2 then (
fk_11_node_60 S v2 v3)
else (
bd v3 fun a3 =>
ckk S a3 8 (bd (kR S a3 5) fun a4 =>
ckk S a4 20 (ck (v2 - (20 : Int32)) (kL S a4) (
some (kI S a4 (Int32.toNatClampNeg (v2 - (20 : Int32)))))))))
set_option maxRecDepth 100000 in
set_option maxHeartbeats 4000000 in
theorem wk_11_node_38 (C : cY p R s m args meth c RX11 cX11_node 4 4 0 0 103 (some .int)) (X : cX D s) (hW : cW D S s.heap) : ∀ {v2 : Int32} {v3 : Option Nat} {ls : Array Slot}, fk_11_node_38 S v2 v3 = some r → lv_has ls 4 [(2, .int v2), (3, va_rf v3)] → W p l e R s m args below meth c s.heap [] 0 0 (MQ below (kQ (some (.int r))) args s 0 0 mNo) (F0 m 38 ls []) := by
  intro v2 v3 ls h hl
  unfold fk_11_node_38 at h
  refine lv_iload_n C.1 C.2.1 dX11_node_38 rfl (lv_at hl 0 rfl) ?_
  refine lv_bipush (v := 20) C.1 C.2.1 dX11_node_39 (by decide) ?_
  refine lv_icmp_lt (tgt := 60) C.1 C.2.1 dX11_node_41 (by decide) (fun c1 => ?_) (fun c1 => ?_)
  · have h := if_t h c1
    exact wk_11_node_60 C X hW h (lv_sub hl [0, 1] rfl)
  · have h := if_f h c1
    refine lv_iload_n C.1 C.2.1 dX11_node_44 rfl (lv_at hl 0 rfl) ?_
    refine lv_bipush (v := 36) C.1 C.2.1 dX11_node_45 (by decide) ?_
    refine lv_icmp_ge (tgt := 60) C.1 C.2.1 dX11_node_47 (by decide) (fun c2 => ?_) (fun c2 => ?_)
    · have h := if_t h c2
      exact wk_11_node_60 C X hW h (lv_sub hl [0, 1] rfl)
    · have h := if_f h c2
      refine lv_aload_nq (o := v3) C.1 C.2.1 dX11_node_50 rfl (lv_at hl 1 rfl) ?_
      obtain ⟨a3, e_a3, h⟩ := bd_ok h
      subst e_a3
      obtain ⟨hk, h⟩ := ckk_ok h
      obtain ⟨a4, h_a4, h⟩ := bd_ok h
      refine gk11_429 C X hW hk h_a4 dX11_node_51 ?_
      refine lv_iload_n C.1 C.2.1 dX11_node_54 rfl (lv_at hl 0 rfl) ?_
      refine lv_bipush (v := 20) C.1 C.2.1 dX11_node_55 (by decide) ?_
      refine lv_isub C.1 C.2.1 dX11_node_57 ?_
      obtain ⟨hk, h⟩ := ckk_ok h
      obtain ⟨hin2, h⟩ := ck_ok h
      refine c_iald C X hW hk hin2 dX11_node_58 ?_
      cases h
      exact c_reti C rfl rfl dX11_node_59
noncomputable def fk_11_node (S : cSt) (v0 : Nat) (v1 : Int32) (v2 : Int32) : Option (Int32) :=
bd (fk_11_isNode v1) fun r1 =>
if r1 = 0 then (
some (-1 : Int32))
else (
ckk S v0 12 (bd (kR S v0 2) fun a3 =>
ckk S a3 31 (ck v1 (kL S a3) (lt (kO S a3 (Int32.toNatClampNeg v1)) fun o4 =>
if v2 < (40 : Int32) then (
fk_11_node_38 S v2 o4)
else (
if (56 : Int32) ≤ v2 then (
fk_11_node_38 S v2 o4)
else (
bd o4 fun a7 =>
ckk S a7 8 (bd (kR S a7 6) fun a8 =>
ckk S a8 20 (ck (v2 - (40 : Int32)) (kL S a8) (
some (kI S a8 (Int32.toNatClampNeg (v2 - (40 : Int32)))))))))))))
set_option maxRecDepth 100000 in
set_option maxHeartbeats 4000000 in
theorem tk_11_node (l : Launch) {D : cG} {S : cSt} {v0 : Nat} {v1 : Int32} {v2 : Int32} {r : Int32}  (h : fk_11_node S v0 v1 v2 = some r) : Met l yX11_node (Cond.code yX11_node cX11_node 4 (some .int) :: lw_g) { frames := 4, cells := 0, slots := 0, locals := 103 } (kPi [.ref v0, .int v1, .int v2] D S) (kQ (some (.int r))) 0 0 (mNo) := by
  refine Met.ofW (cc := cX11_node) (maxL := 4) (ret := (some .int)) (by decide) rfl ?_
  intro p e s m args below meth c s₁ B hml hv
  obtain ⟨rfl, hW, X⟩ := hv
  have C : cY p (headSpec (Cond.code yX11_node cX11_node 4 (some .int) :: lw_g) { frames := 4, cells := 0, slots := 0, locals := 103 }).room s m _ meth c RX11 cX11_node 4 4 0 0 103 (some .int) := ⟨B.exec, B.bytes, hml, findClass_of_methodNamed B.named, fun w hw => atoms_spec (ws := Cond.code yX11_node cX11_node 4 (some .int) :: lw_g) B.pre w (List.mem_cons_of_mem _ hw), ⟨Nat.le_refl _, Nat.le_refl _, Nat.le_refl _, Nat.le_refl _⟩, B.returns, B.notSynchronized⟩
  have hl := lv_entry ([.ref v0, .int v1, .int v2]) (n := 4) (Nat.le_of_ble_eq_true rfl)
  rw [lg_entry_eq]
  generalize (lg_sl ([.ref v0, .int v1, .int v2]) ++ List.replicate (4 - (lg_sl ([.ref v0, .int v1, .int v2])).length) Slot.unset).toArray = ls at hl ⊢
  have hl : lv_has ls 4 [(0, .ref v0), (1, .int v1), (2, .int v2)] := hl
  unfold fk_11_node at h
  refine lv_iload_n C.1 C.2.1 dX11_node_0 rfl (lv_at hl 1 rfl) ?_
  obtain ⟨r1, h_r1, h⟩ := bd_ok h
  refine c_callS (rest := []) C hl.1 [.int v1] (tk_11_isNode l h_r1) cw11_112 ks_11_isNode rfl ⟨by decide, by decide⟩ ⟨(by decide), (by decide)⟩ rfl (Nat.le_of_ble_eq_true rfl) dX11_node_1 ?_
  refine W.eq (g2 := F0 m 4 ls [.int r1]) rfl ?_
  refine lv_if_ne (tgt := 9) C.1 C.2.1 dX11_node_4 (by decide) (fun c2 => ?_) (fun c2 => ?_)
  · have h := if_f h c2
    refine lv_aload_n C.1 C.2.1 dX11_node_9 rfl (lv_at hl 0 rfl) ?_
    obtain ⟨hk, h⟩ := ckk_ok h
    obtain ⟨a3, h_a3, h⟩ := bd_ok h
    refine gk11_25 C X hW hk h_a3 dX11_node_10 ?_
    refine lv_iload_n C.1 C.2.1 dX11_node_13 rfl (lv_at hl 1 rfl) ?_
    obtain ⟨hk, h⟩ := ckk_ok h
    obtain ⟨hin2, h⟩ := ck_ok h
    refine c_aald C 31 (by decide) X.2.2.2.2.2.1 hW hk hin2 dX11_node_14 ?_
    refine lt_ok h (fun o4 e_o4 h => ?_)
    refine lv_nmq e_o4 ?_
    refine lv_astore_nq (o := o4) (lv' := [(3, va_rf o4), (0, .ref v0), (1, .int v1), (2, .int v2)]) C.1 C.2.1 dX11_node_15 rfl hl (by decide) rfl (fun ls hl => ?_)
    refine lv_iload_n C.1 C.2.1 dX11_node_16 rfl (lv_at hl 3 rfl) ?_
    refine lv_bipush (v := 40) C.1 C.2.1 dX11_node_17 (by decide) ?_
    refine lv_icmp_lt (tgt := 38) C.1 C.2.1 dX11_node_19 (by decide) (fun c5 => ?_) (fun c5 => ?_)
    · have h := if_t h c5
      exact wk_11_node_38 C X hW h (lv_sub hl [3, 0] rfl)
    · have h := if_f h c5
      refine lv_iload_n C.1 C.2.1 dX11_node_22 rfl (lv_at hl 3 rfl) ?_
      refine lv_bipush (v := 56) C.1 C.2.1 dX11_node_23 (by decide) ?_
      refine lv_icmp_ge (tgt := 38) C.1 C.2.1 dX11_node_25 (by decide) (fun c6 => ?_) (fun c6 => ?_)
      · have h := if_t h c6
        exact wk_11_node_38 C X hW h (lv_sub hl [3, 0] rfl)
      · have h := if_f h c6
        refine lv_aload_nq (o := o4) C.1 C.2.1 dX11_node_28 rfl (lv_at hl 0 rfl) ?_
        obtain ⟨a7, e_a7, h⟩ := bd_ok h
        subst e_a7
        obtain ⟨hk, h⟩ := ckk_ok h
        obtain ⟨a8, h_a8, h⟩ := bd_ok h
        refine gk11_253 C X hW hk h_a8 dX11_node_29 ?_
        refine lv_iload_n C.1 C.2.1 dX11_node_32 rfl (lv_at hl 3 rfl) ?_
        refine lv_bipush (v := 40) C.1 C.2.1 dX11_node_33 (by decide) ?_
        refine lv_isub C.1 C.2.1 dX11_node_35 ?_
        obtain ⟨hk, h⟩ := ckk_ok h
        obtain ⟨hin2, h⟩ := ck_ok h
        refine c_iald C X hW hk hin2 dX11_node_36 ?_
        cases h
        exact c_reti C rfl rfl dX11_node_37
  · have h := if_t h c2
    refine lv_iconst (v := -1) C.1 C.2.1 dX11_node_7 (by decide) ?_
    cases h
    exact c_reti C rfl rfl dX11_node_8
end
theorem dX11_total_0 : decode cX11_total 0 = .ok (.iload_n 1, 1) := by decide +kernel
theorem dX11_total_1 : decode cX11_total 1 = .ok (.tableswitch 87 0 5 #[39, 47, 55, 63, 71, 79], 39) := by decide +kernel
theorem dX11_total_40 : decode cX11_total 40 = .ok (.aload_n 0, 1) := by decide +kernel
theorem dX11_total_41 : decode cX11_total 41 = .ok (.getfield 12, 3) := by decide +kernel
theorem dX11_total_44 : decode cX11_total 44 = .ok (.getfield 101, 3) := by decide +kernel
theorem dX11_total_47 : decode cX11_total 47 = .ok (.ireturn, 1) := by decide +kernel
theorem dX11_total_48 : decode cX11_total 48 = .ok (.aload_n 0, 1) := by decide +kernel
theorem dX11_total_49 : decode cX11_total 49 = .ok (.getfield 12, 3) := by decide +kernel
theorem dX11_total_52 : decode cX11_total 52 = .ok (.getfield 451, 3) := by decide +kernel
theorem dX11_total_55 : decode cX11_total 55 = .ok (.ireturn, 1) := by decide +kernel
theorem dX11_total_56 : decode cX11_total 56 = .ok (.aload_n 0, 1) := by decide +kernel
theorem dX11_total_57 : decode cX11_total 57 = .ok (.getfield 32, 3) := by decide +kernel
theorem dX11_total_60 : decode cX11_total 60 = .ok (.getfield 454, 3) := by decide +kernel
theorem dX11_total_63 : decode cX11_total 63 = .ok (.ireturn, 1) := by decide +kernel
theorem dX11_total_64 : decode cX11_total 64 = .ok (.aload_n 0, 1) := by decide +kernel
theorem dX11_total_65 : decode cX11_total 65 = .ok (.getfield 32, 3) := by decide +kernel
theorem dX11_total_68 : decode cX11_total 68 = .ok (.getfield 265, 3) := by decide +kernel
theorem dX11_total_71 : decode cX11_total 71 = .ok (.ireturn, 1) := by decide +kernel
theorem dX11_total_72 : decode cX11_total 72 = .ok (.aload_n 0, 1) := by decide +kernel
theorem dX11_total_73 : decode cX11_total 73 = .ok (.getfield 19, 3) := by decide +kernel
theorem dX11_total_76 : decode cX11_total 76 = .ok (.invokevirtual 455, 3) := by decide +kernel
theorem dX11_total_79 : decode cX11_total 79 = .ok (.ireturn, 1) := by decide +kernel
theorem dX11_total_80 : decode cX11_total 80 = .ok (.aload_n 0, 1) := by decide +kernel
theorem dX11_total_81 : decode cX11_total 81 = .ok (.getfield 32, 3) := by decide +kernel
theorem dX11_total_84 : decode cX11_total 84 = .ok (.getfield 233, 3) := by decide +kernel
theorem dX11_total_87 : decode cX11_total 87 = .ok (.ireturn, 1) := by decide +kernel
theorem dX11_total_88 : decode cX11_total 88 = .ok (.iconst (-1), 1) := by decide +kernel
theorem dX11_total_89 : decode cX11_total 89 = .ok (.ireturn, 1) := by decide +kernel
theorem kd_11_total : Cond.code yX11_total cX11_total 2 (some .int) ∈ lw_g := mt_at 1552 (by decide +kernel) rfl
theorem ki_11_total : Cond.instanceMethod yX11_total ∈ lw_g := mt_at 1550 (by decide +kernel) rfl
theorem kl_11_total : Cond.selects (kRn 11) yX11_total yX11_total ∈ lw_g := mt_at 1551 (by decide +kernel) rfl
theorem cw11_455 : cCw RX11 455 yX0_rowsInAll cX0_rowsInAll 1 (some .int) 0 := ⟨kd_0_rowsInAll, mt_at 1553 (by decide +kernel) rfl, mt_at 3 (by decide +kernel) rfl, by decide +kernel⟩
section
variable {p : Program} {l : Launch} {e : Env} {R : Room} {s : State} {m : MethodId} {args : Array Value} {below : List Frame} {meth : Method} {c : Code} {H : Heap} {locs : List Loc} {cells slots : Nat} {Q : State → Prop}
variable {D : cG} {S S0 : cSt} {cc : ByteArray} {nL : Nat} {pc : Nat} {ls : Array Slot} {rest : List Value} {H0 : Heap} {nF nR nC nS : Nat} {ret : Option FieldType} {a : Nat}
theorem gk11_101 (C : cY p R s m args meth c RX11 cc nL nF nC nS nR ret) (X : cX D s) (hW : cW D S H) (hk : kK S a = 4) (hdg : decode cc pc = .ok (.getfield 101, 3)) (kk : W p l e R s m args below meth c H locs cells slots Q (F0 m (pc + 3) ls (.int (kF S a 2) :: rest))) : W p l e R s m args below meth c H locs cells slots Q (F0 m pc ls (.ref a :: rest)) := c_get C X hW 3 (by decide) ly_3 hk 2 (by decide) (mt_at 51 (by decide +kernel) (by decide +kernel)) hdg (by rw [cV_I (by decide +kernel)]; exact kk)
theorem gk11_451 (C : cY p R s m args meth c RX11 cc nL nF nC nS nR ret) (X : cX D s) (hW : cW D S H) (hk : kK S a = 4) (hdg : decode cc pc = .ok (.getfield 451, 3)) (kk : W p l e R s m args below meth c H locs cells slots Q (F0 m (pc + 3) ls (.int (kF S a 1) :: rest))) : W p l e R s m args below meth c H locs cells slots Q (F0 m pc ls (.ref a :: rest)) := c_get C X hW 3 (by decide) ly_3 hk 1 (by decide) (mt_at 49 (by decide +kernel) (by decide +kernel)) hdg (by rw [cV_I (by decide +kernel)]; exact kk)
theorem gk11_454 (C : cY p R s m args meth c RX11 cc nL nF nC nS nR ret) (X : cX D s) (hW : cW D S H) (hk : kK S a = 6) (hdg : decode cc pc = .ok (.getfield 454, 3)) (kk : W p l e R s m args below meth c H locs cells slots Q (F0 m (pc + 3) ls (.int (kF S a 0) :: rest))) : W p l e R s m args below meth c H locs cells slots Q (F0 m pc ls (.ref a :: rest)) := c_get C X hW 5 (by decide) ly_5 hk 0 (by decide) (mt_at 105 (by decide +kernel) (by decide +kernel)) hdg (by rw [cV_I (by decide +kernel)]; exact kk)
end
section
variable {p : Program} {l : Launch} {e : Env} {R : Room} {s : State} {m : MethodId} {args : Array Value} {below : List Frame} {meth : Method} {c : Code} {D : cG} {S : cSt} {r : Int32}
noncomputable def fk_11_total (S : cSt) (v0 : Nat) (v1 : Int32) : Option (Int32) :=
if v1 = (0 : Int32) then (
ckk S v0 12 (bd (kR S v0 0) fun a2 =>
ckk S a2 4 (
some (kF S a2 2))))
else if v1 = (1 : Int32) then (
ckk S v0 12 (bd (kR S v0 0) fun a4 =>
ckk S a4 4 (
some (kF S a4 1))))
else if v1 = (2 : Int32) then (
ckk S v0 12 (bd (kR S v0 3) fun a6 =>
ckk S a6 6 (
some (kF S a6 0))))
else if v1 = (3 : Int32) then (
ckk S v0 12 (bd (kR S v0 3) fun a8 =>
ckk S a8 6 (
some (kF S a8 1))))
else if v1 = (4 : Int32) then (
ckk S v0 12 (bd (kR S v0 1) fun a10 =>
ckk S a10 1 (bd (fk_0_rowsInAll S a10) fun r11 =>
some r11)))
else if v1 = (5 : Int32) then (
ckk S v0 12 (bd (kR S v0 3) fun a13 =>
ckk S a13 6 (
some (kF S a13 2))))
else (
some (-1 : Int32))
set_option maxRecDepth 100000 in
set_option maxHeartbeats 4000000 in
theorem tk_11_total (l : Launch) {D : cG} {S : cSt} {v0 : Nat} {v1 : Int32} {r : Int32}  (h : fk_11_total S v0 v1 = some r) : Met l yX11_total (Cond.code yX11_total cX11_total 2 (some .int) :: lw_g) { frames := 1, cells := 0, slots := 0, locals := 20 } (kPi [.ref v0, .int v1] D S) (kQ (some (.int r))) 0 0 (mNo) := by
  refine Met.ofW (cc := cX11_total) (maxL := 2) (ret := (some .int)) (by decide) rfl ?_
  intro p e s m args below meth c s₁ B hml hv
  obtain ⟨rfl, hW, X⟩ := hv
  have C : cY p (headSpec (Cond.code yX11_total cX11_total 2 (some .int) :: lw_g) { frames := 1, cells := 0, slots := 0, locals := 20 }).room s m _ meth c RX11 cX11_total 2 1 0 0 20 (some .int) := ⟨B.exec, B.bytes, hml, findClass_of_methodNamed B.named, fun w hw => atoms_spec (ws := Cond.code yX11_total cX11_total 2 (some .int) :: lw_g) B.pre w (List.mem_cons_of_mem _ hw), ⟨Nat.le_refl _, Nat.le_refl _, Nat.le_refl _, Nat.le_refl _⟩, B.returns, B.notSynchronized⟩
  have hl := lv_entry ([.ref v0, .int v1]) (n := 2) (Nat.le_of_ble_eq_true rfl)
  rw [lg_entry_eq]
  generalize (lg_sl ([.ref v0, .int v1]) ++ List.replicate (2 - (lg_sl ([.ref v0, .int v1])).length) Slot.unset).toArray = ls at hl ⊢
  have hl : lv_has ls 2 [(0, .ref v0), (1, .int v1)] := hl
  unfold fk_11_total at h
  refine lv_iload_n C.1 C.2.1 dX11_total_0 rfl (lv_at hl 1 rfl) ?_
  by_cases c1 : v1 = (0 : Int32)
  · have h := if_t h c1
    refine lv_tableIn (off := 39) (tgt := 40) C.1 C.2.1 dX11_total_1 (by rw [c1]; decide) (by rw [c1]; decide) (by rw [c1]; rfl) (by decide) ?_
    refine lv_aload_n C.1 C.2.1 dX11_total_40 rfl (lv_at hl 0 rfl) ?_
    obtain ⟨hk, h⟩ := ckk_ok h
    obtain ⟨a2, h_a2, h⟩ := bd_ok h
    refine gk11_12 C X hW hk h_a2 dX11_total_41 ?_
    obtain ⟨hk, h⟩ := ckk_ok h
    refine gk11_101 C X hW hk dX11_total_44 ?_
    cases h
    exact c_reti C rfl rfl dX11_total_47
  · have h := if_f h c1
    by_cases c3 : v1 = (1 : Int32)
    · have h := if_t h c3
      refine lv_tableIn (off := 47) (tgt := 48) C.1 C.2.1 dX11_total_1 (by rw [c3]; decide) (by rw [c3]; decide) (by rw [c3]; rfl) (by decide) ?_
      refine lv_aload_n C.1 C.2.1 dX11_total_48 rfl (lv_at hl 0 rfl) ?_
      obtain ⟨hk, h⟩ := ckk_ok h
      obtain ⟨a4, h_a4, h⟩ := bd_ok h
      refine gk11_12 C X hW hk h_a4 dX11_total_49 ?_
      obtain ⟨hk, h⟩ := ckk_ok h
      refine gk11_451 C X hW hk dX11_total_52 ?_
      cases h
      exact c_reti C rfl rfl dX11_total_55
    · have h := if_f h c3
      by_cases c5 : v1 = (2 : Int32)
      · have h := if_t h c5
        refine lv_tableIn (off := 55) (tgt := 56) C.1 C.2.1 dX11_total_1 (by rw [c5]; decide) (by rw [c5]; decide) (by rw [c5]; rfl) (by decide) ?_
        refine lv_aload_n C.1 C.2.1 dX11_total_56 rfl (lv_at hl 0 rfl) ?_
        obtain ⟨hk, h⟩ := ckk_ok h
        obtain ⟨a6, h_a6, h⟩ := bd_ok h
        refine gk11_32 C X hW hk h_a6 dX11_total_57 ?_
        obtain ⟨hk, h⟩ := ckk_ok h
        refine gk11_454 C X hW hk dX11_total_60 ?_
        cases h
        exact c_reti C rfl rfl dX11_total_63
      · have h := if_f h c5
        by_cases c7 : v1 = (3 : Int32)
        · have h := if_t h c7
          refine lv_tableIn (off := 63) (tgt := 64) C.1 C.2.1 dX11_total_1 (by rw [c7]; decide) (by rw [c7]; decide) (by rw [c7]; rfl) (by decide) ?_
          refine lv_aload_n C.1 C.2.1 dX11_total_64 rfl (lv_at hl 0 rfl) ?_
          obtain ⟨hk, h⟩ := ckk_ok h
          obtain ⟨a8, h_a8, h⟩ := bd_ok h
          refine gk11_32 C X hW hk h_a8 dX11_total_65 ?_
          obtain ⟨hk, h⟩ := ckk_ok h
          refine gk11_265 C X hW hk dX11_total_68 ?_
          cases h
          exact c_reti C rfl rfl dX11_total_71
        · have h := if_f h c7
          by_cases c9 : v1 = (4 : Int32)
          · have h := if_t h c9
            refine lv_tableIn (off := 71) (tgt := 72) C.1 C.2.1 dX11_total_1 (by rw [c9]; decide) (by rw [c9]; decide) (by rw [c9]; rfl) (by decide) ?_
            refine lv_aload_n C.1 C.2.1 dX11_total_72 rfl (lv_at hl 0 rfl) ?_
            obtain ⟨hk, h⟩ := ckk_ok h
            obtain ⟨a10, h_a10, h⟩ := bd_ok h
            refine gk11_19 C X hW hk h_a10 dX11_total_73 ?_
            obtain ⟨hk, h⟩ := ckk_ok h
            obtain ⟨r11, h_r11, h⟩ := bd_ok h
            refine c_callR (rest := []) C X hW hl.1 0 (by decide) hk [] (tk_0_rowsInAll l h_r11) cw11_455 ki_0_rowsInAll kl_0_rowsInAll rfl ⟨by decide, by decide⟩ ⟨(by decide), (by decide)⟩ rfl (Nat.le_of_ble_eq_true rfl) dX11_total_76 ?_
            refine W.eq (g2 := F0 m 79 ls [.int r11]) rfl ?_
            cases h
            exact c_reti C rfl rfl dX11_total_79
          · have h := if_f h c9
            by_cases c12 : v1 = (5 : Int32)
            · have h := if_t h c12
              refine lv_tableIn (off := 79) (tgt := 80) C.1 C.2.1 dX11_total_1 (by rw [c12]; decide) (by rw [c12]; decide) (by rw [c12]; rfl) (by decide) ?_
              refine lv_aload_n C.1 C.2.1 dX11_total_80 rfl (lv_at hl 0 rfl) ?_
              obtain ⟨hk, h⟩ := ckk_ok h
              obtain ⟨a13, h_a13, h⟩ := bd_ok h
              refine gk11_32 C X hW hk h_a13 dX11_total_81 ?_
              obtain ⟨hk, h⟩ := ckk_ok h
              refine gk11_233 C X hW hk dX11_total_84 ?_
              cases h
              exact c_reti C rfl rfl dX11_total_87
            · have h := if_f h c12
              have n_c1 := lv_neT c1 (a := 0) rfl
              have n_c3 := lv_neT c3 (a := 1) rfl
              have n_c5 := lv_neT c5 (a := 2) rfl
              have n_c7 := lv_neT c7 (a := 3) rfl
              have n_c9 := lv_neT c9 (a := 4) rfl
              have n_c12 := lv_neT c12 (a := 5) rfl
              refine lv_tableOut (tgt := 88) C.1 C.2.1 dX11_total_1 (by omega) (by decide) ?_
              refine lv_iconst (v := -1) C.1 C.2.1 dX11_total_88 (by decide) ?_
              cases h
              exact c_reti C rfl rfl dX11_total_89
end
