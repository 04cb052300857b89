-- made by wip/whole/gen12.py: 11_node, 11_total
theorem dX11_node_0 : decode cX11_node 0 = .ok (.iload_n 1, 1) := by decide +kernel
theorem dX11_node_1 : decode cX11_node 1 = .ok (.invokestatic 112, 3) := by decide +kernel
theorem dX11_node_4 : decode cX11_node 4 = .ok (.ifCond .ne 5, 3) := by decide +kernel
theorem dX11_node_7 : decode cX11_node 7 = .ok (.iconst (-1), 1) := by decide +kernel
theorem dX11_node_8 : decode cX11_node 8 = .ok (.ireturn, 1) := by decide +kernel
theorem dX11_node_9 : decode cX11_node 9 = .ok (.aload_n 0, 1) := by decide +kernel
theorem dX11_node_10 : decode cX11_node 10 = .ok (.getfield 25, 3) := by decide +kernel
theorem dX11_node_13 : decode cX11_node 13 = .ok (.iload_n 1, 1) := by decide +kernel
theorem dX11_node_14 : decode cX11_node 14 = .ok (.aaload, 1) := by decide +kernel
theorem dX11_node_15 : decode cX11_node 15 = .ok (.astore_n 3, 1) := by decide +kernel
theorem dX11_node_16 : decode cX11_node 16 = .ok (.iload_n 2, 1) := by decide +kernel
theorem dX11_node_17 : decode cX11_node 17 = .ok (.bipush 40, 2) := by decide +kernel
theorem dX11_node_19 : decode cX11_node 19 = .ok (.if_icmp .lt 19, 3) := by decide +kernel
theorem dX11_node_22 : decode cX11_node 22 = .ok (.iload_n 2, 1) := by decide +kernel
theorem dX11_node_23 : decode cX11_node 23 = .ok (.bipush 56, 2) := by decide +kernel
theorem dX11_node_25 : decode cX11_node 25 = .ok (.if_icmp .ge 13, 3) := by decide +kernel
theorem dX11_node_28 : decode cX11_node 28 = .ok (.aload_n 3, 1) := by decide +kernel
theorem dX11_node_29 : decode cX11_node 29 = .ok (.getfield 253, 3) := by decide +kernel
theorem dX11_node_32 : decode cX11_node 32 = .ok (.iload_n 2, 1) := by decide +kernel
theorem dX11_node_33 : decode cX11_node 33 = .ok (.bipush 40, 2) := by decide +kernel
theorem dX11_node_35 : decode cX11_node 35 = .ok (.isub, 1) := by decide +kernel
theorem dX11_node_36 : decode cX11_node 36 = .ok (.iaload, 1) := by decide +kernel
theorem dX11_node_37 : decode cX11_node 37 = .ok (.ireturn, 1) := by decide +kernel
theorem dX11_node_38 : decode cX11_node 38 = .ok (.iload_n 2, 1) := by decide +kernel
theorem dX11_node_39 : decode cX11_node 39 = .ok (.bipush 20, 2) := by decide +kernel
theorem dX11_node_41 : decode cX11_node 41 = .ok (.if_icmp .lt 19, 3) := by decide +kernel
theorem dX11_node_44 : decode cX11_node 44 = .ok (.iload_n 2, 1) := by decide +kernel
theorem dX11_node_45 : decode cX11_node 45 = .ok (.bipush 36, 2) := by decide +kernel
theorem dX11_node_47 : decode cX11_node 47 = .ok (.if_icmp .ge 13, 3) := by decide +kernel
theorem dX11_node_50 : decode cX11_node 50 = .ok (.aload_n 3, 1) := by decide +kernel
theorem dX11_node_51 : decode cX11_node 51 = .ok (.getfield 429, 3) := by decide +kernel
theorem dX11_node_54 : decode cX11_node 54 = .ok (.iload_n 2, 1) := by decide +kernel
theorem dX11_node_55 : decode cX11_node 55 = .ok (.bipush 20, 2) := by decide +kernel
theorem dX11_node_57 : decode cX11_node 57 = .ok (.isub, 1) := by decide +kernel
theorem dX11_node_58 : decode cX11_node 58 = .ok (.iaload, 1) := by decide +kernel
theorem dX11_node_59 : decode cX11_node 59 = .ok (.ireturn, 1) := by decide +kernel
theorem dX11_node_60 : decode cX11_node 60 = .ok (.iload_n 2, 1) := by decide +kernel
theorem dX11_node_61 : decode cX11_node 61 = .ok (.bipush 10, 2) := by decide +kernel
theorem dX11_node_63 : decode cX11_node 63 = .ok (.if_icmp .lt 18, 3) := by decide +kernel
theorem dX11_node_66 : decode cX11_node 66 = .ok (.iload_n 2, 1) := by decide +kernel
theorem dX11_node_67 : decode cX11_node 67 = .ok (.bipush 14, 2) := by decide +kernel
theorem dX11_node_69 : decode cX11_node 69 = .ok (.if_icmp .ge 12, 3) := by decide +kernel
theorem dX11_node_72 : decode cX11_node 72 = .ok (.aload_n 3, 1) := by decide +kernel
theorem dX11_node_73 : decode cX11_node 73 = .ok (.iload_n 2, 1) := by decide +kernel
theorem dX11_node_74 : decode cX11_node 74 = .ok (.bipush 10, 2) := by decide +kernel
theorem dX11_node_76 : decode cX11_node 76 = .ok (.isub, 1) := by decide +kernel
theorem dX11_node_77 : decode cX11_node 77 = .ok (.invokevirtual 432, 3) := by decide +kernel
theorem dX11_node_80 : decode cX11_node 80 = .ok (.ireturn, 1) := by decide +kernel
theorem dX11_node_81 : decode cX11_node 81 = .ok (.iload_n 2, 1) := by decide +kernel
theorem dX11_node_82 : decode cX11_node 82 = .ok (.tableswitch 113 0 9 #[54, 59, 67, 72, 80, 85, 90, 95, 100, 108], 54) := by decide +kernel
theorem dX11_node_136 : decode cX11_node 136 = .ok (.aload_n 3, 1) := by decide +kernel
theorem dX11_node_137 : decode cX11_node 137 = .ok (.getfield 116, 3) := by decide +kernel
theorem dX11_node_140 : decode cX11_node 140 = .ok (.ireturn, 1) := by decide +kernel
theorem dX11_node_141 : decode cX11_node 141 = .ok (.aload_n 3, 1) := by decide +kernel
theorem dX11_node_142 : decode cX11_node 142 = .ok (.getfield 68, 3) := by decide +kernel
theorem dX11_node_145 : decode cX11_node 145 = .ok (.getfield 366, 3) := by decide +kernel
theorem dX11_node_148 : decode cX11_node 148 = .ok (.ireturn, 1) := by decide +kernel
theorem dX11_node_149 : decode cX11_node 149 = .ok (.aload_n 3, 1) := by decide +kernel
theorem dX11_node_150 : decode cX11_node 150 = .ok (.getfield 435, 3) := by decide +kernel
theorem dX11_node_153 : decode cX11_node 153 = .ok (.ireturn, 1) := by decide +kernel
theorem dX11_node_154 : decode cX11_node 154 = .ok (.aload_n 3, 1) := by decide +kernel
theorem dX11_node_155 : decode cX11_node 155 = .ok (.getfield 423, 3) := by decide +kernel
theorem dX11_node_158 : decode cX11_node 158 = .ok (.getfield 426, 3) := by decide +kernel
theorem dX11_node_161 : decode cX11_node 161 = .ok (.ireturn, 1) := by decide +kernel
theorem dX11_node_162 : decode cX11_node 162 = .ok (.aload_n 3, 1) := by decide +kernel
theorem dX11_node_163 : decode cX11_node 163 = .ok (.invokestatic 438, 3) := by decide +kernel
theorem dX11_node_166 : decode cX11_node 166 = .ok (.ireturn, 1) := by decide +kernel
theorem dX11_node_167 : decode cX11_node 167 = .ok (.aload_n 3, 1) := by decide +kernel
theorem dX11_node_168 : decode cX11_node 168 = .ok (.getfield 442, 3) := by decide +kernel
theorem dX11_node_171 : decode cX11_node 171 = .ok (.ireturn, 1) := by decide +kernel
theorem dX11_node_172 : decode cX11_node 172 = .ok (.aload_n 3, 1) := by decide +kernel
theorem dX11_node_173 : decode cX11_node 173 = .ok (.getfield 445, 3) := by decide +kernel
theorem dX11_node_176 : decode cX11_node 176 = .ok (.ireturn, 1) := by decide +kernel
theorem dX11_node_177 : decode cX11_node 177 = .ok (.aload_n 3, 1) := by decide +kernel
theorem dX11_node_178 : decode cX11_node 178 = .ok (.invokevirtual 448, 3) := by decide +kernel
theorem dX11_node_181 : decode cX11_node 181 = .ok (.ireturn, 1) := by decide +kernel
theorem dX11_node_182 : decode cX11_node 182 = .ok (.aload_n 3, 1) := by decide +kernel
theorem dX11_node_183 : decode cX11_node 183 = .ok (.getfield 204, 3) := by decide +kernel
theorem dX11_node_186 : decode cX11_node 186 = .ok (.getfield 426, 3) := by decide +kernel
theorem dX11_node_189 : decode cX11_node 189 = .ok (.ireturn, 1) := by decide +kernel
theorem dX11_node_190 : decode cX11_node 190 = .ok (.aload_n 3, 1) := by decide +kernel
theorem dX11_node_191 : decode cX11_node 191 = .ok (.invokevirtual 310, 3) := by decide +kernel
theorem dX11_node_194 : decode cX11_node 194 = .ok (.ireturn, 1) := by decide +kernel
theorem dX11_node_195 : decode cX11_node 195 = .ok (.iconst (-1), 1) := by decide +kernel
theorem dX11_node_196 : decode cX11_node 196 = .ok (.ireturn, 1) := by decide +kernel
theorem kd_11_node : Cond.code yX11_node cX11_node 4 (some .int) ∈ lw_g := mt_at 1540 (by decide +kernel) rfl
theorem ki_11_node : Cond.instanceMethod yX11_node ∈ lw_g := mt_at 1538 (by decide +kernel) rfl
theorem kl_11_node : Cond.selects (kRn 11) yX11_node yX11_node ∈ lw_g := mt_at 1539 (by decide +kernel) rfl
theorem cw11_432 : cCw RX11 432 yX7_knownOf cX7_knownOf 2 (some .int) 1 := ⟨kd_7_knownOf, mt_at 1541 (by decide +kernel) rfl, mt_at 7 (by decide +kernel) rfl, by decide +kernel⟩
theorem cw11_438 : cCw RX11 438 yX11_thereAt cX11_thereAt 3 (some .int) 1 := ⟨kd_11_thereAt, mt_at 1542 (by decide +kernel) rfl, mt_at 1 (by decide +kernel) rfl, by decide +kernel⟩
theorem cw11_448 : cCw RX11 448 yX7_stableRows cX7_stableRows 1 (some .int) 0 := ⟨kd_7_stableRows, mt_at 1545 (by decide +kernel) rfl, mt_at 7 (by decide +kernel) rfl, by decide +kernel⟩
section
variable {p : Program} {l : Launch} {e : Env} {R : Room} {s : State} {m : MethodId} {args : Array Value} {below : List Frame} {meth : Method} {c : Code} {H : Heap} {locs : List Loc} {cells slots : Nat} {Q : State → Prop}
variable {D : cG} {S S0 : cSt} {cc : ByteArray} {nL : Nat} {pc : Nat} {ls : Array Slot} {rest : List Value} {H0 : Heap} {nF nR nC nS : Nat} {ret : Option FieldType} {a : Nat}
theorem gk11_429 (C : cY p R s m args meth c RX11 cc nL nF nC nS nR ret) (X : cX D s) (hW : cW D S H) (hk : kK S a = 8) {x : Nat} (hx : kR S a 5 = some x) (hdg : decode cc pc = .ok (.getfield 429, 3)) (kk : W p l e R s m args below meth c H locs cells slots Q (F0 m (pc + 3) ls (.ref x :: rest))) : W p l e R s m args below meth c H locs cells slots Q (F0 m pc ls (.ref a :: rest)) := c_get C X hW 7 (by decide) ly_7 hk 5 (by decide) (mt_at 315 (by decide +kernel) (by decide +kernel)) hdg (by rw [cV_R (by decide +kernel) hx]; exact kk)
theorem gk11_435 (C : cY p R s m args meth c RX11 cc nL nF nC nS nR ret) (X : cX D s) (hW : cW D S H) (hk : kK S a = 8) (hdg : decode cc pc = .ok (.getfield 435, 3)) (kk : W p l e R s m args below meth c H locs cells slots Q (F0 m (pc + 3) ls (.int (kF S a 11) :: rest))) : W p l e R s m args below meth c H locs cells slots Q (F0 m pc ls (.ref a :: rest)) := c_get C X hW 7 (by decide) ly_7 hk 11 (by decide) (mt_at 328 (by decide +kernel) (by decide +kernel)) hdg (by rw [cV_I (by decide +kernel)]; exact kk)
theorem gk11_442 (C : cY p R s m args meth c RX11 cc nL nF nC nS nR ret) (X : cX D s) (hW : cW D S H) (hk : kK S a = 8) (hdg : decode cc pc = .ok (.getfield 442, 3)) (kk : W p l e R s m args below meth c H locs cells slots Q (F0 m (pc + 3) ls (.int (kF S a 9) :: rest))) : W p l e R s m args below meth c H locs cells slots Q (F0 m pc ls (.ref a :: rest)) := c_get C X hW 7 (by decide) ly_7 hk 9 (by decide) (mt_at 324 (by decide +kernel) (by decide +kernel)) hdg (by rw [cV_I (by decide +kernel)]; exact kk)
theorem gk11_445 (C : cY p R s m args meth c RX11 cc nL nF nC nS nR ret) (X : cX D s) (hW : cW D S H) (hk : kK S a = 8) (hdg : decode cc pc = .ok (.getfield 445, 3)) (kk : W p l e R s m args below meth c H locs cells slots Q (F0 m (pc + 3) ls (.int (kF S a 10) :: rest))) : W p l e R s m args below meth c H locs cells slots Q (F0 m pc ls (.ref a :: rest)) := c_get C X hW 7 (by decide) ly_7 hk 10 (by decide) (mt_at 326 (by decide +kernel) (by decide +kernel)) hdg (by rw [cV_I (by decide +kernel)]; exact kk)
end
section
variable {p : Program} {l : Launch} {e : Env} {R : Room} {s : State} {m : MethodId} {args : Array Value} {below : List Frame} {meth : Method} {c : Code} {D : cG} {S : cSt} {r : Int32}
noncomputable def fk_11_node_81 (S : cSt) (v2 : Int32) (v3 : Option Nat) : Option (Int32) :=
if v2 = (0 : Int32) then (
bd v3 fun a2 =>
ckk S a2 8 (
some (kF S a2 8)))
else if v2 = (1 : Int32) then (
bd v3 fun a4 =>
ckk S a4 8 (bd (kR S a4 1) fun a5 =>
ckk S a5 5 (
some (kF S a5 7))))
else if v2 = (2 : Int32) then (
bd v3 fun a7 =>
ckk S a7 8 (
some (kF S a7 11)))
else if v2 = (3 : Int32) then (
bd v3 fun a9 =>
ckk S a9 8 (bd (kR S a9 3) fun a10 =>
ckk S a10 7 (
some (kF S a10 0))))
else if v2 = (4 : Int32) then (
bd v3 fun a12 =>
bd (fk_11_thereAt S a12) fun r13 =>
some r13)
else if v2 = (5 : Int32) then (
bd v3 fun a15 =>
ckk S a15 8 (
some (kF S a15 9)))
else if v2 = (6 : Int32) then (
bd v3 fun a17 =>
ckk S a17 8 (
some (kF S a17 10)))
else if v2 = (7 : Int32) then (
bd v3 fun a19 =>
ckk S a19 8 (bd (fk_7_stableRows S a19) fun r20 =>
some r20))
else if v2 = (8 : Int32) then (
bd v3 fun a22 =>
ckk S a22 8 (bd (kR S a22 4) fun a23 =>
ckk S a23 7 (
some (kF S a23 0))))
else if v2 = (9 : Int32) then (
bd v3 fun a25 =>
ckk S a25 8 (bd (fk_7_timeNow S a25) fun r26 =>
some r26))
else (
some (-1 : Int32))
set_option maxRecDepth 100000 in
set_option maxHeartbeats 4000000 in
theorem wk_11_node_81 (C : cY p R s m args meth c RX11 cX11_node 4 4 0 0 103 (some .int)) (X : cX D s) (hW : cW D S s.heap) : ∀ {v2 : Int32} {v3 : Option Nat} {ls : Array Slot}, fk_11_node_81 S v2 v3 = some r → lv_has ls 4 [(2, .int v2), (3, va_rf v3)] → W p l e R s m args below meth c s.heap [] 0 0 (MQ below (kQ (some (.int r))) args s 0 0 mNo) (F0 m 81 ls []) := by
  intro v2 v3 ls h hl
  unfold fk_11_node_81 at h
  refine lv_iload_n C.1 C.2.1 dX11_node_81 rfl (lv_at hl 0 rfl) ?_
  by_cases c1 : v2 = (0 : Int32)
  · have h := if_t h c1
    refine lv_tableIn (off := 54) (tgt := 136) C.1 C.2.1 dX11_node_82 (by rw [c1]; decide) (by rw [c1]; decide) (by rw [c1]; rfl) (by decide) ?_
    refine lv_aload_nq (o := v3) C.1 C.2.1 dX11_node_136 rfl (lv_at hl 1 rfl) ?_
    obtain ⟨a2, e_a2, h⟩ := bd_ok h
    revert h; subst e_a2; intro h
    obtain ⟨hk, h⟩ := ckk_ok h
    refine gk11_116 C X hW hk dX11_node_137 ?_
    cases h
    exact c_reti C rfl rfl dX11_node_140
  · have h := if_f h c1
    by_cases c3 : v2 = (1 : Int32)
    · have h := if_t h c3
      refine lv_tableIn (off := 59) (tgt := 141) C.1 C.2.1 dX11_node_82 (by rw [c3]; decide) (by rw [c3]; decide) (by rw [c3]; rfl) (by decide) ?_
      refine lv_aload_nq (o := v3) C.1 C.2.1 dX11_node_141 rfl (lv_at hl 1 rfl) ?_
      obtain ⟨a4, e_a4, h⟩ := bd_ok h
      revert h; subst e_a4; intro h
      obtain ⟨hk, h⟩ := ckk_ok h
      obtain ⟨a5, h_a5, h⟩ := bd_ok h
      refine gk11_68 C X hW hk h_a5 dX11_node_142 ?_
      obtain ⟨hk, h⟩ := ckk_ok h
      refine gk11_366 C X hW hk dX11_node_145 ?_
      cases h
      exact c_reti C rfl rfl dX11_node_148
    · have h := if_f h c3
      by_cases c6 : v2 = (2 : Int32)
      · have h := if_t h c6
        refine lv_tableIn (off := 67) (tgt := 149) C.1 C.2.1 dX11_node_82 (by rw [c6]; decide) (by rw [c6]; decide) (by rw [c6]; rfl) (by decide) ?_
        refine lv_aload_nq (o := v3) C.1 C.2.1 dX11_node_149 rfl (lv_at hl 1 rfl) ?_
        obtain ⟨a7, e_a7, h⟩ := bd_ok h
        revert h; subst e_a7; intro h
        obtain ⟨hk, h⟩ := ckk_ok h
        refine gk11_435 C X hW hk dX11_node_150 ?_
        cases h
        exact c_reti C rfl rfl dX11_node_153
      · have h := if_f h c6
        by_cases c8 : v2 = (3 : Int32)
        · have h := if_t h c8
          refine lv_tableIn (off := 72) (tgt := 154) C.1 C.2.1 dX11_node_82 (by rw [c8]; decide) (by rw [c8]; decide) (by rw [c8]; rfl) (by decide) ?_
          refine lv_aload_nq (o := v3) C.1 C.2.1 dX11_node_154 rfl (lv_at hl 1 rfl) ?_
          obtain ⟨a9, e_a9, h⟩ := bd_ok h
          revert h; subst e_a9; intro h
          obtain ⟨hk, h⟩ := ckk_ok h
          obtain ⟨a10, h_a10, h⟩ := bd_ok h
          refine gk11_423 C X hW hk h_a10 dX11_node_155 ?_
          obtain ⟨hk, h⟩ := ckk_ok h
          refine gk11_426 C X hW hk dX11_node_158 ?_
          cases h
          exact c_reti C rfl rfl dX11_node_161
        · have h := if_f h c8
          by_cases c11 : v2 = (4 : Int32)
          · have h := if_t h c11
            refine lv_tableIn (off := 80) (tgt := 162) C.1 C.2.1 dX11_node_82 (by rw [c11]; decide) (by rw [c11]; decide) (by rw [c11]; rfl) (by decide) ?_
            refine lv_aload_nq (o := v3) C.1 C.2.1 dX11_node_162 rfl (lv_at hl 1 rfl) ?_
            obtain ⟨a12, e_a12, h⟩ := bd_ok h
            revert h; subst e_a12; intro h
            obtain ⟨r13, h_r13, h⟩ := bd_ok h
            refine c_callSR (rest := []) C X hW hl.1 [.ref a12] (tk_11_thereAt l h_r13) cw11_438 ks_11_thereAt rfl ⟨by decide, by decide⟩ ⟨(by decide), (by decide)⟩ rfl (Nat.le_of_ble_eq_true rfl) dX11_node_163 ?_
            refine W.eq (g2 := F0 m 166 ls [.int r13]) rfl ?_
            cases h
            exact c_reti C rfl rfl dX11_node_166
          · have h := if_f h c11
            by_cases c14 : v2 = (5 : Int32)
            · have h := if_t h c14
              refine lv_tableIn (off := 85) (tgt := 167) C.1 C.2.1 dX11_node_82 (by rw [c14]; decide) (by rw [c14]; decide) (by rw [c14]; rfl) (by decide) ?_
              refine lv_aload_nq (o := v3) C.1 C.2.1 dX11_node_167 rfl (lv_at hl 1 rfl) ?_
              obtain ⟨a15, e_a15, h⟩ := bd_ok h
              revert h; subst e_a15; intro h
              obtain ⟨hk, h⟩ := ckk_ok h
              refine gk11_442 C X hW hk dX11_node_168 ?_
              cases h
              exact c_reti C rfl rfl dX11_node_171
            · have h := if_f h c14
              by_cases c16 : v2 = (6 : Int32)
              · have h := if_t h c16
                refine lv_tableIn (off := 90) (tgt := 172) C.1 C.2.1 dX11_node_82 (by rw [c16]; decide) (by rw [c16]; decide) (by rw [c16]; rfl) (by decide) ?_
                refine lv_aload_nq (o := v3) C.1 C.2.1 dX11_node_172 rfl (lv_at hl 1 rfl) ?_
                obtain ⟨a17, e_a17, h⟩ := bd_ok h
                revert h; subst e_a17; intro h
                obtain ⟨hk, h⟩ := ckk_ok h
                refine gk11_445 C X hW hk dX11_node_173 ?_
                cases h
                exact c_reti C rfl rfl dX11_node_176
              · have h := if_f h c16
                by_cases c18 : v2 = (7 : Int32)
                · have h := if_t h c18
                  refine lv_tableIn (off := 95) (tgt := 177) C.1 C.2.1 dX11_node_82 (by rw [c18]; decide) (by rw [c18]; decide) (by rw [c18]; rfl) (by decide) ?_
                  refine lv_aload_nq (o := v3) C.1 C.2.1 dX11_node_177 rfl (lv_at hl 1 rfl) ?_
                  obtain ⟨a19, e_a19, h⟩ := bd_ok h
                  revert h; subst e_a19; intro h
                  obtain ⟨hk, h⟩ := ckk_ok h
                  obtain ⟨r20, h_r20, h⟩ := bd_ok h
                  refine c_callR (rest := []) C X hW hl.1 7 (by decide) hk [] (tk_7_stableRows l h_r20) cw11_448 ki_7_stableRows kl_7_stableRows rfl ⟨by decide, by decide⟩ ⟨(by decide), (by decide)⟩ rfl (Nat.le_of_ble_eq_true rfl) dX11_node_178 ?_
                  refine W.eq (g2 := F0 m 181 ls [.int r20]) rfl ?_
                  cases h
                  exact c_reti C rfl rfl dX11_node_181
                · have h := if_f h c18
                  by_cases c21 : v2 = (8 : Int32)
                  · have h := if_t h c21
                    refine lv_tableIn (off := 100) (tgt := 182) C.1 C.2.1 dX11_node_82 (by rw [c21]; decide) (by rw [c21]; decide) (by rw [c21]; rfl) (by decide) ?_
                    refine lv_aload_nq (o := v3) C.1 C.2.1 dX11_node_182 rfl (lv_at hl 1 rfl) ?_
                    obtain ⟨a22, e_a22, h⟩ := bd_ok h
                    revert h; subst e_a22; intro h
                    obtain ⟨hk, h⟩ := ckk_ok h
                    obtain ⟨a23, h_a23, h⟩ := bd_ok h
                    refine gk11_204 C X hW hk h_a23 dX11_node_183 ?_
                    obtain ⟨hk, h⟩ := ckk_ok h
                    refine gk11_426 C X hW hk dX11_node_186 ?_
                    cases h
                    exact c_reti C rfl rfl dX11_node_189
                  · have h := if_f h c21
                    by_cases c24 : v2 = (9 : Int32)
                    · have h := if_t h c24
                      refine lv_tableIn (off := 108) (tgt := 190) C.1 C.2.1 dX11_node_82 (by rw [c24]; decide) (by rw [c24]; decide) (by rw [c24]; rfl) (by decide) ?_
                      refine lv_aload_nq (o := v3) C.1 C.2.1 dX11_node_190 rfl (lv_at hl 1 rfl) ?_
                      obtain ⟨a25, e_a25, h⟩ := bd_ok h
                      revert h; subst e_a25; intro h
                      obtain ⟨hk, h⟩ := ckk_ok h
                      obtain ⟨r26, h_r26, h⟩ := bd_ok h
                      refine c_callR (rest := []) C X hW hl.1 7 (by decide) hk [] (tk_7_timeNow l h_r26) cw11_310 ki_7_timeNow kl_7_timeNow rfl ⟨by decide, by decide⟩ ⟨(by decide), (by decide)⟩ rfl (Nat.le_of_ble_eq_true rfl) dX11_node_191 ?_
                      refine W.eq (g2 := F0 m 194 ls [.int r26]) rfl ?_
                      cases h
                      exact c_reti C rfl rfl dX11_node_194
                    · have h := if_f h c24
                      have n_c1 := lv_neT c1 (a := 0) rfl
                      have n_c3 := lv_neT c3 (a := 1) rfl
                      have n_c6 := lv_neT c6 (a := 2) rfl
                      have n_c8 := lv_neT c8 (a := 3) rfl
                      have n_c11 := lv_neT c11 (a := 4) rfl
                      have n_c14 := lv_neT c14 (a := 5) rfl
                      have n_c16 := lv_neT c16 (a := 6) rfl
                      have n_c18 := lv_neT c18 (a := 7) rfl
                      have n_c21 := lv_neT c21 (a := 8) rfl
                      have n_c24 := lv_neT c24 (a := 9) rfl
                      refine lv_tableOut (tgt := 195) C.1 C.2.1 dX11_node_82 (by omega) (by decide) ?_
                      refine lv_iconst (v := -1) C.1 C.2.1 dX11_node_195 (by decide) ?_
                      cases h
                      exact c_reti C rfl rfl dX11_node_196
noncomputable def fk_11_node_60 (S : cSt) (v2 : Int32) (v3 : Option Nat) : Option (Int32) :=
if v2 < (10 : Int32) then (
fk_11_node_81 S v2 v3)
else (
if (14 : Int32) ≤ v2 then (
fk_11_node_81 S v2 v3)
else (
bd v3 fun a3 =>
ckk S a3 8 (bd (fk_7_knownOf S a3 (v2 - (10 : Int32))) fun r4 =>
some r4)))
set_option maxRecDepth 100000 in
set_option maxHeartbeats 4000000 in
theorem wk_11_node_60 (C : cY p R s m args meth c RX11 cX11_node 4 4 0 0 103 (some .int)) (X : cX D s) (hW : cW D S s.heap) : ∀ {v2 : Int32} {v3 : Option Nat} {ls : Array Slot}, fk_11_node_60 S v2 v3 = some r → lv_has ls 4 [(2, .int v2), (3, va_rf v3)] → W p l e R s m args below meth c s.heap [] 0 0 (MQ below (kQ (some (.int r))) args s 0 0 mNo) (F0 m 60 ls []) := by
  intro v2 v3 ls h hl
  unfold fk_11_node_60 at h
  refine lv_iload_n C.1 C.2.1 dX11_node_60 rfl (lv_at hl 0 rfl) ?_
  refine lv_bipush (v := 10) C.1 C.2.1 dX11_node_61 (by decide) ?_
  refine lv_icmp_lt (tgt := 81) C.1 C.2.1 dX11_node_63 (by decide) (fun c1 => ?_) (fun c1 => ?_)
  · have h := if_t h c1
    exact wk_11_node_81 C X hW h (lv_sub hl [0, 1] rfl)
  · have h := if_f h c1
    refine lv_iload_n C.1 C.2.1 dX11_node_66 rfl (lv_at hl 0 rfl) ?_
    refine lv_bipush (v := 14) C.1 C.2.1 dX11_node_67 (by decide) ?_
    refine lv_icmp_ge (tgt := 81) C.1 C.2.1 dX11_node_69 (by decide) (fun c2 => ?_) (fun c2 => ?_)
    · have h := if_t h c2
      exact wk_11_node_81 C X hW h (lv_sub hl [0, 1] rfl)
    · have h := if_f h c2
      refine lv_aload_nq (o := v3) C.1 C.2.1 dX11_node_72 rfl (lv_at hl 1 rfl) ?_
      refine lv_iload_n C.1 C.2.1 dX11_node_73 rfl (lv_at hl 0 rfl) ?_
      refine lv_bipush (v := 10) C.1 C.2.1 dX11_node_74 (by decide) ?_
      refine lv_isub C.1 C.2.1 dX11_node_76 ?_
      obtain ⟨a3, e_a3, h⟩ := bd_ok h
      revert h; subst e_a3; intro h
      obtain ⟨hk, h⟩ := ckk_ok h
      obtain ⟨r4, h_r4, h⟩ := bd_ok h
      refine c_callR (rest := []) C X hW hl.1 7 (by decide) hk [.int (v2 - (10 : Int32))] (tk_7_knownOf l h_r4) cw11_432 ki_7_knownOf kl_7_knownOf rfl ⟨by decide, by decide⟩ ⟨(by decide), (by decide)⟩ rfl (Nat.le_of_ble_eq_true rfl) dX11_node_77 ?_
      refine W.eq (g2 := F0 m 80 ls [.int r4]) rfl ?_
      cases h
      exact c_reti C rfl rfl dX11_node_80
noncomputable def fk_11_node_38 (S : cSt) (v2 : Int32) (v3 : Option Nat) : Option (Int32) :=
if v2 < (20 : Int32) then (
fk_11_node_60 S v2 v3)
else (
if (36 : Int32) ≤ v2 then (
fk_11_node_60 S v2 v3)
else (
bd v3 fun a3 =>
ckk S a3 8 (bd (kR S a3 5) fun a4 =>
ckk S a4 20 (ck (v2 - (20 : Int32)) (kL S a4) (
some (kI S a4 (Int32.toNatClampNeg (v2 - (20 : Int32)))))))))
set_option maxRecDepth 100000 in
set_option maxHeartbeats 4000000 in
theorem wk_11_node_38 (C : cY p R s m args meth c RX11 cX11_node 4 4 0 0 103 (some .int)) (X : cX D s) (hW : cW D S s.heap) : ∀ {v2 : Int32} {v3 : Option Nat} {ls : Array Slot}, fk_11_node_38 S v2 v3 = some r → lv_has ls 4 [(2, .int v2), (3, va_rf v3)] → W p l e R s m args below meth c s.heap [] 0 0 (MQ below (kQ (some (.int r))) args s 0 0 mNo) (F0 m 38 ls []) := by
  intro v2 v3 ls h hl
  unfold fk_11_node_38 at h
  refine lv_iload_n C.1 C.2.1 dX11_node_38 rfl (lv_at hl 0 rfl) ?_
  refine lv_bipush (v := 20) C.1 C.2.1 dX11_node_39 (by decide) ?_
  refine lv_icmp_lt (tgt := 60) C.1 C.2.1 dX11_node_41 (by decide) (fun c1 => ?_) (fun c1 => ?_)
  · have h := if_t h c1
    exact wk_11_node_60 C X hW h (lv_sub hl [0, 1] rfl)
  · have h := if_f h c1
    refine lv_iload_n C.1 C.2.1 dX11_node_44 rfl (lv_at hl 0 rfl) ?_
    refine lv_bipush (v := 36) C.1 C.2.1 dX11_node_45 (by decide) ?_
    refine lv_icmp_ge (tgt := 60) C.1 C.2.1 dX11_node_47 (by decide) (fun c2 => ?_) (fun c2 => ?_)
    · have h := if_t h c2
      exact wk_11_node_60 C X hW h (lv_sub hl [0, 1] rfl)
    · have h := if_f h c2
      refine lv_aload_nq (o := v3) C.1 C.2.1 dX11_node_50 rfl (lv_at hl 1 rfl) ?_
      obtain ⟨a3, e_a3, h⟩ := bd_ok h
      revert h; subst e_a3; intro h
      obtain ⟨hk, h⟩ := ckk_ok h
      obtain ⟨a4, h_a4, h⟩ := bd_ok h
      refine gk11_429 C X hW hk h_a4 dX11_node_51 ?_
      refine lv_iload_n C.1 C.2.1 dX11_node_54 rfl (lv_at hl 0 rfl) ?_
      refine lv_bipush (v := 20) C.1 C.2.1 dX11_node_55 (by decide) ?_
      refine lv_isub C.1 C.2.1 dX11_node_57 ?_
      obtain ⟨hk, h⟩ := ckk_ok h
      obtain ⟨hin2, h⟩ := ck_ok h
      refine c_iald C X hW hk hin2 dX11_node_58 ?_
      cases h
      exact c_reti C rfl rfl dX11_node_59
noncomputable def fk_11_node (S : cSt) (v0 : Nat) (v1 : Int32) (v2 : Int32) : Option (Int32) :=
bd (fk_11_isNode v1) fun r1 =>
if r1 = 0 then (
some (-1 : Int32))
else (
ckk S v0 12 (bd (kR S v0 2) fun a3 =>
ckk S a3 31 (ck v1 (kL S a3) (lt (kO S a3 (Int32.toNatClampNeg v1)) fun o4 =>
if v2 < (40 : Int32) then (
fk_11_node_38 S v2 o4)
else (
if (56 : Int32) ≤ v2 then (
fk_11_node_38 S v2 o4)
else (
bd o4 fun a7 =>
ckk S a7 8 (bd (kR S a7 6) fun a8 =>
ckk S a8 20 (ck (v2 - (40 : Int32)) (kL S a8) (
some (kI S a8 (Int32.toNatClampNeg (v2 - (40 : Int32)))))))))))))
set_option maxRecDepth 100000 in
set_option maxHeartbeats 4000000 in
theorem tk_11_node (l : Launch) {D : cG} {S : cSt} {v0 : Nat} {v1 : Int32} {v2 : Int32} {r : Int32}  (h : fk_11_node S v0 v1 v2 = some r) : Met l yX11_node (Cond.code yX11_node cX11_node 4 (some .int) :: lw_g) { frames := 4, cells := 0, slots := 0, locals := 103 } (kPi [.ref v0, .int v1, .int v2] D S) (kQ (some (.int r))) 0 0 (mNo) := by
  refine Met.ofW (cc := cX11_node) (maxL := 4) (ret := (some .int)) (by decide) rfl ?_
  intro p e s m args below meth c s₁ B hml hv
  obtain ⟨rfl, hW, X⟩ := hv
  have C : cY p (headSpec (Cond.code yX11_node cX11_node 4 (some .int) :: lw_g) { frames := 4, cells := 0, slots := 0, locals := 103 }).room s m _ meth c RX11 cX11_node 4 4 0 0 103 (some .int) := ⟨B.exec, B.bytes, hml, findClass_of_methodNamed B.named, fun w hw => atoms_spec (ws := Cond.code yX11_node cX11_node 4 (some .int) :: lw_g) B.pre w (List.mem_cons_of_mem _ hw), ⟨Nat.le_refl _, Nat.le_refl _, Nat.le_refl _, Nat.le_refl _⟩, B.returns, B.notSynchronized⟩
  have hl := lv_entry ([.ref v0, .int v1, .int v2]) (n := 4) (Nat.le_of_ble_eq_true rfl)
  rw [lg_entry_eq]
  generalize (lg_sl ([.ref v0, .int v1, .int v2]) ++ List.replicate (4 - (lg_sl ([.ref v0, .int v1, .int v2])).length) Slot.unset).toArray = ls at hl ⊢
  have hl : lv_has ls 4 [(0, .ref v0), (1, .int v1), (2, .int v2)] := hl
  unfold fk_11_node at h
  refine lv_iload_n C.1 C.2.1 dX11_node_0 rfl (lv_at hl 1 rfl) ?_
  obtain ⟨r1, h_r1, h⟩ := bd_ok h
  refine c_callS (rest := []) C hl.1 [.int v1] (tk_11_isNode l h_r1) cw11_112 ks_11_isNode rfl ⟨by decide, by decide⟩ ⟨(by decide), (by decide)⟩ rfl (Nat.le_of_ble_eq_true rfl) dX11_node_1 ?_
  refine W.eq (g2 := F0 m 4 ls [.int r1]) rfl ?_
  refine lv_if_ne (tgt := 9) C.1 C.2.1 dX11_node_4 (by decide) (fun c2 => ?_) (fun c2 => ?_)
  · have h := if_f h c2
    refine lv_aload_n C.1 C.2.1 dX11_node_9 rfl (lv_at hl 0 rfl) ?_
    obtain ⟨hk, h⟩ := ckk_ok h
    obtain ⟨a3, h_a3, h⟩ := bd_ok h
    refine gk11_25 C X hW hk h_a3 dX11_node_10 ?_
    refine lv_iload_n C.1 C.2.1 dX11_node_13 rfl (lv_at hl 1 rfl) ?_
    obtain ⟨hk, h⟩ := ckk_ok h
    obtain ⟨hin2, h⟩ := ck_ok h
    refine c_aald C 31 (by decide) X.2.2.2.2.2.1 hW hk hin2 dX11_node_14 ?_
    refine lt_ok h (fun o4 e_o4 h => ?_)
    refine lv_nmq e_o4 ?_
    refine lv_astore_nq (o := o4) (lv' := [(3, va_rf o4), (0, .ref v0), (1, .int v1), (2, .int v2)]) C.1 C.2.1 dX11_node_15 rfl hl (by decide) rfl (fun ls hl => ?_)
    refine lv_iload_n C.1 C.2.1 dX11_node_16 rfl (lv_at hl 3 rfl) ?_
    refine lv_bipush (v := 40) C.1 C.2.1 dX11_node_17 (by decide) ?_
    refine lv_icmp_lt (tgt := 38) C.1 C.2.1 dX11_node_19 (by decide) (fun c5 => ?_) (fun c5 => ?_)
    · have h := if_t h c5
      exact wk_11_node_38 C X hW h (lv_sub hl [3, 0] rfl)
    · have h := if_f h c5
      refine lv_iload_n C.1 C.2.1 dX11_node_22 rfl (lv_at hl 3 rfl) ?_
      refine lv_bipush (v := 56) C.1 C.2.1 dX11_node_23 (by decide) ?_
      refine lv_icmp_ge (tgt := 38) C.1 C.2.1 dX11_node_25 (by decide) (fun c6 => ?_) (fun c6 => ?_)
      · have h := if_t h c6
        exact wk_11_node_38 C X hW h (lv_sub hl [3, 0] rfl)
      · have h := if_f h c6
        refine lv_aload_nq (o := o4) C.1 C.2.1 dX11_node_28 rfl (lv_at hl 0 rfl) ?_
        obtain ⟨a7, e_a7, h⟩ := bd_ok h
        revert h; subst e_a7; intro h
        obtain ⟨hk, h⟩ := ckk_ok h
        obtain ⟨a8, h_a8, h⟩ := bd_ok h
        refine gk11_253 C X hW hk h_a8 dX11_node_29 ?_
        refine lv_iload_n C.1 C.2.1 dX11_node_32 rfl (lv_at hl 3 rfl) ?_
        refine lv_bipush (v := 40) C.1 C.2.1 dX11_node_33 (by decide) ?_
        refine lv_isub C.1 C.2.1 dX11_node_35 ?_
        obtain ⟨hk, h⟩ := ckk_ok h
        obtain ⟨hin2, h⟩ := ck_ok h
        refine c_iald C X hW hk hin2 dX11_node_36 ?_
        cases h
        exact c_reti C rfl rfl dX11_node_37
  · have h := if_t h c2
    refine lv_iconst (v := -1) C.1 C.2.1 dX11_node_7 (by decide) ?_
    cases h
    exact c_reti C rfl rfl dX11_node_8
end
theorem dX11_total_0 : decode cX11_total 0 = .ok (.iload_n 1, 1) := by decide +kernel
theorem dX11_total_1 : decode cX11_total 1 = .ok (.tableswitch 87 0 5 #[39, 47, 55, 63, 71, 79], 39) := by decide +kernel
theorem dX11_total_40 : decode cX11_total 40 = .ok (.aload_n 0, 1) := by decide +kernel
theorem dX11_total_41 : decode cX11_total 41 = .ok (.getfield 12, 3) := by decide +kernel
theorem dX11_total_44 : decode cX11_total 44 = .ok (.getfield 101, 3) := by decide +kernel
theorem dX11_total_47 : decode cX11_total 47 = .ok (.ireturn, 1) := by decide +kernel
theorem dX11_total_48 : decode cX11_total 48 = .ok (.aload_n 0, 1) := by decide +kernel
theorem dX11_total_49 : decode cX11_total 49 = .ok (.getfield 12, 3) := by decide +kernel
theorem dX11_total_52 : decode cX11_total 52 = .ok (.getfield 451, 3) := by decide +kernel
theorem dX11_total_55 : decode cX11_total 55 = .ok (.ireturn, 1) := by decide +kernel
theorem dX11_total_56 : decode cX11_total 56 = .ok (.aload_n 0, 1) := by decide +kernel
theorem dX11_total_57 : decode cX11_total 57 = .ok (.getfield 32, 3) := by decide +kernel
theorem dX11_total_60 : decode cX11_total 60 = .ok (.getfield 454, 3) := by decide +kernel
theorem dX11_total_63 : decode cX11_total 63 = .ok (.ireturn, 1) := by decide +kernel
theorem dX11_total_64 : decode cX11_total 64 = .ok (.aload_n 0, 1) := by decide +kernel
theorem dX11_total_65 : decode cX11_total 65 = .ok (.getfield 32, 3) := by decide +kernel
theorem dX11_total_68 : decode cX11_total 68 = .ok (.getfield 265, 3) := by decide +kernel
theorem dX11_total_71 : decode cX11_total 71 = .ok (.ireturn, 1) := by decide +kernel
theorem dX11_total_72 : decode cX11_total 72 = .ok (.aload_n 0, 1) := by decide +kernel
theorem dX11_total_73 : decode cX11_total 73 = .ok (.getfield 19, 3) := by decide +kernel
theorem dX11_total_76 : decode cX11_total 76 = .ok (.invokevirtual 455, 3) := by decide +kernel
theorem dX11_total_79 : decode cX11_total 79 = .ok (.ireturn, 1) := by decide +kernel
theorem dX11_total_80 : decode cX11_total 80 = .ok (.aload_n 0, 1) := by decide +kernel
theorem dX11_total_81 : decode cX11_total 81 = .ok (.getfield 32, 3) := by decide +kernel
theorem dX11_total_84 : decode cX11_total 84 = .ok (.getfield 233, 3) := by decide +kernel
theorem dX11_total_87 : decode cX11_total 87 = .ok (.ireturn, 1) := by decide +kernel
theorem dX11_total_88 : decode cX11_total 88 = .ok (.iconst (-1), 1) := by decide +kernel
theorem dX11_total_89 : decode cX11_total 89 = .ok (.ireturn, 1) := by decide +kernel
theorem kd_11_total : Cond.code yX11_total cX11_total 2 (some .int) ∈ lw_g := mt_at 1552 (by decide +kernel) rfl
theorem ki_11_total : Cond.instanceMethod yX11_total ∈ lw_g := mt_at 1550 (by decide +kernel) rfl
theorem kl_11_total : Cond.selects (kRn 11) yX11_total yX11_total ∈ lw_g := mt_at 1551 (by decide +kernel) rfl
theorem cw11_455 : cCw RX11 455 yX0_rowsInAll cX0_rowsInAll 1 (some .int) 0 := ⟨kd_0_rowsInAll, mt_at 1553 (by decide +kernel) rfl, mt_at 3 (by decide +kernel) rfl, by decide +kernel⟩
section
variable {p : Program} {l : Launch} {e : Env} {R : Room} {s : State} {m : MethodId} {args : Array Value} {below : List Frame} {meth : Method} {c : Code} {H : Heap} {locs : List Loc} {cells slots : Nat} {Q : State → Prop}
variable {D : cG} {S S0 : cSt} {cc : ByteArray} {nL : Nat} {pc : Nat} {ls : Array Slot} {rest : List Value} {H0 : Heap} {nF nR nC nS : Nat} {ret : Option FieldType} {a : Nat}
theorem gk11_101 (C : cY p R s m args meth c RX11 cc nL nF nC nS nR ret) (X : cX D s) (hW : cW D S H) (hk : kK S a = 4) (hdg : decode cc pc = .ok (.getfield 101, 3)) (kk : W p l e R s m args below meth c H locs cells slots Q (F0 m (pc + 3) ls (.int (kF S a 2) :: rest))) : W p l e R s m args below meth c H locs cells slots Q (F0 m pc ls (.ref a :: rest)) := c_get C X hW 3 (by decide) ly_3 hk 2 (by decide) (mt_at 51 (by decide +kernel) (by decide +kernel)) hdg (by rw [cV_I (by decide +kernel)]; exact kk)
theorem gk11_451 (C : cY p R s m args meth c RX11 cc nL nF nC nS nR ret) (X : cX D s) (hW : cW D S H) (hk : kK S a = 4) (hdg : decode cc pc = .ok (.getfield 451, 3)) (kk : W p l e R s m args below meth c H locs cells slots Q (F0 m (pc + 3) ls (.int (kF S a 1) :: rest))) : W p l e R s m args below meth c H locs cells slots Q (F0 m pc ls (.ref a :: rest)) := c_get C X hW 3 (by decide) ly_3 hk 1 (by decide) (mt_at 49 (by decide +kernel) (by decide +kernel)) hdg (by rw [cV_I (by decide +kernel)]; exact kk)
theorem gk11_454 (C : cY p R s m args meth c RX11 cc nL nF nC nS nR ret) (X : cX D s) (hW : cW D S H) (hk : kK S a = 6) (hdg : decode cc pc = .ok (.getfield 454, 3)) (kk : W p l e R s m args below meth c H locs cells slots Q (F0 m (pc + 3) ls (.int (kF S a 0) :: rest))) : W p l e R s m args below meth c H locs cells slots Q (F0 m pc ls (.ref a :: rest)) := c_get C X hW 5 (by decide) ly_5 hk 0 (by decide) (mt_at 105 (by decide +kernel) (by decide +kernel)) hdg (by rw [cV_I (by decide +kernel)]; exact kk)
end
section
variable {p : Program} {l : Launch} {e : Env} {R : Room} {s : State} {m : MethodId} {args : Array Value} {below : List Frame} {meth : Method} {c : Code} {D : cG} {S : cSt} {r : Int32}
noncomputable def fk_11_total (S : cSt) (v0 : Nat) (v1 : Int32) : Option (Int32) :=
if v1 = (0 : Int32) then (
ckk S v0 12 (bd (kR S v0 0) fun a2 =>
ckk S a2 4 (
some (kF S a2 2))))
else if v1 = (1 : Int32) then (
ckk S v0 12 (bd (kR S v0 0) fun a4 =>
ckk S a4 4 (
some (kF S a4 1))))
else if v1 = (2 : Int32) then (
ckk S v0 12 (bd (kR S v0 3) fun a6 =>
ckk S a6 6 (
some (kF S a6 0))))
else if v1 = (3 : Int32) then (
ckk S v0 12 (bd (kR S v0 3) fun a8 =>
ckk S a8 6 (
some (kF S a8 1))))
else if v1 = (4 : Int32) then (
ckk S v0 12 (bd (kR S v0 1) fun a10 =>
ckk S a10 1 (bd (fk_0_rowsInAll S a10) fun r11 =>
some r11)))
else if v1 = (5 : Int32) then (
ckk S v0 12 (bd (kR S v0 3) fun a13 =>
ckk S a13 6 (
some (kF S a13 2))))
else (
some (-1 : Int32))
set_option maxRecDepth 100000 in
set_option maxHeartbeats 4000000 in
theorem tk_11_total (l : Launch) {D : cG} {S : cSt} {v0 : Nat} {v1 : Int32} {r : Int32}  (h : fk_11_total S v0 v1 = some r) : Met l yX11_total (Cond.code yX11_total cX11_total 2 (some .int) :: lw_g) { frames := 1, cells := 0, slots := 0, locals := 20 } (kPi [.ref v0, .int v1] D S) (kQ (some (.int r))) 0 0 (mNo) := by
  refine Met.ofW (cc := cX11_total) (maxL := 2) (ret := (some .int)) (by decide) rfl ?_
  intro p e s m args below meth c s₁ B hml hv
  obtain ⟨rfl, hW, X⟩ := hv
  have C : cY p (headSpec (Cond.code yX11_total cX11_total 2 (some .int) :: lw_g) { frames := 1, cells := 0, slots := 0, locals := 20 }).room s m _ meth c RX11 cX11_total 2 1 0 0 20 (some .int) := ⟨B.exec, B.bytes, hml, findClass_of_methodNamed B.named, fun w hw => atoms_spec (ws := Cond.code yX11_total cX11_total 2 (some .int) :: lw_g) B.pre w (List.mem_cons_of_mem _ hw), ⟨Nat.le_refl _, Nat.le_refl _, Nat.le_refl _, Nat.le_refl _⟩, B.returns, B.notSynchronized⟩
  have hl := lv_entry ([.ref v0, .int v1]) (n := 2) (Nat.le_of_ble_eq_true rfl)
  rw [lg_entry_eq]
  generalize (lg_sl ([.ref v0, .int v1]) ++ List.replicate (2 - (lg_sl ([.ref v0, .int v1])).length) Slot.unset).toArray = ls at hl ⊢
  have hl : lv_has ls 2 [(0, .ref v0), (1, .int v1)] := hl
  unfold fk_11_total at h
  refine lv_iload_n C.1 C.2.1 dX11_total_0 rfl (lv_at hl 1 rfl) ?_
  by_cases c1 : v1 = (0 : Int32)
  · have h := if_t h c1
    refine lv_tableIn (off := 39) (tgt := 40) C.1 C.2.1 dX11_total_1 (by rw [c1]; decide) (by rw [c1]; decide) (by rw [c1]; rfl) (by decide) ?_
    refine lv_aload_n C.1 C.2.1 dX11_total_40 rfl (lv_at hl 0 rfl) ?_
    obtain ⟨hk, h⟩ := ckk_ok h
    obtain ⟨a2, h_a2, h⟩ := bd_ok h
    refine gk11_12 C X hW hk h_a2 dX11_total_41 ?_
    obtain ⟨hk, h⟩ := ckk_ok h
    refine gk11_101 C X hW hk dX11_total_44 ?_
    cases h
    exact c_reti C rfl rfl dX11_total_47
  · have h := if_f h c1
    by_cases c3 : v1 = (1 : Int32)
    · have h := if_t h c3
      refine lv_tableIn (off := 47) (tgt := 48) C.1 C.2.1 dX11_total_1 (by rw [c3]; decide) (by rw [c3]; decide) (by rw [c3]; rfl) (by decide) ?_
      refine lv_aload_n C.1 C.2.1 dX11_total_48 rfl (lv_at hl 0 rfl) ?_
      obtain ⟨hk, h⟩ := ckk_ok h
      obtain ⟨a4, h_a4, h⟩ := bd_ok h
      refine gk11_12 C X hW hk h_a4 dX11_total_49 ?_
      obtain ⟨hk, h⟩ := ckk_ok h
      refine gk11_451 C X hW hk dX11_total_52 ?_
      cases h
      exact c_reti C rfl rfl dX11_total_55
    · have h := if_f h c3
      by_cases c5 : v1 = (2 : Int32)
      · have h := if_t h c5
        refine lv_tableIn (off := 55) (tgt := 56) C.1 C.2.1 dX11_total_1 (by rw [c5]; decide) (by rw [c5]; decide) (by rw [c5]; rfl) (by decide) ?_
        refine lv_aload_n C.1 C.2.1 dX11_total_56 rfl (lv_at hl 0 rfl) ?_
        obtain ⟨hk, h⟩ := ckk_ok h
        obtain ⟨a6, h_a6, h⟩ := bd_ok h
        refine gk11_32 C X hW hk h_a6 dX11_total_57 ?_
        obtain ⟨hk, h⟩ := ckk_ok h
        refine gk11_454 C X hW hk dX11_total_60 ?_
        cases h
        exact c_reti C rfl rfl dX11_total_63
      · have h := if_f h c5
        by_cases c7 : v1 = (3 : Int32)
        · have h := if_t h c7
          refine lv_tableIn (off := 63) (tgt := 64) C.1 C.2.1 dX11_total_1 (by rw [c7]; decide) (by rw [c7]; decide) (by rw [c7]; rfl) (by decide) ?_
          refine lv_aload_n C.1 C.2.1 dX11_total_64 rfl (lv_at hl 0 rfl) ?_
          obtain ⟨hk, h⟩ := ckk_ok h
          obtain ⟨a8, h_a8, h⟩ := bd_ok h
          refine gk11_32 C X hW hk h_a8 dX11_total_65 ?_
          obtain ⟨hk, h⟩ := ckk_ok h
          refine gk11_265 C X hW hk dX11_total_68 ?_
          cases h
          exact c_reti C rfl rfl dX11_total_71
        · have h := if_f h c7
          by_cases c9 : v1 = (4 : Int32)
          · have h := if_t h c9
            refine lv_tableIn (off := 71) (tgt := 72) C.1 C.2.1 dX11_total_1 (by rw [c9]; decide) (by rw [c9]; decide) (by rw [c9]; rfl) (by decide) ?_
            refine lv_aload_n C.1 C.2.1 dX11_total_72 rfl (lv_at hl 0 rfl) ?_
            obtain ⟨hk, h⟩ := ckk_ok h
            obtain ⟨a10, h_a10, h⟩ := bd_ok h
            refine gk11_19 C X hW hk h_a10 dX11_total_73 ?_
            obtain ⟨hk, h⟩ := ckk_ok h
            obtain ⟨r11, h_r11, h⟩ := bd_ok h
            refine c_callR (rest := []) C X hW hl.1 0 (by decide) hk [] (tk_0_rowsInAll l h_r11) cw11_455 ki_0_rowsInAll kl_0_rowsInAll rfl ⟨by decide, by decide⟩ ⟨(by decide), (by decide)⟩ rfl (Nat.le_of_ble_eq_true rfl) dX11_total_76 ?_
            refine W.eq (g2 := F0 m 79 ls [.int r11]) rfl ?_
            cases h
            exact c_reti C rfl rfl dX11_total_79
          · have h := if_f h c9
            by_cases c12 : v1 = (5 : Int32)
            · have h := if_t h c12
              refine lv_tableIn (off := 79) (tgt := 80) C.1 C.2.1 dX11_total_1 (by rw [c12]; decide) (by rw [c12]; decide) (by rw [c12]; rfl) (by decide) ?_
              refine lv_aload_n C.1 C.2.1 dX11_total_80 rfl (lv_at hl 0 rfl) ?_
              obtain ⟨hk, h⟩ := ckk_ok h
              obtain ⟨a13, h_a13, h⟩ := bd_ok h
              refine gk11_32 C X hW hk h_a13 dX11_total_81 ?_
              obtain ⟨hk, h⟩ := ckk_ok h
              refine gk11_233 C X hW hk dX11_total_84 ?_
              cases h
              exact c_reti C rfl rfl dX11_total_87
            · have h := if_f h c12
              have n_c1 := lv_neT c1 (a := 0) rfl
              have n_c3 := lv_neT c3 (a := 1) rfl
              have n_c5 := lv_neT c5 (a := 2) rfl
              have n_c7 := lv_neT c7 (a := 3) rfl
              have n_c9 := lv_neT c9 (a := 4) rfl
              have n_c12 := lv_neT c12 (a := 5) rfl
              refine lv_tableOut (tgt := 88) C.1 C.2.1 dX11_total_1 (by omega) (by decide) ?_
              refine lv_iconst (v := -1) C.1 C.2.1 dX11_total_88 (by decide) ?_
              cases h
              exact c_reti C rfl rfl dX11_total_89
end
