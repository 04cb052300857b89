-- made by wip/whole/gen12.py: 100_indexOf_7cf53, 100_indexOf_0f7a4, 3_faultIn, 3_enter, 3_has, 3_ruleOf, 4_init, 4_has, 8_turnsAnother, 4_mark, 8_isBefore, 4_link, 4_take, 4_copyFrom, 5_init
theorem dJ0_indexOf_7cf53_0 : decode cJ0_indexOf_7cf53 0 = .ok (.aload_n 0, 1) := by decide +kernel
theorem dJ0_indexOf_7cf53_1 : decode cJ0_indexOf_7cf53 1 = .ok (.invokevirtual 492, 3) := by decide +kernel
theorem dJ0_indexOf_7cf53_4 : decode cJ0_indexOf_7cf53 4 = .ok (.ifCond .eq 19, 3) := by decide +kernel
theorem dJ0_indexOf_7cf53_7 : decode cJ0_indexOf_7cf53 7 = .ok (.aload_n 0, 1) := by decide +kernel
theorem dJ0_indexOf_7cf53_8 : decode cJ0_indexOf_7cf53 8 = .ok (.getfield 9, 3) := by decide +kernel
theorem dJ0_indexOf_7cf53_11 : decode cJ0_indexOf_7cf53 11 = .ok (.iload_n 1, 1) := by decide +kernel
theorem dJ0_indexOf_7cf53_12 : decode cJ0_indexOf_7cf53 12 = .ok (.iload_n 2, 1) := by decide +kernel
theorem dJ0_indexOf_7cf53_13 : decode cJ0_indexOf_7cf53 13 = .ok (.aload_n 0, 1) := by decide +kernel
theorem dJ0_indexOf_7cf53_14 : decode cJ0_indexOf_7cf53 14 = .ok (.invokevirtual 505, 3) := by decide +kernel
theorem dJ0_indexOf_7cf53_17 : decode cJ0_indexOf_7cf53 17 = .ok (.invokestatic 637, 3) := by decide +kernel
theorem dJ0_indexOf_7cf53_20 : decode cJ0_indexOf_7cf53 20 = .ok (.goto 16, 3) := by decide +kernel
theorem dJ0_indexOf_7cf53_23 : decode cJ0_indexOf_7cf53 23 = .ok (.aload_n 0, 1) := by decide +kernel
theorem dJ0_indexOf_7cf53_24 : decode cJ0_indexOf_7cf53 24 = .ok (.getfield 9, 3) := by decide +kernel
theorem dJ0_indexOf_7cf53_27 : decode cJ0_indexOf_7cf53 27 = .ok (.iload_n 1, 1) := by decide +kernel
theorem dJ0_indexOf_7cf53_28 : decode cJ0_indexOf_7cf53 28 = .ok (.iload_n 2, 1) := by decide +kernel
theorem dJ0_indexOf_7cf53_29 : decode cJ0_indexOf_7cf53 29 = .ok (.aload_n 0, 1) := by decide +kernel
theorem dJ0_indexOf_7cf53_30 : decode cJ0_indexOf_7cf53 30 = .ok (.invokevirtual 505, 3) := by decide +kernel
theorem dJ0_indexOf_7cf53_33 : decode cJ0_indexOf_7cf53 33 = .ok (.invokestatic 640, 3) := by decide +kernel
theorem dJ0_indexOf_7cf53_36 : decode cJ0_indexOf_7cf53 36 = .ok (.ireturn, 1) := by decide +kernel
theorem kd_100_indexOf_7cf53 : Cond.code yJ0_indexOf_7cf53 cJ0_indexOf_7cf53 3 (some .int) ∈ lw_g := mt_at 1579 (by decide +kernel) rfl
theorem ki_100_indexOf_7cf53 : Cond.instanceMethod yJ0_indexOf_7cf53 ∈ lw_g := mt_at 1577 (by decide +kernel) rfl
theorem kl_100_indexOf_7cf53 : Cond.selects (kRn 12) yJ0_indexOf_7cf53 yJ0_indexOf_7cf53 ∈ lw_g := mt_at 1578 (by decide +kernel) rfl
theorem cw100_505 : cCw RJ0 505 yJ0_length_8abf5 cJ0_length_8abf5 1 (some .int) 0 := ⟨kd_100_length_8abf5, mt_at 1580 (by decide +kernel) rfl, mt_at 13 (by decide +kernel) rfl, by decide +kernel⟩
theorem cw100_637 : cCw RJ0 637 yJ1_indexOf_4cfef cJ1_indexOf_4cfef 4 (some .int) 4 := ⟨kd_101_indexOf_4cfef, mt_at 1581 (by decide +kernel) rfl, mt_at 14 (by decide +kernel) rfl, by decide +kernel⟩
section
variable {p : Program} {l : Launch} {e : Env} {R : Room} {s : State} {m : MethodId} {args : Array Value} {below : List Frame} {meth : Method} {c : Code} {D : cG} {S : cSt} {r : Int32}
noncomputable def fk_100_indexOf_7cf53 (S : cSt) (v0 : Nat) (v1 : Int32) (v2 : Int32) : Option (Int32) :=
ckk S v0 13 (bd (fk_100_isLatin1_aae02 S v0) fun r1 =>
if r1 = 0 then (
none)
else (
ckk S v0 13 (bd (kR S v0 0) fun a3 =>
ckk S v0 13 (bd (fk_100_length_8abf5 S v0) fun r4 =>
bd (fk_101_indexOf_4cfef S a3 v1 v2 r4) fun r5 =>
some r5))))
set_option maxRecDepth 100000 in
set_option maxHeartbeats 4000000 in
theorem tk_100_indexOf_7cf53 (l : Launch) {D : cG} {S : cSt} {v0 : Nat} {v1 : Int32} {v2 : Int32} {r : Int32}  (h : fk_100_indexOf_7cf53 S v0 v1 v2 = some r) : Met l yJ0_indexOf_7cf53 (Cond.code yJ0_indexOf_7cf53 cJ0_indexOf_7cf53 3 (some .int) :: lw_g) { frames := 3, cells := 0, slots := 0, locals := 83 } (kPi [.ref v0, .int v1, .int v2] D S) (kQ (some (.int r))) 0 0 (mNo) := by
  refine Met.ofW (cc := cJ0_indexOf_7cf53) (maxL := 3) (ret := (some .int)) (by decide) rfl ?_
  intro p e s m args below meth c s₁ B hml hv
  obtain ⟨rfl, hW, X⟩ := hv
  have C : cY p (headSpec (Cond.code yJ0_indexOf_7cf53 cJ0_indexOf_7cf53 3 (some .int) :: lw_g) { frames := 3, cells := 0, slots := 0, locals := 83 }).room s m _ meth c RJ0 cJ0_indexOf_7cf53 3 3 0 0 83 (some .int) := ⟨B.exec, B.bytes, hml, findClass_of_methodNamed B.named, fun w hw => atoms_spec (ws := Cond.code yJ0_indexOf_7cf53 cJ0_indexOf_7cf53 3 (some .int) :: lw_g) B.pre w (List.mem_cons_of_mem _ hw), ⟨Nat.le_refl _, Nat.le_refl _, Nat.le_refl _, Nat.le_refl _⟩, B.returns, B.notSynchronized⟩
  have hl := lv_entry ([.ref v0, .int v1, .int v2]) (n := 3) (Nat.le_of_ble_eq_true rfl)
  rw [lg_entry_eq]
  generalize (lg_sl ([.ref v0, .int v1, .int v2]) ++ List.replicate (3 - (lg_sl ([.ref v0, .int v1, .int v2])).length) Slot.unset).toArray = ls at hl ⊢
  have hl : lv_has ls 3 [(0, .ref v0), (1, .int v1), (2, .int v2)] := hl
  unfold fk_100_indexOf_7cf53 at h
  refine lv_aload_n C.1 C.2.1 dJ0_indexOf_7cf53_0 rfl (lv_at hl 0 rfl) ?_
  obtain ⟨hk, h⟩ := ckk_ok h
  obtain ⟨r1, h_r1, h⟩ := bd_ok h
  refine c_callR (rest := []) C X hW hl.1 12 (by decide) hk [] (tk_100_isLatin1_aae02 l h_r1) cw100_492 ki_100_isLatin1_aae02 kl_100_isLatin1_aae02 rfl ⟨by decide, by decide⟩ ⟨(by decide), (by decide)⟩ rfl (Nat.le_of_ble_eq_true rfl) dJ0_indexOf_7cf53_1 ?_
  refine W.eq (g2 := F0 m 4 ls [.int r1]) rfl ?_
  refine lv_if_eq (tgt := 23) C.1 C.2.1 dJ0_indexOf_7cf53_4 (by decide) (fun c2 => ?_) (fun c2 => ?_)
  · have h := if_t h c2
    cases h
  · have h := if_f h c2
    refine lv_aload_n C.1 C.2.1 dJ0_indexOf_7cf53_7 rfl (lv_at hl 0 rfl) ?_
    obtain ⟨hk, h⟩ := ckk_ok h
    obtain ⟨a3, h_a3, h⟩ := bd_ok h
    refine gk100_9 C X hW hk h_a3 dJ0_indexOf_7cf53_8 ?_
    refine lv_iload_n C.1 C.2.1 dJ0_indexOf_7cf53_11 rfl (lv_at hl 1 rfl) ?_
    refine lv_iload_n C.1 C.2.1 dJ0_indexOf_7cf53_12 rfl (lv_at hl 2 rfl) ?_
    refine lv_aload_n C.1 C.2.1 dJ0_indexOf_7cf53_13 rfl (lv_at hl 0 rfl) ?_
    obtain ⟨hk, h⟩ := ckk_ok h
    obtain ⟨r4, h_r4, h⟩ := bd_ok h
    refine c_callR (rest := [.int v2, .int v1, .ref a3]) C X hW hl.1 12 (by decide) hk [] (tk_100_length_8abf5 l h_r4) cw100_505 ki_100_length_8abf5 kl_100_length_8abf5 rfl ⟨by decide, by decide⟩ ⟨(by decide), (by decide)⟩ rfl (Nat.le_of_ble_eq_true rfl) dJ0_indexOf_7cf53_14 ?_
    refine W.eq (g2 := F0 m 17 ls [.int r4, .int v2, .int v1, .ref a3]) rfl ?_
    obtain ⟨r5, h_r5, h⟩ := bd_ok h
    refine c_callSR (rest := []) C X hW hl.1 [.ref a3, .int v1, .int v2, .int r4] (tk_101_indexOf_4cfef l h_r5) cw100_637 ks_101_indexOf_4cfef rfl ⟨by decide, by decide⟩ ⟨(by decide), (by decide)⟩ rfl (Nat.le_of_ble_eq_true rfl) dJ0_indexOf_7cf53_17 ?_
    refine W.eq (g2 := F0 m 20 ls [.int r5]) rfl ?_
    refine lv_goto (tgt := 36) C.1 C.2.1 dJ0_indexOf_7cf53_20 (by decide) ?_
    cases h
    exact c_reti C rfl rfl dJ0_indexOf_7cf53_36
end
theorem dJ0_indexOf_0f7a4_0 : decode cJ0_indexOf_0f7a4 0 = .ok (.aload_n 0, 1) := by decide +kernel
theorem dJ0_indexOf_0f7a4_1 : decode cJ0_indexOf_0f7a4 1 = .ok (.iload_n 1, 1) := by decide +kernel
theorem dJ0_indexOf_0f7a4_2 : decode cJ0_indexOf_0f7a4 2 = .ok (.iconst 0, 1) := by decide +kernel
theorem dJ0_indexOf_0f7a4_3 : decode cJ0_indexOf_0f7a4 3 = .ok (.invokevirtual 633, 3) := by decide +kernel
theorem dJ0_indexOf_0f7a4_6 : decode cJ0_indexOf_0f7a4 6 = .ok (.ireturn, 1) := by decide +kernel
theorem kd_100_indexOf_0f7a4 : Cond.code yJ0_indexOf_0f7a4 cJ0_indexOf_0f7a4 2 (some .int) ∈ lw_g := mt_at 1575 (by decide +kernel) rfl
theorem ki_100_indexOf_0f7a4 : Cond.instanceMethod yJ0_indexOf_0f7a4 ∈ lw_g := mt_at 1573 (by decide +kernel) rfl
theorem kl_100_indexOf_0f7a4 : Cond.selects (kRn 12) yJ0_indexOf_0f7a4 yJ0_indexOf_0f7a4 ∈ lw_g := mt_at 1574 (by decide +kernel) rfl
theorem cw100_633 : cCw RJ0 633 yJ0_indexOf_7cf53 cJ0_indexOf_7cf53 3 (some .int) 2 := ⟨kd_100_indexOf_7cf53, mt_at 1576 (by decide +kernel) rfl, mt_at 13 (by decide +kernel) rfl, by decide +kernel⟩
section
variable {p : Program} {l : Launch} {e : Env} {R : Room} {s : State} {m : MethodId} {args : Array Value} {below : List Frame} {meth : Method} {c : Code} {D : cG} {S : cSt} {r : Int32}
noncomputable def fk_100_indexOf_0f7a4 (S : cSt) (v0 : Nat) (v1 : Int32) : Option (Int32) :=
ckk S v0 13 (bd (fk_100_indexOf_7cf53 S v0 v1 (0 : Int32)) fun r1 =>
some r1)
set_option maxRecDepth 100000 in
set_option maxHeartbeats 4000000 in
theorem tk_100_indexOf_0f7a4 (l : Launch) {D : cG} {S : cSt} {v0 : Nat} {v1 : Int32} {r : Int32}  (h : fk_100_indexOf_0f7a4 S v0 v1 = some r) : Met l yJ0_indexOf_0f7a4 (Cond.code yJ0_indexOf_0f7a4 cJ0_indexOf_0f7a4 2 (some .int) :: lw_g) { frames := 4, cells := 0, slots := 0, locals := 105 } (kPi [.ref v0, .int v1] D S) (kQ (some (.int r))) 0 0 (mNo) := by
  refine Met.ofW (cc := cJ0_indexOf_0f7a4) (maxL := 2) (ret := (some .int)) (by decide) rfl ?_
  intro p e s m args below meth c s₁ B hml hv
  obtain ⟨rfl, hW, X⟩ := hv
  have C : cY p (headSpec (Cond.code yJ0_indexOf_0f7a4 cJ0_indexOf_0f7a4 2 (some .int) :: lw_g) { frames := 4, cells := 0, slots := 0, locals := 105 }).room s m _ meth c RJ0 cJ0_indexOf_0f7a4 2 4 0 0 105 (some .int) := ⟨B.exec, B.bytes, hml, findClass_of_methodNamed B.named, fun w hw => atoms_spec (ws := Cond.code yJ0_indexOf_0f7a4 cJ0_indexOf_0f7a4 2 (some .int) :: lw_g) B.pre w (List.mem_cons_of_mem _ hw), ⟨Nat.le_refl _, Nat.le_refl _, Nat.le_refl _, Nat.le_refl _⟩, B.returns, B.notSynchronized⟩
  have hl := lv_entry ([.ref v0, .int v1]) (n := 2) (Nat.le_of_ble_eq_true rfl)
  rw [lg_entry_eq]
  generalize (lg_sl ([.ref v0, .int v1]) ++ List.replicate (2 - (lg_sl ([.ref v0, .int v1])).length) Slot.unset).toArray = ls at hl ⊢
  have hl : lv_has ls 2 [(0, .ref v0), (1, .int v1)] := hl
  unfold fk_100_indexOf_0f7a4 at h
  refine lv_aload_n C.1 C.2.1 dJ0_indexOf_0f7a4_0 rfl (lv_at hl 0 rfl) ?_
  refine lv_iload_n C.1 C.2.1 dJ0_indexOf_0f7a4_1 rfl (lv_at hl 1 rfl) ?_
  refine lv_iconst (v := 0) C.1 C.2.1 dJ0_indexOf_0f7a4_2 (by decide) ?_
  obtain ⟨hk, h⟩ := ckk_ok h
  obtain ⟨r1, h_r1, h⟩ := bd_ok h
  refine c_callR (rest := []) C X hW hl.1 12 (by decide) hk [.int v1, .int (0 : Int32)] (tk_100_indexOf_7cf53 l h_r1) cw100_633 ki_100_indexOf_7cf53 kl_100_indexOf_7cf53 rfl ⟨by decide, by decide⟩ ⟨(by decide), (by decide)⟩ rfl (Nat.le_of_ble_eq_true rfl) dJ0_indexOf_0f7a4_3 ?_
  refine W.eq (g2 := F0 m 6 ls [.int r1]) rfl ?_
  cases h
  exact c_reti C rfl rfl dJ0_indexOf_0f7a4_6
end
theorem dX3_faultIn_0 : decode cX3_faultIn 0 = .ok (.iload_n 1, 1) := by decide +kernel
theorem dX3_faultIn_1 : decode cX3_faultIn 1 = .ok (.ifCond .ne 5, 3) := by decide +kernel
theorem dX3_faultIn_4 : decode cX3_faultIn 4 = .ok (.iconst 0, 1) := by decide +kernel
theorem dX3_faultIn_5 : decode cX3_faultIn 5 = .ok (.ireturn, 1) := by decide +kernel
theorem dX3_faultIn_6 : decode cX3_faultIn 6 = .ok (.iload_n 1, 1) := by decide +kernel
theorem dX3_faultIn_7 : decode cX3_faultIn 7 = .ok (.bipush 6, 2) := by decide +kernel
theorem dX3_faultIn_9 : decode cX3_faultIn 9 = .ok (.invokestatic 36, 3) := by decide +kernel
theorem dX3_faultIn_12 : decode cX3_faultIn 12 = .ok (.istore_n 2, 1) := by decide +kernel
theorem dX3_faultIn_13 : decode cX3_faultIn 13 = .ok (.iconst 0, 1) := by decide +kernel
theorem dX3_faultIn_14 : decode cX3_faultIn 14 = .ok (.istore_n 3, 1) := by decide +kernel
theorem dX3_faultIn_15 : decode cX3_faultIn 15 = .ok (.iload_n 3, 1) := by decide +kernel
theorem dX3_faultIn_16 : decode cX3_faultIn 16 = .ok (.iload_n 2, 1) := by decide +kernel
theorem dX3_faultIn_17 : decode cX3_faultIn 17 = .ok (.if_icmp .ge 25, 3) := by decide +kernel
theorem dX3_faultIn_20 : decode cX3_faultIn 20 = .ok (.ldc 42, 2) := by decide +kernel
theorem dX3_faultIn_22 : decode cX3_faultIn 22 = .ok (.aload_n 0, 1) := by decide +kernel
theorem dX3_faultIn_23 : decode cX3_faultIn 23 = .ok (.getfield 9, 3) := by decide +kernel
theorem dX3_faultIn_26 : decode cX3_faultIn 26 = .ok (.iload_n 3, 1) := by decide +kernel
theorem dX3_faultIn_27 : decode cX3_faultIn 27 = .ok (.caload, 1) := by decide +kernel
theorem dX3_faultIn_28 : decode cX3_faultIn 28 = .ok (.invokevirtual 44, 3) := by decide +kernel
theorem dX3_faultIn_31 : decode cX3_faultIn 31 = .ok (.ifCond .ge 5, 3) := by decide +kernel
theorem dX3_faultIn_34 : decode cX3_faultIn 34 = .ok (.iload_n 3, 1) := by decide +kernel
theorem dX3_faultIn_35 : decode cX3_faultIn 35 = .ok (.ireturn, 1) := by decide +kernel
theorem dX3_faultIn_36 : decode cX3_faultIn 36 = .ok (.iinc 3 1, 3) := by decide +kernel
theorem dX3_faultIn_39 : decode cX3_faultIn 39 = .ok (.goto (-24), 3) := by decide +kernel
theorem dX3_faultIn_42 : decode cX3_faultIn 42 = .ok (.iload_n 1, 1) := by decide +kernel
theorem dX3_faultIn_43 : decode cX3_faultIn 43 = .ok (.bipush 6, 2) := by decide +kernel
theorem dX3_faultIn_45 : decode cX3_faultIn 45 = .ok (.if_icmp .le 8, 3) := by decide +kernel
theorem dX3_faultIn_48 : decode cX3_faultIn 48 = .ok (.bipush 6, 2) := by decide +kernel
theorem dX3_faultIn_50 : decode cX3_faultIn 50 = .ok (.goto 4, 3) := by decide +kernel
theorem dX3_faultIn_53 : decode cX3_faultIn 53 = .ok (.iconst (-1), 1) := by decide +kernel
theorem dX3_faultIn_54 : decode cX3_faultIn 54 = .ok (.ireturn, 1) := by decide +kernel
theorem kd_3_faultIn : Cond.code yX3_faultIn cX3_faultIn 4 (some .int) ∈ lw_g := mt_at 1569 (by decide +kernel) rfl
theorem ki_3_faultIn : Cond.instanceMethod yX3_faultIn ∈ lw_g := mt_at 1567 (by decide +kernel) rfl
theorem kl_3_faultIn : Cond.selects (kRn 3) yX3_faultIn yX3_faultIn ∈ lw_g := mt_at 1568 (by decide +kernel) rfl
theorem mm3_36 : Cond.methodLink RX3 36 Lib.Math.min.name ∈ lw_g := mt_at 1570 (by decide +kernel) rfl
theorem cw3_44 : cCw RX3 44 yJ0_indexOf_0f7a4 cJ0_indexOf_0f7a4 2 (some .int) 1 := ⟨kd_100_indexOf_0f7a4, mt_at 1572 (by decide +kernel) rfl, mt_at 13 (by decide +kernel) rfl, by decide +kernel⟩
section
variable {p : Program} {l : Launch} {e : Env} {R : Room} {s : State} {m : MethodId} {args : Array Value} {below : List Frame} {meth : Method} {c : Code} {D : cG} {S : cSt} {r : Int32}
noncomputable def fk_3_faultIn_54 (S : cSt) (s0 : Int32) : Option (Int32) :=
some s0
set_option maxRecDepth 100000 in
set_option maxHeartbeats 4000000 in
theorem wk_3_faultIn_54 (C : cY p R s m args meth c RX3 cX3_faultIn 4 5 0 0 126 (some .int)) (X : cX D s) (hW : cW D S s.heap) : ∀ {s0 : Int32} {ls : Array Slot}, fk_3_faultIn_54 S s0 = some r → lv_has ls 4 [] → W p l e R s m args below meth c s.heap [] 0 0 (MQ below (kQ (some (.int r))) args s 0 0 mNo) (F0 m 54 ls [.int s0]) := by
  intro s0 ls h hl
  unfold fk_3_faultIn_54 at h
  cases h
  exact c_reti C rfl rfl dX3_faultIn_54
noncomputable def fk_3_faultIn_15 (S : cSt) : Nat → Nat → Int32 → Int32 → Int32 → Option (Int32)
  | 0, _, _, _, _ => none
  | n + 1, v0, v1, v2, v3 =>
    if v2 ≤ v3 then (
    if v1 ≤ (6 : Int32) then (
    fk_3_faultIn_54 S (-1 : Int32))
    else (
    fk_3_faultIn_54 S (6 : Int32)))
    else (
    lt (kT S 1) fun a3 =>
    ckk S v0 4 (bd (kR S v0 0) fun a4 =>
    ckk S a4 22 (ck v3 (kL S a4) (
    ckk S a3 13 (bd (fk_100_indexOf_0f7a4 S a3 (kI S a4 (Int32.toNatClampNeg v3))) fun r5 =>
    if 0 ≤ r5 then (
    lt (v3 + (1 : Int32)) fun x7 =>
    fk_3_faultIn_15 S n v0 v1 v2 x7)
    else (
    some v3))))))
set_option maxRecDepth 100000 in
set_option maxHeartbeats 4000000 in
theorem wk_3_faultIn_15 (C : cY p R s m args meth c RX3 cX3_faultIn 4 5 0 0 126 (some .int)) (X : cX D s) (hW : cW D S s.heap) : ∀ (n : Nat), ∀ {v0 : Nat} {v1 : Int32} {v2 : Int32} {v3 : Int32} {ls : Array Slot}, fk_3_faultIn_15 S n v0 v1 v2 v3 = some r → lv_has ls 4 [(0, .ref v0), (1, .int v1), (2, .int v2), (3, .int v3)] → W p l e R s m args below meth c s.heap [] 0 0 (MQ below (kQ (some (.int r))) args s 0 0 mNo) (F0 m 15 ls []) := by
  intro n
  induction n with
  | zero =>
    intro v0 v1 v2 v3 ls h hl
    exact absurd (show (none : Option (Int32)) = _ from h) (fun q => by cases q)
  | succ n ih =>
    intro v0 v1 v2 v3 ls h hl
    rw [fk_3_faultIn_15] at h
    refine lv_iload_n C.1 C.2.1 dX3_faultIn_15 rfl (lv_at hl 3 rfl) ?_
    refine lv_iload_n C.1 C.2.1 dX3_faultIn_16 rfl (lv_at hl 2 rfl) ?_
    refine lv_icmp_ge (tgt := 42) C.1 C.2.1 dX3_faultIn_17 (by decide) (fun c1 => ?_) (fun c1 => ?_)
    · have h := if_t h c1
      refine lv_iload_n C.1 C.2.1 dX3_faultIn_42 rfl (lv_at hl 1 rfl) ?_
      refine lv_bipush (v := 6) C.1 C.2.1 dX3_faultIn_43 (by decide) ?_
      refine lv_icmp_le (tgt := 53) C.1 C.2.1 dX3_faultIn_45 (by decide) (fun c2 => ?_) (fun c2 => ?_)
      · have h := if_t h c2
        refine lv_iconst (v := -1) C.1 C.2.1 dX3_faultIn_53 (by decide) ?_
        exact wk_3_faultIn_54 C X hW h (lv_sub hl [] rfl)
      · have h := if_f h c2
        refine lv_bipush (v := 6) C.1 C.2.1 dX3_faultIn_48 (by decide) ?_
        refine lv_goto (tgt := 54) C.1 C.2.1 dX3_faultIn_50 (by decide) ?_
        exact wk_3_faultIn_54 C X hW h (lv_sub hl [] rfl)
    · have h := if_f h c1
      refine c_ldcs (tx := "LSCBATM") C X hW 1 (by decide +kernel) dX3_faultIn_20 ?_
      refine lt_ok h (fun a3 e_a3 h => ?_)
      rw [e_a3]
      refine lv_aload_n C.1 C.2.1 dX3_faultIn_22 rfl (lv_at hl 0 rfl) ?_
      obtain ⟨hk, h⟩ := ckk_ok h
      obtain ⟨a4, h_a4, h⟩ := bd_ok h
      refine gk3_9 C X hW hk h_a4 dX3_faultIn_23 ?_
      refine lv_iload_n C.1 C.2.1 dX3_faultIn_26 rfl (lv_at hl 3 rfl) ?_
      obtain ⟨hk, h⟩ := ckk_ok h
      obtain ⟨hin2, h⟩ := ck_ok h
      refine c_cald C X hW hk hin2 dX3_faultIn_27 ?_
      obtain ⟨hk, h⟩ := ckk_ok h
      obtain ⟨r5, h_r5, h⟩ := bd_ok h
      refine c_callR (rest := []) C X hW hl.1 12 (by decide) hk [.int (kI S a4 (Int32.toNatClampNeg v3))] (tk_100_indexOf_0f7a4 l h_r5) cw3_44 ki_100_indexOf_0f7a4 kl_100_indexOf_0f7a4 rfl ⟨by decide, by decide⟩ ⟨(by decide), (by decide)⟩ rfl (Nat.le_of_ble_eq_true rfl) dX3_faultIn_28 ?_
      refine W.eq (g2 := F0 m 31 ls [.int r5]) rfl ?_
      refine lv_if_ge (tgt := 36) C.1 C.2.1 dX3_faultIn_31 (by decide) (fun c6 => ?_) (fun c6 => ?_)
      · have h := if_t h c6
        refine lt_ok h (fun x7 e_x7 h => ?_)
        refine lv_iinc (v := x7) (lv' := [(3, .int x7), (0, .ref v0), (1, .int v1), (2, .int v2)]) C.1 C.2.1 dX3_faultIn_36 hl (k := 3) rfl (by rw [← e_x7]; rfl) (by decide) rfl (fun ls hl => ?_)
        refine lv_goto (tgt := 15) C.1 C.2.1 dX3_faultIn_39 (by decide) ?_
        exact ih h (lv_sub hl [1, 2, 3, 0] rfl)
      · have h := if_f h c6
        refine lv_iload_n C.1 C.2.1 dX3_faultIn_34 rfl (lv_at hl 3 rfl) ?_
        cases h
        exact c_reti C rfl rfl dX3_faultIn_35
noncomputable def fk_3_faultIn (S : cSt) (v0 : Nat) (v1 : Int32) : Option (Int32) :=
if v1 = 0 then (
some (0 : Int32))
else (
lt (if (6 : Int32) < v1 then (6 : Int32) else v1) fun x2 =>
fk_3_faultIn_15 S mFU v0 v1 x2 (0 : Int32))
set_option maxRecDepth 100000 in
set_option maxHeartbeats 4000000 in
theorem tk_3_faultIn (l : Launch) {D : cG} {S : cSt} {v0 : Nat} {v1 : Int32} {r : Int32}  (h : fk_3_faultIn S v0 v1 = some r) : Met l yX3_faultIn (Cond.code yX3_faultIn cX3_faultIn 4 (some .int) :: lw_g) { frames := 5, cells := 0, slots := 0, locals := 126 } (kPi [.ref v0, .int v1] D S) (kQ (some (.int r))) 0 0 (mNo) := by
  refine Met.ofW (cc := cX3_faultIn) (maxL := 4) (ret := (some .int)) (by decide) rfl ?_
  intro p e s m args below meth c s₁ B hml hv
  obtain ⟨rfl, hW, X⟩ := hv
  have C : cY p (headSpec (Cond.code yX3_faultIn cX3_faultIn 4 (some .int) :: lw_g) { frames := 5, cells := 0, slots := 0, locals := 126 }).room s m _ meth c RX3 cX3_faultIn 4 5 0 0 126 (some .int) := ⟨B.exec, B.bytes, hml, findClass_of_methodNamed B.named, fun w hw => atoms_spec (ws := Cond.code yX3_faultIn cX3_faultIn 4 (some .int) :: lw_g) B.pre w (List.mem_cons_of_mem _ hw), ⟨Nat.le_refl _, Nat.le_refl _, Nat.le_refl _, Nat.le_refl _⟩, B.returns, B.notSynchronized⟩
  have hl := lv_entry ([.ref v0, .int v1]) (n := 4) (Nat.le_of_ble_eq_true rfl)
  rw [lg_entry_eq]
  generalize (lg_sl ([.ref v0, .int v1]) ++ List.replicate (4 - (lg_sl ([.ref v0, .int v1])).length) Slot.unset).toArray = ls at hl ⊢
  have hl : lv_has ls 4 [(0, .ref v0), (1, .int v1)] := hl
  unfold fk_3_faultIn at h
  refine lv_iload_n C.1 C.2.1 dX3_faultIn_0 rfl (lv_at hl 1 rfl) ?_
  refine lv_if_ne (tgt := 6) C.1 C.2.1 dX3_faultIn_1 (by decide) (fun c1 => ?_) (fun c1 => ?_)
  · have h := if_f h c1
    refine lv_iload_n C.1 C.2.1 dX3_faultIn_6 rfl (lv_at hl 1 rfl) ?_
    refine lv_bipush (v := 6) C.1 C.2.1 dX3_faultIn_7 (by decide) ?_
    refine va_mmin (rest := []) C.1 C.2.1 (C.2.2.1.trans hl.1.symm) (own := RX3) C.2.2.2.1 (C.2.2.2.2.1 _ mm3_36) (C.2.2.2.2.1 _ mmin_s) (C.2.2.2.2.1 _ ma_i) (C.2.2.2.2.1 _ mmin_c) (Nat.le_trans (by decide) C.2.2.2.2.2.1.1) (Nat.le_trans (Nat.le_of_ble_eq_true rfl) C.2.2.2.2.2.1.2.2.2) (Nat.le_trans (by decide) C.2.2.2.2.2.1.2.1) (Nat.le_trans (by decide) C.2.2.2.2.2.1.2.2.1) dX3_faultIn_9 ?_
    refine lt_ok h (fun x2 e_x2 h => ?_)
    refine lv_nm e_x2 ?_
    refine lv_istore_n (lv' := [(2, .int x2), (0, .ref v0), (1, .int v1)]) C.1 C.2.1 dX3_faultIn_12 rfl hl (by decide) rfl (fun ls hl => ?_)
    refine lv_iconst (v := 0) C.1 C.2.1 dX3_faultIn_13 (by decide) ?_
    refine lv_istore_n (lv' := [(3, .int (0 : Int32)), (2, .int x2), (0, .ref v0), (1, .int v1)]) C.1 C.2.1 dX3_faultIn_14 rfl hl (by decide) rfl (fun ls hl => ?_)
    exact wk_3_faultIn_15 C X hW mFU h (lv_sub hl [2, 3, 1, 0] rfl)
  · have h := if_t h c1
    refine lv_iconst (v := 0) C.1 C.2.1 dX3_faultIn_4 (by decide) ?_
    cases h
    exact c_reti C rfl rfl dX3_faultIn_5
end
theorem dX3_enter_0 : decode cX3_enter 0 = .ok (.aload_n 0, 1) := by decide +kernel
theorem dX3_enter_1 : decode cX3_enter 1 = .ok (.getfield 19, 3) := by decide +kernel
theorem dX3_enter_4 : decode cX3_enter 4 = .ok (.istore_n 2, 1) := by decide +kernel
theorem dX3_enter_5 : decode cX3_enter 5 = .ok (.aload_n 0, 1) := by decide +kernel
theorem dX3_enter_6 : decode cX3_enter 6 = .ok (.getfield 9, 3) := by decide +kernel
theorem dX3_enter_9 : decode cX3_enter 9 = .ok (.iconst 0, 1) := by decide +kernel
theorem dX3_enter_10 : decode cX3_enter 10 = .ok (.aload_n 0, 1) := by decide +kernel
theorem dX3_enter_11 : decode cX3_enter 11 = .ok (.getfield 25, 3) := by decide +kernel
theorem dX3_enter_14 : decode cX3_enter 14 = .ok (.iload_n 2, 1) := by decide +kernel
theorem dX3_enter_15 : decode cX3_enter 15 = .ok (.bipush 6, 2) := by decide +kernel
theorem dX3_enter_17 : decode cX3_enter 17 = .ok (.imul, 1) := by decide +kernel
theorem dX3_enter_18 : decode cX3_enter 18 = .ok (.iload_n 1, 1) := by decide +kernel
theorem dX3_enter_19 : decode cX3_enter 19 = .ok (.invokestatic 50, 3) := by decide +kernel
theorem dX3_enter_22 : decode cX3_enter 22 = .ok (.aload_n 0, 1) := by decide +kernel
theorem dX3_enter_23 : decode cX3_enter 23 = .ok (.getfield 28, 3) := by decide +kernel
theorem dX3_enter_26 : decode cX3_enter 26 = .ok (.iload_n 2, 1) := by decide +kernel
theorem dX3_enter_27 : decode cX3_enter 27 = .ok (.iload_n 1, 1) := by decide +kernel
theorem dX3_enter_28 : decode cX3_enter 28 = .ok (.iastore, 1) := by decide +kernel
theorem dX3_enter_29 : decode cX3_enter 29 = .ok (.aload_n 0, 1) := by decide +kernel
theorem dX3_enter_30 : decode cX3_enter 30 = .ok (.dup, 1) := by decide +kernel
theorem dX3_enter_31 : decode cX3_enter 31 = .ok (.getfield 19, 3) := by decide +kernel
theorem dX3_enter_34 : decode cX3_enter 34 = .ok (.iconst 1, 1) := by decide +kernel
theorem dX3_enter_35 : decode cX3_enter 35 = .ok (.iadd, 1) := by decide +kernel
theorem dX3_enter_36 : decode cX3_enter 36 = .ok (.putfield 19, 3) := by decide +kernel
theorem dX3_enter_39 : decode cX3_enter 39 = .ok (.iload_n 2, 1) := by decide +kernel
theorem dX3_enter_40 : decode cX3_enter 40 = .ok (.ireturn, 1) := by decide +kernel
theorem kd_3_enter : Cond.code yX3_enter cX3_enter 3 (some .int) ∈ lw_g := mt_at 1640 (by decide +kernel) rfl
theorem ki_3_enter : Cond.instanceMethod yX3_enter ∈ lw_g := mt_at 1638 (by decide +kernel) rfl
theorem kl_3_enter : Cond.selects (kRn 3) yX3_enter yX3_enter ∈ lw_g := mt_at 1639 (by decide +kernel) rfl
theorem mm3_50 : Cond.methodLink RX3 50 arraycopyName ∈ lw_g := mt_at 1641 (by decide +kernel) rfl
section
variable {p : Program} {l : Launch} {e : Env} {R : Room} {s : State} {m : MethodId} {args : Array Value} {below : List Frame} {meth : Method} {c : Code} {H : Heap} {locs : List Loc} {cells slots : Nat} {Q : State → Prop}
variable {D : cG} {S S0 : cSt} {cc : ByteArray} {nL : Nat} {pc : Nat} {ls : Array Slot} {rest : List Value} {H0 : Heap} {nF nR nC nS : Nat} {ret : Option FieldType} {a : Nat}
theorem gk3_19 (C : cY p R s m args meth c RX3 cc nL nF nC nS nR ret) (X : cX D s) (hW : cW D S H) (hk : kK S a = 4) (hdg : decode cc pc = .ok (.getfield 19, 3)) (kk : W p l e R s m args below meth c H locs cells slots Q (F0 m (pc + 3) ls (.int (kF S a 2) :: rest))) : W p l e R s m args below meth c H locs cells slots Q (F0 m pc ls (.ref a :: rest)) := c_get C X hW 3 (by decide) ly_3 hk 2 (by decide) (mt_at 50 (by decide +kernel) (by decide +kernel)) hdg (by rw [cV_I (by decide +kernel)]; exact kk)
theorem gk3_25 (C : cY p R s m args meth c RX3 cc nL nF nC nS nR ret) (X : cX D s) (hW : cW D S H) (hk : kK S a = 4) {x : Nat} (hx : kR S a 4 = some x) (hdg : decode cc pc = .ok (.getfield 25, 3)) (kk : W p l e R s m args below meth c H locs cells slots Q (F0 m (pc + 3) ls (.ref x :: rest))) : W p l e R s m args below meth c H locs cells slots Q (F0 m pc ls (.ref a :: rest)) := c_get C X hW 3 (by decide) ly_3 hk 4 (by decide) (mt_at 54 (by decide +kernel) (by decide +kernel)) hdg (by rw [cV_R (by decide +kernel) hx]; exact kk)
theorem gk3_28 (C : cY p R s m args meth c RX3 cc nL nF nC nS nR ret) (X : cX D s) (hW : cW D S H) (hk : kK S a = 4) {x : Nat} (hx : kR S a 5 = some x) (hdg : decode cc pc = .ok (.getfield 28, 3)) (kk : W p l e R s m args below meth c H locs cells slots Q (F0 m (pc + 3) ls (.ref x :: rest))) : W p l e R s m args below meth c H locs cells slots Q (F0 m pc ls (.ref a :: rest)) := c_get C X hW 3 (by decide) ly_3 hk 5 (by decide) (mt_at 55 (by decide +kernel) (by decide +kernel)) hdg (by rw [cV_R (by decide +kernel) hx]; exact kk)
end
section
variable {p : Program} {l : Launch} {e : Env} {R : Room} {s : State} {m : MethodId} {args : Array Value} {below : List Frame} {meth : Method} {c : Code} {D : cG} {S0 S9 : cSt} {r : Int32}
noncomputable def fk_3_enter (S : cSt) (v0 : Nat) (v1 : Int32) : Option (Int32 × cSt) :=
ckk S v0 4 (
lt (kF S v0 2) fun x1 =>
ckk S v0 4 (bd (kR S v0 0) fun a2 =>
ckk S v0 4 (bd (kR S v0 4) fun a3 =>
ckk S a2 22 (ckk S a3 22 (ckp ((¬ (0 : Int32) < 0 ∧ ¬ (x1 * (6 : Int32)) < 0 ∧ ¬ v1 < 0) ∧ (Int32.toNatClampNeg (0 : Int32)) + (Int32.toNatClampNeg v1) ≤ kL S a2 ∧ (Int32.toNatClampNeg (x1 * (6 : Int32))) + (Int32.toNatClampNeg v1) ≤ kL S a3) (ckp (∀ i, i < (Int32.toNatClampNeg v1) → fits .char (.int (kI S a2 ((Int32.toNatClampNeg (0 : Int32)) + i))) = true) (lt (cCp S a2 (Int32.toNatClampNeg (0 : Int32)) a3 (Int32.toNatClampNeg (x1 * (6 : Int32))) (Int32.toNatClampNeg v1)) fun S4 =>
ckk S4 v0 4 (bd (kR S4 v0 5) fun a5 =>
ckk S4 a5 20 (ck x1 (kL S4 a5) (lt (cWi S4 a5 (Int32.toNatClampNeg x1) v1) fun S6 =>
ckk S6 v0 4 (
ckk S6 v0 4 (lt (cPi S6 v0 2 ((kF S6 v0 2) + (1 : Int32))) fun S7 =>
some (x1, S7)))))))))))))
set_option maxRecDepth 100000 in
set_option maxHeartbeats 4000000 in
theorem tk_3_enter (l : Launch) {D : cG} {S : cSt} {v0 : Nat} {v1 : Int32} {r : Int32} {S9 : cSt} (h : fk_3_enter S v0 v1 = some (r, S9)) : Met l yX3_enter (Cond.code yX3_enter cX3_enter 3 (some .int) :: lw_g) { frames := 2, cells := 0, slots := 0, locals := 60 } (kPi [.ref v0, .int v1] D S) (kW (some (.int r)) D S S9) 0 0 (cA S) := by
  refine Met.ofW (cc := cX3_enter) (maxL := 3) (ret := (some .int)) (by decide) rfl ?_
  intro p e s m args below meth c s₁ B hml hv
  obtain ⟨rfl, hW, X⟩ := hv
  have C : cY p (headSpec (Cond.code yX3_enter cX3_enter 3 (some .int) :: lw_g) { frames := 2, cells := 0, slots := 0, locals := 60 }).room s m _ meth c RX3 cX3_enter 3 2 0 0 60 (some .int) := ⟨B.exec, B.bytes, hml, findClass_of_methodNamed B.named, fun w hw => atoms_spec (ws := Cond.code yX3_enter cX3_enter 3 (some .int) :: lw_g) B.pre w (List.mem_cons_of_mem _ hw), ⟨Nat.le_refl _, Nat.le_refl _, Nat.le_refl _, Nat.le_refl _⟩, B.returns, B.notSynchronized⟩
  have hl := lv_entry ([.ref v0, .int v1]) (n := 3) (Nat.le_of_ble_eq_true rfl)
  rw [lg_entry_eq]
  generalize (lg_sl ([.ref v0, .int v1]) ++ List.replicate (3 - (lg_sl ([.ref v0, .int v1])).length) Slot.unset).toArray = ls at hl ⊢
  have hl : lv_has ls 3 [(0, .ref v0), (1, .int v1)] := hl
  have hJ : cJ D S s.heap S s.heap [] := cJ.rf hW
  unfold fk_3_enter at h
  refine lv_aload_n C.1 C.2.1 dX3_enter_0 rfl (lv_at hl 0 rfl) ?_
  obtain ⟨hk, h⟩ := ckk_ok h
  refine gk3_19 C X hJ.1 hk dX3_enter_1 ?_
  refine lt_ok h (fun x1 e_x1 h => ?_)
  refine lv_nm e_x1 ?_
  refine lv_istore_n (lv' := [(2, .int x1), (0, .ref v0), (1, .int v1)]) C.1 C.2.1 dX3_enter_4 rfl hl (by decide) rfl (fun ls hl => ?_)
  refine lv_aload_n C.1 C.2.1 dX3_enter_5 rfl (lv_at hl 1 rfl) ?_
  obtain ⟨hk, h⟩ := ckk_ok h
  obtain ⟨a2, h_a2, h⟩ := bd_ok h
  refine gk3_9 C X hJ.1 hk h_a2 dX3_enter_6 ?_
  refine lv_iconst (v := 0) C.1 C.2.1 dX3_enter_9 (by decide) ?_
  refine lv_aload_n C.1 C.2.1 dX3_enter_10 rfl (lv_at hl 1 rfl) ?_
  obtain ⟨hk, h⟩ := ckk_ok h
  obtain ⟨a3, h_a3, h⟩ := bd_ok h
  refine gk3_25 C X hJ.1 hk h_a3 dX3_enter_11 ?_
  refine lv_iload_n C.1 C.2.1 dX3_enter_14 rfl (lv_at hl 0 rfl) ?_
  refine lv_bipush (v := 6) C.1 C.2.1 dX3_enter_15 (by decide) ?_
  refine lv_imul C.1 C.2.1 dX3_enter_17 ?_
  refine lv_iload_n C.1 C.2.1 dX3_enter_18 rfl (lv_at hl 2 rfl) ?_
  obtain ⟨hk0, h⟩ := ckk_ok h
  obtain ⟨hk1, h⟩ := ckk_ok h
  obtain ⟨hcp, h⟩ := ckp_ok h
  obtain ⟨hft, h⟩ := ckp_ok h
  refine c_copy (rest := []) C hl.1 mm3_50 ac_n ac_s ac_i 22 (by decide) (by decide) X.2.2.2.1 rfl hJ hk0 hk1 hcp hft (by decide) (Nat.le_of_ble_eq_true rfl) dX3_enter_19 (fun H locs hJ => ?_)
  refine lt_ok h (fun S4 e_S4 h => ?_)
  rw [e_S4] at hJ
  refine lv_aload_n C.1 C.2.1 dX3_enter_22 rfl (lv_at hl 1 rfl) ?_
  obtain ⟨hk, h⟩ := ckk_ok h
  obtain ⟨a5, h_a5, h⟩ := bd_ok h
  refine gk3_28 C X hJ.1 hk h_a5 dX3_enter_23 ?_
  refine lv_iload_n C.1 C.2.1 dX3_enter_26 rfl (lv_at hl 0 rfl) ?_
  refine lv_iload_n C.1 C.2.1 dX3_enter_27 rfl (lv_at hl 2 rfl) ?_
  obtain ⟨hk, h⟩ := ckk_ok h
  obtain ⟨hin2, h⟩ := ck_ok h
  refine c_iast C X hJ hk hin2 dX3_enter_28 (fun H locs hJ => ?_)
  refine lt_ok h (fun S6 e_S6 h => ?_)
  rw [e_S6] at hJ
  refine lv_aload_n C.1 C.2.1 dX3_enter_29 rfl (lv_at hl 1 rfl) ?_
  refine lv_dup C.1 C.2.1 dX3_enter_30 rfl ?_
  obtain ⟨hk, h⟩ := ckk_ok h
  refine gk3_19 C X hJ.1 hk dX3_enter_31 ?_
  refine lv_iconst (v := 1) C.1 C.2.1 dX3_enter_34 (by decide) ?_
  refine lv_iadd C.1 C.2.1 dX3_enter_35 ?_
  obtain ⟨hk, h⟩ := ckk_ok h
  refine pk3_19 C X hJ hk dX3_enter_36 (fun H locs hJ => ?_)
  refine lt_ok h (fun S7 e_S7 h => ?_)
  rw [e_S7] at hJ
  refine lv_iload_n C.1 C.2.1 dX3_enter_39 rfl (lv_at hl 0 rfl) ?_
  cases h
  exact c_retiW C hJ dX3_enter_40
end
theorem dX3_has_0 : decode cX3_has 0 = .ok (.iload_n 1, 1) := by decide +kernel
theorem dX3_has_1 : decode cX3_has 1 = .ok (.ifCond .lt 15, 3) := by decide +kernel
theorem dX3_has_4 : decode cX3_has 4 = .ok (.iload_n 1, 1) := by decide +kernel
theorem dX3_has_5 : decode cX3_has 5 = .ok (.aload_n 0, 1) := by decide +kernel
theorem dX3_has_6 : decode cX3_has 6 = .ok (.getfield 19, 3) := by decide +kernel
theorem dX3_has_9 : decode cX3_has 9 = .ok (.if_icmp .ge 7, 3) := by decide +kernel
theorem dX3_has_12 : decode cX3_has 12 = .ok (.iconst 1, 1) := by decide +kernel
theorem dX3_has_13 : decode cX3_has 13 = .ok (.goto 4, 3) := by decide +kernel
theorem dX3_has_16 : decode cX3_has 16 = .ok (.iconst 0, 1) := by decide +kernel
theorem dX3_has_17 : decode cX3_has 17 = .ok (.ireturn, 1) := by decide +kernel
theorem kd_3_has : Cond.code yX3_has cX3_has 2 (some .boolean) ∈ lw_g := mt_at 435 (by decide +kernel) rfl
theorem ki_3_has : Cond.instanceMethod yX3_has ∈ lw_g := mt_at 433 (by decide +kernel) rfl
theorem kl_3_has : Cond.selects (kRn 3) yX3_has yX3_has ∈ lw_g := mt_at 434 (by decide +kernel) rfl
section
variable {p : Program} {l : Launch} {e : Env} {R : Room} {s : State} {m : MethodId} {args : Array Value} {below : List Frame} {meth : Method} {c : Code} {D : cG} {S : cSt} {r : Int32}
noncomputable def fk_3_has_17 (S : cSt) (s0 : Int32) : Option (Int32) :=
ckz s0 (some s0)
set_option maxRecDepth 100000 in
set_option maxHeartbeats 4000000 in
theorem wk_3_has_17 (C : cY p R s m args meth c RX3 cX3_has 2 0 0 0 0 (some .boolean)) (X : cX D s) (hW : cW D S s.heap) : ∀ {s0 : Int32} {ls : Array Slot}, fk_3_has_17 S s0 = some r → lv_has ls 2 [] → W p l e R s m args below meth c s.heap [] 0 0 (MQ below (kQ (some (.int r))) args s 0 0 mNo) (F0 m 17 ls [.int s0]) := by
  intro s0 ls h hl
  unfold fk_3_has_17 at h
  obtain ⟨hzo, h⟩ := ckz_ok h
  cases h
  exact c_retn C (by rcases hzo with h9 | h9 <;> (rw [h9]; rfl)) rfl rfl dX3_has_17
noncomputable def fk_3_has_16 (S : cSt) : Option (Int32) :=
fk_3_has_17 S (0 : Int32)
set_option maxRecDepth 100000 in
set_option maxHeartbeats 4000000 in
theorem wk_3_has_16 (C : cY p R s m args meth c RX3 cX3_has 2 0 0 0 0 (some .boolean)) (X : cX D s) (hW : cW D S s.heap) : ∀ {ls : Array Slot}, fk_3_has_16 S = some r → lv_has ls 2 [] → W p l e R s m args below meth c s.heap [] 0 0 (MQ below (kQ (some (.int r))) args s 0 0 mNo) (F0 m 16 ls []) := by
  intro ls h hl
  unfold fk_3_has_16 at h
  refine lv_iconst (v := 0) C.1 C.2.1 dX3_has_16 (by decide) ?_
  exact wk_3_has_17 C X hW h (lv_sub hl [] rfl)
noncomputable def fk_3_has (S : cSt) (v0 : Nat) (v1 : Int32) : Option (Int32) :=
if v1 < 0 then (
fk_3_has_16 S)
else (
ckk S v0 4 (
if (kF S v0 2) ≤ v1 then (
fk_3_has_16 S)
else (
fk_3_has_17 S (1 : Int32))))
set_option maxRecDepth 100000 in
set_option maxHeartbeats 4000000 in
theorem tk_3_has (l : Launch) {D : cG} {S : cSt} {v0 : Nat} {v1 : Int32} {r : Int32}  (h : fk_3_has S v0 v1 = some r) : Met l yX3_has (Cond.code yX3_has cX3_has 2 (some .boolean) :: lw_g) { frames := 0, cells := 0, slots := 0, locals := 0 } (kPi [.ref v0, .int v1] D S) (kQ (some (.int r))) 0 0 (mNo) := by
  refine Met.ofW (cc := cX3_has) (maxL := 2) (ret := (some .boolean)) (by decide) rfl ?_
  intro p e s m args below meth c s₁ B hml hv
  obtain ⟨rfl, hW, X⟩ := hv
  have C : cY p (headSpec (Cond.code yX3_has cX3_has 2 (some .boolean) :: lw_g) { frames := 0, cells := 0, slots := 0, locals := 0 }).room s m _ meth c RX3 cX3_has 2 0 0 0 0 (some .boolean) := ⟨B.exec, B.bytes, hml, findClass_of_methodNamed B.named, fun w hw => atoms_spec (ws := Cond.code yX3_has cX3_has 2 (some .boolean) :: lw_g) B.pre w (List.mem_cons_of_mem _ hw), ⟨Nat.le_refl _, Nat.le_refl _, Nat.le_refl _, Nat.le_refl _⟩, B.returns, B.notSynchronized⟩
  have hl := lv_entry ([.ref v0, .int v1]) (n := 2) (Nat.le_of_ble_eq_true rfl)
  rw [lg_entry_eq]
  generalize (lg_sl ([.ref v0, .int v1]) ++ List.replicate (2 - (lg_sl ([.ref v0, .int v1])).length) Slot.unset).toArray = ls at hl ⊢
  have hl : lv_has ls 2 [(0, .ref v0), (1, .int v1)] := hl
  unfold fk_3_has at h
  refine lv_iload_n C.1 C.2.1 dX3_has_0 rfl (lv_at hl 1 rfl) ?_
  refine lv_if_lt (tgt := 16) C.1 C.2.1 dX3_has_1 (by decide) (fun c1 => ?_) (fun c1 => ?_)
  · have h := if_t h c1
    exact wk_3_has_16 C X hW h (lv_sub hl [] rfl)
  · have h := if_f h c1
    refine lv_iload_n C.1 C.2.1 dX3_has_4 rfl (lv_at hl 1 rfl) ?_
    refine lv_aload_n C.1 C.2.1 dX3_has_5 rfl (lv_at hl 0 rfl) ?_
    obtain ⟨hk, h⟩ := ckk_ok h
    refine gk3_19 C X hW hk dX3_has_6 ?_
    refine lv_icmp_ge (tgt := 16) C.1 C.2.1 dX3_has_9 (by decide) (fun c2 => ?_) (fun c2 => ?_)
    · have h := if_t h c2
      exact wk_3_has_16 C X hW h (lv_sub hl [] rfl)
    · have h := if_f h c2
      refine lv_iconst (v := 1) C.1 C.2.1 dX3_has_12 (by decide) ?_
      refine lv_goto (tgt := 17) C.1 C.2.1 dX3_has_13 (by decide) ?_
      exact wk_3_has_17 C X hW h (lv_sub hl [] rfl)
end
theorem dX3_ruleOf_0 : decode cX3_ruleOf 0 = .ok (.aload_n 0, 1) := by decide +kernel
theorem dX3_ruleOf_1 : decode cX3_ruleOf 1 = .ok (.iload_n 1, 1) := by decide +kernel
theorem dX3_ruleOf_2 : decode cX3_ruleOf 2 = .ok (.invokevirtual 56, 3) := by decide +kernel
theorem dX3_ruleOf_5 : decode cX3_ruleOf 5 = .ok (.ifCond .eq 17, 3) := by decide +kernel
theorem dX3_ruleOf_8 : decode cX3_ruleOf 8 = .ok (.iload_n 2, 1) := by decide +kernel
theorem dX3_ruleOf_9 : decode cX3_ruleOf 9 = .ok (.ifCond .lt 13, 3) := by decide +kernel
theorem dX3_ruleOf_12 : decode cX3_ruleOf 12 = .ok (.iload_n 2, 1) := by decide +kernel
theorem dX3_ruleOf_13 : decode cX3_ruleOf 13 = .ok (.aload_n 0, 1) := by decide +kernel
theorem dX3_ruleOf_14 : decode cX3_ruleOf 14 = .ok (.getfield 28, 3) := by decide +kernel
theorem dX3_ruleOf_17 : decode cX3_ruleOf 17 = .ok (.iload_n 1, 1) := by decide +kernel
theorem dX3_ruleOf_18 : decode cX3_ruleOf 18 = .ok (.iaload, 1) := by decide +kernel
theorem dX3_ruleOf_19 : decode cX3_ruleOf 19 = .ok (.if_icmp .lt 6, 3) := by decide +kernel
theorem dX3_ruleOf_22 : decode cX3_ruleOf 22 = .ok (.bipush 32, 2) := by decide +kernel
theorem dX3_ruleOf_24 : decode cX3_ruleOf 24 = .ok (.ireturn, 1) := by decide +kernel
theorem dX3_ruleOf_25 : decode cX3_ruleOf 25 = .ok (.aload_n 0, 1) := by decide +kernel
theorem dX3_ruleOf_26 : decode cX3_ruleOf 26 = .ok (.getfield 25, 3) := by decide +kernel
theorem dX3_ruleOf_29 : decode cX3_ruleOf 29 = .ok (.iload_n 1, 1) := by decide +kernel
theorem dX3_ruleOf_30 : decode cX3_ruleOf 30 = .ok (.bipush 6, 2) := by decide +kernel
theorem dX3_ruleOf_32 : decode cX3_ruleOf 32 = .ok (.imul, 1) := by decide +kernel
theorem dX3_ruleOf_33 : decode cX3_ruleOf 33 = .ok (.iload_n 2, 1) := by decide +kernel
theorem dX3_ruleOf_34 : decode cX3_ruleOf 34 = .ok (.iadd, 1) := by decide +kernel
theorem dX3_ruleOf_35 : decode cX3_ruleOf 35 = .ok (.caload, 1) := by decide +kernel
theorem dX3_ruleOf_36 : decode cX3_ruleOf 36 = .ok (.ireturn, 1) := by decide +kernel
theorem kd_3_ruleOf : Cond.code yX3_ruleOf cX3_ruleOf 3 (some .char) ∈ lw_g := mt_at 513 (by decide +kernel) rfl
theorem ki_3_ruleOf : Cond.instanceMethod yX3_ruleOf ∈ lw_g := mt_at 511 (by decide +kernel) rfl
theorem kl_3_ruleOf : Cond.selects (kRn 3) yX3_ruleOf yX3_ruleOf ∈ lw_g := mt_at 512 (by decide +kernel) rfl
theorem cw3_56 : cCw RX3 56 yX3_has cX3_has 2 (some .boolean) 1 := ⟨kd_3_has, mt_at 514 (by decide +kernel) rfl, mt_at 2 (by decide +kernel) rfl, by decide +kernel⟩
section
variable {p : Program} {l : Launch} {e : Env} {R : Room} {s : State} {m : MethodId} {args : Array Value} {below : List Frame} {meth : Method} {c : Code} {D : cG} {S : cSt} {r : Int32}
noncomputable def fk_3_ruleOf_22 (S : cSt) : Option (Int32) :=
ckp (vp_nar .char (32 : Int32) = (32 : Int32)) (some (32 : Int32))
set_option maxRecDepth 100000 in
set_option maxHeartbeats 4000000 in
theorem wk_3_ruleOf_22 (C : cY p R s m args meth c RX3 cX3_ruleOf 3 1 0 0 21 (some .char)) (X : cX D s) (hW : cW D S s.heap) : ∀ {ls : Array Slot}, fk_3_ruleOf_22 S = some r → lv_has ls 3 [] → W p l e R s m args below meth c s.heap [] 0 0 (MQ below (kQ (some (.int r))) args s 0 0 mNo) (F0 m 22 ls []) := by
  intro ls h hl
  unfold fk_3_ruleOf_22 at h
  refine lv_bipush (v := 32) C.1 C.2.1 dX3_ruleOf_22 (by decide) ?_
  obtain ⟨hnr, h⟩ := ckp_ok h
  cases h
  exact c_retn C (congrArg Value.int hnr) rfl rfl dX3_ruleOf_24
noncomputable def fk_3_ruleOf (S : cSt) (v0 : Nat) (v1 : Int32) (v2 : Int32) : Option (Int32) :=
ckk S v0 4 (bd (fk_3_has S v0 v1) fun r1 =>
if r1 = 0 then (
fk_3_ruleOf_22 S)
else (
if v2 < 0 then (
fk_3_ruleOf_22 S)
else (
ckk S v0 4 (bd (kR S v0 5) fun a4 =>
ckk S a4 20 (ck v1 (kL S a4) (
if v2 < (kI S a4 (Int32.toNatClampNeg v1)) then (
ckk S v0 4 (bd (kR S v0 4) fun a6 =>
ckk S a6 22 (ck ((v1 * (6 : Int32)) + v2) (kL S a6) (
ckp (vp_nar .char (kI S a6 (Int32.toNatClampNeg ((v1 * (6 : Int32)) + v2))) = (kI S a6 (Int32.toNatClampNeg ((v1 * (6 : Int32)) + v2)))) (some (kI S a6 (Int32.toNatClampNeg ((v1 * (6 : Int32)) + v2))))))))
else (
fk_3_ruleOf_22 S)))))))
set_option maxRecDepth 100000 in
set_option maxHeartbeats 4000000 in
theorem tk_3_ruleOf (l : Launch) {D : cG} {S : cSt} {v0 : Nat} {v1 : Int32} {v2 : Int32} {r : Int32}  (h : fk_3_ruleOf S v0 v1 v2 = some r) : Met l yX3_ruleOf (Cond.code yX3_ruleOf cX3_ruleOf 3 (some .char) :: lw_g) { frames := 1, cells := 0, slots := 0, locals := 21 } (kPi [.ref v0, .int v1, .int v2] D S) (kQ (some (.int r))) 0 0 (mNo) := by
  refine Met.ofW (cc := cX3_ruleOf) (maxL := 3) (ret := (some .char)) (by decide) rfl ?_
  intro p e s m args below meth c s₁ B hml hv
  obtain ⟨rfl, hW, X⟩ := hv
  have C : cY p (headSpec (Cond.code yX3_ruleOf cX3_ruleOf 3 (some .char) :: lw_g) { frames := 1, cells := 0, slots := 0, locals := 21 }).room s m _ meth c RX3 cX3_ruleOf 3 1 0 0 21 (some .char) := ⟨B.exec, B.bytes, hml, findClass_of_methodNamed B.named, fun w hw => atoms_spec (ws := Cond.code yX3_ruleOf cX3_ruleOf 3 (some .char) :: lw_g) B.pre w (List.mem_cons_of_mem _ hw), ⟨Nat.le_refl _, Nat.le_refl _, Nat.le_refl _, Nat.le_refl _⟩, B.returns, B.notSynchronized⟩
  have hl := lv_entry ([.ref v0, .int v1, .int v2]) (n := 3) (Nat.le_of_ble_eq_true rfl)
  rw [lg_entry_eq]
  generalize (lg_sl ([.ref v0, .int v1, .int v2]) ++ List.replicate (3 - (lg_sl ([.ref v0, .int v1, .int v2])).length) Slot.unset).toArray = ls at hl ⊢
  have hl : lv_has ls 3 [(0, .ref v0), (1, .int v1), (2, .int v2)] := hl
  unfold fk_3_ruleOf at h
  refine lv_aload_n C.1 C.2.1 dX3_ruleOf_0 rfl (lv_at hl 0 rfl) ?_
  refine lv_iload_n C.1 C.2.1 dX3_ruleOf_1 rfl (lv_at hl 1 rfl) ?_
  obtain ⟨hk, h⟩ := ckk_ok h
  obtain ⟨r1, h_r1, h⟩ := bd_ok h
  refine c_callR (rest := []) C X hW hl.1 3 (by decide) hk [.int v1] (tk_3_has l h_r1) cw3_56 ki_3_has kl_3_has rfl ⟨by decide, by decide⟩ ⟨(by decide), (by decide)⟩ rfl (Nat.le_of_ble_eq_true rfl) dX3_ruleOf_2 ?_
  refine W.eq (g2 := F0 m 5 ls [.int r1]) rfl ?_
  refine lv_if_eq (tgt := 22) C.1 C.2.1 dX3_ruleOf_5 (by decide) (fun c2 => ?_) (fun c2 => ?_)
  · have h := if_t h c2
    exact wk_3_ruleOf_22 C X hW h (lv_sub hl [] rfl)
  · have h := if_f h c2
    refine lv_iload_n C.1 C.2.1 dX3_ruleOf_8 rfl (lv_at hl 2 rfl) ?_
    refine lv_if_lt (tgt := 22) C.1 C.2.1 dX3_ruleOf_9 (by decide) (fun c3 => ?_) (fun c3 => ?_)
    · have h := if_t h c3
      exact wk_3_ruleOf_22 C X hW h (lv_sub hl [] rfl)
    · have h := if_f h c3
      refine lv_iload_n C.1 C.2.1 dX3_ruleOf_12 rfl (lv_at hl 2 rfl) ?_
      refine lv_aload_n C.1 C.2.1 dX3_ruleOf_13 rfl (lv_at hl 0 rfl) ?_
      obtain ⟨hk, h⟩ := ckk_ok h
      obtain ⟨a4, h_a4, h⟩ := bd_ok h
      refine gk3_28 C X hW hk h_a4 dX3_ruleOf_14 ?_
      refine lv_iload_n C.1 C.2.1 dX3_ruleOf_17 rfl (lv_at hl 1 rfl) ?_
      obtain ⟨hk, h⟩ := ckk_ok h
      obtain ⟨hin2, h⟩ := ck_ok h
      refine c_iald C X hW hk hin2 dX3_ruleOf_18 ?_
      refine lv_icmp_lt (tgt := 25) C.1 C.2.1 dX3_ruleOf_19 (by decide) (fun c5 => ?_) (fun c5 => ?_)
      · have h := if_t h c5
        refine lv_aload_n C.1 C.2.1 dX3_ruleOf_25 rfl (lv_at hl 0 rfl) ?_
        obtain ⟨hk, h⟩ := ckk_ok h
        obtain ⟨a6, h_a6, h⟩ := bd_ok h
        refine gk3_25 C X hW hk h_a6 dX3_ruleOf_26 ?_
        refine lv_iload_n C.1 C.2.1 dX3_ruleOf_29 rfl (lv_at hl 1 rfl) ?_
        refine lv_bipush (v := 6) C.1 C.2.1 dX3_ruleOf_30 (by decide) ?_
        refine lv_imul C.1 C.2.1 dX3_ruleOf_32 ?_
        refine lv_iload_n C.1 C.2.1 dX3_ruleOf_33 rfl (lv_at hl 2 rfl) ?_
        refine lv_iadd C.1 C.2.1 dX3_ruleOf_34 ?_
        obtain ⟨hk, h⟩ := ckk_ok h
        obtain ⟨hin2, h⟩ := ck_ok h
        refine c_cald C X hW hk hin2 dX3_ruleOf_35 ?_
        obtain ⟨hnr, h⟩ := ckp_ok h
        cases h
        exact c_retn C (congrArg Value.int hnr) rfl rfl dX3_ruleOf_36
      · have h := if_f h c5
        exact wk_3_ruleOf_22 C X hW h (lv_sub hl [] rfl)
end
theorem dX4_init_0 : decode cX4_init 0 = .ok (.aload_n 0, 1) := by decide +kernel
theorem dX4_init_1 : decode cX4_init 1 = .ok (.invokespecial 3, 3) := by decide +kernel
theorem dX4_init_4 : decode cX4_init 4 = .ok (.aload_n 0, 1) := by decide +kernel
theorem dX4_init_5 : decode cX4_init 5 = .ok (.sipush 1000, 3) := by decide +kernel
theorem dX4_init_8 : decode cX4_init 8 = .ok (.newarray .int, 2) := by decide +kernel
theorem dX4_init_10 : decode cX4_init 10 = .ok (.putfield 9, 3) := by decide +kernel
theorem dX4_init_13 : decode cX4_init 13 = .ok (.aload_n 0, 1) := by decide +kernel
theorem dX4_init_14 : decode cX4_init 14 = .ok (.sipush 1000, 3) := by decide +kernel
theorem dX4_init_17 : decode cX4_init 17 = .ok (.newarray .int, 2) := by decide +kernel
theorem dX4_init_19 : decode cX4_init 19 = .ok (.putfield 15, 3) := by decide +kernel
theorem dX4_init_22 : decode cX4_init 22 = .ok (.aload_n 0, 1) := by decide +kernel
theorem dX4_init_23 : decode cX4_init 23 = .ok (.sipush 1000, 3) := by decide +kernel
theorem dX4_init_26 : decode cX4_init 26 = .ok (.newarray .int, 2) := by decide +kernel
theorem dX4_init_28 : decode cX4_init 28 = .ok (.putfield 18, 3) := by decide +kernel
theorem dX4_init_31 : decode cX4_init 31 = .ok (.aload_n 0, 1) := by decide +kernel
theorem dX4_init_32 : decode cX4_init 32 = .ok (.sipush 1000, 3) := by decide +kernel
theorem dX4_init_35 : decode cX4_init 35 = .ok (.anewarray 21, 3) := by decide +kernel
theorem dX4_init_38 : decode cX4_init 38 = .ok (.putfield 23, 3) := by decide +kernel
theorem dX4_init_41 : decode cX4_init 41 = .ok (.aload_n 0, 1) := by decide +kernel
theorem dX4_init_42 : decode cX4_init 42 = .ok (.sipush 1000, 3) := by decide +kernel
theorem dX4_init_45 : decode cX4_init 45 = .ok (.anewarray 21, 3) := by decide +kernel
theorem dX4_init_48 : decode cX4_init 48 = .ok (.putfield 27, 3) := by decide +kernel
theorem dX4_init_51 : decode cX4_init 51 = .ok (.aload_n 0, 1) := by decide +kernel
theorem dX4_init_52 : decode cX4_init 52 = .ok (.sipush 385, 3) := by decide +kernel
theorem dX4_init_55 : decode cX4_init 55 = .ok (.anewarray 21, 3) := by decide +kernel
theorem dX4_init_58 : decode cX4_init 58 = .ok (.putfield 30, 3) := by decide +kernel
theorem dX4_init_61 : decode cX4_init 61 = .ok (.aload_n 0, 1) := by decide +kernel
theorem dX4_init_62 : decode cX4_init 62 = .ok (.sipush 385, 3) := by decide +kernel
theorem dX4_init_65 : decode cX4_init 65 = .ok (.anewarray 21, 3) := by decide +kernel
theorem dX4_init_68 : decode cX4_init 68 = .ok (.putfield 33, 3) := by decide +kernel
theorem dX4_init_71 : decode cX4_init 71 = .ok (.aload_n 0, 1) := by decide +kernel
theorem dX4_init_72 : decode cX4_init 72 = .ok (.iconst 0, 1) := by decide +kernel
theorem dX4_init_73 : decode cX4_init 73 = .ok (.putfield 36, 3) := by decide +kernel
theorem dX4_init_76 : decode cX4_init 76 = .ok (.aload_n 0, 1) := by decide +kernel
theorem dX4_init_77 : decode cX4_init 77 = .ok (.aload_n 1, 1) := by decide +kernel
theorem dX4_init_78 : decode cX4_init 78 = .ok (.putfield 40, 3) := by decide +kernel
theorem dX4_init_81 : decode cX4_init 81 = .ok (.return_, 1) := by decide +kernel
theorem kd_4_init : Cond.code yX4_init cX4_init 2 none ∈ lw_g := mt_at 223 (by decide +kernel) rfl
theorem ki_4_init : Cond.instanceMethod yX4_init ∈ lw_g := mt_at 222 (by decide +kernel) rfl
theorem oi4 : Cond.methodLink RX4 3 objectInit ∈ lw_g := mt_at 224 (by decide +kernel) rfl
theorem cl4_21 : Cond.classLink RX4 21 RX8 ∈ lw_g := mt_at 225 (by decide +kernel) rfl
section
variable {p : Program} {l : Launch} {e : Env} {R : Room} {s : State} {m : MethodId} {args : Array Value} {below : List Frame} {meth : Method} {c : Code} {H : Heap} {locs : List Loc} {cells slots : Nat} {Q : State → Prop}
variable {D : cG} {S S0 : cSt} {cc : ByteArray} {nL : Nat} {pc : Nat} {ls : Array Slot} {rest : List Value} {H0 : Heap} {nF nR nC nS : Nat} {ret : Option FieldType} {a : Nat}
theorem pk4_9 {o : Option Nat} (C : cY p R s m args meth c RX4 cc nL nF nC nS nR ret) (hin : meth.name = "<init>") (X : cX D s) (hJ : cJ D S0 H0 S H locs) (hk : kK S a = 5) (hdg : decode cc pc = .ok (.putfield 9, 3)) (kk : ∀ (H1 : Heap) (locs1 : List Loc), cJ D S0 H0 (cPr S a 0 o) H1 locs1 → W p l e R s m args below meth c H1 locs1 cells slots Q (F0 m (pc + 3) ls (rest))) : W p l e R s m args below meth c H locs cells slots Q (F0 m pc ls (va_rf o :: .ref a :: rest)) := c_putF (S1 := (cPr S a 0 o)) C X hJ 4 (by decide) ly_4 hk 0 (by decide) (by decide +kernel) hin rfl nar_ra fit_ra (by decide) rfl rfl (fun j _ => c_vR (by decide +kernel)) c_oPr (mt_at 226 (by decide +kernel) (by decide +kernel)) hdg kk
theorem pk4_15 {o : Option Nat} (C : cY p R s m args meth c RX4 cc nL nF nC nS nR ret) (hin : meth.name = "<init>") (X : cX D s) (hJ : cJ D S0 H0 S H locs) (hk : kK S a = 5) (hdg : decode cc pc = .ok (.putfield 15, 3)) (kk : ∀ (H1 : Heap) (locs1 : List Loc), cJ D S0 H0 (cPr S a 1 o) H1 locs1 → W p l e R s m args below meth c H1 locs1 cells slots Q (F0 m (pc + 3) ls (rest))) : W p l e R s m args below meth c H locs cells slots Q (F0 m pc ls (va_rf o :: .ref a :: rest)) := c_putF (S1 := (cPr S a 1 o)) C X hJ 4 (by decide) ly_4 hk 1 (by decide) (by decide +kernel) hin rfl nar_ra fit_ra (by decide) rfl rfl (fun j _ => c_vR (by decide +kernel)) c_oPr (mt_at 228 (by decide +kernel) (by decide +kernel)) hdg kk
theorem pk4_18 {o : Option Nat} (C : cY p R s m args meth c RX4 cc nL nF nC nS nR ret) (hin : meth.name = "<init>") (X : cX D s) (hJ : cJ D S0 H0 S H locs) (hk : kK S a = 5) (hdg : decode cc pc = .ok (.putfield 18, 3)) (kk : ∀ (H1 : Heap) (locs1 : List Loc), cJ D S0 H0 (cPr S a 2 o) H1 locs1 → W p l e R s m args below meth c H1 locs1 cells slots Q (F0 m (pc + 3) ls (rest))) : W p l e R s m args below meth c H locs cells slots Q (F0 m pc ls (va_rf o :: .ref a :: rest)) := c_putF (S1 := (cPr S a 2 o)) C X hJ 4 (by decide) ly_4 hk 2 (by decide) (by decide +kernel) hin rfl nar_ra fit_ra (by decide) rfl rfl (fun j _ => c_vR (by decide +kernel)) c_oPr (mt_at 231 (by decide +kernel) (by decide +kernel)) hdg kk
theorem pk4_23 {o : Option Nat} (C : cY p R s m args meth c RX4 cc nL nF nC nS nR ret) (hin : meth.name = "<init>") (X : cX D s) (hJ : cJ D S0 H0 S H locs) (hk : kK S a = 5) (hdg : decode cc pc = .ok (.putfield 23, 3)) (kk : ∀ (H1 : Heap) (locs1 : List Loc), cJ D S0 H0 (cPr S a 3 o) H1 locs1 → W p l e R s m args below meth c H1 locs1 cells slots Q (F0 m (pc + 3) ls (rest))) : W p l e R s m args below meth c H locs cells slots Q (F0 m pc ls (va_rf o :: .ref a :: rest)) := c_putF (S1 := (cPr S a 3 o)) C X hJ 4 (by decide) ly_4 hk 3 (by decide) (by decide +kernel) hin rfl nar_ra fit_ra (by decide) rfl rfl (fun j _ => c_vR (by decide +kernel)) c_oPr (mt_at 233 (by decide +kernel) (by decide +kernel)) hdg kk
theorem pk4_27 {o : Option Nat} (C : cY p R s m args meth c RX4 cc nL nF nC nS nR ret) (hin : meth.name = "<init>") (X : cX D s) (hJ : cJ D S0 H0 S H locs) (hk : kK S a = 5) (hdg : decode cc pc = .ok (.putfield 27, 3)) (kk : ∀ (H1 : Heap) (locs1 : List Loc), cJ D S0 H0 (cPr S a 4 o) H1 locs1 → W p l e R s m args below meth c H1 locs1 cells slots Q (F0 m (pc + 3) ls (rest))) : W p l e R s m args below meth c H locs cells slots Q (F0 m pc ls (va_rf o :: .ref a :: rest)) := c_putF (S1 := (cPr S a 4 o)) C X hJ 4 (by decide) ly_4 hk 4 (by decide) (by decide +kernel) hin rfl nar_ra fit_ra (by decide) rfl rfl (fun j _ => c_vR (by decide +kernel)) c_oPr (mt_at 235 (by decide +kernel) (by decide +kernel)) hdg kk
theorem pk4_30 {o : Option Nat} (C : cY p R s m args meth c RX4 cc nL nF nC nS nR ret) (hin : meth.name = "<init>") (X : cX D s) (hJ : cJ D S0 H0 S H locs) (hk : kK S a = 5) (hdg : decode cc pc = .ok (.putfield 30, 3)) (kk : ∀ (H1 : Heap) (locs1 : List Loc), cJ D S0 H0 (cPr S a 5 o) H1 locs1 → W p l e R s m args below meth c H1 locs1 cells slots Q (F0 m (pc + 3) ls (rest))) : W p l e R s m args below meth c H locs cells slots Q (F0 m pc ls (va_rf o :: .ref a :: rest)) := c_putF (S1 := (cPr S a 5 o)) C X hJ 4 (by decide) ly_4 hk 5 (by decide) (by decide +kernel) hin rfl nar_ra fit_ra (by decide) rfl rfl (fun j _ => c_vR (by decide +kernel)) c_oPr (mt_at 238 (by decide +kernel) (by decide +kernel)) hdg kk
theorem pk4_33 {o : Option Nat} (C : cY p R s m args meth c RX4 cc nL nF nC nS nR ret) (hin : meth.name = "<init>") (X : cX D s) (hJ : cJ D S0 H0 S H locs) (hk : kK S a = 5) (hdg : decode cc pc = .ok (.putfield 33, 3)) (kk : ∀ (H1 : Heap) (locs1 : List Loc), cJ D S0 H0 (cPr S a 6 o) H1 locs1 → W p l e R s m args below meth c H1 locs1 cells slots Q (F0 m (pc + 3) ls (rest))) : W p l e R s m args below meth c H locs cells slots Q (F0 m pc ls (va_rf o :: .ref a :: rest)) := c_putF (S1 := (cPr S a 6 o)) C X hJ 4 (by decide) ly_4 hk 6 (by decide) (by decide +kernel) hin rfl nar_ra fit_ra (by decide) rfl rfl (fun j _ => c_vR (by decide +kernel)) c_oPr (mt_at 241 (by decide +kernel) (by decide +kernel)) hdg kk
theorem pk4_36 {x : Int32} (C : cY p R s m args meth c RX4 cc nL nF nC nS nR ret) (X : cX D s) (hJ : cJ D S0 H0 S H locs) (hk : kK S a = 5) (hdg : decode cc pc = .ok (.putfield 36, 3)) (kk : ∀ (H1 : Heap) (locs1 : List Loc), cJ D S0 H0 (cPi S a 7 x) H1 locs1 → W p l e R s m args below meth c H1 locs1 cells slots Q (F0 m (pc + 3) ls (rest))) : W p l e R s m args below meth c H locs cells slots Q (F0 m pc ls (.int x :: .ref a :: rest)) := c_put (S1 := (cPi S a 7 x)) C X hJ 4 (by decide) ly_4 hk 7 (by decide) (by decide +kernel)  rfl rfl (by decide) rfl rfl (fun j _ => c_vI (by decide +kernel)) c_oPi (mt_at 243 (by decide +kernel) (by decide +kernel)) hdg kk
theorem pk4_40 {o : Option Nat} (C : cY p R s m args meth c RX4 cc nL nF nC nS nR ret) (hin : meth.name = "<init>") (X : cX D s) (hJ : cJ D S0 H0 S H locs) (hk : kK S a = 5) (hdg : decode cc pc = .ok (.putfield 40, 3)) (kk : ∀ (H1 : Heap) (locs1 : List Loc), cJ D S0 H0 (cPr S a 8 o) H1 locs1 → W p l e R s m args below meth c H1 locs1 cells slots Q (F0 m (pc + 3) ls (rest))) : W p l e R s m args below meth c H locs cells slots Q (F0 m pc ls (va_rf o :: .ref a :: rest)) := c_putF (S1 := (cPr S a 8 o)) C X hJ 4 (by decide) ly_4 hk 8 (by decide) (by decide +kernel) hin rfl nar_rf fit_rf (by decide) rfl rfl (fun j _ => c_vR (by decide +kernel)) c_oPr (mt_at 245 (by decide +kernel) (by decide +kernel)) hdg kk
end
section
variable {p : Program} {l : Launch} {e : Env} {R : Room} {s : State} {m : MethodId} {args : Array Value} {below : List Frame} {meth : Method} {c : Code} {D : cG} {S0 S9 : cSt}
noncomputable def fk_4_init (S : cSt) (v0 : Nat) (v1 : Nat) : Option (cSt) :=
lt (kZ S) fun a2 => lt (cNw S 20 1000) fun S1 =>
ckk S1 v0 5 (lt (cPr S1 v0 0 (some a2)) fun S3 =>
lt (kZ S3) fun a5 => lt (cNw S3 20 1000) fun S4 =>
ckk S4 v0 5 (lt (cPr S4 v0 1 (some a5)) fun S6 =>
lt (kZ S6) fun a8 => lt (cNw S6 20 1000) fun S7 =>
ckk S7 v0 5 (lt (cPr S7 v0 2 (some a8)) fun S10 =>
lt (kZ S10) fun a12 => lt (cNw S10 30 1000) fun S11 =>
ckk S11 v0 5 (lt (cPr S11 v0 3 (some a12)) fun S13 =>
lt (kZ S13) fun a15 => lt (cNw S13 30 1000) fun S14 =>
ckk S14 v0 5 (lt (cPr S14 v0 4 (some a15)) fun S16 =>
lt (kZ S16) fun a18 => lt (cNw S16 30 385) fun S17 =>
ckk S17 v0 5 (lt (cPr S17 v0 5 (some a18)) fun S19 =>
lt (kZ S19) fun a21 => lt (cNw S19 30 385) fun S20 =>
ckk S20 v0 5 (lt (cPr S20 v0 6 (some a21)) fun S22 =>
ckk S22 v0 5 (lt (cPi S22 v0 7 (0 : Int32)) fun S23 =>
ckk S23 v0 5 (lt (cPr S23 v0 8 (some v1)) fun S24 =>
some S24)))))))))
set_option maxRecDepth 100000 in
set_option maxHeartbeats 4000000 in
theorem tk_4_init (l : Launch) {D : cG} {S : cSt} {v0 : Nat} {v1 : Nat} {S9 : cSt} (h : fk_4_init S v0 v1 = some S9) : Met l yX4_init (Cond.code yX4_init cX4_init 2 none :: lw_g) { frames := 2, cells := 7, slots := 5770, locals := 60 } (kPi [.ref v0, .ref v1] D S) (kW none D S S9) 7 5770 (cA S) := by
  refine Met.ofW (cc := cX4_init) (maxL := 2) (ret := none) (by decide) rfl ?_
  intro p e s m args below meth c s₁ B hml hv
  obtain ⟨rfl, hW, X⟩ := hv
  have C : cY p (headSpec (Cond.code yX4_init cX4_init 2 none :: lw_g) { frames := 2, cells := 7, slots := 5770, locals := 60 }).room s m _ meth c RX4 cX4_init 2 2 7 5770 60 none := ⟨B.exec, B.bytes, hml, findClass_of_methodNamed B.named, fun w hw => atoms_spec (ws := Cond.code yX4_init cX4_init 2 none :: lw_g) B.pre w (List.mem_cons_of_mem _ hw), ⟨Nat.le_refl _, Nat.le_refl _, Nat.le_refl _, Nat.le_refl _⟩, B.returns, B.notSynchronized⟩
  have hin : meth.name = "<init>" := (name_of_methodNamed B.named B.method).1
  have hl := lv_entry ([.ref v0, .ref v1]) (n := 2) (Nat.le_of_ble_eq_true rfl)
  rw [lg_entry_eq]
  generalize (lg_sl ([.ref v0, .ref v1]) ++ List.replicate (2 - (lg_sl ([.ref v0, .ref v1])).length) Slot.unset).toArray = ls at hl ⊢
  have hl : lv_has ls 2 [(0, .ref v0), (1, .ref v1)] := hl
  have hJ : cJ D S s.heap S s.heap [] := cJ.rf hW
  unfold fk_4_init at h
  refine lv_aload_n C.1 C.2.1 dX4_init_0 rfl (lv_at hl 0 rfl) ?_
  refine W.objInit C.1 C.2.1 C.2.2.2.1 (C.2.2.2.2.1 _ oi4) (C.2.2.2.2.1 _ oi_i) (C.2.2.2.2.1 _ oi_c) rfl (by rw [C.2.2.1]; exact hl.1) rfl dX4_init_1 (Nat.le_trans (by decide) C.2.2.2.2.2.1.1) (Nat.le_trans (Nat.le_of_ble_eq_true rfl) C.2.2.2.2.2.1.2.2.2) ?_
  refine W.eq (g2 := F0 m 4 ls []) rfl ?_
  refine lv_aload_n C.1 C.2.1 dX4_init_4 rfl (lv_at hl 0 rfl) ?_
  refine lv_sipush (v := 1000) C.1 C.2.1 dX4_init_5 (by decide) ?_
  refine c_newa (N := 1000) C hJ 20 (by decide) (by decide) X.2.1 rfl id rfl ar_20 (by decide) (by decide) (by decide) (by decide) (by decide) dX4_init_8 (fun H hJ => ?_)
  refine lt_ok h (fun a2 e_a2 h => ?_)
  refine lt_ok h (fun S1 e_S1 h => ?_)
  rw [e_S1] at hJ
  rw [e_a2]
  obtain ⟨hk, h⟩ := ckk_ok h
  refine pk4_9 (o := (some a2)) C hin X hJ hk dX4_init_10 (fun H locs hJ => ?_)
  refine lt_ok h (fun S3 e_S3 h => ?_)
  rw [e_S3] at hJ
  refine lv_aload_n C.1 C.2.1 dX4_init_13 rfl (lv_at hl 0 rfl) ?_
  refine lv_sipush (v := 1000) C.1 C.2.1 dX4_init_14 (by decide) ?_
  refine c_newa (N := 1000) C hJ 20 (by decide) (by decide) X.2.1 rfl id rfl ar_20 (by decide) (by decide) (by decide) (by decide) (by decide) dX4_init_17 (fun H hJ => ?_)
  refine lt_ok h (fun a5 e_a5 h => ?_)
  refine lt_ok h (fun S4 e_S4 h => ?_)
  rw [e_S4] at hJ
  rw [e_a5]
  obtain ⟨hk, h⟩ := ckk_ok h
  refine pk4_15 (o := (some a5)) C hin X hJ hk dX4_init_19 (fun H locs hJ => ?_)
  refine lt_ok h (fun S6 e_S6 h => ?_)
  rw [e_S6] at hJ
  refine lv_aload_n C.1 C.2.1 dX4_init_22 rfl (lv_at hl 0 rfl) ?_
  refine lv_sipush (v := 1000) C.1 C.2.1 dX4_init_23 (by decide) ?_
  refine c_newa (N := 1000) C hJ 20 (by decide) (by decide) X.2.1 rfl id rfl ar_20 (by decide) (by decide) (by decide) (by decide) (by decide) dX4_init_26 (fun H hJ => ?_)
  refine lt_ok h (fun a8 e_a8 h => ?_)
  refine lt_ok h (fun S7 e_S7 h => ?_)
  rw [e_S7] at hJ
  rw [e_a8]
  obtain ⟨hk, h⟩ := ckk_ok h
  refine pk4_18 (o := (some a8)) C hin X hJ hk dX4_init_28 (fun H locs hJ => ?_)
  refine lt_ok h (fun S10 e_S10 h => ?_)
  rw [e_S10] at hJ
  refine lv_aload_n C.1 C.2.1 dX4_init_31 rfl (lv_at hl 0 rfl) ?_
  refine lv_sipush (v := 1000) C.1 C.2.1 dX4_init_32 (by decide) ?_
  refine c_anew (N := 1000) C hJ 30 (by decide) X.2.2.2.2.1 cl4_21 X.2.2.2.2.2.2.2.1.1 (by decide) (by decide) (by decide) (by decide) (by decide) dX4_init_35 (fun H hJ => ?_)
  refine lt_ok h (fun a12 e_a12 h => ?_)
  refine lt_ok h (fun S11 e_S11 h => ?_)
  rw [e_S11] at hJ
  rw [e_a12]
  obtain ⟨hk, h⟩ := ckk_ok h
  refine pk4_23 (o := (some a12)) C hin X hJ hk dX4_init_38 (fun H locs hJ => ?_)
  refine lt_ok h (fun S13 e_S13 h => ?_)
  rw [e_S13] at hJ
  refine lv_aload_n C.1 C.2.1 dX4_init_41 rfl (lv_at hl 0 rfl) ?_
  refine lv_sipush (v := 1000) C.1 C.2.1 dX4_init_42 (by decide) ?_
  refine c_anew (N := 1000) C hJ 30 (by decide) X.2.2.2.2.1 cl4_21 X.2.2.2.2.2.2.2.1.1 (by decide) (by decide) (by decide) (by decide) (by decide) dX4_init_45 (fun H hJ => ?_)
  refine lt_ok h (fun a15 e_a15 h => ?_)
  refine lt_ok h (fun S14 e_S14 h => ?_)
  rw [e_S14] at hJ
  rw [e_a15]
  obtain ⟨hk, h⟩ := ckk_ok h
  refine pk4_27 (o := (some a15)) C hin X hJ hk dX4_init_48 (fun H locs hJ => ?_)
  refine lt_ok h (fun S16 e_S16 h => ?_)
  rw [e_S16] at hJ
  refine lv_aload_n C.1 C.2.1 dX4_init_51 rfl (lv_at hl 0 rfl) ?_
  refine lv_sipush (v := 385) C.1 C.2.1 dX4_init_52 (by decide) ?_
  refine c_anew (N := 385) C hJ 30 (by decide) X.2.2.2.2.1 cl4_21 X.2.2.2.2.2.2.2.1.1 (by decide) (by decide) (by decide) (by decide) (by decide) dX4_init_55 (fun H hJ => ?_)
  refine lt_ok h (fun a18 e_a18 h => ?_)
  refine lt_ok h (fun S17 e_S17 h => ?_)
  rw [e_S17] at hJ
  rw [e_a18]
  obtain ⟨hk, h⟩ := ckk_ok h
  refine pk4_30 (o := (some a18)) C hin X hJ hk dX4_init_58 (fun H locs hJ => ?_)
  refine lt_ok h (fun S19 e_S19 h => ?_)
  rw [e_S19] at hJ
  refine lv_aload_n C.1 C.2.1 dX4_init_61 rfl (lv_at hl 0 rfl) ?_
  refine lv_sipush (v := 385) C.1 C.2.1 dX4_init_62 (by decide) ?_
  refine c_anew (N := 385) C hJ 30 (by decide) X.2.2.2.2.1 cl4_21 X.2.2.2.2.2.2.2.1.1 (by decide) (by decide) (by decide) (by decide) (by decide) dX4_init_65 (fun H hJ => ?_)
  refine lt_ok h (fun a21 e_a21 h => ?_)
  refine lt_ok h (fun S20 e_S20 h => ?_)
  rw [e_S20] at hJ
  rw [e_a21]
  obtain ⟨hk, h⟩ := ckk_ok h
  refine pk4_33 (o := (some a21)) C hin X hJ hk dX4_init_68 (fun H locs hJ => ?_)
  refine lt_ok h (fun S22 e_S22 h => ?_)
  rw [e_S22] at hJ
  refine lv_aload_n C.1 C.2.1 dX4_init_71 rfl (lv_at hl 0 rfl) ?_
  refine lv_iconst (v := 0) C.1 C.2.1 dX4_init_72 (by decide) ?_
  obtain ⟨hk, h⟩ := ckk_ok h
  refine pk4_36 C X hJ hk dX4_init_73 (fun H locs hJ => ?_)
  refine lt_ok h (fun S23 e_S23 h => ?_)
  rw [e_S23] at hJ
  refine lv_aload_n C.1 C.2.1 dX4_init_76 rfl (lv_at hl 0 rfl) ?_
  refine lv_aload_n C.1 C.2.1 dX4_init_77 rfl (lv_at hl 1 rfl) ?_
  obtain ⟨hk, h⟩ := ckk_ok h
  refine pk4_40 (o := (some v1)) C hin X hJ hk dX4_init_78 (fun H locs hJ => ?_)
  refine lt_ok h (fun S24 e_S24 h => ?_)
  rw [e_S24] at hJ
  cases h
  exact c_retvW C hJ dX4_init_81
end
theorem dX4_has_0 : decode cX4_has 0 = .ok (.aload_n 0, 1) := by decide +kernel
theorem dX4_has_1 : decode cX4_has 1 = .ok (.getfield 15, 3) := by decide +kernel
theorem dX4_has_4 : decode cX4_has 4 = .ok (.aload_n 1, 1) := by decide +kernel
theorem dX4_has_5 : decode cX4_has 5 = .ok (.getfield 44, 3) := by decide +kernel
theorem dX4_has_8 : decode cX4_has 8 = .ok (.iaload, 1) := by decide +kernel
theorem dX4_has_9 : decode cX4_has 9 = .ok (.ifCond .le 7, 3) := by decide +kernel
theorem dX4_has_12 : decode cX4_has 12 = .ok (.iconst 1, 1) := by decide +kernel
theorem dX4_has_13 : decode cX4_has 13 = .ok (.goto 4, 3) := by decide +kernel
theorem dX4_has_16 : decode cX4_has 16 = .ok (.iconst 0, 1) := by decide +kernel
theorem dX4_has_17 : decode cX4_has 17 = .ok (.ireturn, 1) := by decide +kernel
theorem kd_4_has : Cond.code yX4_has cX4_has 2 (some .boolean) ∈ lw_g := mt_at 1137 (by decide +kernel) rfl
theorem ki_4_has : Cond.instanceMethod yX4_has ∈ lw_g := mt_at 1135 (by decide +kernel) rfl
theorem kl_4_has : Cond.selects (kRn 4) yX4_has yX4_has ∈ lw_g := mt_at 1136 (by decide +kernel) rfl
section
variable {p : Program} {l : Launch} {e : Env} {R : Room} {s : State} {m : MethodId} {args : Array Value} {below : List Frame} {meth : Method} {c : Code} {H : Heap} {locs : List Loc} {cells slots : Nat} {Q : State → Prop}
variable {D : cG} {S S0 : cSt} {cc : ByteArray} {nL : Nat} {pc : Nat} {ls : Array Slot} {rest : List Value} {H0 : Heap} {nF nR nC nS : Nat} {ret : Option FieldType} {a : Nat}
theorem gk4_15 (C : cY p R s m args meth c RX4 cc nL nF nC nS nR ret) (X : cX D s) (hW : cW D S H) (hk : kK S a = 5) {x : Nat} (hx : kR S a 1 = some x) (hdg : decode cc pc = .ok (.getfield 15, 3)) (kk : W p l e R s m args below meth c H locs cells slots Q (F0 m (pc + 3) ls (.ref x :: rest))) : W p l e R s m args below meth c H locs cells slots Q (F0 m pc ls (.ref a :: rest)) := c_get C X hW 4 (by decide) ly_4 hk 1 (by decide) (mt_at 228 (by decide +kernel) (by decide +kernel)) hdg (by rw [cV_R (by decide +kernel) hx]; exact kk)
theorem gk4_44 (C : cY p R s m args meth c RX4 cc nL nF nC nS nR ret) (X : cX D s) (hW : cW D S H) (hk : kK S a = 9) (hdg : decode cc pc = .ok (.getfield 44, 3)) (kk : W p l e R s m args below meth c H locs cells slots Q (F0 m (pc + 3) ls (.int (kF S a 12) :: rest))) : W p l e R s m args below meth c H locs cells slots Q (F0 m pc ls (.ref a :: rest)) := c_get C X hW 8 (by decide) ly_8 hk 12 (by decide) (mt_at 1025 (by decide +kernel) (by decide +kernel)) hdg (by rw [cV_I (by decide +kernel)]; exact kk)
end
section
variable {p : Program} {l : Launch} {e : Env} {R : Room} {s : State} {m : MethodId} {args : Array Value} {below : List Frame} {meth : Method} {c : Code} {D : cG} {S : cSt} {r : Int32}
noncomputable def fk_4_has_17 (S : cSt) (s0 : Int32) : Option (Int32) :=
ckz s0 (some s0)
set_option maxRecDepth 100000 in
set_option maxHeartbeats 4000000 in
theorem wk_4_has_17 (C : cY p R s m args meth c RX4 cX4_has 2 0 0 0 0 (some .boolean)) (X : cX D s) (hW : cW D S s.heap) : ∀ {s0 : Int32} {ls : Array Slot}, fk_4_has_17 S s0 = some r → lv_has ls 2 [] → W p l e R s m args below meth c s.heap [] 0 0 (MQ below (kQ (some (.int r))) args s 0 0 mNo) (F0 m 17 ls [.int s0]) := by
  intro s0 ls h hl
  unfold fk_4_has_17 at h
  obtain ⟨hzo, h⟩ := ckz_ok h
  cases h
  exact c_retn C (by rcases hzo with h9 | h9 <;> (rw [h9]; rfl)) rfl rfl dX4_has_17
noncomputable def fk_4_has (S : cSt) (v0 : Nat) (v1 : Nat) : Option (Int32) :=
ckk S v0 5 (bd (kR S v0 1) fun a1 =>
ckk S v1 9 (
ckk S a1 20 (ck (kF S v1 12) (kL S a1) (
if (kI S a1 (Int32.toNatClampNeg (kF S v1 12))) ≤ 0 then (
fk_4_has_17 S (0 : Int32))
else (
fk_4_has_17 S (1 : Int32))))))
set_option maxRecDepth 100000 in
set_option maxHeartbeats 4000000 in
theorem tk_4_has (l : Launch) {D : cG} {S : cSt} {v0 : Nat} {v1 : Nat} {r : Int32}  (h : fk_4_has S v0 v1 = some r) : Met l yX4_has (Cond.code yX4_has cX4_has 2 (some .boolean) :: lw_g) { frames := 0, cells := 0, slots := 0, locals := 0 } (kPi [.ref v0, .ref v1] D S) (kQ (some (.int r))) 0 0 (mNo) := by
  refine Met.ofW (cc := cX4_has) (maxL := 2) (ret := (some .boolean)) (by decide) rfl ?_
  intro p e s m args below meth c s₁ B hml hv
  obtain ⟨rfl, hW, X⟩ := hv
  have C : cY p (headSpec (Cond.code yX4_has cX4_has 2 (some .boolean) :: lw_g) { frames := 0, cells := 0, slots := 0, locals := 0 }).room s m _ meth c RX4 cX4_has 2 0 0 0 0 (some .boolean) := ⟨B.exec, B.bytes, hml, findClass_of_methodNamed B.named, fun w hw => atoms_spec (ws := Cond.code yX4_has cX4_has 2 (some .boolean) :: lw_g) B.pre w (List.mem_cons_of_mem _ hw), ⟨Nat.le_refl _, Nat.le_refl _, Nat.le_refl _, Nat.le_refl _⟩, B.returns, B.notSynchronized⟩
  have hl := lv_entry ([.ref v0, .ref v1]) (n := 2) (Nat.le_of_ble_eq_true rfl)
  rw [lg_entry_eq]
  generalize (lg_sl ([.ref v0, .ref v1]) ++ List.replicate (2 - (lg_sl ([.ref v0, .ref v1])).length) Slot.unset).toArray = ls at hl ⊢
  have hl : lv_has ls 2 [(0, .ref v0), (1, .ref v1)] := hl
  unfold fk_4_has at h
  refine lv_aload_n C.1 C.2.1 dX4_has_0 rfl (lv_at hl 0 rfl) ?_
  obtain ⟨hk, h⟩ := ckk_ok h
  obtain ⟨a1, h_a1, h⟩ := bd_ok h
  refine gk4_15 C X hW hk h_a1 dX4_has_1 ?_
  refine lv_aload_n C.1 C.2.1 dX4_has_4 rfl (lv_at hl 1 rfl) ?_
  obtain ⟨hk, h⟩ := ckk_ok h
  refine gk4_44 C X hW hk dX4_has_5 ?_
  obtain ⟨hk, h⟩ := ckk_ok h
  obtain ⟨hin2, h⟩ := ck_ok h
  refine c_iald C X hW hk hin2 dX4_has_8 ?_
  refine lv_if_le (tgt := 16) C.1 C.2.1 dX4_has_9 (by decide) (fun c2 => ?_) (fun c2 => ?_)
  · have h := if_t h c2
    refine lv_iconst (v := 0) C.1 C.2.1 dX4_has_16 (by decide) ?_
    exact wk_4_has_17 C X hW h (lv_sub hl [] rfl)
  · have h := if_f h c2
    refine lv_iconst (v := 1) C.1 C.2.1 dX4_has_12 (by decide) ?_
    refine lv_goto (tgt := 17) C.1 C.2.1 dX4_has_13 (by decide) ?_
    exact wk_4_has_17 C X hW h (lv_sub hl [] rfl)
end
theorem dX8_turnsAnother_0 : decode cX8_turnsAnother 0 = .ok (.aload_n 0, 1) := by decide +kernel
theorem dX8_turnsAnother_1 : decode cX8_turnsAnother 1 = .ok (.getfield 15, 3) := by decide +kernel
theorem dX8_turnsAnother_4 : decode cX8_turnsAnother 4 = .ok (.bipush 13, 2) := by decide +kernel
theorem dX8_turnsAnother_6 : decode cX8_turnsAnother 6 = .ok (.if_icmp .eq 12, 3) := by decide +kernel
theorem dX8_turnsAnother_9 : decode cX8_turnsAnother 9 = .ok (.aload_n 0, 1) := by decide +kernel
theorem dX8_turnsAnother_10 : decode cX8_turnsAnother 10 = .ok (.getfield 15, 3) := by decide +kernel
theorem dX8_turnsAnother_13 : decode cX8_turnsAnother 13 = .ok (.bipush 14, 2) := by decide +kernel
theorem dX8_turnsAnother_15 : decode cX8_turnsAnother 15 = .ok (.if_icmp .ne 7, 3) := by decide +kernel
theorem dX8_turnsAnother_18 : decode cX8_turnsAnother 18 = .ok (.iconst 1, 1) := by decide +kernel
theorem dX8_turnsAnother_19 : decode cX8_turnsAnother 19 = .ok (.goto 4, 3) := by decide +kernel
theorem dX8_turnsAnother_22 : decode cX8_turnsAnother 22 = .ok (.iconst 0, 1) := by decide +kernel
theorem dX8_turnsAnother_23 : decode cX8_turnsAnother 23 = .ok (.ireturn, 1) := by decide +kernel
theorem kd_8_turnsAnother : Cond.code yX8_turnsAnother cX8_turnsAnother 1 (some .boolean) ∈ lw_g := mt_at 1074 (by decide +kernel) rfl
theorem ki_8_turnsAnother : Cond.instanceMethod yX8_turnsAnother ∈ lw_g := mt_at 1072 (by decide +kernel) rfl
theorem kl_8_turnsAnother : Cond.selects (kRn 8) yX8_turnsAnother yX8_turnsAnother ∈ lw_g := mt_at 1073 (by decide +kernel) rfl
section
variable {p : Program} {l : Launch} {e : Env} {R : Room} {s : State} {m : MethodId} {args : Array Value} {below : List Frame} {meth : Method} {c : Code} {H : Heap} {locs : List Loc} {cells slots : Nat} {Q : State → Prop}
variable {D : cG} {S S0 : cSt} {cc : ByteArray} {nL : Nat} {pc : Nat} {ls : Array Slot} {rest : List Value} {H0 : Heap} {nF nR nC nS : Nat} {ret : Option FieldType} {a : Nat}
theorem gk8_15 (C : cY p R s m args meth c RX8 cc nL nF nC nS nR ret) (X : cX D s) (hW : cW D S H) (hk : kK S a = 9) (hdg : decode cc pc = .ok (.getfield 15, 3)) (kk : W p l e R s m args below meth c H locs cells slots Q (F0 m (pc + 3) ls (.int (kF S a 0) :: rest))) : W p l e R s m args below meth c H locs cells slots Q (F0 m pc ls (.ref a :: rest)) := c_get C X hW 8 (by decide) ly_8 hk 0 (by decide) (mt_at 962 (by decide +kernel) (by decide +kernel)) hdg (by rw [cV_I (by decide +kernel)]; exact kk)
end
section
variable {p : Program} {l : Launch} {e : Env} {R : Room} {s : State} {m : MethodId} {args : Array Value} {below : List Frame} {meth : Method} {c : Code} {D : cG} {S : cSt} {r : Int32}
noncomputable def fk_8_turnsAnother_23 (S : cSt) (s0 : Int32) : Option (Int32) :=
ckz s0 (some s0)
set_option maxRecDepth 100000 in
set_option maxHeartbeats 4000000 in
theorem wk_8_turnsAnother_23 (C : cY p R s m args meth c RX8 cX8_turnsAnother 1 0 0 0 0 (some .boolean)) (X : cX D s) (hW : cW D S s.heap) : ∀ {s0 : Int32} {ls : Array Slot}, fk_8_turnsAnother_23 S s0 = some r → lv_has ls 1 [] → W p l e R s m args below meth c s.heap [] 0 0 (MQ below (kQ (some (.int r))) args s 0 0 mNo) (F0 m 23 ls [.int s0]) := by
  intro s0 ls h hl
  unfold fk_8_turnsAnother_23 at h
  obtain ⟨hzo, h⟩ := ckz_ok h
  cases h
  exact c_retn C (by rcases hzo with h9 | h9 <;> (rw [h9]; rfl)) rfl rfl dX8_turnsAnother_23
noncomputable def fk_8_turnsAnother_18 (S : cSt) : Option (Int32) :=
fk_8_turnsAnother_23 S (1 : Int32)
set_option maxRecDepth 100000 in
set_option maxHeartbeats 4000000 in
theorem wk_8_turnsAnother_18 (C : cY p R s m args meth c RX8 cX8_turnsAnother 1 0 0 0 0 (some .boolean)) (X : cX D s) (hW : cW D S s.heap) : ∀ {ls : Array Slot}, fk_8_turnsAnother_18 S = some r → lv_has ls 1 [] → W p l e R s m args below meth c s.heap [] 0 0 (MQ below (kQ (some (.int r))) args s 0 0 mNo) (F0 m 18 ls []) := by
  intro ls h hl
  unfold fk_8_turnsAnother_18 at h
  refine lv_iconst (v := 1) C.1 C.2.1 dX8_turnsAnother_18 (by decide) ?_
  refine lv_goto (tgt := 23) C.1 C.2.1 dX8_turnsAnother_19 (by decide) ?_
  exact wk_8_turnsAnother_23 C X hW h (lv_sub hl [] rfl)
noncomputable def fk_8_turnsAnother (S : cSt) (v0 : Nat) : Option (Int32) :=
ckk S v0 9 (
if (kF S v0 0) = (13 : Int32) then (
fk_8_turnsAnother_18 S)
else (
ckk S v0 9 (
if (kF S v0 0) = (14 : Int32) then (
fk_8_turnsAnother_18 S)
else (
fk_8_turnsAnother_23 S (0 : Int32)))))
set_option maxRecDepth 100000 in
set_option maxHeartbeats 4000000 in
theorem tk_8_turnsAnother (l : Launch) {D : cG} {S : cSt} {v0 : Nat} {r : Int32}  (h : fk_8_turnsAnother S v0 = some r) : Met l yX8_turnsAnother (Cond.code yX8_turnsAnother cX8_turnsAnother 1 (some .boolean) :: lw_g) { frames := 0, cells := 0, slots := 0, locals := 0 } (kPi [.ref v0] D S) (kQ (some (.int r))) 0 0 (mNo) := by
  refine Met.ofW (cc := cX8_turnsAnother) (maxL := 1) (ret := (some .boolean)) (by decide) rfl ?_
  intro p e s m args below meth c s₁ B hml hv
  obtain ⟨rfl, hW, X⟩ := hv
  have C : cY p (headSpec (Cond.code yX8_turnsAnother cX8_turnsAnother 1 (some .boolean) :: lw_g) { frames := 0, cells := 0, slots := 0, locals := 0 }).room s m _ meth c RX8 cX8_turnsAnother 1 0 0 0 0 (some .boolean) := ⟨B.exec, B.bytes, hml, findClass_of_methodNamed B.named, fun w hw => atoms_spec (ws := Cond.code yX8_turnsAnother cX8_turnsAnother 1 (some .boolean) :: lw_g) B.pre w (List.mem_cons_of_mem _ hw), ⟨Nat.le_refl _, Nat.le_refl _, Nat.le_refl _, Nat.le_refl _⟩, B.returns, B.notSynchronized⟩
  have hl := lv_entry ([.ref v0]) (n := 1) (Nat.le_of_ble_eq_true rfl)
  rw [lg_entry_eq]
  generalize (lg_sl ([.ref v0]) ++ List.replicate (1 - (lg_sl ([.ref v0])).length) Slot.unset).toArray = ls at hl ⊢
  have hl : lv_has ls 1 [(0, .ref v0)] := hl
  unfold fk_8_turnsAnother at h
  refine lv_aload_n C.1 C.2.1 dX8_turnsAnother_0 rfl (lv_at hl 0 rfl) ?_
  obtain ⟨hk, h⟩ := ckk_ok h
  refine gk8_15 C X hW hk dX8_turnsAnother_1 ?_
  refine lv_bipush (v := 13) C.1 C.2.1 dX8_turnsAnother_4 (by decide) ?_
  refine lv_icmp_eq (tgt := 18) C.1 C.2.1 dX8_turnsAnother_6 (by decide) (fun c1 => ?_) (fun c1 => ?_)
  · have h := if_t h c1
    exact wk_8_turnsAnother_18 C X hW h (lv_sub hl [] rfl)
  · have h := if_f h c1
    refine lv_aload_n C.1 C.2.1 dX8_turnsAnother_9 rfl (lv_at hl 0 rfl) ?_
    obtain ⟨hk, h⟩ := ckk_ok h
    refine gk8_15 C X hW hk dX8_turnsAnother_10 ?_
    refine lv_bipush (v := 14) C.1 C.2.1 dX8_turnsAnother_13 (by decide) ?_
    refine lv_icmp_ne (tgt := 22) C.1 C.2.1 dX8_turnsAnother_15 (by decide) (fun c2 => ?_) (fun c2 => ?_)
    · have h := if_f h c2
      refine lv_iconst (v := 0) C.1 C.2.1 dX8_turnsAnother_22 (by decide) ?_
      exact wk_8_turnsAnother_23 C X hW h (lv_sub hl [] rfl)
    · have h := if_t h c2
      exact wk_8_turnsAnother_18 C X hW h (lv_sub hl [] rfl)
end
theorem dX4_mark_0 : decode cX4_mark 0 = .ok (.aload_n 1, 1) := by decide +kernel
theorem dX4_mark_1 : decode cX4_mark 1 = .ok (.invokevirtual 62, 3) := by decide +kernel
theorem dX4_mark_4 : decode cX4_mark 4 = .ok (.ifCond .ne 4, 3) := by decide +kernel
theorem dX4_mark_7 : decode cX4_mark 7 = .ok (.return_, 1) := by decide +kernel
theorem dX4_mark_8 : decode cX4_mark 8 = .ok (.aload_n 0, 1) := by decide +kernel
theorem dX4_mark_9 : decode cX4_mark 9 = .ok (.getfield 40, 3) := by decide +kernel
theorem dX4_mark_12 : decode cX4_mark 12 = .ok (.aload_n 1, 1) := by decide +kernel
theorem dX4_mark_13 : decode cX4_mark 13 = .ok (.getfield 66, 3) := by decide +kernel
theorem dX4_mark_16 : decode cX4_mark 16 = .ok (.invokevirtual 69, 3) := by decide +kernel
theorem dX4_mark_19 : decode cX4_mark 19 = .ok (.astore_n 3, 1) := by decide +kernel
theorem dX4_mark_20 : decode cX4_mark 20 = .ok (.aload_n 3, 1) := by decide +kernel
theorem dX4_mark_21 : decode cX4_mark 21 = .ok (.ifnull 23, 3) := by decide +kernel
theorem dX4_mark_24 : decode cX4_mark 24 = .ok (.aload_n 2, 1) := by decide +kernel
theorem dX4_mark_25 : decode cX4_mark 25 = .ok (.aload_n 3, 1) := by decide +kernel
theorem dX4_mark_26 : decode cX4_mark 26 = .ok (.getfield 44, 3) := by decide +kernel
theorem dX4_mark_29 : decode cX4_mark 29 = .ok (.aload_n 1, 1) := by decide +kernel
theorem dX4_mark_30 : decode cX4_mark 30 = .ok (.getfield 75, 3) := by decide +kernel
theorem dX4_mark_33 : decode cX4_mark 33 = .ok (.bipush 13, 2) := by decide +kernel
theorem dX4_mark_35 : decode cX4_mark 35 = .ok (.if_icmp .ne 7, 3) := by decide +kernel
theorem dX4_mark_38 : decode cX4_mark 38 = .ok (.iconst 1, 1) := by decide +kernel
theorem dX4_mark_39 : decode cX4_mark 39 = .ok (.goto 4, 3) := by decide +kernel
theorem dX4_mark_42 : decode cX4_mark 42 = .ok (.iconst 0, 1) := by decide +kernel
theorem dX4_mark_43 : decode cX4_mark 43 = .ok (.iastore, 1) := by decide +kernel
theorem dX4_mark_44 : decode cX4_mark 44 = .ok (.return_, 1) := by decide +kernel
theorem kd_4_mark : Cond.code yX4_mark cX4_mark 4 none ∈ lw_g := mt_at 1141 (by decide +kernel) rfl
theorem ki_4_mark : Cond.instanceMethod yX4_mark ∈ lw_g := mt_at 1139 (by decide +kernel) rfl
theorem kl_4_mark : Cond.selects (kRn 4) yX4_mark yX4_mark ∈ lw_g := mt_at 1140 (by decide +kernel) rfl
theorem cw4_62 : cCw RX4 62 yX8_turnsAnother cX8_turnsAnother 1 (some .boolean) 0 := ⟨kd_8_turnsAnother, mt_at 1142 (by decide +kernel) rfl, mt_at 29 (by decide +kernel) rfl, by decide +kernel⟩
theorem cw4_69 : cCw RX4 69 yX0_rowNamed cX0_rowNamed 3 (some (.object "AccordHouse$Row")) 1 := ⟨kd_0_rowNamed, mt_at 1143 (by decide +kernel) rfl, mt_at 3 (by decide +kernel) rfl, by decide +kernel⟩
section
variable {p : Program} {l : Launch} {e : Env} {R : Room} {s : State} {m : MethodId} {args : Array Value} {below : List Frame} {meth : Method} {c : Code} {H : Heap} {locs : List Loc} {cells slots : Nat} {Q : State → Prop}
variable {D : cG} {S S0 : cSt} {cc : ByteArray} {nL : Nat} {pc : Nat} {ls : Array Slot} {rest : List Value} {H0 : Heap} {nF nR nC nS : Nat} {ret : Option FieldType} {a : Nat}
theorem gk4_40 (C : cY p R s m args meth c RX4 cc nL nF nC nS nR ret) (X : cX D s) (hW : cW D S H) (hk : kK S a = 5) {x : Nat} (hx : kR S a 8 = some x) (hdg : decode cc pc = .ok (.getfield 40, 3)) (kk : W p l e R s m args below meth c H locs cells slots Q (F0 m (pc + 3) ls (.ref x :: rest))) : W p l e R s m args below meth c H locs cells slots Q (F0 m pc ls (.ref a :: rest)) := c_get C X hW 4 (by decide) ly_4 hk 8 (by decide) (mt_at 245 (by decide +kernel) (by decide +kernel)) hdg (by rw [cV_R (by decide +kernel) hx]; exact kk)
theorem gk4_66 (C : cY p R s m args meth c RX4 cc nL nF nC nS nR ret) (X : cX D s) (hW : cW D S H) (hk : kK S a = 9) (hdg : decode cc pc = .ok (.getfield 66, 3)) (kk : W p l e R s m args below meth c H locs cells slots Q (F0 m (pc + 3) ls (.int (kF S a 5) :: rest))) : W p l e R s m args below meth c H locs cells slots Q (F0 m pc ls (.ref a :: rest)) := c_get C X hW 8 (by decide) ly_8 hk 5 (by decide) (mt_at 989 (by decide +kernel) (by decide +kernel)) hdg (by rw [cV_I (by decide +kernel)]; exact kk)
theorem gk4_75 (C : cY p R s m args meth c RX4 cc nL nF nC nS nR ret) (X : cX D s) (hW : cW D S H) (hk : kK S a = 9) (hdg : decode cc pc = .ok (.getfield 75, 3)) (kk : W p l e R s m args below meth c H locs cells slots Q (F0 m (pc + 3) ls (.int (kF S a 0) :: rest))) : W p l e R s m args below meth c H locs cells slots Q (F0 m pc ls (.ref a :: rest)) := c_get C X hW 8 (by decide) ly_8 hk 0 (by decide) (mt_at 965 (by decide +kernel) (by decide +kernel)) hdg (by rw [cV_I (by decide +kernel)]; exact kk)
end
section
variable {p : Program} {l : Launch} {e : Env} {R : Room} {s : State} {m : MethodId} {args : Array Value} {below : List Frame} {meth : Method} {c : Code} {D : cG} {S0 S9 : cSt}
noncomputable def fk_4_mark_44 (S : cSt) : Option (cSt) :=
some S
set_option maxRecDepth 100000 in
set_option maxHeartbeats 4000000 in
theorem wk_4_mark_44 (C : cY p R s m args meth c RX4 cX4_mark 4 1 0 0 22 none) (X : cX D s) : ∀ {S : cSt} {H : Heap} {locs : List Loc} {ls : Array Slot}, fk_4_mark_44 S = some S9 → cJ D S0 s.heap S H locs → lv_has ls 4 [] → W p l e R s m args below meth c H locs 0 0 (MQ below (kW none D S0 S9) args s 0 0 (cA S0)) (F0 m 44 ls []) := by
  intro S H locs ls h hJ hl
  unfold fk_4_mark_44 at h
  cases h
  exact c_retvW C hJ dX4_mark_44
noncomputable def fk_4_mark_43 (S : cSt) (s0 : Nat) (s1 : Int32) (s2 : Int32) : Option (cSt) :=
ckk S s0 20 (ck s1 (kL S s0) (lt (cWi S s0 (Int32.toNatClampNeg s1) s2) fun S1 =>
fk_4_mark_44 S1))
set_option maxRecDepth 100000 in
set_option maxHeartbeats 4000000 in
theorem wk_4_mark_43 (C : cY p R s m args meth c RX4 cX4_mark 4 1 0 0 22 none) (X : cX D s) : ∀ {S : cSt} {s0 : Nat} {s1 : Int32} {s2 : Int32} {H : Heap} {locs : List Loc} {ls : Array Slot}, fk_4_mark_43 S s0 s1 s2 = some S9 → cJ D S0 s.heap S H locs → lv_has ls 4 [] → W p l e R s m args below meth c H locs 0 0 (MQ below (kW none D S0 S9) args s 0 0 (cA S0)) (F0 m 43 ls [.int s2, .int s1, .ref s0]) := by
  intro S s0 s1 s2 H locs ls h hJ hl
  unfold fk_4_mark_43 at h
  obtain ⟨hk, h⟩ := ckk_ok h
  obtain ⟨hin2, h⟩ := ck_ok h
  refine c_iast C X hJ hk hin2 dX4_mark_43 (fun H locs hJ => ?_)
  refine lt_ok h (fun S1 e_S1 h => ?_)
  rw [e_S1] at hJ
  exact wk_4_mark_44 C X h hJ (lv_sub hl [] rfl)
noncomputable def fk_4_mark (S : cSt) (v0 : Nat) (v1 : Nat) (v2 : Nat) : Option (cSt) :=
ckk S v1 9 (bd (fk_8_turnsAnother S v1) fun r1 =>
if r1 = 0 then (
some S)
else (
ckk S v0 5 (bd (kR S v0 8) fun a3 =>
ckk S v1 9 (
ckk S a3 1 (bd (fk_0_rowNamed S a3 (kF S v1 5)) fun o4 =>
cs o4 (
fk_4_mark_44 S) (fun a5 =>
ckk S a5 9 (
ckk S v1 9 (
if (kF S v1 0) = (13 : Int32) then (
fk_4_mark_43 S v2 (kF S a5 12) (1 : Int32))
else (
fk_4_mark_43 S v2 (kF S a5 12) (0 : Int32))))))))))
set_option maxRecDepth 100000 in
set_option maxHeartbeats 4000000 in
theorem tk_4_mark (l : Launch) {D : cG} {S : cSt} {v0 : Nat} {v1 : Nat} {v2 : Nat} {S9 : cSt} (h : fk_4_mark S v0 v1 v2 = some S9) : Met l yX4_mark (Cond.code yX4_mark cX4_mark 4 none :: lw_g) { frames := 1, cells := 0, slots := 0, locals := 22 } (kPi [.ref v0, .ref v1, .ref v2] D S) (kW none D S S9) 0 0 (cA S) := by
  refine Met.ofW (cc := cX4_mark) (maxL := 4) (ret := none) (by decide) rfl ?_
  intro p e s m args below meth c s₁ B hml hv
  obtain ⟨rfl, hW, X⟩ := hv
  have C : cY p (headSpec (Cond.code yX4_mark cX4_mark 4 none :: lw_g) { frames := 1, cells := 0, slots := 0, locals := 22 }).room s m _ meth c RX4 cX4_mark 4 1 0 0 22 none := ⟨B.exec, B.bytes, hml, findClass_of_methodNamed B.named, fun w hw => atoms_spec (ws := Cond.code yX4_mark cX4_mark 4 none :: lw_g) B.pre w (List.mem_cons_of_mem _ hw), ⟨Nat.le_refl _, Nat.le_refl _, Nat.le_refl _, Nat.le_refl _⟩, B.returns, B.notSynchronized⟩
  have hl := lv_entry ([.ref v0, .ref v1, .ref v2]) (n := 4) (Nat.le_of_ble_eq_true rfl)
  rw [lg_entry_eq]
  generalize (lg_sl ([.ref v0, .ref v1, .ref v2]) ++ List.replicate (4 - (lg_sl ([.ref v0, .ref v1, .ref v2])).length) Slot.unset).toArray = ls at hl ⊢
  have hl : lv_has ls 4 [(0, .ref v0), (1, .ref v1), (2, .ref v2)] := hl
  have hJ : cJ D S s.heap S s.heap [] := cJ.rf hW
  unfold fk_4_mark at h
  refine lv_aload_n C.1 C.2.1 dX4_mark_0 rfl (lv_at hl 1 rfl) ?_
  obtain ⟨hk, h⟩ := ckk_ok h
  obtain ⟨r1, h_r1, h⟩ := bd_ok h
  refine c_callR (rest := []) C X hJ.1 hl.1 8 (by decide) hk [] (tk_8_turnsAnother l h_r1) cw4_62 ki_8_turnsAnother kl_8_turnsAnother rfl ⟨by decide, by decide⟩ ⟨(by decide), (by decide)⟩ rfl (Nat.le_of_ble_eq_true rfl) dX4_mark_1 ?_
  refine W.eq (g2 := F0 m 4 ls [.int r1]) rfl ?_
  refine lv_if_ne (tgt := 8) C.1 C.2.1 dX4_mark_4 (by decide) (fun c2 => ?_) (fun c2 => ?_)
  · have h := if_f h c2
    refine lv_aload_n C.1 C.2.1 dX4_mark_8 rfl (lv_at hl 0 rfl) ?_
    obtain ⟨hk, h⟩ := ckk_ok h
    obtain ⟨a3, h_a3, h⟩ := bd_ok h
    refine gk4_40 C X hJ.1 hk h_a3 dX4_mark_9 ?_
    refine lv_aload_n C.1 C.2.1 dX4_mark_12 rfl (lv_at hl 1 rfl) ?_
    obtain ⟨hk, h⟩ := ckk_ok h
    refine gk4_66 C X hJ.1 hk dX4_mark_13 ?_
    obtain ⟨hk, h⟩ := ckk_ok h
    obtain ⟨o4, h_o4, h⟩ := bd_ok h
    refine c_callR (rest := []) C X hJ.1 hl.1 0 (by decide) hk [.int (kF S v1 5)] (tk_0_rowNamed l h_o4) cw4_69 ki_0_rowNamed kl_0_rowNamed rfl ⟨by decide, by decide⟩ ⟨(by decide), (by decide)⟩ rfl (Nat.le_of_ble_eq_true rfl) dX4_mark_16 ?_
    refine W.eq (g2 := F0 m 19 ls [va_rf o4]) rfl ?_
    refine lv_astore_nq (o := o4) (lv' := [(3, va_rf o4), (0, .ref v0), (1, .ref v1), (2, .ref v2)]) C.1 C.2.1 dX4_mark_19 rfl hl (by decide) rfl (fun ls hl => ?_)
    refine lv_aload_nq (o := o4) C.1 C.2.1 dX4_mark_20 rfl (lv_at hl 0 rfl) ?_
    rcases o4 with _ | a5
    · replace h := cs_n h
      refine lv_ifnullN (tgt := 44) C.1 C.2.1 dX4_mark_21 (by decide) ?_
      exact wk_4_mark_44 C X h hJ (lv_sub hl [] rfl)
    · replace h := cs_s h
      refine lv_ifnull C.1 C.2.1 dX4_mark_21 ?_
      refine lv_aload_n C.1 C.2.1 dX4_mark_24 rfl (lv_at hl 3 rfl) ?_
      refine lv_aload_n C.1 C.2.1 dX4_mark_25 rfl (lv_at hl 0 rfl) ?_
      obtain ⟨hk, h⟩ := ckk_ok h
      refine gk4_44 C X hJ.1 hk dX4_mark_26 ?_
      refine lv_aload_n C.1 C.2.1 dX4_mark_29 rfl (lv_at hl 2 rfl) ?_
      obtain ⟨hk, h⟩ := ckk_ok h
      refine gk4_75 C X hJ.1 hk dX4_mark_30 ?_
      refine lv_bipush (v := 13) C.1 C.2.1 dX4_mark_33 (by decide) ?_
      refine lv_icmp_ne (tgt := 42) C.1 C.2.1 dX4_mark_35 (by decide) (fun c6 => ?_) (fun c6 => ?_)
      · have h := if_f h c6
        refine lv_iconst (v := 0) C.1 C.2.1 dX4_mark_42 (by decide) ?_
        exact wk_4_mark_43 C X h hJ (lv_sub hl [] rfl)
      · have h := if_t h c6
        refine lv_iconst (v := 1) C.1 C.2.1 dX4_mark_38 (by decide) ?_
        refine lv_goto (tgt := 43) C.1 C.2.1 dX4_mark_39 (by decide) ?_
        exact wk_4_mark_43 C X h hJ (lv_sub hl [] rfl)
  · have h := if_t h c2
    cases h
    exact c_retvW C hJ dX4_mark_7
end
theorem dX8_isBefore_0 : decode cX8_isBefore 0 = .ok (.aload_n 0, 1) := by decide +kernel
theorem dX8_isBefore_1 : decode cX8_isBefore 1 = .ok (.getfield 44, 3) := by decide +kernel
theorem dX8_isBefore_4 : decode cX8_isBefore 4 = .ok (.aload_n 1, 1) := by decide +kernel
theorem dX8_isBefore_5 : decode cX8_isBefore 5 = .ok (.getfield 44, 3) := by decide +kernel
theorem dX8_isBefore_8 : decode cX8_isBefore 8 = .ok (.if_icmp .eq 20, 3) := by decide +kernel
theorem dX8_isBefore_11 : decode cX8_isBefore 11 = .ok (.aload_n 0, 1) := by decide +kernel
theorem dX8_isBefore_12 : decode cX8_isBefore 12 = .ok (.getfield 44, 3) := by decide +kernel
theorem dX8_isBefore_15 : decode cX8_isBefore 15 = .ok (.aload_n 1, 1) := by decide +kernel
theorem dX8_isBefore_16 : decode cX8_isBefore 16 = .ok (.getfield 44, 3) := by decide +kernel
theorem dX8_isBefore_19 : decode cX8_isBefore 19 = .ok (.if_icmp .ge 7, 3) := by decide +kernel
theorem dX8_isBefore_22 : decode cX8_isBefore 22 = .ok (.iconst 1, 1) := by decide +kernel
theorem dX8_isBefore_23 : decode cX8_isBefore 23 = .ok (.goto 4, 3) := by decide +kernel
theorem dX8_isBefore_26 : decode cX8_isBefore 26 = .ok (.iconst 0, 1) := by decide +kernel
theorem dX8_isBefore_27 : decode cX8_isBefore 27 = .ok (.ireturn, 1) := by decide +kernel
theorem dX8_isBefore_28 : decode cX8_isBefore 28 = .ok (.aload_n 0, 1) := by decide +kernel
theorem dX8_isBefore_29 : decode cX8_isBefore 29 = .ok (.getfield 47, 3) := by decide +kernel
theorem dX8_isBefore_32 : decode cX8_isBefore 32 = .ok (.aload_n 1, 1) := by decide +kernel
theorem dX8_isBefore_33 : decode cX8_isBefore 33 = .ok (.getfield 47, 3) := by decide +kernel
theorem dX8_isBefore_36 : decode cX8_isBefore 36 = .ok (.if_icmp .eq 20, 3) := by decide +kernel
theorem dX8_isBefore_39 : decode cX8_isBefore 39 = .ok (.aload_n 0, 1) := by decide +kernel
theorem dX8_isBefore_40 : decode cX8_isBefore 40 = .ok (.getfield 47, 3) := by decide +kernel
theorem dX8_isBefore_43 : decode cX8_isBefore 43 = .ok (.aload_n 1, 1) := by decide +kernel
theorem dX8_isBefore_44 : decode cX8_isBefore 44 = .ok (.getfield 47, 3) := by decide +kernel
theorem dX8_isBefore_47 : decode cX8_isBefore 47 = .ok (.if_icmp .ge 7, 3) := by decide +kernel
theorem dX8_isBefore_50 : decode cX8_isBefore 50 = .ok (.iconst 1, 1) := by decide +kernel
theorem dX8_isBefore_51 : decode cX8_isBefore 51 = .ok (.goto 4, 3) := by decide +kernel
theorem dX8_isBefore_54 : decode cX8_isBefore 54 = .ok (.iconst 0, 1) := by decide +kernel
theorem dX8_isBefore_55 : decode cX8_isBefore 55 = .ok (.ireturn, 1) := by decide +kernel
theorem dX8_isBefore_56 : decode cX8_isBefore 56 = .ok (.aload_n 0, 1) := by decide +kernel
theorem dX8_isBefore_57 : decode cX8_isBefore 57 = .ok (.getfield 38, 3) := by decide +kernel
theorem dX8_isBefore_60 : decode cX8_isBefore 60 = .ok (.aload_n 1, 1) := by decide +kernel
theorem dX8_isBefore_61 : decode cX8_isBefore 61 = .ok (.getfield 38, 3) := by decide +kernel
theorem dX8_isBefore_64 : decode cX8_isBefore 64 = .ok (.if_icmp .ge 7, 3) := by decide +kernel
theorem dX8_isBefore_67 : decode cX8_isBefore 67 = .ok (.iconst 1, 1) := by decide +kernel
theorem dX8_isBefore_68 : decode cX8_isBefore 68 = .ok (.goto 4, 3) := by decide +kernel
theorem dX8_isBefore_71 : decode cX8_isBefore 71 = .ok (.iconst 0, 1) := by decide +kernel
theorem dX8_isBefore_72 : decode cX8_isBefore 72 = .ok (.ireturn, 1) := by decide +kernel
theorem kd_8_isBefore : Cond.code yX8_isBefore cX8_isBefore 2 (some .boolean) ∈ lw_g := mt_at 1151 (by decide +kernel) rfl
theorem ki_8_isBefore : Cond.instanceMethod yX8_isBefore ∈ lw_g := mt_at 1149 (by decide +kernel) rfl
theorem kl_8_isBefore : Cond.selects (kRn 8) yX8_isBefore yX8_isBefore ∈ lw_g := mt_at 1150 (by decide +kernel) rfl
section
variable {p : Program} {l : Launch} {e : Env} {R : Room} {s : State} {m : MethodId} {args : Array Value} {below : List Frame} {meth : Method} {c : Code} {H : Heap} {locs : List Loc} {cells slots : Nat} {Q : State → Prop}
variable {D : cG} {S S0 : cSt} {cc : ByteArray} {nL : Nat} {pc : Nat} {ls : Array Slot} {rest : List Value} {H0 : Heap} {nF nR nC nS : Nat} {ret : Option FieldType} {a : Nat}
theorem gk8_38 (C : cY p R s m args meth c RX8 cc nL nF nC nS nR ret) (X : cX D s) (hW : cW D S H) (hk : kK S a = 9) (hdg : decode cc pc = .ok (.getfield 38, 3)) (kk : W p l e R s m args below meth c H locs cells slots Q (F0 m (pc + 3) ls (.int (kF S a 6) :: rest))) : W p l e R s m args below meth c H locs cells slots Q (F0 m pc ls (.ref a :: rest)) := c_get C X hW 8 (by decide) ly_8 hk 6 (by decide) (mt_at 994 (by decide +kernel) (by decide +kernel)) hdg (by rw [cV_I (by decide +kernel)]; exact kk)
theorem gk8_44 (C : cY p R s m args meth c RX8 cc nL nF nC nS nR ret) (X : cX D s) (hW : cW D S H) (hk : kK S a = 9) (hdg : decode cc pc = .ok (.getfield 44, 3)) (kk : W p l e R s m args below meth c H locs cells slots Q (F0 m (pc + 3) ls (.int (kF S a 8) :: rest))) : W p l e R s m args below meth c H locs cells slots Q (F0 m pc ls (.ref a :: rest)) := c_get C X hW 8 (by decide) ly_8 hk 8 (by decide) (mt_at 1004 (by decide +kernel) (by decide +kernel)) hdg (by rw [cV_I (by decide +kernel)]; exact kk)
theorem gk8_47 (C : cY p R s m args meth c RX8 cc nL nF nC nS nR ret) (X : cX D s) (hW : cW D S H) (hk : kK S a = 9) (hdg : decode cc pc = .ok (.getfield 47, 3)) (kk : W p l e R s m args below meth c H locs cells slots Q (F0 m (pc + 3) ls (.int (kF S a 9) :: rest))) : W p l e R s m args below meth c H locs cells slots Q (F0 m pc ls (.ref a :: rest)) := c_get C X hW 8 (by decide) ly_8 hk 9 (by decide) (mt_at 1009 (by decide +kernel) (by decide +kernel)) hdg (by rw [cV_I (by decide +kernel)]; exact kk)
end
section
variable {p : Program} {l : Launch} {e : Env} {R : Room} {s : State} {m : MethodId} {args : Array Value} {below : List Frame} {meth : Method} {c : Code} {D : cG} {S : cSt} {r : Int32}
noncomputable def fk_8_isBefore_72 (S : cSt) (s0 : Int32) : Option (Int32) :=
ckz s0 (some s0)
set_option maxRecDepth 100000 in
set_option maxHeartbeats 4000000 in
theorem wk_8_isBefore_72 (C : cY p R s m args meth c RX8 cX8_isBefore 2 0 0 0 0 (some .boolean)) (X : cX D s) (hW : cW D S s.heap) : ∀ {s0 : Int32} {ls : Array Slot}, fk_8_isBefore_72 S s0 = some r → lv_has ls 2 [] → W p l e R s m args below meth c s.heap [] 0 0 (MQ below (kQ (some (.int r))) args s 0 0 mNo) (F0 m 72 ls [.int s0]) := by
  intro s0 ls h hl
  unfold fk_8_isBefore_72 at h
  obtain ⟨hzo, h⟩ := ckz_ok h
  cases h
  exact c_retn C (by rcases hzo with h9 | h9 <;> (rw [h9]; rfl)) rfl rfl dX8_isBefore_72
noncomputable def fk_8_isBefore_55 (S : cSt) (s0 : Int32) : Option (Int32) :=
ckz s0 (some s0)
set_option maxRecDepth 100000 in
set_option maxHeartbeats 4000000 in
theorem wk_8_isBefore_55 (C : cY p R s m args meth c RX8 cX8_isBefore 2 0 0 0 0 (some .boolean)) (X : cX D s) (hW : cW D S s.heap) : ∀ {s0 : Int32} {ls : Array Slot}, fk_8_isBefore_55 S s0 = some r → lv_has ls 2 [] → W p l e R s m args below meth c s.heap [] 0 0 (MQ below (kQ (some (.int r))) args s 0 0 mNo) (F0 m 55 ls [.int s0]) := by
  intro s0 ls h hl
  unfold fk_8_isBefore_55 at h
  obtain ⟨hzo, h⟩ := ckz_ok h
  cases h
  exact c_retn C (by rcases hzo with h9 | h9 <;> (rw [h9]; rfl)) rfl rfl dX8_isBefore_55
noncomputable def fk_8_isBefore_27 (S : cSt) (s0 : Int32) : Option (Int32) :=
ckz s0 (some s0)
set_option maxRecDepth 100000 in
set_option maxHeartbeats 4000000 in
theorem wk_8_isBefore_27 (C : cY p R s m args meth c RX8 cX8_isBefore 2 0 0 0 0 (some .boolean)) (X : cX D s) (hW : cW D S s.heap) : ∀ {s0 : Int32} {ls : Array Slot}, fk_8_isBefore_27 S s0 = some r → lv_has ls 2 [] → W p l e R s m args below meth c s.heap [] 0 0 (MQ below (kQ (some (.int r))) args s 0 0 mNo) (F0 m 27 ls [.int s0]) := by
  intro s0 ls h hl
  unfold fk_8_isBefore_27 at h
  obtain ⟨hzo, h⟩ := ckz_ok h
  cases h
  exact c_retn C (by rcases hzo with h9 | h9 <;> (rw [h9]; rfl)) rfl rfl dX8_isBefore_27
noncomputable def fk_8_isBefore (S : cSt) (v0 : Nat) (v1 : Nat) : Option (Int32) :=
ckk S v0 9 (
ckk S v1 9 (
if (kF S v0 8) = (kF S v1 8) then (
ckk S v0 9 (
ckk S v1 9 (
if (kF S v0 9) = (kF S v1 9) then (
ckk S v0 9 (
ckk S v1 9 (
if (kF S v1 6) ≤ (kF S v0 6) then (
fk_8_isBefore_72 S (0 : Int32))
else (
fk_8_isBefore_72 S (1 : Int32)))))
else (
ckk S v0 9 (
ckk S v1 9 (
if (kF S v1 9) ≤ (kF S v0 9) then (
fk_8_isBefore_55 S (0 : Int32))
else (
fk_8_isBefore_55 S (1 : Int32))))))))
else (
ckk S v0 9 (
ckk S v1 9 (
if (kF S v1 8) ≤ (kF S v0 8) then (
fk_8_isBefore_27 S (0 : Int32))
else (
fk_8_isBefore_27 S (1 : Int32)))))))
set_option maxRecDepth 100000 in
set_option maxHeartbeats 4000000 in
theorem tk_8_isBefore (l : Launch) {D : cG} {S : cSt} {v0 : Nat} {v1 : Nat} {r : Int32}  (h : fk_8_isBefore S v0 v1 = some r) : Met l yX8_isBefore (Cond.code yX8_isBefore cX8_isBefore 2 (some .boolean) :: lw_g) { frames := 0, cells := 0, slots := 0, locals := 0 } (kPi [.ref v0, .ref v1] D S) (kQ (some (.int r))) 0 0 (mNo) := by
  refine Met.ofW (cc := cX8_isBefore) (maxL := 2) (ret := (some .boolean)) (by decide) rfl ?_
  intro p e s m args below meth c s₁ B hml hv
  obtain ⟨rfl, hW, X⟩ := hv
  have C : cY p (headSpec (Cond.code yX8_isBefore cX8_isBefore 2 (some .boolean) :: lw_g) { frames := 0, cells := 0, slots := 0, locals := 0 }).room s m _ meth c RX8 cX8_isBefore 2 0 0 0 0 (some .boolean) := ⟨B.exec, B.bytes, hml, findClass_of_methodNamed B.named, fun w hw => atoms_spec (ws := Cond.code yX8_isBefore cX8_isBefore 2 (some .boolean) :: lw_g) B.pre w (List.mem_cons_of_mem _ hw), ⟨Nat.le_refl _, Nat.le_refl _, Nat.le_refl _, Nat.le_refl _⟩, B.returns, B.notSynchronized⟩
  have hl := lv_entry ([.ref v0, .ref v1]) (n := 2) (Nat.le_of_ble_eq_true rfl)
  rw [lg_entry_eq]
  generalize (lg_sl ([.ref v0, .ref v1]) ++ List.replicate (2 - (lg_sl ([.ref v0, .ref v1])).length) Slot.unset).toArray = ls at hl ⊢
  have hl : lv_has ls 2 [(0, .ref v0), (1, .ref v1)] := hl
  unfold fk_8_isBefore at h
  refine lv_aload_n C.1 C.2.1 dX8_isBefore_0 rfl (lv_at hl 0 rfl) ?_
  obtain ⟨hk, h⟩ := ckk_ok h
  refine gk8_44 C X hW hk dX8_isBefore_1 ?_
  refine lv_aload_n C.1 C.2.1 dX8_isBefore_4 rfl (lv_at hl 1 rfl) ?_
  obtain ⟨hk, h⟩ := ckk_ok h
  refine gk8_44 C X hW hk dX8_isBefore_5 ?_
  refine lv_icmp_eq (tgt := 28) C.1 C.2.1 dX8_isBefore_8 (by decide) (fun c1 => ?_) (fun c1 => ?_)
  · have h := if_t h c1
    refine lv_aload_n C.1 C.2.1 dX8_isBefore_28 rfl (lv_at hl 0 rfl) ?_
    obtain ⟨hk, h⟩ := ckk_ok h
    refine gk8_47 C X hW hk dX8_isBefore_29 ?_
    refine lv_aload_n C.1 C.2.1 dX8_isBefore_32 rfl (lv_at hl 1 rfl) ?_
    obtain ⟨hk, h⟩ := ckk_ok h
    refine gk8_47 C X hW hk dX8_isBefore_33 ?_
    refine lv_icmp_eq (tgt := 56) C.1 C.2.1 dX8_isBefore_36 (by decide) (fun c2 => ?_) (fun c2 => ?_)
    · have h := if_t h c2
      refine lv_aload_n C.1 C.2.1 dX8_isBefore_56 rfl (lv_at hl 0 rfl) ?_
      obtain ⟨hk, h⟩ := ckk_ok h
      refine gk8_38 C X hW hk dX8_isBefore_57 ?_
      refine lv_aload_n C.1 C.2.1 dX8_isBefore_60 rfl (lv_at hl 1 rfl) ?_
      obtain ⟨hk, h⟩ := ckk_ok h
      refine gk8_38 C X hW hk dX8_isBefore_61 ?_
      refine lv_icmp_ge (tgt := 71) C.1 C.2.1 dX8_isBefore_64 (by decide) (fun c3 => ?_) (fun c3 => ?_)
      · have h := if_t h c3
        refine lv_iconst (v := 0) C.1 C.2.1 dX8_isBefore_71 (by decide) ?_
        exact wk_8_isBefore_72 C X hW h (lv_sub hl [] rfl)
      · have h := if_f h c3
        refine lv_iconst (v := 1) C.1 C.2.1 dX8_isBefore_67 (by decide) ?_
        refine lv_goto (tgt := 72) C.1 C.2.1 dX8_isBefore_68 (by decide) ?_
        exact wk_8_isBefore_72 C X hW h (lv_sub hl [] rfl)
    · have h := if_f h c2
      refine lv_aload_n C.1 C.2.1 dX8_isBefore_39 rfl (lv_at hl 0 rfl) ?_
      obtain ⟨hk, h⟩ := ckk_ok h
      refine gk8_47 C X hW hk dX8_isBefore_40 ?_
      refine lv_aload_n C.1 C.2.1 dX8_isBefore_43 rfl (lv_at hl 1 rfl) ?_
      obtain ⟨hk, h⟩ := ckk_ok h
      refine gk8_47 C X hW hk dX8_isBefore_44 ?_
      refine lv_icmp_ge (tgt := 54) C.1 C.2.1 dX8_isBefore_47 (by decide) (fun c4 => ?_) (fun c4 => ?_)
      · have h := if_t h c4
        refine lv_iconst (v := 0) C.1 C.2.1 dX8_isBefore_54 (by decide) ?_
        exact wk_8_isBefore_55 C X hW h (lv_sub hl [] rfl)
      · have h := if_f h c4
        refine lv_iconst (v := 1) C.1 C.2.1 dX8_isBefore_50 (by decide) ?_
        refine lv_goto (tgt := 55) C.1 C.2.1 dX8_isBefore_51 (by decide) ?_
        exact wk_8_isBefore_55 C X hW h (lv_sub hl [] rfl)
  · have h := if_f h c1
    refine lv_aload_n C.1 C.2.1 dX8_isBefore_11 rfl (lv_at hl 0 rfl) ?_
    obtain ⟨hk, h⟩ := ckk_ok h
    refine gk8_44 C X hW hk dX8_isBefore_12 ?_
    refine lv_aload_n C.1 C.2.1 dX8_isBefore_15 rfl (lv_at hl 1 rfl) ?_
    obtain ⟨hk, h⟩ := ckk_ok h
    refine gk8_44 C X hW hk dX8_isBefore_16 ?_
    refine lv_icmp_ge (tgt := 26) C.1 C.2.1 dX8_isBefore_19 (by decide) (fun c5 => ?_) (fun c5 => ?_)
    · have h := if_t h c5
      refine lv_iconst (v := 0) C.1 C.2.1 dX8_isBefore_26 (by decide) ?_
      exact wk_8_isBefore_27 C X hW h (lv_sub hl [] rfl)
    · have h := if_f h c5
      refine lv_iconst (v := 1) C.1 C.2.1 dX8_isBefore_22 (by decide) ?_
      refine lv_goto (tgt := 27) C.1 C.2.1 dX8_isBefore_23 (by decide) ?_
      exact wk_8_isBefore_27 C X hW h (lv_sub hl [] rfl)
end
theorem dX4_link_0 : decode cX4_link 0 = .ok (.aconst_null, 1) := by decide +kernel
theorem dX4_link_1 : decode cX4_link 1 = .ok (.astore_n 2, 1) := by decide +kernel
theorem dX4_link_2 : decode cX4_link 2 = .ok (.aload_n 0, 1) := by decide +kernel
theorem dX4_link_3 : decode cX4_link 3 = .ok (.getfield 33, 3) := by decide +kernel
theorem dX4_link_6 : decode cX4_link 6 = .ok (.aload_n 1, 1) := by decide +kernel
theorem dX4_link_7 : decode cX4_link 7 = .ok (.getfield 55, 3) := by decide +kernel
theorem dX4_link_10 : decode cX4_link 10 = .ok (.aaload, 1) := by decide +kernel
theorem dX4_link_11 : decode cX4_link 11 = .ok (.astore_n 3, 1) := by decide +kernel
theorem dX4_link_12 : decode cX4_link 12 = .ok (.aload_n 3, 1) := by decide +kernel
theorem dX4_link_13 : decode cX4_link 13 = .ok (.ifnull 26, 3) := by decide +kernel
theorem dX4_link_16 : decode cX4_link 16 = .ok (.aload_n 1, 1) := by decide +kernel
theorem dX4_link_17 : decode cX4_link 17 = .ok (.aload_n 3, 1) := by decide +kernel
theorem dX4_link_18 : decode cX4_link 18 = .ok (.invokevirtual 78, 3) := by decide +kernel
theorem dX4_link_21 : decode cX4_link 21 = .ok (.ifCond .eq 18, 3) := by decide +kernel
theorem dX4_link_24 : decode cX4_link 24 = .ok (.aload_n 3, 1) := by decide +kernel
theorem dX4_link_25 : decode cX4_link 25 = .ok (.astore_n 2, 1) := by decide +kernel
theorem dX4_link_26 : decode cX4_link 26 = .ok (.aload_n 0, 1) := by decide +kernel
theorem dX4_link_27 : decode cX4_link 27 = .ok (.getfield 23, 3) := by decide +kernel
theorem dX4_link_30 : decode cX4_link 30 = .ok (.aload_n 3, 1) := by decide +kernel
theorem dX4_link_31 : decode cX4_link 31 = .ok (.getfield 44, 3) := by decide +kernel
theorem dX4_link_34 : decode cX4_link 34 = .ok (.aaload, 1) := by decide +kernel
theorem dX4_link_35 : decode cX4_link 35 = .ok (.astore_n 3, 1) := by decide +kernel
theorem dX4_link_36 : decode cX4_link 36 = .ok (.goto (-24), 3) := by decide +kernel
theorem dX4_link_39 : decode cX4_link 39 = .ok (.aload_n 0, 1) := by decide +kernel
theorem dX4_link_40 : decode cX4_link 40 = .ok (.getfield 23, 3) := by decide +kernel
theorem dX4_link_43 : decode cX4_link 43 = .ok (.aload_n 1, 1) := by decide +kernel
theorem dX4_link_44 : decode cX4_link 44 = .ok (.getfield 44, 3) := by decide +kernel
theorem dX4_link_47 : decode cX4_link 47 = .ok (.aload_n 3, 1) := by decide +kernel
theorem dX4_link_48 : decode cX4_link 48 = .ok (.aastore, 1) := by decide +kernel
theorem dX4_link_49 : decode cX4_link 49 = .ok (.aload_n 0, 1) := by decide +kernel
theorem dX4_link_50 : decode cX4_link 50 = .ok (.getfield 27, 3) := by decide +kernel
theorem dX4_link_53 : decode cX4_link 53 = .ok (.aload_n 1, 1) := by decide +kernel
theorem dX4_link_54 : decode cX4_link 54 = .ok (.getfield 44, 3) := by decide +kernel
theorem dX4_link_57 : decode cX4_link 57 = .ok (.aload_n 2, 1) := by decide +kernel
theorem dX4_link_58 : decode cX4_link 58 = .ok (.aastore, 1) := by decide +kernel
theorem dX4_link_59 : decode cX4_link 59 = .ok (.aload_n 3, 1) := by decide +kernel
theorem dX4_link_60 : decode cX4_link 60 = .ok (.ifnonnull 16, 3) := by decide +kernel
theorem dX4_link_63 : decode cX4_link 63 = .ok (.aload_n 0, 1) := by decide +kernel
theorem dX4_link_64 : decode cX4_link 64 = .ok (.getfield 30, 3) := by decide +kernel
theorem dX4_link_67 : decode cX4_link 67 = .ok (.aload_n 1, 1) := by decide +kernel
theorem dX4_link_68 : decode cX4_link 68 = .ok (.getfield 55, 3) := by decide +kernel
theorem dX4_link_71 : decode cX4_link 71 = .ok (.aload_n 1, 1) := by decide +kernel
theorem dX4_link_72 : decode cX4_link 72 = .ok (.aastore, 1) := by decide +kernel
theorem dX4_link_73 : decode cX4_link 73 = .ok (.goto 13, 3) := by decide +kernel
theorem dX4_link_76 : decode cX4_link 76 = .ok (.aload_n 0, 1) := by decide +kernel
theorem dX4_link_77 : decode cX4_link 77 = .ok (.getfield 27, 3) := by decide +kernel
theorem dX4_link_80 : decode cX4_link 80 = .ok (.aload_n 3, 1) := by decide +kernel
theorem dX4_link_81 : decode cX4_link 81 = .ok (.getfield 44, 3) := by decide +kernel
theorem dX4_link_84 : decode cX4_link 84 = .ok (.aload_n 1, 1) := by decide +kernel
theorem dX4_link_85 : decode cX4_link 85 = .ok (.aastore, 1) := by decide +kernel
theorem dX4_link_86 : decode cX4_link 86 = .ok (.aload_n 2, 1) := by decide +kernel
theorem dX4_link_87 : decode cX4_link 87 = .ok (.ifnonnull 16, 3) := by decide +kernel
theorem dX4_link_90 : decode cX4_link 90 = .ok (.aload_n 0, 1) := by decide +kernel
theorem dX4_link_91 : decode cX4_link 91 = .ok (.getfield 33, 3) := by decide +kernel
theorem dX4_link_94 : decode cX4_link 94 = .ok (.aload_n 1, 1) := by decide +kernel
theorem dX4_link_95 : decode cX4_link 95 = .ok (.getfield 55, 3) := by decide +kernel
theorem dX4_link_98 : decode cX4_link 98 = .ok (.aload_n 1, 1) := by decide +kernel
theorem dX4_link_99 : decode cX4_link 99 = .ok (.aastore, 1) := by decide +kernel
theorem dX4_link_100 : decode cX4_link 100 = .ok (.goto 13, 3) := by decide +kernel
theorem dX4_link_103 : decode cX4_link 103 = .ok (.aload_n 0, 1) := by decide +kernel
theorem dX4_link_104 : decode cX4_link 104 = .ok (.getfield 23, 3) := by decide +kernel
theorem dX4_link_107 : decode cX4_link 107 = .ok (.aload_n 2, 1) := by decide +kernel
theorem dX4_link_108 : decode cX4_link 108 = .ok (.getfield 44, 3) := by decide +kernel
theorem dX4_link_111 : decode cX4_link 111 = .ok (.aload_n 1, 1) := by decide +kernel
theorem dX4_link_112 : decode cX4_link 112 = .ok (.aastore, 1) := by decide +kernel
theorem dX4_link_113 : decode cX4_link 113 = .ok (.return_, 1) := by decide +kernel
theorem kd_4_link : Cond.code yX4_link cX4_link 4 none ∈ lw_g := mt_at 1147 (by decide +kernel) rfl
theorem ki_4_link : Cond.instanceMethod yX4_link ∈ lw_g := mt_at 1146 (by decide +kernel) rfl
theorem kl_4_link : Cond.selects (kRn 4) yX4_link yX4_link ∈ lw_g := mt_sel 18 (by decide +kernel) rfl
theorem cw4_78 : cCw RX4 78 yX8_isBefore cX8_isBefore 2 (some .boolean) 1 := ⟨kd_8_isBefore, mt_at 1148 (by decide +kernel) rfl, mt_at 29 (by decide +kernel) rfl, by decide +kernel⟩
section
variable {p : Program} {l : Launch} {e : Env} {R : Room} {s : State} {m : MethodId} {args : Array Value} {below : List Frame} {meth : Method} {c : Code} {H : Heap} {locs : List Loc} {cells slots : Nat} {Q : State → Prop}
variable {D : cG} {S S0 : cSt} {cc : ByteArray} {nL : Nat} {pc : Nat} {ls : Array Slot} {rest : List Value} {H0 : Heap} {nF nR nC nS : Nat} {ret : Option FieldType} {a : Nat}
theorem gk4_23 (C : cY p R s m args meth c RX4 cc nL nF nC nS nR ret) (X : cX D s) (hW : cW D S H) (hk : kK S a = 5) {x : Nat} (hx : kR S a 3 = some x) (hdg : decode cc pc = .ok (.getfield 23, 3)) (kk : W p l e R s m args below meth c H locs cells slots Q (F0 m (pc + 3) ls (.ref x :: rest))) : W p l e R s m args below meth c H locs cells slots Q (F0 m pc ls (.ref a :: rest)) := c_get C X hW 4 (by decide) ly_4 hk 3 (by decide) (mt_at 233 (by decide +kernel) (by decide +kernel)) hdg (by rw [cV_R (by decide +kernel) hx]; exact kk)
theorem gk4_27 (C : cY p R s m args meth c RX4 cc nL nF nC nS nR ret) (X : cX D s) (hW : cW D S H) (hk : kK S a = 5) {x : Nat} (hx : kR S a 4 = some x) (hdg : decode cc pc = .ok (.getfield 27, 3)) (kk : W p l e R s m args below meth c H locs cells slots Q (F0 m (pc + 3) ls (.ref x :: rest))) : W p l e R s m args below meth c H locs cells slots Q (F0 m pc ls (.ref a :: rest)) := c_get C X hW 4 (by decide) ly_4 hk 4 (by decide) (mt_at 235 (by decide +kernel) (by decide +kernel)) hdg (by rw [cV_R (by decide +kernel) hx]; exact kk)
theorem gk4_30 (C : cY p R s m args meth c RX4 cc nL nF nC nS nR ret) (X : cX D s) (hW : cW D S H) (hk : kK S a = 5) {x : Nat} (hx : kR S a 5 = some x) (hdg : decode cc pc = .ok (.getfield 30, 3)) (kk : W p l e R s m args below meth c H locs cells slots Q (F0 m (pc + 3) ls (.ref x :: rest))) : W p l e R s m args below meth c H locs cells slots Q (F0 m pc ls (.ref a :: rest)) := c_get C X hW 4 (by decide) ly_4 hk 5 (by decide) (mt_at 238 (by decide +kernel) (by decide +kernel)) hdg (by rw [cV_R (by decide +kernel) hx]; exact kk)
theorem gk4_33 (C : cY p R s m args meth c RX4 cc nL nF nC nS nR ret) (X : cX D s) (hW : cW D S H) (hk : kK S a = 5) {x : Nat} (hx : kR S a 6 = some x) (hdg : decode cc pc = .ok (.getfield 33, 3)) (kk : W p l e R s m args below meth c H locs cells slots Q (F0 m (pc + 3) ls (.ref x :: rest))) : W p l e R s m args below meth c H locs cells slots Q (F0 m pc ls (.ref a :: rest)) := c_get C X hW 4 (by decide) ly_4 hk 6 (by decide) (mt_at 241 (by decide +kernel) (by decide +kernel)) hdg (by rw [cV_R (by decide +kernel) hx]; exact kk)
theorem gk4_55 (C : cY p R s m args meth c RX4 cc nL nF nC nS nR ret) (X : cX D s) (hW : cW D S H) (hk : kK S a = 9) (hdg : decode cc pc = .ok (.getfield 55, 3)) (kk : W p l e R s m args below meth c H locs cells slots Q (F0 m (pc + 3) ls (.int (kF S a 13) :: rest))) : W p l e R s m args below meth c H locs cells slots Q (F0 m pc ls (.ref a :: rest)) := c_get C X hW 8 (by decide) ly_8 hk 13 (by decide) (mt_at 1031 (by decide +kernel) (by decide +kernel)) hdg (by rw [cV_I (by decide +kernel)]; exact kk)
end
section
variable {p : Program} {l : Launch} {e : Env} {R : Room} {s : State} {m : MethodId} {args : Array Value} {below : List Frame} {meth : Method} {c : Code} {D : cG} {S0 S9 : cSt}
noncomputable def fk_4_link_113 (S : cSt) : Option (cSt) :=
some S
set_option maxRecDepth 100000 in
set_option maxHeartbeats 4000000 in
theorem wk_4_link_113 (C : cY p R s m args meth c RX4 cX4_link 4 1 0 0 21 none) (X : cX D s) : ∀ {S : cSt} {H : Heap} {locs : List Loc} {ls : Array Slot}, fk_4_link_113 S = some S9 → cJ D S0 s.heap S H locs → lv_has ls 4 [] → W p l e R s m args below meth c H locs 0 0 (MQ below (kW none D S0 S9) args s 0 0 (cA S0)) (F0 m 113 ls []) := by
  intro S H locs ls h hJ hl
  unfold fk_4_link_113 at h
  cases h
  exact c_retvW C hJ dX4_link_113
noncomputable def fk_4_link_86 (S : cSt) (v0 : Nat) (v1 : Nat) (v2 : Option Nat) : Option (cSt) :=
cs v2 (
ckk S v0 5 (bd (kR S v0 6) fun a2 =>
ckk S v1 9 (
ckk S a2 30 (ck (kF S v1 13) (kL S a2) (ckq S (some v1) 9 (lt (cWo S a2 (Int32.toNatClampNeg (kF S v1 13)) (some v1)) fun S3 =>
fk_4_link_113 S3)))))) (fun a1 =>
ckk S v0 5 (bd (kR S v0 3) fun a4 =>
ckk S a1 9 (
ckk S a4 30 (ck (kF S a1 12) (kL S a4) (ckq S (some v1) 9 (lt (cWo S a4 (Int32.toNatClampNeg (kF S a1 12)) (some v1)) fun S5 =>
fk_4_link_113 S5))))))
set_option maxRecDepth 100000 in
set_option maxHeartbeats 4000000 in
theorem wk_4_link_86 (C : cY p R s m args meth c RX4 cX4_link 4 1 0 0 21 none) (X : cX D s) : ∀ {S : cSt} {v0 : Nat} {v1 : Nat} {v2 : Option Nat} {H : Heap} {locs : List Loc} {ls : Array Slot}, fk_4_link_86 S v0 v1 v2 = some S9 → cJ D S0 s.heap S H locs → lv_has ls 4 [(0, .ref v0), (1, .ref v1), (2, va_rf v2)] → W p l e R s m args below meth c H locs 0 0 (MQ below (kW none D S0 S9) args s 0 0 (cA S0)) (F0 m 86 ls []) := by
  intro S v0 v1 v2 H locs ls h hJ hl
  unfold fk_4_link_86 at h
  refine lv_aload_nq (o := v2) C.1 C.2.1 dX4_link_86 rfl (lv_at hl 2 rfl) ?_
  rcases v2 with _ | a1
  · replace h := cs_n h
    refine lv_ifnonnullN C.1 C.2.1 dX4_link_87 ?_
    refine lv_aload_n C.1 C.2.1 dX4_link_90 rfl (lv_at hl 0 rfl) ?_
    obtain ⟨hk, h⟩ := ckk_ok h
    obtain ⟨a2, h_a2, h⟩ := bd_ok h
    refine gk4_33 C X hJ.1 hk h_a2 dX4_link_91 ?_
    refine lv_aload_n C.1 C.2.1 dX4_link_94 rfl (lv_at hl 1 rfl) ?_
    obtain ⟨hk, h⟩ := ckk_ok h
    refine gk4_55 C X hJ.1 hk dX4_link_95 ?_
    refine lv_aload_n C.1 C.2.1 dX4_link_98 rfl (lv_at hl 1 rfl) ?_
    obtain ⟨hk, h⟩ := ckk_ok h
    obtain ⟨hin2, h⟩ := ck_ok h
    obtain ⟨hkv, h⟩ := ckq_ok h
    refine c_aastq (o := (some v1)) C X 30 8 (by decide) (by decide) X.2.2.2.2.1 hJ hk hkv hin2 dX4_link_99 (fun H locs hJ => ?_)
    refine lt_ok h (fun S3 e_S3 h => ?_)
    rw [e_S3] at hJ
    refine lv_goto (tgt := 113) C.1 C.2.1 dX4_link_100 (by decide) ?_
    exact wk_4_link_113 C X h hJ (lv_sub hl [] rfl)
  · replace h := cs_s h
    refine lv_ifnonnull (tgt := 103) C.1 C.2.1 dX4_link_87 (by decide) ?_
    refine lv_aload_n C.1 C.2.1 dX4_link_103 rfl (lv_at hl 0 rfl) ?_
    obtain ⟨hk, h⟩ := ckk_ok h
    obtain ⟨a4, h_a4, h⟩ := bd_ok h
    refine gk4_23 C X hJ.1 hk h_a4 dX4_link_104 ?_
    refine lv_aload_n C.1 C.2.1 dX4_link_107 rfl (lv_at hl 2 rfl) ?_
    obtain ⟨hk, h⟩ := ckk_ok h
    refine gk4_44 C X hJ.1 hk dX4_link_108 ?_
    refine lv_aload_n C.1 C.2.1 dX4_link_111 rfl (lv_at hl 1 rfl) ?_
    obtain ⟨hk, h⟩ := ckk_ok h
    obtain ⟨hin2, h⟩ := ck_ok h
    obtain ⟨hkv, h⟩ := ckq_ok h
    refine c_aastq (o := (some v1)) C X 30 8 (by decide) (by decide) X.2.2.2.2.1 hJ hk hkv hin2 dX4_link_112 (fun H locs hJ => ?_)
    refine lt_ok h (fun S5 e_S5 h => ?_)
    rw [e_S5] at hJ
    exact wk_4_link_113 C X h hJ (lv_sub hl [] rfl)
noncomputable def fk_4_link_39 (S : cSt) (v0 : Nat) (v1 : Nat) (v2 : Option Nat) (v3 : Option Nat) : Option (cSt) :=
ckk S v0 5 (bd (kR S v0 3) fun a1 =>
ckk S v1 9 (
ckk S a1 30 (ck (kF S v1 12) (kL S a1) (ckq S v3 9 (lt (cWo S a1 (Int32.toNatClampNeg (kF S v1 12)) v3) fun S2 =>
ckk S2 v0 5 (bd (kR S2 v0 4) fun a3 =>
ckk S2 v1 9 (
ckk S2 a3 30 (ck (kF S2 v1 12) (kL S2 a3) (ckq S2 v2 9 (lt (cWo S2 a3 (Int32.toNatClampNeg (kF S2 v1 12)) v2) fun S4 =>
cs v3 (
ckk S4 v0 5 (bd (kR S4 v0 5) fun a6 =>
ckk S4 v1 9 (
ckk S4 a6 30 (ck (kF S4 v1 13) (kL S4 a6) (ckq S4 (some v1) 9 (lt (cWo S4 a6 (Int32.toNatClampNeg (kF S4 v1 13)) (some v1)) fun S7 =>
fk_4_link_86 S7 v0 v1 v2)))))) (fun a5 =>
ckk S4 v0 5 (bd (kR S4 v0 4) fun a8 =>
ckk S4 a5 9 (
ckk S4 a8 30 (ck (kF S4 a5 12) (kL S4 a8) (ckq S4 (some v1) 9 (lt (cWo S4 a8 (Int32.toNatClampNeg (kF S4 a5 12)) (some v1)) fun S10 =>
fk_4_link_86 S10 v0 v1 v2))))))))))))))))
set_option maxRecDepth 100000 in
set_option maxHeartbeats 4000000 in
theorem wk_4_link_39 (C : cY p R s m args meth c RX4 cX4_link 4 1 0 0 21 none) (X : cX D s) : ∀ {S : cSt} {v0 : Nat} {v1 : Nat} {v2 : Option Nat} {v3 : Option Nat} {H : Heap} {locs : List Loc} {ls : Array Slot}, fk_4_link_39 S v0 v1 v2 v3 = some S9 → cJ D S0 s.heap S H locs → lv_has ls 4 [(0, .ref v0), (1, .ref v1), (2, va_rf v2), (3, va_rf v3)] → W p l e R s m args below meth c H locs 0 0 (MQ below (kW none D S0 S9) args s 0 0 (cA S0)) (F0 m 39 ls []) := by
  intro S v0 v1 v2 v3 H locs ls h hJ hl
  unfold fk_4_link_39 at h
  refine lv_aload_n C.1 C.2.1 dX4_link_39 rfl (lv_at hl 0 rfl) ?_
  obtain ⟨hk, h⟩ := ckk_ok h
  obtain ⟨a1, h_a1, h⟩ := bd_ok h
  refine gk4_23 C X hJ.1 hk h_a1 dX4_link_40 ?_
  refine lv_aload_n C.1 C.2.1 dX4_link_43 rfl (lv_at hl 1 rfl) ?_
  obtain ⟨hk, h⟩ := ckk_ok h
  refine gk4_44 C X hJ.1 hk dX4_link_44 ?_
  refine lv_aload_nq (o := v3) C.1 C.2.1 dX4_link_47 rfl (lv_at hl 3 rfl) ?_
  obtain ⟨hk, h⟩ := ckk_ok h
  obtain ⟨hin2, h⟩ := ck_ok h
  obtain ⟨hkv, h⟩ := ckq_ok h
  refine c_aastq (o := v3) C X 30 8 (by decide) (by decide) X.2.2.2.2.1 hJ hk hkv hin2 dX4_link_48 (fun H locs hJ => ?_)
  refine lt_ok h (fun S2 e_S2 h => ?_)
  rw [e_S2] at hJ
  refine lv_aload_n C.1 C.2.1 dX4_link_49 rfl (lv_at hl 0 rfl) ?_
  obtain ⟨hk, h⟩ := ckk_ok h
  obtain ⟨a3, h_a3, h⟩ := bd_ok h
  refine gk4_27 C X hJ.1 hk h_a3 dX4_link_50 ?_
  refine lv_aload_n C.1 C.2.1 dX4_link_53 rfl (lv_at hl 1 rfl) ?_
  obtain ⟨hk, h⟩ := ckk_ok h
  refine gk4_44 C X hJ.1 hk dX4_link_54 ?_
  refine lv_aload_nq (o := v2) C.1 C.2.1 dX4_link_57 rfl (lv_at hl 2 rfl) ?_
  obtain ⟨hk, h⟩ := ckk_ok h
  obtain ⟨hin2, h⟩ := ck_ok h
  obtain ⟨hkv, h⟩ := ckq_ok h
  refine c_aastq (o := v2) C X 30 8 (by decide) (by decide) X.2.2.2.2.1 hJ hk hkv hin2 dX4_link_58 (fun H locs hJ => ?_)
  refine lt_ok h (fun S4 e_S4 h => ?_)
  rw [e_S4] at hJ
  refine lv_aload_nq (o := v3) C.1 C.2.1 dX4_link_59 rfl (lv_at hl 3 rfl) ?_
  rcases v3 with _ | a5
  · replace h := cs_n h
    refine lv_ifnonnullN C.1 C.2.1 dX4_link_60 ?_
    refine lv_aload_n C.1 C.2.1 dX4_link_63 rfl (lv_at hl 0 rfl) ?_
    obtain ⟨hk, h⟩ := ckk_ok h
    obtain ⟨a6, h_a6, h⟩ := bd_ok h
    refine gk4_30 C X hJ.1 hk h_a6 dX4_link_64 ?_
    refine lv_aload_n C.1 C.2.1 dX4_link_67 rfl (lv_at hl 1 rfl) ?_
    obtain ⟨hk, h⟩ := ckk_ok h
    refine gk4_55 C X hJ.1 hk dX4_link_68 ?_
    refine lv_aload_n C.1 C.2.1 dX4_link_71 rfl (lv_at hl 1 rfl) ?_
    obtain ⟨hk, h⟩ := ckk_ok h
    obtain ⟨hin2, h⟩ := ck_ok h
    obtain ⟨hkv, h⟩ := ckq_ok h
    refine c_aastq (o := (some v1)) C X 30 8 (by decide) (by decide) X.2.2.2.2.1 hJ hk hkv hin2 dX4_link_72 (fun H locs hJ => ?_)
    refine lt_ok h (fun S7 e_S7 h => ?_)
    rw [e_S7] at hJ
    refine lv_goto (tgt := 86) C.1 C.2.1 dX4_link_73 (by decide) ?_
    exact wk_4_link_86 C X h hJ (lv_sub hl [0, 1, 2] rfl)
  · replace h := cs_s h
    refine lv_ifnonnull (tgt := 76) C.1 C.2.1 dX4_link_60 (by decide) ?_
    refine lv_aload_n C.1 C.2.1 dX4_link_76 rfl (lv_at hl 0 rfl) ?_
    obtain ⟨hk, h⟩ := ckk_ok h
    obtain ⟨a8, h_a8, h⟩ := bd_ok h
    refine gk4_27 C X hJ.1 hk h_a8 dX4_link_77 ?_
    refine lv_aload_n C.1 C.2.1 dX4_link_80 rfl (lv_at hl 3 rfl) ?_
    obtain ⟨hk, h⟩ := ckk_ok h
    refine gk4_44 C X hJ.1 hk dX4_link_81 ?_
    refine lv_aload_n C.1 C.2.1 dX4_link_84 rfl (lv_at hl 1 rfl) ?_
    obtain ⟨hk, h⟩ := ckk_ok h
    obtain ⟨hin2, h⟩ := ck_ok h
    obtain ⟨hkv, h⟩ := ckq_ok h
    refine c_aastq (o := (some v1)) C X 30 8 (by decide) (by decide) X.2.2.2.2.1 hJ hk hkv hin2 dX4_link_85 (fun H locs hJ => ?_)
    refine lt_ok h (fun S10 e_S10 h => ?_)
    rw [e_S10] at hJ
    exact wk_4_link_86 C X h hJ (lv_sub hl [0, 1, 2] rfl)
noncomputable def fk_4_link_12 : Nat → cSt → Nat → Nat → Option Nat → Option Nat → Option (cSt)
  | 0, _, _, _, _, _ => none
  | n + 1, S, v0, v1, v2, v3 =>
    cs v3 (
    fk_4_link_39 S v0 v1 v2 none) (fun a1 =>
    ckk S v1 9 (bd (fk_8_isBefore S v1 a1) fun r2 =>
    if r2 = 0 then (
    fk_4_link_39 S v0 v1 v2 (some a1))
    else (
    ckk S v0 5 (bd (kR S v0 3) fun a4 =>
    ckk S a1 9 (
    ckk S a4 30 (ck (kF S a1 12) (kL S a4) (lt (kO S a4 (Int32.toNatClampNeg (kF S a1 12))) fun o5 =>
    fk_4_link_12 n S v0 v1 (some a1) o5)))))))
set_option maxRecDepth 100000 in
set_option maxHeartbeats 4000000 in
theorem wk_4_link_12 (C : cY p R s m args meth c RX4 cX4_link 4 1 0 0 21 none) (X : cX D s) : ∀ (n : Nat), ∀ {S : cSt} {v0 : Nat} {v1 : Nat} {v2 : Option Nat} {v3 : Option Nat} {H : Heap} {locs : List Loc} {ls : Array Slot}, fk_4_link_12 n S v0 v1 v2 v3 = some S9 → cJ D S0 s.heap S H locs → lv_has ls 4 [(0, .ref v0), (1, .ref v1), (2, va_rf v2), (3, va_rf v3)] → W p l e R s m args below meth c H locs 0 0 (MQ below (kW none D S0 S9) args s 0 0 (cA S0)) (F0 m 12 ls []) := by
  intro n
  induction n with
  | zero =>
    intro S v0 v1 v2 v3 H locs ls h hJ hl
    exact absurd (show (none : Option (cSt)) = _ from h) (fun q => by cases q)
  | succ n ih =>
    intro S v0 v1 v2 v3 H locs ls h hJ hl
    rw [fk_4_link_12] at h
    refine lv_aload_nq (o := v3) C.1 C.2.1 dX4_link_12 rfl (lv_at hl 3 rfl) ?_
    rcases v3 with _ | a1
    · replace h := cs_n h
      refine lv_ifnullN (tgt := 39) C.1 C.2.1 dX4_link_13 (by decide) ?_
      exact wk_4_link_39 C X h hJ (lv_sub hl [0, 1, 2, 3] rfl)
    · replace h := cs_s h
      refine lv_ifnull C.1 C.2.1 dX4_link_13 ?_
      refine lv_aload_n C.1 C.2.1 dX4_link_16 rfl (lv_at hl 1 rfl) ?_
      refine lv_aload_n C.1 C.2.1 dX4_link_17 rfl (lv_at hl 3 rfl) ?_
      obtain ⟨hk, h⟩ := ckk_ok h
      obtain ⟨r2, h_r2, h⟩ := bd_ok h
      refine c_callR (rest := []) C X hJ.1 hl.1 8 (by decide) hk [.ref a1] (tk_8_isBefore l h_r2) cw4_78 ki_8_isBefore kl_8_isBefore rfl ⟨by decide, by decide⟩ ⟨(by decide), (by decide)⟩ rfl (Nat.le_of_ble_eq_true rfl) dX4_link_18 ?_
      refine W.eq (g2 := F0 m 21 ls [.int r2]) rfl ?_
      refine lv_if_eq (tgt := 39) C.1 C.2.1 dX4_link_21 (by decide) (fun c3 => ?_) (fun c3 => ?_)
      · have h := if_t h c3
        exact wk_4_link_39 C X h hJ (lv_sub hl [0, 1, 2, 3] rfl)
      · have h := if_f h c3
        refine lv_aload_n C.1 C.2.1 dX4_link_24 rfl (lv_at hl 3 rfl) ?_
        refine lv_astore_n (lv' := [(2, .ref a1), (0, .ref v0), (1, .ref v1), (3, .ref a1)]) C.1 C.2.1 dX4_link_25 rfl hl (by decide) rfl (fun ls hl => ?_)
        refine lv_aload_n C.1 C.2.1 dX4_link_26 rfl (lv_at hl 1 rfl) ?_
        obtain ⟨hk, h⟩ := ckk_ok h
        obtain ⟨a4, h_a4, h⟩ := bd_ok h
        refine gk4_23 C X hJ.1 hk h_a4 dX4_link_27 ?_
        refine lv_aload_n C.1 C.2.1 dX4_link_30 rfl (lv_at hl 3 rfl) ?_
        obtain ⟨hk, h⟩ := ckk_ok h
        refine gk4_44 C X hJ.1 hk dX4_link_31 ?_
        obtain ⟨hk, h⟩ := ckk_ok h
        obtain ⟨hin2, h⟩ := ck_ok h
        refine c_aald C 30 (by decide) X.2.2.2.2.1 hJ.1 hk hin2 dX4_link_34 ?_
        refine lt_ok h (fun o5 e_o5 h => ?_)
        refine lv_nmq e_o5 ?_
        refine lv_astore_nq (o := o5) (lv' := [(3, va_rf o5), (2, .ref a1), (0, .ref v0), (1, .ref v1)]) C.1 C.2.1 dX4_link_35 rfl hl (by decide) rfl (fun ls hl => ?_)
        refine lv_goto (tgt := 12) C.1 C.2.1 dX4_link_36 (by decide) ?_
        exact ih h hJ (lv_sub hl [2, 3, 1, 0] rfl)
noncomputable def fk_4_link (S : cSt) (v0 : Nat) (v1 : Nat) : Option (cSt) :=
ckk S v0 5 (bd (kR S v0 6) fun a1 =>
ckk S v1 9 (
ckk S a1 30 (ck (kF S v1 13) (kL S a1) (lt (kO S a1 (Int32.toNatClampNeg (kF S v1 13))) fun o2 =>
fk_4_link_12 mFU S v0 v1 none o2))))
set_option maxRecDepth 100000 in
set_option maxHeartbeats 4000000 in
theorem tk_4_link (l : Launch) {D : cG} {S : cSt} {v0 : Nat} {v1 : Nat} {S9 : cSt} (h : fk_4_link S v0 v1 = some S9) : Met l yX4_link (Cond.code yX4_link cX4_link 4 none :: lw_g) { frames := 1, cells := 0, slots := 0, locals := 21 } (kPi [.ref v0, .ref v1] D S) (kW none D S S9) 0 0 (cA S) := by
  refine Met.ofW (cc := cX4_link) (maxL := 4) (ret := none) (by decide) rfl ?_
  intro p e s m args below meth c s₁ B hml hv
  obtain ⟨rfl, hW, X⟩ := hv
  have C : cY p (headSpec (Cond.code yX4_link cX4_link 4 none :: lw_g) { frames := 1, cells := 0, slots := 0, locals := 21 }).room s m _ meth c RX4 cX4_link 4 1 0 0 21 none := ⟨B.exec, B.bytes, hml, findClass_of_methodNamed B.named, fun w hw => atoms_spec (ws := Cond.code yX4_link cX4_link 4 none :: lw_g) B.pre w (List.mem_cons_of_mem _ hw), ⟨Nat.le_refl _, Nat.le_refl _, Nat.le_refl _, Nat.le_refl _⟩, B.returns, B.notSynchronized⟩
  have hl := lv_entry ([.ref v0, .ref v1]) (n := 4) (Nat.le_of_ble_eq_true rfl)
  rw [lg_entry_eq]
  generalize (lg_sl ([.ref v0, .ref v1]) ++ List.replicate (4 - (lg_sl ([.ref v0, .ref v1])).length) Slot.unset).toArray = ls at hl ⊢
  have hl : lv_has ls 4 [(0, .ref v0), (1, .ref v1)] := hl
  have hJ : cJ D S s.heap S s.heap [] := cJ.rf hW
  unfold fk_4_link at h
  refine lv_null C.1 C.2.1 dX4_link_0 ?_
  refine lv_astore_nq (o := none) (lv' := [(2, va_rf none), (0, .ref v0), (1, .ref v1)]) C.1 C.2.1 dX4_link_1 rfl hl (by decide) rfl (fun ls hl => ?_)
  refine lv_aload_n C.1 C.2.1 dX4_link_2 rfl (lv_at hl 1 rfl) ?_
  obtain ⟨hk, h⟩ := ckk_ok h
  obtain ⟨a1, h_a1, h⟩ := bd_ok h
  refine gk4_33 C X hJ.1 hk h_a1 dX4_link_3 ?_
  refine lv_aload_n C.1 C.2.1 dX4_link_6 rfl (lv_at hl 2 rfl) ?_
  obtain ⟨hk, h⟩ := ckk_ok h
  refine gk4_55 C X hJ.1 hk dX4_link_7 ?_
  obtain ⟨hk, h⟩ := ckk_ok h
  obtain ⟨hin2, h⟩ := ck_ok h
  refine c_aald C 30 (by decide) X.2.2.2.2.1 hJ.1 hk hin2 dX4_link_10 ?_
  refine lt_ok h (fun o2 e_o2 h => ?_)
  refine lv_nmq e_o2 ?_
  refine lv_astore_nq (o := o2) (lv' := [(3, va_rf o2), (2, va_rf none), (0, .ref v0), (1, .ref v1)]) C.1 C.2.1 dX4_link_11 rfl hl (by decide) rfl (fun ls hl => ?_)
  exact wk_4_link_12 C X mFU h hJ (lv_sub hl [2, 3, 1, 0] rfl)
end
theorem dX4_take_0 : decode cX4_take 0 = .ok (.aload_n 0, 1) := by decide +kernel
theorem dX4_take_1 : decode cX4_take 1 = .ok (.aload_n 1, 1) := by decide +kernel
theorem dX4_take_2 : decode cX4_take 2 = .ok (.invokevirtual 47, 3) := by decide +kernel
theorem dX4_take_5 : decode cX4_take 5 = .ok (.ifCond .eq 4, 3) := by decide +kernel
theorem dX4_take_8 : decode cX4_take 8 = .ok (.return_, 1) := by decide +kernel
theorem dX4_take_9 : decode cX4_take 9 = .ok (.aload_n 0, 1) := by decide +kernel
theorem dX4_take_10 : decode cX4_take 10 = .ok (.getfield 9, 3) := by decide +kernel
theorem dX4_take_13 : decode cX4_take 13 = .ok (.aload_n 0, 1) := by decide +kernel
theorem dX4_take_14 : decode cX4_take 14 = .ok (.getfield 36, 3) := by decide +kernel
theorem dX4_take_17 : decode cX4_take 17 = .ok (.aload_n 1, 1) := by decide +kernel
theorem dX4_take_18 : decode cX4_take 18 = .ok (.getfield 44, 3) := by decide +kernel
theorem dX4_take_21 : decode cX4_take 21 = .ok (.iastore, 1) := by decide +kernel
theorem dX4_take_22 : decode cX4_take 22 = .ok (.aload_n 0, 1) := by decide +kernel
theorem dX4_take_23 : decode cX4_take 23 = .ok (.dup, 1) := by decide +kernel
theorem dX4_take_24 : decode cX4_take 24 = .ok (.getfield 36, 3) := by decide +kernel
theorem dX4_take_27 : decode cX4_take 27 = .ok (.iconst 1, 1) := by decide +kernel
theorem dX4_take_28 : decode cX4_take 28 = .ok (.iadd, 1) := by decide +kernel
theorem dX4_take_29 : decode cX4_take 29 = .ok (.putfield 36, 3) := by decide +kernel
theorem dX4_take_32 : decode cX4_take 32 = .ok (.aload_n 0, 1) := by decide +kernel
theorem dX4_take_33 : decode cX4_take 33 = .ok (.getfield 15, 3) := by decide +kernel
theorem dX4_take_36 : decode cX4_take 36 = .ok (.aload_n 1, 1) := by decide +kernel
theorem dX4_take_37 : decode cX4_take 37 = .ok (.getfield 44, 3) := by decide +kernel
theorem dX4_take_40 : decode cX4_take 40 = .ok (.aload_n 0, 1) := by decide +kernel
theorem dX4_take_41 : decode cX4_take 41 = .ok (.getfield 36, 3) := by decide +kernel
theorem dX4_take_44 : decode cX4_take 44 = .ok (.iastore, 1) := by decide +kernel
theorem dX4_take_45 : decode cX4_take 45 = .ok (.aload_n 0, 1) := by decide +kernel
theorem dX4_take_46 : decode cX4_take 46 = .ok (.aload_n 1, 1) := by decide +kernel
theorem dX4_take_47 : decode cX4_take 47 = .ok (.aload_n 0, 1) := by decide +kernel
theorem dX4_take_48 : decode cX4_take 48 = .ok (.getfield 18, 3) := by decide +kernel
theorem dX4_take_51 : decode cX4_take 51 = .ok (.invokevirtual 51, 3) := by decide +kernel
theorem dX4_take_54 : decode cX4_take 54 = .ok (.aload_n 1, 1) := by decide +kernel
theorem dX4_take_55 : decode cX4_take 55 = .ok (.getfield 55, 3) := by decide +kernel
theorem dX4_take_58 : decode cX4_take 58 = .ok (.ifCond .lt 8, 3) := by decide +kernel
theorem dX4_take_61 : decode cX4_take 61 = .ok (.aload_n 0, 1) := by decide +kernel
theorem dX4_take_62 : decode cX4_take 62 = .ok (.aload_n 1, 1) := by decide +kernel
theorem dX4_take_63 : decode cX4_take 63 = .ok (.invokevirtual 58, 3) := by decide +kernel
theorem dX4_take_66 : decode cX4_take 66 = .ok (.return_, 1) := by decide +kernel
theorem kd_4_take : Cond.code yX4_take cX4_take 2 none ∈ lw_g := mt_at 1133 (by decide +kernel) rfl
theorem ki_4_take : Cond.instanceMethod yX4_take ∈ lw_g := mt_at 1131 (by decide +kernel) rfl
theorem kl_4_take : Cond.selects (kRn 4) yX4_take yX4_take ∈ lw_g := mt_at 1132 (by decide +kernel) rfl
theorem cw4_47 : cCw RX4 47 yX4_has cX4_has 2 (some .boolean) 1 := ⟨kd_4_has, mt_at 1134 (by decide +kernel) rfl, mt_at 9 (by decide +kernel) rfl, by decide +kernel⟩
theorem cw4_51 : cCw RX4 51 yX4_mark cX4_mark 4 none 2 := ⟨kd_4_mark, mt_at 1138 (by decide +kernel) rfl, mt_at 9 (by decide +kernel) rfl, by decide +kernel⟩
theorem cw4_58 : cCw RX4 58 yX4_link cX4_link 4 none 1 := ⟨kd_4_link, mt_at 1144 (by decide +kernel) rfl, mt_at 9 (by decide +kernel) rfl, by decide +kernel⟩
section
variable {p : Program} {l : Launch} {e : Env} {R : Room} {s : State} {m : MethodId} {args : Array Value} {below : List Frame} {meth : Method} {c : Code} {H : Heap} {locs : List Loc} {cells slots : Nat} {Q : State → Prop}
variable {D : cG} {S S0 : cSt} {cc : ByteArray} {nL : Nat} {pc : Nat} {ls : Array Slot} {rest : List Value} {H0 : Heap} {nF nR nC nS : Nat} {ret : Option FieldType} {a : Nat}
theorem gk4_9 (C : cY p R s m args meth c RX4 cc nL nF nC nS nR ret) (X : cX D s) (hW : cW D S H) (hk : kK S a = 5) {x : Nat} (hx : kR S a 0 = some x) (hdg : decode cc pc = .ok (.getfield 9, 3)) (kk : W p l e R s m args below meth c H locs cells slots Q (F0 m (pc + 3) ls (.ref x :: rest))) : W p l e R s m args below meth c H locs cells slots Q (F0 m pc ls (.ref a :: rest)) := c_get C X hW 4 (by decide) ly_4 hk 0 (by decide) (mt_at 226 (by decide +kernel) (by decide +kernel)) hdg (by rw [cV_R (by decide +kernel) hx]; exact kk)
theorem gk4_18 (C : cY p R s m args meth c RX4 cc nL nF nC nS nR ret) (X : cX D s) (hW : cW D S H) (hk : kK S a = 5) {x : Nat} (hx : kR S a 2 = some x) (hdg : decode cc pc = .ok (.getfield 18, 3)) (kk : W p l e R s m args below meth c H locs cells slots Q (F0 m (pc + 3) ls (.ref x :: rest))) : W p l e R s m args below meth c H locs cells slots Q (F0 m pc ls (.ref a :: rest)) := c_get C X hW 4 (by decide) ly_4 hk 2 (by decide) (mt_at 231 (by decide +kernel) (by decide +kernel)) hdg (by rw [cV_R (by decide +kernel) hx]; exact kk)
theorem gk4_36 (C : cY p R s m args meth c RX4 cc nL nF nC nS nR ret) (X : cX D s) (hW : cW D S H) (hk : kK S a = 5) (hdg : decode cc pc = .ok (.getfield 36, 3)) (kk : W p l e R s m args below meth c H locs cells slots Q (F0 m (pc + 3) ls (.int (kF S a 7) :: rest))) : W p l e R s m args below meth c H locs cells slots Q (F0 m pc ls (.ref a :: rest)) := c_get C X hW 4 (by decide) ly_4 hk 7 (by decide) (mt_at 243 (by decide +kernel) (by decide +kernel)) hdg (by rw [cV_I (by decide +kernel)]; exact kk)
end
section
variable {p : Program} {l : Launch} {e : Env} {R : Room} {s : State} {m : MethodId} {args : Array Value} {below : List Frame} {meth : Method} {c : Code} {D : cG} {S0 S9 : cSt}
noncomputable def fk_4_take_66 (S : cSt) : Option (cSt) :=
some S
set_option maxRecDepth 100000 in
set_option maxHeartbeats 4000000 in
theorem wk_4_take_66 (C : cY p R s m args meth c RX4 cX4_take 2 2 0 0 45 none) (X : cX D s) : ∀ {S : cSt} {H : Heap} {locs : List Loc} {ls : Array Slot}, fk_4_take_66 S = some S9 → cJ D S0 s.heap S H locs → lv_has ls 2 [] → W p l e R s m args below meth c H locs 0 0 (MQ below (kW none D S0 S9) args s 0 0 (cA S0)) (F0 m 66 ls []) := by
  intro S H locs ls h hJ hl
  unfold fk_4_take_66 at h
  cases h
  exact c_retvW C hJ dX4_take_66
noncomputable def fk_4_take (S : cSt) (v0 : Nat) (v1 : Nat) : Option (cSt) :=
ckk S v0 5 (bd (fk_4_has S v0 v1) fun r1 =>
if r1 = 0 then (
ckk S v0 5 (bd (kR S v0 0) fun a3 =>
ckk S v0 5 (
ckk S v1 9 (
ckk S a3 20 (ck (kF S v0 7) (kL S a3) (lt (cWi S a3 (Int32.toNatClampNeg (kF S v0 7)) (kF S v1 12)) fun S4 =>
ckk S4 v0 5 (
ckk S4 v0 5 (lt (cPi S4 v0 7 ((kF S4 v0 7) + (1 : Int32))) fun S5 =>
ckk S5 v0 5 (bd (kR S5 v0 1) fun a6 =>
ckk S5 v1 9 (
ckk S5 v0 5 (
ckk S5 a6 20 (ck (kF S5 v1 12) (kL S5 a6) (lt (cWi S5 a6 (Int32.toNatClampNeg (kF S5 v1 12)) (kF S5 v0 7)) fun S7 =>
ckk S7 v0 5 (bd (kR S7 v0 2) fun a8 =>
ckk S7 v0 5 (bd (fk_4_mark S7 v0 v1 a8) fun S10 =>
ckk S10 v1 9 (
if (kF S10 v1 13) < 0 then (
fk_4_take_66 S10)
else (
ckk S10 v0 5 (bd (fk_4_link S10 v0 v1) fun S12 =>
fk_4_take_66 S12))))))))))))))))))
else (
some S))
set_option maxRecDepth 100000 in
set_option maxHeartbeats 4000000 in
theorem tk_4_take (l : Launch) {D : cG} {S : cSt} {v0 : Nat} {v1 : Nat} {S9 : cSt} (h : fk_4_take S v0 v1 = some S9) : Met l yX4_take (Cond.code yX4_take cX4_take 2 none :: lw_g) { frames := 2, cells := 0, slots := 0, locals := 45 } (kPi [.ref v0, .ref v1] D S) (kW none D S S9) 0 0 (cA S) := by
  refine Met.ofW (cc := cX4_take) (maxL := 2) (ret := none) (by decide) rfl ?_
  intro p e s m args below meth c s₁ B hml hv
  obtain ⟨rfl, hW, X⟩ := hv
  have C : cY p (headSpec (Cond.code yX4_take cX4_take 2 none :: lw_g) { frames := 2, cells := 0, slots := 0, locals := 45 }).room s m _ meth c RX4 cX4_take 2 2 0 0 45 none := ⟨B.exec, B.bytes, hml, findClass_of_methodNamed B.named, fun w hw => atoms_spec (ws := Cond.code yX4_take cX4_take 2 none :: lw_g) B.pre w (List.mem_cons_of_mem _ hw), ⟨Nat.le_refl _, Nat.le_refl _, Nat.le_refl _, Nat.le_refl _⟩, B.returns, B.notSynchronized⟩
  have hl := lv_entry ([.ref v0, .ref v1]) (n := 2) (Nat.le_of_ble_eq_true rfl)
  rw [lg_entry_eq]
  generalize (lg_sl ([.ref v0, .ref v1]) ++ List.replicate (2 - (lg_sl ([.ref v0, .ref v1])).length) Slot.unset).toArray = ls at hl ⊢
  have hl : lv_has ls 2 [(0, .ref v0), (1, .ref v1)] := hl
  have hJ : cJ D S s.heap S s.heap [] := cJ.rf hW
  unfold fk_4_take at h
  refine lv_aload_n C.1 C.2.1 dX4_take_0 rfl (lv_at hl 0 rfl) ?_
  refine lv_aload_n C.1 C.2.1 dX4_take_1 rfl (lv_at hl 1 rfl) ?_
  obtain ⟨hk, h⟩ := ckk_ok h
  obtain ⟨r1, h_r1, h⟩ := bd_ok h
  refine c_callR (rest := []) C X hJ.1 hl.1 4 (by decide) hk [.ref v1] (tk_4_has l h_r1) cw4_47 ki_4_has kl_4_has rfl ⟨by decide, by decide⟩ ⟨(by decide), (by decide)⟩ rfl (Nat.le_of_ble_eq_true rfl) dX4_take_2 ?_
  refine W.eq (g2 := F0 m 5 ls [.int r1]) rfl ?_
  refine lv_if_eq (tgt := 9) C.1 C.2.1 dX4_take_5 (by decide) (fun c2 => ?_) (fun c2 => ?_)
  · have h := if_t h c2
    refine lv_aload_n C.1 C.2.1 dX4_take_9 rfl (lv_at hl 0 rfl) ?_
    obtain ⟨hk, h⟩ := ckk_ok h
    obtain ⟨a3, h_a3, h⟩ := bd_ok h
    refine gk4_9 C X hJ.1 hk h_a3 dX4_take_10 ?_
    refine lv_aload_n C.1 C.2.1 dX4_take_13 rfl (lv_at hl 0 rfl) ?_
    obtain ⟨hk, h⟩ := ckk_ok h
    refine gk4_36 C X hJ.1 hk dX4_take_14 ?_
    refine lv_aload_n C.1 C.2.1 dX4_take_17 rfl (lv_at hl 1 rfl) ?_
    obtain ⟨hk, h⟩ := ckk_ok h
    refine gk4_44 C X hJ.1 hk dX4_take_18 ?_
    obtain ⟨hk, h⟩ := ckk_ok h
    obtain ⟨hin2, h⟩ := ck_ok h
    refine c_iast C X hJ hk hin2 dX4_take_21 (fun H locs hJ => ?_)
    refine lt_ok h (fun S4 e_S4 h => ?_)
    rw [e_S4] at hJ
    refine lv_aload_n C.1 C.2.1 dX4_take_22 rfl (lv_at hl 0 rfl) ?_
    refine lv_dup C.1 C.2.1 dX4_take_23 rfl ?_
    obtain ⟨hk, h⟩ := ckk_ok h
    refine gk4_36 C X hJ.1 hk dX4_take_24 ?_
    refine lv_iconst (v := 1) C.1 C.2.1 dX4_take_27 (by decide) ?_
    refine lv_iadd C.1 C.2.1 dX4_take_28 ?_
    obtain ⟨hk, h⟩ := ckk_ok h
    refine pk4_36 C X hJ hk dX4_take_29 (fun H locs hJ => ?_)
    refine lt_ok h (fun S5 e_S5 h => ?_)
    rw [e_S5] at hJ
    refine lv_aload_n C.1 C.2.1 dX4_take_32 rfl (lv_at hl 0 rfl) ?_
    obtain ⟨hk, h⟩ := ckk_ok h
    obtain ⟨a6, h_a6, h⟩ := bd_ok h
    refine gk4_15 C X hJ.1 hk h_a6 dX4_take_33 ?_
    refine lv_aload_n C.1 C.2.1 dX4_take_36 rfl (lv_at hl 1 rfl) ?_
    obtain ⟨hk, h⟩ := ckk_ok h
    refine gk4_44 C X hJ.1 hk dX4_take_37 ?_
    refine lv_aload_n C.1 C.2.1 dX4_take_40 rfl (lv_at hl 0 rfl) ?_
    obtain ⟨hk, h⟩ := ckk_ok h
    refine gk4_36 C X hJ.1 hk dX4_take_41 ?_
    obtain ⟨hk, h⟩ := ckk_ok h
    obtain ⟨hin2, h⟩ := ck_ok h
    refine c_iast C X hJ hk hin2 dX4_take_44 (fun H locs hJ => ?_)
    refine lt_ok h (fun S7 e_S7 h => ?_)
    rw [e_S7] at hJ
    refine lv_aload_n C.1 C.2.1 dX4_take_45 rfl (lv_at hl 0 rfl) ?_
    refine lv_aload_n C.1 C.2.1 dX4_take_46 rfl (lv_at hl 1 rfl) ?_
    refine lv_aload_n C.1 C.2.1 dX4_take_47 rfl (lv_at hl 0 rfl) ?_
    obtain ⟨hk, h⟩ := ckk_ok h
    obtain ⟨a8, h_a8, h⟩ := bd_ok h
    refine gk4_18 C X hJ.1 hk h_a8 dX4_take_48 ?_
    obtain ⟨hk, h⟩ := ckk_ok h
    obtain ⟨S10, h_S10, h⟩ := bd_ok h
    refine c_callW (rest := []) C X hJ hl.1 4 (by decide) hk [.ref v1, .ref a8] (tk_4_mark l h_S10) cw4_51 ki_4_mark kl_4_mark rfl ⟨by decide, by decide⟩ ⟨(by decide), (by decide)⟩ rfl (Nat.le_of_ble_eq_true rfl) dX4_take_51 (fun H locs hJ => ?_)
    refine W.eq (g2 := F0 m 54 ls []) rfl ?_
    refine lv_aload_n C.1 C.2.1 dX4_take_54 rfl (lv_at hl 1 rfl) ?_
    obtain ⟨hk, h⟩ := ckk_ok h
    refine gk4_55 C X hJ.1 hk dX4_take_55 ?_
    refine lv_if_lt (tgt := 66) C.1 C.2.1 dX4_take_58 (by decide) (fun c11 => ?_) (fun c11 => ?_)
    · have h := if_t h c11
      exact wk_4_take_66 C X h hJ (lv_sub hl [] rfl)
    · have h := if_f h c11
      refine lv_aload_n C.1 C.2.1 dX4_take_61 rfl (lv_at hl 0 rfl) ?_
      refine lv_aload_n C.1 C.2.1 dX4_take_62 rfl (lv_at hl 1 rfl) ?_
      obtain ⟨hk, h⟩ := ckk_ok h
      obtain ⟨S12, h_S12, h⟩ := bd_ok h
      refine c_callW (rest := []) C X hJ hl.1 4 (by decide) hk [.ref v1] (tk_4_link l h_S12) cw4_58 ki_4_link kl_4_link rfl ⟨by decide, by decide⟩ ⟨(by decide), (by decide)⟩ rfl (Nat.le_of_ble_eq_true rfl) dX4_take_63 (fun H locs hJ => ?_)
      refine W.eq (g2 := F0 m 66 ls []) rfl ?_
      exact wk_4_take_66 C X h hJ (lv_sub hl [] rfl)
  · have h := if_f h c2
    cases h
    exact c_retvW C hJ dX4_take_8
end
theorem dX4_copyFrom_0 : decode cX4_copyFrom 0 = .ok (.aload_n 0, 1) := by decide +kernel
theorem dX4_copyFrom_1 : decode cX4_copyFrom 1 = .ok (.aload_n 1, 1) := by decide +kernel
theorem dX4_copyFrom_2 : decode cX4_copyFrom 2 = .ok (.getfield 36, 3) := by decide +kernel
theorem dX4_copyFrom_5 : decode cX4_copyFrom 5 = .ok (.putfield 36, 3) := by decide +kernel
theorem dX4_copyFrom_8 : decode cX4_copyFrom 8 = .ok (.aload_n 1, 1) := by decide +kernel
theorem dX4_copyFrom_9 : decode cX4_copyFrom 9 = .ok (.getfield 9, 3) := by decide +kernel
theorem dX4_copyFrom_12 : decode cX4_copyFrom 12 = .ok (.iconst 0, 1) := by decide +kernel
theorem dX4_copyFrom_13 : decode cX4_copyFrom 13 = .ok (.aload_n 0, 1) := by decide +kernel
theorem dX4_copyFrom_14 : decode cX4_copyFrom 14 = .ok (.getfield 9, 3) := by decide +kernel
theorem dX4_copyFrom_17 : decode cX4_copyFrom 17 = .ok (.iconst 0, 1) := by decide +kernel
theorem dX4_copyFrom_18 : decode cX4_copyFrom 18 = .ok (.sipush 1000, 3) := by decide +kernel
theorem dX4_copyFrom_21 : decode cX4_copyFrom 21 = .ok (.invokestatic 81, 3) := by decide +kernel
theorem dX4_copyFrom_24 : decode cX4_copyFrom 24 = .ok (.aload_n 1, 1) := by decide +kernel
theorem dX4_copyFrom_25 : decode cX4_copyFrom 25 = .ok (.getfield 15, 3) := by decide +kernel
theorem dX4_copyFrom_28 : decode cX4_copyFrom 28 = .ok (.iconst 0, 1) := by decide +kernel
theorem dX4_copyFrom_29 : decode cX4_copyFrom 29 = .ok (.aload_n 0, 1) := by decide +kernel
theorem dX4_copyFrom_30 : decode cX4_copyFrom 30 = .ok (.getfield 15, 3) := by decide +kernel
theorem dX4_copyFrom_33 : decode cX4_copyFrom 33 = .ok (.iconst 0, 1) := by decide +kernel
theorem dX4_copyFrom_34 : decode cX4_copyFrom 34 = .ok (.sipush 1000, 3) := by decide +kernel
theorem dX4_copyFrom_37 : decode cX4_copyFrom 37 = .ok (.invokestatic 81, 3) := by decide +kernel
theorem dX4_copyFrom_40 : decode cX4_copyFrom 40 = .ok (.aload_n 1, 1) := by decide +kernel
theorem dX4_copyFrom_41 : decode cX4_copyFrom 41 = .ok (.getfield 18, 3) := by decide +kernel
theorem dX4_copyFrom_44 : decode cX4_copyFrom 44 = .ok (.iconst 0, 1) := by decide +kernel
theorem dX4_copyFrom_45 : decode cX4_copyFrom 45 = .ok (.aload_n 0, 1) := by decide +kernel
theorem dX4_copyFrom_46 : decode cX4_copyFrom 46 = .ok (.getfield 18, 3) := by decide +kernel
theorem dX4_copyFrom_49 : decode cX4_copyFrom 49 = .ok (.iconst 0, 1) := by decide +kernel
theorem dX4_copyFrom_50 : decode cX4_copyFrom 50 = .ok (.sipush 1000, 3) := by decide +kernel
theorem dX4_copyFrom_53 : decode cX4_copyFrom 53 = .ok (.invokestatic 81, 3) := by decide +kernel
theorem dX4_copyFrom_56 : decode cX4_copyFrom 56 = .ok (.iconst 0, 1) := by decide +kernel
theorem dX4_copyFrom_57 : decode cX4_copyFrom 57 = .ok (.istore_n 2, 1) := by decide +kernel
theorem dX4_copyFrom_58 : decode cX4_copyFrom 58 = .ok (.iload_n 2, 1) := by decide +kernel
theorem dX4_copyFrom_59 : decode cX4_copyFrom 59 = .ok (.sipush 1000, 3) := by decide +kernel
theorem dX4_copyFrom_62 : decode cX4_copyFrom 62 = .ok (.if_icmp .ge 33, 3) := by decide +kernel
theorem dX4_copyFrom_65 : decode cX4_copyFrom 65 = .ok (.aload_n 0, 1) := by decide +kernel
theorem dX4_copyFrom_66 : decode cX4_copyFrom 66 = .ok (.getfield 23, 3) := by decide +kernel
theorem dX4_copyFrom_69 : decode cX4_copyFrom 69 = .ok (.iload_n 2, 1) := by decide +kernel
theorem dX4_copyFrom_70 : decode cX4_copyFrom 70 = .ok (.aload_n 1, 1) := by decide +kernel
theorem dX4_copyFrom_71 : decode cX4_copyFrom 71 = .ok (.getfield 23, 3) := by decide +kernel
theorem dX4_copyFrom_74 : decode cX4_copyFrom 74 = .ok (.iload_n 2, 1) := by decide +kernel
theorem dX4_copyFrom_75 : decode cX4_copyFrom 75 = .ok (.aaload, 1) := by decide +kernel
theorem dX4_copyFrom_76 : decode cX4_copyFrom 76 = .ok (.aastore, 1) := by decide +kernel
theorem dX4_copyFrom_77 : decode cX4_copyFrom 77 = .ok (.aload_n 0, 1) := by decide +kernel
theorem dX4_copyFrom_78 : decode cX4_copyFrom 78 = .ok (.getfield 27, 3) := by decide +kernel
theorem dX4_copyFrom_81 : decode cX4_copyFrom 81 = .ok (.iload_n 2, 1) := by decide +kernel
theorem dX4_copyFrom_82 : decode cX4_copyFrom 82 = .ok (.aload_n 1, 1) := by decide +kernel
theorem dX4_copyFrom_83 : decode cX4_copyFrom 83 = .ok (.getfield 27, 3) := by decide +kernel
theorem dX4_copyFrom_86 : decode cX4_copyFrom 86 = .ok (.iload_n 2, 1) := by decide +kernel
theorem dX4_copyFrom_87 : decode cX4_copyFrom 87 = .ok (.aaload, 1) := by decide +kernel
theorem dX4_copyFrom_88 : decode cX4_copyFrom 88 = .ok (.aastore, 1) := by decide +kernel
theorem dX4_copyFrom_89 : decode cX4_copyFrom 89 = .ok (.iinc 2 1, 3) := by decide +kernel
theorem dX4_copyFrom_92 : decode cX4_copyFrom 92 = .ok (.goto (-34), 3) := by decide +kernel
theorem dX4_copyFrom_95 : decode cX4_copyFrom 95 = .ok (.iconst 0, 1) := by decide +kernel
theorem dX4_copyFrom_96 : decode cX4_copyFrom 96 = .ok (.istore_n 2, 1) := by decide +kernel
theorem dX4_copyFrom_97 : decode cX4_copyFrom 97 = .ok (.iload_n 2, 1) := by decide +kernel
theorem dX4_copyFrom_98 : decode cX4_copyFrom 98 = .ok (.sipush 385, 3) := by decide +kernel
theorem dX4_copyFrom_101 : decode cX4_copyFrom 101 = .ok (.if_icmp .ge 33, 3) := by decide +kernel
theorem dX4_copyFrom_104 : decode cX4_copyFrom 104 = .ok (.aload_n 0, 1) := by decide +kernel
theorem dX4_copyFrom_105 : decode cX4_copyFrom 105 = .ok (.getfield 30, 3) := by decide +kernel
theorem dX4_copyFrom_108 : decode cX4_copyFrom 108 = .ok (.iload_n 2, 1) := by decide +kernel
theorem dX4_copyFrom_109 : decode cX4_copyFrom 109 = .ok (.aload_n 1, 1) := by decide +kernel
theorem dX4_copyFrom_110 : decode cX4_copyFrom 110 = .ok (.getfield 30, 3) := by decide +kernel
theorem dX4_copyFrom_113 : decode cX4_copyFrom 113 = .ok (.iload_n 2, 1) := by decide +kernel
theorem dX4_copyFrom_114 : decode cX4_copyFrom 114 = .ok (.aaload, 1) := by decide +kernel
theorem dX4_copyFrom_115 : decode cX4_copyFrom 115 = .ok (.aastore, 1) := by decide +kernel
theorem dX4_copyFrom_116 : decode cX4_copyFrom 116 = .ok (.aload_n 0, 1) := by decide +kernel
theorem dX4_copyFrom_117 : decode cX4_copyFrom 117 = .ok (.getfield 33, 3) := by decide +kernel
theorem dX4_copyFrom_120 : decode cX4_copyFrom 120 = .ok (.iload_n 2, 1) := by decide +kernel
theorem dX4_copyFrom_121 : decode cX4_copyFrom 121 = .ok (.aload_n 1, 1) := by decide +kernel
theorem dX4_copyFrom_122 : decode cX4_copyFrom 122 = .ok (.getfield 33, 3) := by decide +kernel
theorem dX4_copyFrom_125 : decode cX4_copyFrom 125 = .ok (.iload_n 2, 1) := by decide +kernel
theorem dX4_copyFrom_126 : decode cX4_copyFrom 126 = .ok (.aaload, 1) := by decide +kernel
theorem dX4_copyFrom_127 : decode cX4_copyFrom 127 = .ok (.aastore, 1) := by decide +kernel
theorem dX4_copyFrom_128 : decode cX4_copyFrom 128 = .ok (.iinc 2 1, 3) := by decide +kernel
theorem dX4_copyFrom_131 : decode cX4_copyFrom 131 = .ok (.goto (-34), 3) := by decide +kernel
theorem dX4_copyFrom_134 : decode cX4_copyFrom 134 = .ok (.return_, 1) := by decide +kernel
theorem kd_4_copyFrom : Cond.code yX4_copyFrom cX4_copyFrom 3 none ∈ lw_g := mt_at 1443 (by decide +kernel) rfl
theorem ki_4_copyFrom : Cond.instanceMethod yX4_copyFrom ∈ lw_g := mt_at 1441 (by decide +kernel) rfl
theorem kl_4_copyFrom : Cond.selects (kRn 4) yX4_copyFrom yX4_copyFrom ∈ lw_g := mt_at 1442 (by decide +kernel) rfl
theorem mm4_81 : Cond.methodLink RX4 81 arraycopyName ∈ lw_g := mt_at 1444 (by decide +kernel) rfl
section
variable {p : Program} {l : Launch} {e : Env} {R : Room} {s : State} {m : MethodId} {args : Array Value} {below : List Frame} {meth : Method} {c : Code} {D : cG} {S0 S9 : cSt}
noncomputable def fk_4_copyFrom_97 : Nat → cSt → Nat → Nat → Int32 → Option (cSt)
  | 0, _, _, _, _ => none
  | n + 1, S, v0, v1, v2 =>
    if (385 : Int32) ≤ v2 then (
    some S)
    else (
    ckk S v0 5 (bd (kR S v0 5) fun a2 =>
    ckk S v1 5 (bd (kR S v1 5) fun a3 =>
    ckk S a3 30 (ck v2 (kL S a3) (lt (kO S a3 (Int32.toNatClampNeg v2)) fun o4 =>
    ckk S a2 30 (ck v2 (kL S a2) (ckq S o4 9 (lt (cWo S a2 (Int32.toNatClampNeg v2) o4) fun S5 =>
    ckk S5 v0 5 (bd (kR S5 v0 6) fun a6 =>
    ckk S5 v1 5 (bd (kR S5 v1 6) fun a7 =>
    ckk S5 a7 30 (ck v2 (kL S5 a7) (lt (kO S5 a7 (Int32.toNatClampNeg v2)) fun o8 =>
    ckk S5 a6 30 (ck v2 (kL S5 a6) (ckq S5 o8 9 (lt (cWo S5 a6 (Int32.toNatClampNeg v2) o8) fun S10 =>
    lt (v2 + (1 : Int32)) fun x11 =>
    fk_4_copyFrom_97 n S10 v0 v1 x11)))))))))))))))
set_option maxRecDepth 100000 in
set_option maxHeartbeats 4000000 in
theorem wk_4_copyFrom_97 (C : cY p R s m args meth c RX4 cX4_copyFrom 3 2 0 0 60 none) (X : cX D s) : ∀ (n : Nat), ∀ {S : cSt} {v0 : Nat} {v1 : Nat} {v2 : Int32} {H : Heap} {locs : List Loc} {ls : Array Slot}, fk_4_copyFrom_97 n S v0 v1 v2 = some S9 → cJ D S0 s.heap S H locs → lv_has ls 3 [(0, .ref v0), (1, .ref v1), (2, .int v2)] → W p l e R s m args below meth c H locs 0 0 (MQ below (kW none D S0 S9) args s 0 0 (cA S0)) (F0 m 97 ls []) := by
  intro n
  induction n with
  | zero =>
    intro S v0 v1 v2 H locs ls h hJ hl
    exact absurd (show (none : Option (cSt)) = _ from h) (fun q => by cases q)
  | succ n ih =>
    intro S v0 v1 v2 H locs ls h hJ hl
    rw [fk_4_copyFrom_97] at h
    refine lv_iload_n C.1 C.2.1 dX4_copyFrom_97 rfl (lv_at hl 2 rfl) ?_
    refine lv_sipush (v := 385) C.1 C.2.1 dX4_copyFrom_98 (by decide) ?_
    refine lv_icmp_ge (tgt := 134) C.1 C.2.1 dX4_copyFrom_101 (by decide) (fun c1 => ?_) (fun c1 => ?_)
    · have h := if_t h c1
      cases h
      exact c_retvW C hJ dX4_copyFrom_134
    · have h := if_f h c1
      refine lv_aload_n C.1 C.2.1 dX4_copyFrom_104 rfl (lv_at hl 0 rfl) ?_
      obtain ⟨hk, h⟩ := ckk_ok h
      obtain ⟨a2, h_a2, h⟩ := bd_ok h
      refine gk4_30 C X hJ.1 hk h_a2 dX4_copyFrom_105 ?_
      refine lv_iload_n C.1 C.2.1 dX4_copyFrom_108 rfl (lv_at hl 2 rfl) ?_
      refine lv_aload_n C.1 C.2.1 dX4_copyFrom_109 rfl (lv_at hl 1 rfl) ?_
      obtain ⟨hk, h⟩ := ckk_ok h
      obtain ⟨a3, h_a3, h⟩ := bd_ok h
      refine gk4_30 C X hJ.1 hk h_a3 dX4_copyFrom_110 ?_
      refine lv_iload_n C.1 C.2.1 dX4_copyFrom_113 rfl (lv_at hl 2 rfl) ?_
      obtain ⟨hk, h⟩ := ckk_ok h
      obtain ⟨hin2, h⟩ := ck_ok h
      refine c_aald C 30 (by decide) X.2.2.2.2.1 hJ.1 hk hin2 dX4_copyFrom_114 ?_
      refine lt_ok h (fun o4 e_o4 h => ?_)
      refine lv_nmq e_o4 ?_
      obtain ⟨hk, h⟩ := ckk_ok h
      obtain ⟨hin2, h⟩ := ck_ok h
      obtain ⟨hkv, h⟩ := ckq_ok h
      refine c_aastq (o := o4) C X 30 8 (by decide) (by decide) X.2.2.2.2.1 hJ hk hkv hin2 dX4_copyFrom_115 (fun H locs hJ => ?_)
      refine lt_ok h (fun S5 e_S5 h => ?_)
      rw [e_S5] at hJ
      refine lv_aload_n C.1 C.2.1 dX4_copyFrom_116 rfl (lv_at hl 0 rfl) ?_
      obtain ⟨hk, h⟩ := ckk_ok h
      obtain ⟨a6, h_a6, h⟩ := bd_ok h
      refine gk4_33 C X hJ.1 hk h_a6 dX4_copyFrom_117 ?_
      refine lv_iload_n C.1 C.2.1 dX4_copyFrom_120 rfl (lv_at hl 2 rfl) ?_
      refine lv_aload_n C.1 C.2.1 dX4_copyFrom_121 rfl (lv_at hl 1 rfl) ?_
      obtain ⟨hk, h⟩ := ckk_ok h
      obtain ⟨a7, h_a7, h⟩ := bd_ok h
      refine gk4_33 C X hJ.1 hk h_a7 dX4_copyFrom_122 ?_
      refine lv_iload_n C.1 C.2.1 dX4_copyFrom_125 rfl (lv_at hl 2 rfl) ?_
      obtain ⟨hk, h⟩ := ckk_ok h
      obtain ⟨hin2, h⟩ := ck_ok h
      refine c_aald C 30 (by decide) X.2.2.2.2.1 hJ.1 hk hin2 dX4_copyFrom_126 ?_
      refine lt_ok h (fun o8 e_o8 h => ?_)
      refine lv_nmq e_o8 ?_
      obtain ⟨hk, h⟩ := ckk_ok h
      obtain ⟨hin2, h⟩ := ck_ok h
      obtain ⟨hkv, h⟩ := ckq_ok h
      refine c_aastq (o := o8) C X 30 8 (by decide) (by decide) X.2.2.2.2.1 hJ hk hkv hin2 dX4_copyFrom_127 (fun H locs hJ => ?_)
      refine lt_ok h (fun S10 e_S10 h => ?_)
      rw [e_S10] at hJ
      refine lt_ok h (fun x11 e_x11 h => ?_)
      refine lv_iinc (v := x11) (lv' := [(2, .int x11), (0, .ref v0), (1, .ref v1)]) C.1 C.2.1 dX4_copyFrom_128 hl (k := 2) rfl (by rw [← e_x11]; rfl) (by decide) rfl (fun ls hl => ?_)
      refine lv_goto (tgt := 97) C.1 C.2.1 dX4_copyFrom_131 (by decide) ?_
      exact ih h hJ (lv_sub hl [1, 2, 0] rfl)
noncomputable def fk_4_copyFrom_58 : Nat → cSt → Nat → Nat → Int32 → Option (cSt)
  | 0, _, _, _, _ => none
  | n + 1, S, v0, v1, v2 =>
    if (1000 : Int32) ≤ v2 then (
    fk_4_copyFrom_97 mFU S v0 v1 (0 : Int32))
    else (
    ckk S v0 5 (bd (kR S v0 3) fun a2 =>
    ckk S v1 5 (bd (kR S v1 3) fun a3 =>
    ckk S a3 30 (ck v2 (kL S a3) (lt (kO S a3 (Int32.toNatClampNeg v2)) fun o4 =>
    ckk S a2 30 (ck v2 (kL S a2) (ckq S o4 9 (lt (cWo S a2 (Int32.toNatClampNeg v2) o4) fun S5 =>
    ckk S5 v0 5 (bd (kR S5 v0 4) fun a6 =>
    ckk S5 v1 5 (bd (kR S5 v1 4) fun a7 =>
    ckk S5 a7 30 (ck v2 (kL S5 a7) (lt (kO S5 a7 (Int32.toNatClampNeg v2)) fun o8 =>
    ckk S5 a6 30 (ck v2 (kL S5 a6) (ckq S5 o8 9 (lt (cWo S5 a6 (Int32.toNatClampNeg v2) o8) fun S10 =>
    lt (v2 + (1 : Int32)) fun x11 =>
    fk_4_copyFrom_58 n S10 v0 v1 x11)))))))))))))))
set_option maxRecDepth 100000 in
set_option maxHeartbeats 4000000 in
theorem wk_4_copyFrom_58 (C : cY p R s m args meth c RX4 cX4_copyFrom 3 2 0 0 60 none) (X : cX D s) : ∀ (n : Nat), ∀ {S : cSt} {v0 : Nat} {v1 : Nat} {v2 : Int32} {H : Heap} {locs : List Loc} {ls : Array Slot}, fk_4_copyFrom_58 n S v0 v1 v2 = some S9 → cJ D S0 s.heap S H locs → lv_has ls 3 [(0, .ref v0), (1, .ref v1), (2, .int v2)] → W p l e R s m args below meth c H locs 0 0 (MQ below (kW none D S0 S9) args s 0 0 (cA S0)) (F0 m 58 ls []) := by
  intro n
  induction n with
  | zero =>
    intro S v0 v1 v2 H locs ls h hJ hl
    exact absurd (show (none : Option (cSt)) = _ from h) (fun q => by cases q)
  | succ n ih =>
    intro S v0 v1 v2 H locs ls h hJ hl
    rw [fk_4_copyFrom_58] at h
    refine lv_iload_n C.1 C.2.1 dX4_copyFrom_58 rfl (lv_at hl 2 rfl) ?_
    refine lv_sipush (v := 1000) C.1 C.2.1 dX4_copyFrom_59 (by decide) ?_
    refine lv_icmp_ge (tgt := 95) C.1 C.2.1 dX4_copyFrom_62 (by decide) (fun c1 => ?_) (fun c1 => ?_)
    · have h := if_t h c1
      refine lv_iconst (v := 0) C.1 C.2.1 dX4_copyFrom_95 (by decide) ?_
      refine lv_istore_n (lv' := [(2, .int (0 : Int32)), (0, .ref v0), (1, .ref v1)]) C.1 C.2.1 dX4_copyFrom_96 rfl hl (by decide) rfl (fun ls hl => ?_)
      exact wk_4_copyFrom_97 C X mFU h hJ (lv_sub hl [1, 2, 0] rfl)
    · have h := if_f h c1
      refine lv_aload_n C.1 C.2.1 dX4_copyFrom_65 rfl (lv_at hl 0 rfl) ?_
      obtain ⟨hk, h⟩ := ckk_ok h
      obtain ⟨a2, h_a2, h⟩ := bd_ok h
      refine gk4_23 C X hJ.1 hk h_a2 dX4_copyFrom_66 ?_
      refine lv_iload_n C.1 C.2.1 dX4_copyFrom_69 rfl (lv_at hl 2 rfl) ?_
      refine lv_aload_n C.1 C.2.1 dX4_copyFrom_70 rfl (lv_at hl 1 rfl) ?_
      obtain ⟨hk, h⟩ := ckk_ok h
      obtain ⟨a3, h_a3, h⟩ := bd_ok h
      refine gk4_23 C X hJ.1 hk h_a3 dX4_copyFrom_71 ?_
      refine lv_iload_n C.1 C.2.1 dX4_copyFrom_74 rfl (lv_at hl 2 rfl) ?_
      obtain ⟨hk, h⟩ := ckk_ok h
      obtain ⟨hin2, h⟩ := ck_ok h
      refine c_aald C 30 (by decide) X.2.2.2.2.1 hJ.1 hk hin2 dX4_copyFrom_75 ?_
      refine lt_ok h (fun o4 e_o4 h => ?_)
      refine lv_nmq e_o4 ?_
      obtain ⟨hk, h⟩ := ckk_ok h
      obtain ⟨hin2, h⟩ := ck_ok h
      obtain ⟨hkv, h⟩ := ckq_ok h
      refine c_aastq (o := o4) C X 30 8 (by decide) (by decide) X.2.2.2.2.1 hJ hk hkv hin2 dX4_copyFrom_76 (fun H locs hJ => ?_)
      refine lt_ok h (fun S5 e_S5 h => ?_)
      rw [e_S5] at hJ
      refine lv_aload_n C.1 C.2.1 dX4_copyFrom_77 rfl (lv_at hl 0 rfl) ?_
      obtain ⟨hk, h⟩ := ckk_ok h
      obtain ⟨a6, h_a6, h⟩ := bd_ok h
      refine gk4_27 C X hJ.1 hk h_a6 dX4_copyFrom_78 ?_
      refine lv_iload_n C.1 C.2.1 dX4_copyFrom_81 rfl (lv_at hl 2 rfl) ?_
      refine lv_aload_n C.1 C.2.1 dX4_copyFrom_82 rfl (lv_at hl 1 rfl) ?_
      obtain ⟨hk, h⟩ := ckk_ok h
      obtain ⟨a7, h_a7, h⟩ := bd_ok h
      refine gk4_27 C X hJ.1 hk h_a7 dX4_copyFrom_83 ?_
      refine lv_iload_n C.1 C.2.1 dX4_copyFrom_86 rfl (lv_at hl 2 rfl) ?_
      obtain ⟨hk, h⟩ := ckk_ok h
      obtain ⟨hin2, h⟩ := ck_ok h
      refine c_aald C 30 (by decide) X.2.2.2.2.1 hJ.1 hk hin2 dX4_copyFrom_87 ?_
      refine lt_ok h (fun o8 e_o8 h => ?_)
      refine lv_nmq e_o8 ?_
      obtain ⟨hk, h⟩ := ckk_ok h
      obtain ⟨hin2, h⟩ := ck_ok h
      obtain ⟨hkv, h⟩ := ckq_ok h
      refine c_aastq (o := o8) C X 30 8 (by decide) (by decide) X.2.2.2.2.1 hJ hk hkv hin2 dX4_copyFrom_88 (fun H locs hJ => ?_)
      refine lt_ok h (fun S10 e_S10 h => ?_)
      rw [e_S10] at hJ
      refine lt_ok h (fun x11 e_x11 h => ?_)
      refine lv_iinc (v := x11) (lv' := [(2, .int x11), (0, .ref v0), (1, .ref v1)]) C.1 C.2.1 dX4_copyFrom_89 hl (k := 2) rfl (by rw [← e_x11]; rfl) (by decide) rfl (fun ls hl => ?_)
      refine lv_goto (tgt := 58) C.1 C.2.1 dX4_copyFrom_92 (by decide) ?_
      exact ih h hJ (lv_sub hl [1, 2, 0] rfl)
noncomputable def fk_4_copyFrom (S : cSt) (v0 : Nat) (v1 : Nat) : Option (cSt) :=
ckk S v1 5 (
ckk S v0 5 (lt (cPi S v0 7 (kF S v1 7)) fun S1 =>
ckk S1 v1 5 (bd (kR S1 v1 0) fun a2 =>
ckk S1 v0 5 (bd (kR S1 v0 0) fun a3 =>
ckk S1 a2 20 (ckk S1 a3 20 (ckp ((¬ (0 : Int32) < 0 ∧ ¬ (0 : Int32) < 0 ∧ ¬ (1000 : Int32) < 0) ∧ (Int32.toNatClampNeg (0 : Int32)) + (Int32.toNatClampNeg (1000 : Int32)) ≤ kL S1 a2 ∧ (Int32.toNatClampNeg (0 : Int32)) + (Int32.toNatClampNeg (1000 : Int32)) ≤ kL S1 a3) (lt (cCp S1 a2 (Int32.toNatClampNeg (0 : Int32)) a3 (Int32.toNatClampNeg (0 : Int32)) (Int32.toNatClampNeg (1000 : Int32))) fun S4 =>
ckk S4 v1 5 (bd (kR S4 v1 1) fun a5 =>
ckk S4 v0 5 (bd (kR S4 v0 1) fun a6 =>
ckk S4 a5 20 (ckk S4 a6 20 (ckp ((¬ (0 : Int32) < 0 ∧ ¬ (0 : Int32) < 0 ∧ ¬ (1000 : Int32) < 0) ∧ (Int32.toNatClampNeg (0 : Int32)) + (Int32.toNatClampNeg (1000 : Int32)) ≤ kL S4 a5 ∧ (Int32.toNatClampNeg (0 : Int32)) + (Int32.toNatClampNeg (1000 : Int32)) ≤ kL S4 a6) (lt (cCp S4 a5 (Int32.toNatClampNeg (0 : Int32)) a6 (Int32.toNatClampNeg (0 : Int32)) (Int32.toNatClampNeg (1000 : Int32))) fun S7 =>
ckk S7 v1 5 (bd (kR S7 v1 2) fun a8 =>
ckk S7 v0 5 (bd (kR S7 v0 2) fun a9 =>
ckk S7 a8 20 (ckk S7 a9 20 (ckp ((¬ (0 : Int32) < 0 ∧ ¬ (0 : Int32) < 0 ∧ ¬ (1000 : Int32) < 0) ∧ (Int32.toNatClampNeg (0 : Int32)) + (Int32.toNatClampNeg (1000 : Int32)) ≤ kL S7 a8 ∧ (Int32.toNatClampNeg (0 : Int32)) + (Int32.toNatClampNeg (1000 : Int32)) ≤ kL S7 a9) (lt (cCp S7 a8 (Int32.toNatClampNeg (0 : Int32)) a9 (Int32.toNatClampNeg (0 : Int32)) (Int32.toNatClampNeg (1000 : Int32))) fun S10 =>
fk_4_copyFrom_58 mFU S10 v0 v1 (0 : Int32))))))))))))))))))
set_option maxRecDepth 100000 in
set_option maxHeartbeats 4000000 in
theorem tk_4_copyFrom (l : Launch) {D : cG} {S : cSt} {v0 : Nat} {v1 : Nat} {S9 : cSt} (h : fk_4_copyFrom S v0 v1 = some S9) : Met l yX4_copyFrom (Cond.code yX4_copyFrom cX4_copyFrom 3 none :: lw_g) { frames := 2, cells := 0, slots := 0, locals := 60 } (kPi [.ref v0, .ref v1] D S) (kW none D S S9) 0 0 (cA S) := by
  refine Met.ofW (cc := cX4_copyFrom) (maxL := 3) (ret := none) (by decide) rfl ?_
  intro p e s m args below meth c s₁ B hml hv
  obtain ⟨rfl, hW, X⟩ := hv
  have C : cY p (headSpec (Cond.code yX4_copyFrom cX4_copyFrom 3 none :: lw_g) { frames := 2, cells := 0, slots := 0, locals := 60 }).room s m _ meth c RX4 cX4_copyFrom 3 2 0 0 60 none := ⟨B.exec, B.bytes, hml, findClass_of_methodNamed B.named, fun w hw => atoms_spec (ws := Cond.code yX4_copyFrom cX4_copyFrom 3 none :: lw_g) B.pre w (List.mem_cons_of_mem _ hw), ⟨Nat.le_refl _, Nat.le_refl _, Nat.le_refl _, Nat.le_refl _⟩, B.returns, B.notSynchronized⟩
  have hl := lv_entry ([.ref v0, .ref v1]) (n := 3) (Nat.le_of_ble_eq_true rfl)
  rw [lg_entry_eq]
  generalize (lg_sl ([.ref v0, .ref v1]) ++ List.replicate (3 - (lg_sl ([.ref v0, .ref v1])).length) Slot.unset).toArray = ls at hl ⊢
  have hl : lv_has ls 3 [(0, .ref v0), (1, .ref v1)] := hl
  have hJ : cJ D S s.heap S s.heap [] := cJ.rf hW
  unfold fk_4_copyFrom at h
  refine lv_aload_n C.1 C.2.1 dX4_copyFrom_0 rfl (lv_at hl 0 rfl) ?_
  refine lv_aload_n C.1 C.2.1 dX4_copyFrom_1 rfl (lv_at hl 1 rfl) ?_
  obtain ⟨hk, h⟩ := ckk_ok h
  refine gk4_36 C X hJ.1 hk dX4_copyFrom_2 ?_
  obtain ⟨hk, h⟩ := ckk_ok h
  refine pk4_36 C X hJ hk dX4_copyFrom_5 (fun H locs hJ => ?_)
  refine lt_ok h (fun S1 e_S1 h => ?_)
  rw [e_S1] at hJ
  refine lv_aload_n C.1 C.2.1 dX4_copyFrom_8 rfl (lv_at hl 1 rfl) ?_
  obtain ⟨hk, h⟩ := ckk_ok h
  obtain ⟨a2, h_a2, h⟩ := bd_ok h
  refine gk4_9 C X hJ.1 hk h_a2 dX4_copyFrom_9 ?_
  refine lv_iconst (v := 0) C.1 C.2.1 dX4_copyFrom_12 (by decide) ?_
  refine lv_aload_n C.1 C.2.1 dX4_copyFrom_13 rfl (lv_at hl 0 rfl) ?_
  obtain ⟨hk, h⟩ := ckk_ok h
  obtain ⟨a3, h_a3, h⟩ := bd_ok h
  refine gk4_9 C X hJ.1 hk h_a3 dX4_copyFrom_14 ?_
  refine lv_iconst (v := 0) C.1 C.2.1 dX4_copyFrom_17 (by decide) ?_
  refine lv_sipush (v := 1000) C.1 C.2.1 dX4_copyFrom_18 (by decide) ?_
  obtain ⟨hk0, h⟩ := ckk_ok h
  obtain ⟨hk1, h⟩ := ckk_ok h
  obtain ⟨hcp, h⟩ := ckp_ok h
  refine c_copy (rest := []) C hl.1 mm4_81 ac_n ac_s ac_i 20 (by decide) (by decide) X.2.1 rfl hJ hk0 hk1 hcp (fun _ _ => rfl) (by decide) (Nat.le_of_ble_eq_true rfl) dX4_copyFrom_21 (fun H locs hJ => ?_)
  refine lt_ok h (fun S4 e_S4 h => ?_)
  rw [e_S4] at hJ
  refine lv_aload_n C.1 C.2.1 dX4_copyFrom_24 rfl (lv_at hl 1 rfl) ?_
  obtain ⟨hk, h⟩ := ckk_ok h
  obtain ⟨a5, h_a5, h⟩ := bd_ok h
  refine gk4_15 C X hJ.1 hk h_a5 dX4_copyFrom_25 ?_
  refine lv_iconst (v := 0) C.1 C.2.1 dX4_copyFrom_28 (by decide) ?_
  refine lv_aload_n C.1 C.2.1 dX4_copyFrom_29 rfl (lv_at hl 0 rfl) ?_
  obtain ⟨hk, h⟩ := ckk_ok h
  obtain ⟨a6, h_a6, h⟩ := bd_ok h
  refine gk4_15 C X hJ.1 hk h_a6 dX4_copyFrom_30 ?_
  refine lv_iconst (v := 0) C.1 C.2.1 dX4_copyFrom_33 (by decide) ?_
  refine lv_sipush (v := 1000) C.1 C.2.1 dX4_copyFrom_34 (by decide) ?_
  obtain ⟨hk0, h⟩ := ckk_ok h
  obtain ⟨hk1, h⟩ := ckk_ok h
  obtain ⟨hcp, h⟩ := ckp_ok h
  refine c_copy (rest := []) C hl.1 mm4_81 ac_n ac_s ac_i 20 (by decide) (by decide) X.2.1 rfl hJ hk0 hk1 hcp (fun _ _ => rfl) (by decide) (Nat.le_of_ble_eq_true rfl) dX4_copyFrom_37 (fun H locs hJ => ?_)
  refine lt_ok h (fun S7 e_S7 h => ?_)
  rw [e_S7] at hJ
  refine lv_aload_n C.1 C.2.1 dX4_copyFrom_40 rfl (lv_at hl 1 rfl) ?_
  obtain ⟨hk, h⟩ := ckk_ok h
  obtain ⟨a8, h_a8, h⟩ := bd_ok h
  refine gk4_18 C X hJ.1 hk h_a8 dX4_copyFrom_41 ?_
  refine lv_iconst (v := 0) C.1 C.2.1 dX4_copyFrom_44 (by decide) ?_
  refine lv_aload_n C.1 C.2.1 dX4_copyFrom_45 rfl (lv_at hl 0 rfl) ?_
  obtain ⟨hk, h⟩ := ckk_ok h
  obtain ⟨a9, h_a9, h⟩ := bd_ok h
  refine gk4_18 C X hJ.1 hk h_a9 dX4_copyFrom_46 ?_
  refine lv_iconst (v := 0) C.1 C.2.1 dX4_copyFrom_49 (by decide) ?_
  refine lv_sipush (v := 1000) C.1 C.2.1 dX4_copyFrom_50 (by decide) ?_
  obtain ⟨hk0, h⟩ := ckk_ok h
  obtain ⟨hk1, h⟩ := ckk_ok h
  obtain ⟨hcp, h⟩ := ckp_ok h
  refine c_copy (rest := []) C hl.1 mm4_81 ac_n ac_s ac_i 20 (by decide) (by decide) X.2.1 rfl hJ hk0 hk1 hcp (fun _ _ => rfl) (by decide) (Nat.le_of_ble_eq_true rfl) dX4_copyFrom_53 (fun H locs hJ => ?_)
  refine lt_ok h (fun S10 e_S10 h => ?_)
  rw [e_S10] at hJ
  refine lv_iconst (v := 0) C.1 C.2.1 dX4_copyFrom_56 (by decide) ?_
  refine lv_istore_n (lv' := [(2, .int (0 : Int32)), (0, .ref v0), (1, .ref v1)]) C.1 C.2.1 dX4_copyFrom_57 rfl hl (by decide) rfl (fun ls hl => ?_)
  exact wk_4_copyFrom_58 C X mFU h hJ (lv_sub hl [1, 2, 0] rfl)
end
theorem dX5_init_0 : decode cX5_init 0 = .ok (.aload_n 0, 1) := by decide +kernel
theorem dX5_init_1 : decode cX5_init 1 = .ok (.invokespecial 3, 3) := by decide +kernel
theorem dX5_init_4 : decode cX5_init 4 = .ok (.aload_n 0, 1) := by decide +kernel
theorem dX5_init_5 : decode cX5_init 5 = .ok (.iconst 0, 1) := by decide +kernel
theorem dX5_init_6 : decode cX5_init 6 = .ok (.putfield 9, 3) := by decide +kernel
theorem dX5_init_9 : decode cX5_init 9 = .ok (.aload_n 0, 1) := by decide +kernel
theorem dX5_init_10 : decode cX5_init 10 = .ok (.iconst 0, 1) := by decide +kernel
theorem dX5_init_11 : decode cX5_init 11 = .ok (.putfield 15, 3) := by decide +kernel
theorem dX5_init_14 : decode cX5_init 14 = .ok (.aload_n 0, 1) := by decide +kernel
theorem dX5_init_15 : decode cX5_init 15 = .ok (.iconst 0, 1) := by decide +kernel
theorem dX5_init_16 : decode cX5_init 16 = .ok (.putfield 18, 3) := by decide +kernel
theorem dX5_init_19 : decode cX5_init 19 = .ok (.aload_n 0, 1) := by decide +kernel
theorem dX5_init_20 : decode cX5_init 20 = .ok (.bipush 60, 2) := by decide +kernel
theorem dX5_init_22 : decode cX5_init 22 = .ok (.anewarray 21, 3) := by decide +kernel
theorem dX5_init_25 : decode cX5_init 25 = .ok (.putfield 23, 3) := by decide +kernel
theorem dX5_init_28 : decode cX5_init 28 = .ok (.return_, 1) := by decide +kernel
theorem kd_5_init : Cond.code yX5_init cX5_init 1 none ∈ lw_g := mt_at 100 (by decide +kernel) rfl
theorem ki_5_init : Cond.instanceMethod yX5_init ∈ lw_g := mt_at 99 (by decide +kernel) rfl
theorem oi5 : Cond.methodLink RX5 3 objectInit ∈ lw_g := mt_at 101 (by decide +kernel) rfl
theorem cl5_21 : Cond.classLink RX5 21 RX2 ∈ lw_g := mt_at 102 (by decide +kernel) rfl
section
variable {p : Program} {l : Launch} {e : Env} {R : Room} {s : State} {m : MethodId} {args : Array Value} {below : List Frame} {meth : Method} {c : Code} {H : Heap} {locs : List Loc} {cells slots : Nat} {Q : State → Prop}
variable {D : cG} {S S0 : cSt} {cc : ByteArray} {nL : Nat} {pc : Nat} {ls : Array Slot} {rest : List Value} {H0 : Heap} {nF nR nC nS : Nat} {ret : Option FieldType} {a : Nat}
theorem pk5_9 {x : Int32} (C : cY p R s m args meth c RX5 cc nL nF nC nS nR ret) (X : cX D s) (hJ : cJ D S0 H0 S H locs) (hk : kK S a = 6) (hdg : decode cc pc = .ok (.putfield 9, 3)) (kk : ∀ (H1 : Heap) (locs1 : List Loc), cJ D S0 H0 (cPi S a 0 x) H1 locs1 → W p l e R s m args below meth c H1 locs1 cells slots Q (F0 m (pc + 3) ls (rest))) : W p l e R s m args below meth c H locs cells slots Q (F0 m pc ls (.int x :: .ref a :: rest)) := c_put (S1 := (cPi S a 0 x)) C X hJ 5 (by decide) ly_5 hk 0 (by decide) (by decide +kernel)  rfl rfl (by decide) rfl rfl (fun j _ => c_vI (by decide +kernel)) c_oPi (mt_at 104 (by decide +kernel) (by decide +kernel)) hdg kk
theorem pk5_15 {x : Int32} (C : cY p R s m args meth c RX5 cc nL nF nC nS nR ret) (X : cX D s) (hJ : cJ D S0 H0 S H locs) (hk : kK S a = 6) (hdg : decode cc pc = .ok (.putfield 15, 3)) (kk : ∀ (H1 : Heap) (locs1 : List Loc), cJ D S0 H0 (cPi S a 1 x) H1 locs1 → W p l e R s m args below meth c H1 locs1 cells slots Q (F0 m (pc + 3) ls (rest))) : W p l e R s m args below meth c H locs cells slots Q (F0 m pc ls (.int x :: .ref a :: rest)) := c_put (S1 := (cPi S a 1 x)) C X hJ 5 (by decide) ly_5 hk 1 (by decide) (by decide +kernel)  rfl rfl (by decide) rfl rfl (fun j _ => c_vI (by decide +kernel)) c_oPi (mt_at 106 (by decide +kernel) (by decide +kernel)) hdg kk
theorem pk5_18 {x : Int32} (C : cY p R s m args meth c RX5 cc nL nF nC nS nR ret) (X : cX D s) (hJ : cJ D S0 H0 S H locs) (hk : kK S a = 6) (hdg : decode cc pc = .ok (.putfield 18, 3)) (kk : ∀ (H1 : Heap) (locs1 : List Loc), cJ D S0 H0 (cPi S a 2 x) H1 locs1 → W p l e R s m args below meth c H1 locs1 cells slots Q (F0 m (pc + 3) ls (rest))) : W p l e R s m args below meth c H locs cells slots Q (F0 m pc ls (.int x :: .ref a :: rest)) := c_put (S1 := (cPi S a 2 x)) C X hJ 5 (by decide) ly_5 hk 2 (by decide) (by decide +kernel)  rfl rfl (by decide) rfl rfl (fun j _ => c_vI (by decide +kernel)) c_oPi (mt_at 108 (by decide +kernel) (by decide +kernel)) hdg kk
theorem pk5_23 {o : Option Nat} (C : cY p R s m args meth c RX5 cc nL nF nC nS nR ret) (hin : meth.name = "<init>") (X : cX D s) (hJ : cJ D S0 H0 S H locs) (hk : kK S a = 6) (hdg : decode cc pc = .ok (.putfield 23, 3)) (kk : ∀ (H1 : Heap) (locs1 : List Loc), cJ D S0 H0 (cPr S a 3 o) H1 locs1 → W p l e R s m args below meth c H1 locs1 cells slots Q (F0 m (pc + 3) ls (rest))) : W p l e R s m args below meth c H locs cells slots Q (F0 m pc ls (va_rf o :: .ref a :: rest)) := c_putF (S1 := (cPr S a 3 o)) C X hJ 5 (by decide) ly_5 hk 3 (by decide) (by decide +kernel) hin rfl nar_ra fit_ra (by decide) rfl rfl (fun j _ => c_vR (by decide +kernel)) c_oPr (mt_at 110 (by decide +kernel) (by decide +kernel)) hdg kk
end
section
variable {p : Program} {l : Launch} {e : Env} {R : Room} {s : State} {m : MethodId} {args : Array Value} {below : List Frame} {meth : Method} {c : Code} {D : cG} {S0 S9 : cSt}
noncomputable def fk_5_init (S : cSt) (v0 : Nat) : Option (cSt) :=
ckk S v0 6 (lt (cPi S v0 0 (0 : Int32)) fun S1 =>
ckk S1 v0 6 (lt (cPi S1 v0 1 (0 : Int32)) fun S2 =>
ckk S2 v0 6 (lt (cPi S2 v0 2 (0 : Int32)) fun S3 =>
lt (kZ S3) fun a5 => lt (cNw S3 32 60) fun S4 =>
ckk S4 v0 6 (lt (cPr S4 v0 3 (some a5)) fun S6 =>
some S6))))
set_option maxRecDepth 100000 in
set_option maxHeartbeats 4000000 in
theorem tk_5_init (l : Launch) {D : cG} {S : cSt} {v0 : Nat} {S9 : cSt} (h : fk_5_init S v0 = some S9) : Met l yX5_init (Cond.code yX5_init cX5_init 1 none :: lw_g) { frames := 2, cells := 1, slots := 60, locals := 60 } (kPi [.ref v0] D S) (kW none D S S9) 1 60 (cA S) := by
  refine Met.ofW (cc := cX5_init) (maxL := 1) (ret := none) (by decide) rfl ?_
  intro p e s m args below meth c s₁ B hml hv
  obtain ⟨rfl, hW, X⟩ := hv
  have C : cY p (headSpec (Cond.code yX5_init cX5_init 1 none :: lw_g) { frames := 2, cells := 1, slots := 60, locals := 60 }).room s m _ meth c RX5 cX5_init 1 2 1 60 60 none := ⟨B.exec, B.bytes, hml, findClass_of_methodNamed B.named, fun w hw => atoms_spec (ws := Cond.code yX5_init cX5_init 1 none :: lw_g) B.pre w (List.mem_cons_of_mem _ hw), ⟨Nat.le_refl _, Nat.le_refl _, Nat.le_refl _, Nat.le_refl _⟩, B.returns, B.notSynchronized⟩
  have hin : meth.name = "<init>" := (name_of_methodNamed B.named B.method).1
  have hl := lv_entry ([.ref v0]) (n := 1) (Nat.le_of_ble_eq_true rfl)
  rw [lg_entry_eq]
  generalize (lg_sl ([.ref v0]) ++ List.replicate (1 - (lg_sl ([.ref v0])).length) Slot.unset).toArray = ls at hl ⊢
  have hl : lv_has ls 1 [(0, .ref v0)] := hl
  have hJ : cJ D S s.heap S s.heap [] := cJ.rf hW
  unfold fk_5_init at h
  refine lv_aload_n C.1 C.2.1 dX5_init_0 rfl (lv_at hl 0 rfl) ?_
  refine W.objInit C.1 C.2.1 C.2.2.2.1 (C.2.2.2.2.1 _ oi5) (C.2.2.2.2.1 _ oi_i) (C.2.2.2.2.1 _ oi_c) rfl (by rw [C.2.2.1]; exact hl.1) rfl dX5_init_1 (Nat.le_trans (by decide) C.2.2.2.2.2.1.1) (Nat.le_trans (Nat.le_of_ble_eq_true rfl) C.2.2.2.2.2.1.2.2.2) ?_
  refine W.eq (g2 := F0 m 4 ls []) rfl ?_
  refine lv_aload_n C.1 C.2.1 dX5_init_4 rfl (lv_at hl 0 rfl) ?_
  refine lv_iconst (v := 0) C.1 C.2.1 dX5_init_5 (by decide) ?_
  obtain ⟨hk, h⟩ := ckk_ok h
  refine pk5_9 C X hJ hk dX5_init_6 (fun H locs hJ => ?_)
  refine lt_ok h (fun S1 e_S1 h => ?_)
  rw [e_S1] at hJ
  refine lv_aload_n C.1 C.2.1 dX5_init_9 rfl (lv_at hl 0 rfl) ?_
  refine lv_iconst (v := 0) C.1 C.2.1 dX5_init_10 (by decide) ?_
  obtain ⟨hk, h⟩ := ckk_ok h
  refine pk5_15 C X hJ hk dX5_init_11 (fun H locs hJ => ?_)
  refine lt_ok h (fun S2 e_S2 h => ?_)
  rw [e_S2] at hJ
  refine lv_aload_n C.1 C.2.1 dX5_init_14 rfl (lv_at hl 0 rfl) ?_
  refine lv_iconst (v := 0) C.1 C.2.1 dX5_init_15 (by decide) ?_
  obtain ⟨hk, h⟩ := ckk_ok h
  refine pk5_18 C X hJ hk dX5_init_16 (fun H locs hJ => ?_)
  refine lt_ok h (fun S3 e_S3 h => ?_)
  rw [e_S3] at hJ
  refine lv_aload_n C.1 C.2.1 dX5_init_19 rfl (lv_at hl 0 rfl) ?_
  refine lv_bipush (v := 60) C.1 C.2.1 dX5_init_20 (by decide) ?_
  refine c_anew (N := 60) C hJ 32 (by decide) X.2.2.2.2.2.2.1 cl5_21 X.2.2.2.2.2.2.2.1.2.2 (by decide) (by decide) (by decide) (by decide) (by decide) dX5_init_22 (fun H hJ => ?_)
  refine lt_ok h (fun a5 e_a5 h => ?_)
  refine lt_ok h (fun S4 e_S4 h => ?_)
  rw [e_S4] at hJ
  rw [e_a5]
  obtain ⟨hk, h⟩ := ckk_ok h
  refine pk5_23 (o := (some a5)) C hin X hJ hk dX5_init_25 (fun H locs hJ => ?_)
  refine lt_ok h (fun S6 e_S6 h => ?_)
  rw [e_S6] at hJ
  cases h
  exact c_retvW C hJ dX5_init_28
end
