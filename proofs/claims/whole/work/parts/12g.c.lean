-- made by wip/whole/gen12.py: 7_take, 7_tell, 7_turn, 7_apply, 7_make, 7_putList, 7_setCursor, 7_stableOf, 7_isStable, 7_stableRows, 7_isUndoSort, 7_undoable
theorem dX7_take_0 : decode cX7_take 0 = .ok (.aload_n 0, 1) := by decide +kernel
theorem dX7_take_1 : decode cX7_take 1 = .ok (.getfield 73, 3) := by decide +kernel
theorem dX7_take_4 : decode cX7_take 4 = .ok (.aload_n 1, 1) := by decide +kernel
theorem dX7_take_5 : decode cX7_take 5 = .ok (.invokevirtual 171, 3) := by decide +kernel
theorem dX7_take_8 : decode cX7_take 8 = .ok (.aload_n 0, 1) := by decide +kernel
theorem dX7_take_9 : decode cX7_take 9 = .ok (.getfield 23, 3) := by decide +kernel
theorem dX7_take_12 : decode cX7_take 12 = .ok (.iconst 4, 1) := by decide +kernel
theorem dX7_take_13 : decode cX7_take 13 = .ok (.aload_n 0, 1) := by decide +kernel
theorem dX7_take_14 : decode cX7_take 14 = .ok (.getfield 61, 3) := by decide +kernel
theorem dX7_take_17 : decode cX7_take 17 = .ok (.imul, 1) := by decide +kernel
theorem dX7_take_18 : decode cX7_take 18 = .ok (.aload_n 1, 1) := by decide +kernel
theorem dX7_take_19 : decode cX7_take 19 = .ok (.getfield 172, 3) := by decide +kernel
theorem dX7_take_22 : decode cX7_take 22 = .ok (.iadd, 1) := by decide +kernel
theorem dX7_take_23 : decode cX7_take 23 = .ok (.aload_n 1, 1) := by decide +kernel
theorem dX7_take_24 : decode cX7_take 24 = .ok (.getfield 175, 3) := by decide +kernel
theorem dX7_take_27 : decode cX7_take 27 = .ok (.iastore, 1) := by decide +kernel
theorem dX7_take_28 : decode cX7_take 28 = .ok (.aload_n 0, 1) := by decide +kernel
theorem dX7_take_29 : decode cX7_take 29 = .ok (.aload_n 1, 1) := by decide +kernel
theorem dX7_take_30 : decode cX7_take 30 = .ok (.getfield 178, 3) := by decide +kernel
theorem dX7_take_33 : decode cX7_take 33 = .ok (.aload_n 1, 1) := by decide +kernel
theorem dX7_take_34 : decode cX7_take 34 = .ok (.getfield 181, 3) := by decide +kernel
theorem dX7_take_37 : decode cX7_take 37 = .ok (.invokevirtual 184, 3) := by decide +kernel
theorem dX7_take_40 : decode cX7_take 40 = .ok (.return_, 1) := by decide +kernel
theorem kd_7_take : Cond.code yX7_take cX7_take 2 none ∈ lw_g := mt_at 1129 (by decide +kernel) rfl
theorem ki_7_take : Cond.instanceMethod yX7_take ∈ lw_g := mt_at 1128 (by decide +kernel) rfl
theorem kl_7_take : Cond.selects (kRn 7) yX7_take yX7_take ∈ lw_g := mt_sel 17 (by decide +kernel) rfl
theorem cw7_171 : cCw RX7 171 yX4_take cX4_take 2 none 1 := ⟨kd_4_take, mt_at 1130 (by decide +kernel) rfl, mt_at 9 (by decide +kernel) rfl, by decide +kernel⟩
theorem cw7_184 : cCw RX7 184 yX7_raiseLast cX7_raiseLast 3 none 2 := ⟨kd_7_raiseLast, mt_at 1152 (by decide +kernel) rfl, mt_at 7 (by decide +kernel) rfl, by decide +kernel⟩
section
variable {p : Program} {l : Launch} {e : Env} {R : Room} {s : State} {m : MethodId} {args : Array Value} {below : List Frame} {meth : Method} {c : Code} {H : Heap} {locs : List Loc} {cells slots : Nat} {Q : State → Prop}
variable {D : cG} {S S0 : cSt} {cc : ByteArray} {nL : Nat} {pc : Nat} {ls : Array Slot} {rest : List Value} {H0 : Heap} {nF nR nC nS : Nat} {ret : Option FieldType} {a : Nat}
theorem gk7_172 (C : cY p R s m args meth c RX7 cc nL nF nC nS nR ret) (X : cX D s) (hW : cW D S H) (hk : kK S a = 9) (hdg : decode cc pc = .ok (.getfield 172, 3)) (kk : W p l e R s m args below meth c H locs cells slots Q (F0 m (pc + 3) ls (.int (kF S a 6) :: rest))) : W p l e R s m args below meth c H locs cells slots Q (F0 m pc ls (.ref a :: rest)) := c_get C X hW 8 (by decide) ly_8 hk 6 (by decide) (mt_at 996 (by decide +kernel) (by decide +kernel)) hdg (by rw [cV_I (by decide +kernel)]; exact kk)
theorem gk7_175 (C : cY p R s m args meth c RX7 cc nL nF nC nS nR ret) (X : cX D s) (hW : cW D S H) (hk : kK S a = 9) (hdg : decode cc pc = .ok (.getfield 175, 3)) (kk : W p l e R s m args below meth c H locs cells slots Q (F0 m (pc + 3) ls (.int (kF S a 7) :: rest))) : W p l e R s m args below meth c H locs cells slots Q (F0 m pc ls (.ref a :: rest)) := c_get C X hW 8 (by decide) ly_8 hk 7 (by decide) (mt_at 1001 (by decide +kernel) (by decide +kernel)) hdg (by rw [cV_I (by decide +kernel)]; exact kk)
theorem gk7_178 (C : cY p R s m args meth c RX7 cc nL nF nC nS nR ret) (X : cX D s) (hW : cW D S H) (hk : kK S a = 9) (hdg : decode cc pc = .ok (.getfield 178, 3)) (kk : W p l e R s m args below meth c H locs cells slots Q (F0 m (pc + 3) ls (.int (kF S a 8) :: rest))) : W p l e R s m args below meth c H locs cells slots Q (F0 m pc ls (.ref a :: rest)) := c_get C X hW 8 (by decide) ly_8 hk 8 (by decide) (mt_at 1006 (by decide +kernel) (by decide +kernel)) hdg (by rw [cV_I (by decide +kernel)]; exact kk)
theorem gk7_181 (C : cY p R s m args meth c RX7 cc nL nF nC nS nR ret) (X : cX D s) (hW : cW D S H) (hk : kK S a = 9) (hdg : decode cc pc = .ok (.getfield 181, 3)) (kk : W p l e R s m args below meth c H locs cells slots Q (F0 m (pc + 3) ls (.int (kF S a 9) :: rest))) : W p l e R s m args below meth c H locs cells slots Q (F0 m pc ls (.ref a :: rest)) := c_get C X hW 8 (by decide) ly_8 hk 9 (by decide) (mt_at 1011 (by decide +kernel) (by decide +kernel)) hdg (by rw [cV_I (by decide +kernel)]; exact kk)
end
section
variable {p : Program} {l : Launch} {e : Env} {R : Room} {s : State} {m : MethodId} {args : Array Value} {below : List Frame} {meth : Method} {c : Code} {D : cG} {S0 S9 : cSt}
noncomputable def fk_7_take (S : cSt) (v0 : Nat) (v1 : Nat) : Option (cSt) :=
ckk S v0 8 (bd (kR S v0 1) fun a1 =>
ckk S a1 5 (bd (fk_4_take S a1 v1) fun S2 =>
ckk S2 v0 8 (bd (kR S2 v0 5) fun a3 =>
ckk S2 v0 8 (
ckk S2 v1 9 (
ckk S2 v1 9 (
ckk S2 a3 20 (ck (((4 : Int32) * (kF S2 v0 0)) + (kF S2 v1 6)) (kL S2 a3) (lt (cWi S2 a3 (Int32.toNatClampNeg (((4 : Int32) * (kF S2 v0 0)) + (kF S2 v1 6))) (kF S2 v1 7)) fun S4 =>
ckk S4 v1 9 (
ckk S4 v1 9 (
ckk S4 v0 8 (bd (fk_7_raiseLast S4 v0 (kF S4 v1 8) (kF S4 v1 9)) fun S5 =>
some S5)))))))))))
set_option maxRecDepth 100000 in
set_option maxHeartbeats 4000000 in
theorem tk_7_take (l : Launch) {D : cG} {S : cSt} {v0 : Nat} {v1 : Nat} {S9 : cSt} (h : fk_7_take S v0 v1 = some S9) : Met l yX7_take (Cond.code yX7_take cX7_take 2 none :: lw_g) { frames := 3, cells := 0, slots := 0, locals := 66 } (kPi [.ref v0, .ref v1] D S) (kW none D S S9) 0 0 (cA S) := by
  refine Met.ofW (cc := cX7_take) (maxL := 2) (ret := none) (by decide) rfl ?_
  intro p e s m args below meth c s₁ B hml hv
  obtain ⟨rfl, hW, X⟩ := hv
  have C : cY p (headSpec (Cond.code yX7_take cX7_take 2 none :: lw_g) { frames := 3, cells := 0, slots := 0, locals := 66 }).room s m _ meth c RX7 cX7_take 2 3 0 0 66 none := ⟨B.exec, B.bytes, hml, findClass_of_methodNamed B.named, fun w hw => atoms_spec (ws := Cond.code yX7_take cX7_take 2 none :: lw_g) B.pre w (List.mem_cons_of_mem _ hw), ⟨Nat.le_refl _, Nat.le_refl _, Nat.le_refl _, Nat.le_refl _⟩, B.returns, B.notSynchronized⟩
  have hl := lv_entry ([.ref v0, .ref v1]) (n := 2) (Nat.le_of_ble_eq_true rfl)
  rw [lg_entry_eq]
  generalize (lg_sl ([.ref v0, .ref v1]) ++ List.replicate (2 - (lg_sl ([.ref v0, .ref v1])).length) Slot.unset).toArray = ls at hl ⊢
  have hl : lv_has ls 2 [(0, .ref v0), (1, .ref v1)] := hl
  have hJ : cJ D S s.heap S s.heap [] := cJ.rf hW
  unfold fk_7_take at h
  refine lv_aload_n C.1 C.2.1 dX7_take_0 rfl (lv_at hl 0 rfl) ?_
  obtain ⟨hk, h⟩ := ckk_ok h
  obtain ⟨a1, h_a1, h⟩ := bd_ok h
  refine gk7_73 C X hJ.1 hk h_a1 dX7_take_1 ?_
  refine lv_aload_n C.1 C.2.1 dX7_take_4 rfl (lv_at hl 1 rfl) ?_
  obtain ⟨hk, h⟩ := ckk_ok h
  obtain ⟨S2, h_S2, h⟩ := bd_ok h
  refine c_callW (rest := []) C X hJ hl.1 4 (by decide) hk [.ref v1] (tk_4_take l h_S2) cw7_171 ki_4_take kl_4_take rfl ⟨by decide, by decide⟩ ⟨(by decide), (by decide)⟩ rfl (Nat.le_of_ble_eq_true rfl) dX7_take_5 (fun H locs hJ => ?_)
  refine W.eq (g2 := F0 m 8 ls []) rfl ?_
  refine lv_aload_n C.1 C.2.1 dX7_take_8 rfl (lv_at hl 0 rfl) ?_
  obtain ⟨hk, h⟩ := ckk_ok h
  obtain ⟨a3, h_a3, h⟩ := bd_ok h
  refine gk7_23 C X hJ.1 hk h_a3 dX7_take_9 ?_
  refine lv_iconst (v := 4) C.1 C.2.1 dX7_take_12 (by decide) ?_
  refine lv_aload_n C.1 C.2.1 dX7_take_13 rfl (lv_at hl 0 rfl) ?_
  obtain ⟨hk, h⟩ := ckk_ok h
  refine gk7_61 C X hJ.1 hk dX7_take_14 ?_
  refine lv_imul C.1 C.2.1 dX7_take_17 ?_
  refine lv_aload_n C.1 C.2.1 dX7_take_18 rfl (lv_at hl 1 rfl) ?_
  obtain ⟨hk, h⟩ := ckk_ok h
  refine gk7_172 C X hJ.1 hk dX7_take_19 ?_
  refine lv_iadd C.1 C.2.1 dX7_take_22 ?_
  refine lv_aload_n C.1 C.2.1 dX7_take_23 rfl (lv_at hl 1 rfl) ?_
  obtain ⟨hk, h⟩ := ckk_ok h
  refine gk7_175 C X hJ.1 hk dX7_take_24 ?_
  obtain ⟨hk, h⟩ := ckk_ok h
  obtain ⟨hin2, h⟩ := ck_ok h
  refine c_iast C X hJ hk hin2 dX7_take_27 (fun H locs hJ => ?_)
  refine lt_ok h (fun S4 e_S4 h => ?_)
  rw [e_S4] at hJ
  refine lv_aload_n C.1 C.2.1 dX7_take_28 rfl (lv_at hl 0 rfl) ?_
  refine lv_aload_n C.1 C.2.1 dX7_take_29 rfl (lv_at hl 1 rfl) ?_
  obtain ⟨hk, h⟩ := ckk_ok h
  refine gk7_178 C X hJ.1 hk dX7_take_30 ?_
  refine lv_aload_n C.1 C.2.1 dX7_take_33 rfl (lv_at hl 1 rfl) ?_
  obtain ⟨hk, h⟩ := ckk_ok h
  refine gk7_181 C X hJ.1 hk dX7_take_34 ?_
  obtain ⟨hk, h⟩ := ckk_ok h
  obtain ⟨S5, h_S5, h⟩ := bd_ok h
  refine c_callW (rest := []) C X hJ hl.1 7 (by decide) hk [.int (kF S4 v1 8), .int (kF S4 v1 9)] (tk_7_raiseLast l h_S5) cw7_184 ki_7_raiseLast kl_7_raiseLast rfl ⟨by decide, by decide⟩ ⟨(by decide), (by decide)⟩ rfl (Nat.le_of_ble_eq_true rfl) dX7_take_37 (fun H locs hJ => ?_)
  refine W.eq (g2 := F0 m 40 ls []) rfl ?_
  cases h
  exact c_retvW C hJ dX7_take_40
end
theorem dX7_tell_0 : decode cX7_tell 0 = .ok (.iconst 0, 1) := by decide +kernel
theorem dX7_tell_1 : decode cX7_tell 1 = .ok (.istore_n 3, 1) := by decide +kernel
theorem dX7_tell_2 : decode cX7_tell 2 = .ok (.iconst 0, 1) := by decide +kernel
theorem dX7_tell_3 : decode cX7_tell 3 = .ok (.istore 4, 2) := by decide +kernel
theorem dX7_tell_5 : decode cX7_tell 5 = .ok (.iload 4, 2) := by decide +kernel
theorem dX7_tell_7 : decode cX7_tell 7 = .ok (.bipush 48, 2) := by decide +kernel
theorem dX7_tell_9 : decode cX7_tell 9 = .ok (.if_icmp .ge 60, 3) := by decide +kernel
theorem dX7_tell_12 : decode cX7_tell 12 = .ok (.aload_n 0, 1) := by decide +kernel
theorem dX7_tell_13 : decode cX7_tell 13 = .ok (.getfield 52, 3) := by decide +kernel
theorem dX7_tell_16 : decode cX7_tell 16 = .ok (.iload 4, 2) := by decide +kernel
theorem dX7_tell_18 : decode cX7_tell 18 = .ok (.iaload, 1) := by decide +kernel
theorem dX7_tell_19 : decode cX7_tell 19 = .ok (.aload_n 0, 1) := by decide +kernel
theorem dX7_tell_20 : decode cX7_tell 20 = .ok (.getfield 55, 3) := by decide +kernel
theorem dX7_tell_23 : decode cX7_tell 23 = .ok (.iload 4, 2) := by decide +kernel
theorem dX7_tell_25 : decode cX7_tell 25 = .ok (.iaload, 1) := by decide +kernel
theorem dX7_tell_26 : decode cX7_tell 26 = .ok (.if_icmp .eq 37, 3) := by decide +kernel
theorem dX7_tell_29 : decode cX7_tell 29 = .ok (.iconst 1, 1) := by decide +kernel
theorem dX7_tell_30 : decode cX7_tell 30 = .ok (.istore_n 3, 1) := by decide +kernel
theorem dX7_tell_31 : decode cX7_tell 31 = .ok (.aload_n 2, 1) := by decide +kernel
theorem dX7_tell_32 : decode cX7_tell 32 = .ok (.getfield 147, 3) := by decide +kernel
theorem dX7_tell_35 : decode cX7_tell 35 = .ok (.bipush 11, 2) := by decide +kernel
theorem dX7_tell_37 : decode cX7_tell 37 = .ok (.if_icmp .ne 26, 3) := by decide +kernel
theorem dX7_tell_40 : decode cX7_tell 40 = .ok (.aload_n 0, 1) := by decide +kernel
theorem dX7_tell_41 : decode cX7_tell 41 = .ok (.getfield 14, 3) := by decide +kernel
theorem dX7_tell_44 : decode cX7_tell 44 = .ok (.aload_n 1, 1) := by decide +kernel
theorem dX7_tell_45 : decode cX7_tell 45 = .ok (.getfield 187, 3) := by decide +kernel
theorem dX7_tell_48 : decode cX7_tell 48 = .ok (.aload_n 0, 1) := by decide +kernel
theorem dX7_tell_49 : decode cX7_tell 49 = .ok (.getfield 64, 3) := by decide +kernel
theorem dX7_tell_52 : decode cX7_tell 52 = .ok (.iload 4, 2) := by decide +kernel
theorem dX7_tell_54 : decode cX7_tell 54 = .ok (.invokevirtual 190, 3) := by decide +kernel
theorem dX7_tell_57 : decode cX7_tell 57 = .ok (.bipush 6, 2) := by decide +kernel
theorem dX7_tell_59 : decode cX7_tell 59 = .ok (.iconst 0, 1) := by decide +kernel
theorem dX7_tell_60 : decode cX7_tell 60 = .ok (.invokevirtual 193, 3) := by decide +kernel
theorem dX7_tell_63 : decode cX7_tell 63 = .ok (.iinc 4 1, 3) := by decide +kernel
theorem dX7_tell_66 : decode cX7_tell 66 = .ok (.goto (-61), 3) := by decide +kernel
theorem dX7_tell_69 : decode cX7_tell 69 = .ok (.iload_n 3, 1) := by decide +kernel
theorem dX7_tell_70 : decode cX7_tell 70 = .ok (.ifCond .eq 72, 3) := by decide +kernel
theorem dX7_tell_73 : decode cX7_tell 73 = .ok (.aload_n 2, 1) := by decide +kernel
theorem dX7_tell_74 : decode cX7_tell 74 = .ok (.getfield 147, 3) := by decide +kernel
theorem dX7_tell_77 : decode cX7_tell 77 = .ok (.bipush 11, 2) := by decide +kernel
theorem dX7_tell_79 : decode cX7_tell 79 = .ok (.if_icmp .eq 63, 3) := by decide +kernel
theorem dX7_tell_82 : decode cX7_tell 82 = .ok (.aload_n 2, 1) := by decide +kernel
theorem dX7_tell_83 : decode cX7_tell 83 = .ok (.getfield 147, 3) := by decide +kernel
theorem dX7_tell_86 : decode cX7_tell 86 = .ok (.ifCond .eq 12, 3) := by decide +kernel
theorem dX7_tell_89 : decode cX7_tell 89 = .ok (.aload_n 2, 1) := by decide +kernel
theorem dX7_tell_90 : decode cX7_tell 90 = .ok (.getfield 147, 3) := by decide +kernel
theorem dX7_tell_93 : decode cX7_tell 93 = .ok (.bipush 12, 2) := by decide +kernel
theorem dX7_tell_95 : decode cX7_tell 95 = .ok (.if_icmp .ne 7, 3) := by decide +kernel
theorem dX7_tell_98 : decode cX7_tell 98 = .ok (.iconst 1, 1) := by decide +kernel
theorem dX7_tell_99 : decode cX7_tell 99 = .ok (.goto 4, 3) := by decide +kernel
theorem dX7_tell_102 : decode cX7_tell 102 = .ok (.iconst 0, 1) := by decide +kernel
theorem dX7_tell_103 : decode cX7_tell 103 = .ok (.istore 4, 2) := by decide +kernel
theorem dX7_tell_105 : decode cX7_tell 105 = .ok (.aload_n 0, 1) := by decide +kernel
theorem dX7_tell_106 : decode cX7_tell 106 = .ok (.getfield 14, 3) := by decide +kernel
theorem dX7_tell_109 : decode cX7_tell 109 = .ok (.aload_n 1, 1) := by decide +kernel
theorem dX7_tell_110 : decode cX7_tell 110 = .ok (.getfield 187, 3) := by decide +kernel
theorem dX7_tell_113 : decode cX7_tell 113 = .ok (.aload_n 0, 1) := by decide +kernel
theorem dX7_tell_114 : decode cX7_tell 114 = .ok (.getfield 64, 3) := by decide +kernel
theorem dX7_tell_117 : decode cX7_tell 117 = .ok (.aload_n 2, 1) := by decide +kernel
theorem dX7_tell_118 : decode cX7_tell 118 = .ok (.getfield 152, 3) := by decide +kernel
theorem dX7_tell_121 : decode cX7_tell 121 = .ok (.invokevirtual 190, 3) := by decide +kernel
theorem dX7_tell_124 : decode cX7_tell 124 = .ok (.iload 4, 2) := by decide +kernel
theorem dX7_tell_126 : decode cX7_tell 126 = .ok (.ifCond .eq 8, 3) := by decide +kernel
theorem dX7_tell_129 : decode cX7_tell 129 = .ok (.bipush 7, 2) := by decide +kernel
theorem dX7_tell_131 : decode cX7_tell 131 = .ok (.goto 7, 3) := by decide +kernel
theorem dX7_tell_134 : decode cX7_tell 134 = .ok (.aload_n 2, 1) := by decide +kernel
theorem dX7_tell_135 : decode cX7_tell 135 = .ok (.getfield 196, 3) := by decide +kernel
theorem dX7_tell_138 : decode cX7_tell 138 = .ok (.iconst 0, 1) := by decide +kernel
theorem dX7_tell_139 : decode cX7_tell 139 = .ok (.invokevirtual 193, 3) := by decide +kernel
theorem dX7_tell_142 : decode cX7_tell 142 = .ok (.return_, 1) := by decide +kernel
theorem kd_7_tell : Cond.code yX7_tell cX7_tell 5 none ∈ lw_g := mt_at 1159 (by decide +kernel) rfl
theorem ki_7_tell : Cond.instanceMethod yX7_tell ∈ lw_g := mt_at 1158 (by decide +kernel) rfl
theorem kl_7_tell : Cond.selects (kRn 7) yX7_tell yX7_tell ∈ lw_g := mt_sel 20 (by decide +kernel) rfl
theorem cw7_190 : cCw RX7 190 yX0_nameOf cX0_nameOf 3 (some .int) 1 := ⟨kd_0_nameOf, mt_at 1160 (by decide +kernel) rfl, mt_at 3 (by decide +kernel) rfl, by decide +kernel⟩
theorem cw7_193 : cCw RX7 193 yX6_add cX6_add 6 none 4 := ⟨kd_6_add, mt_at 1164 (by decide +kernel) rfl, mt_at 8 (by decide +kernel) rfl, by decide +kernel⟩
section
variable {p : Program} {l : Launch} {e : Env} {R : Room} {s : State} {m : MethodId} {args : Array Value} {below : List Frame} {meth : Method} {c : Code} {H : Heap} {locs : List Loc} {cells slots : Nat} {Q : State → Prop}
variable {D : cG} {S S0 : cSt} {cc : ByteArray} {nL : Nat} {pc : Nat} {ls : Array Slot} {rest : List Value} {H0 : Heap} {nF nR nC nS : Nat} {ret : Option FieldType} {a : Nat}
theorem gk7_14 (C : cY p R s m args meth c RX7 cc nL nF nC nS nR ret) (X : cX D s) (hW : cW D S H) (hk : kK S a = 8) {x : Nat} (hx : kR S a 3 = some x) (hdg : decode cc pc = .ok (.getfield 14, 3)) (kk : W p l e R s m args below meth c H locs cells slots Q (F0 m (pc + 3) ls (.ref x :: rest))) : W p l e R s m args below meth c H locs cells slots Q (F0 m pc ls (.ref a :: rest)) := c_get C X hW 7 (by decide) ly_7 hk 3 (by decide) (mt_at 309 (by decide +kernel) (by decide +kernel)) hdg (by rw [cV_R (by decide +kernel) hx]; exact kk)
theorem gk7_52 (C : cY p R s m args meth c RX7 cc nL nF nC nS nR ret) (X : cX D s) (hW : cW D S H) (hk : kK S a = 8) {x : Nat} (hx : kR S a 14 = some x) (hdg : decode cc pc = .ok (.getfield 52, 3)) (kk : W p l e R s m args below meth c H locs cells slots Q (F0 m (pc + 3) ls (.ref x :: rest))) : W p l e R s m args below meth c H locs cells slots Q (F0 m pc ls (.ref a :: rest)) := c_get C X hW 7 (by decide) ly_7 hk 14 (by decide) (mt_at 331 (by decide +kernel) (by decide +kernel)) hdg (by rw [cV_R (by decide +kernel) hx]; exact kk)
theorem gk7_55 (C : cY p R s m args meth c RX7 cc nL nF nC nS nR ret) (X : cX D s) (hW : cW D S H) (hk : kK S a = 8) {x : Nat} (hx : kR S a 15 = some x) (hdg : decode cc pc = .ok (.getfield 55, 3)) (kk : W p l e R s m args below meth c H locs cells slots Q (F0 m (pc + 3) ls (.ref x :: rest))) : W p l e R s m args below meth c H locs cells slots Q (F0 m pc ls (.ref a :: rest)) := c_get C X hW 7 (by decide) ly_7 hk 15 (by decide) (mt_at 332 (by decide +kernel) (by decide +kernel)) hdg (by rw [cV_R (by decide +kernel) hx]; exact kk)
theorem gk7_147 (C : cY p R s m args meth c RX7 cc nL nF nC nS nR ret) (X : cX D s) (hW : cW D S H) (hk : kK S a = 9) (hdg : decode cc pc = .ok (.getfield 147, 3)) (kk : W p l e R s m args below meth c H locs cells slots Q (F0 m (pc + 3) ls (.int (kF S a 0) :: rest))) : W p l e R s m args below meth c H locs cells slots Q (F0 m pc ls (.ref a :: rest)) := c_get C X hW 8 (by decide) ly_8 hk 0 (by decide) (mt_at 967 (by decide +kernel) (by decide +kernel)) hdg (by rw [cV_I (by decide +kernel)]; exact kk)
theorem gk7_152 (C : cY p R s m args meth c RX7 cc nL nF nC nS nR ret) (X : cX D s) (hW : cW D S H) (hk : kK S a = 9) (hdg : decode cc pc = .ok (.getfield 152, 3)) (kk : W p l e R s m args below meth c H locs cells slots Q (F0 m (pc + 3) ls (.int (kF S a 1) :: rest))) : W p l e R s m args below meth c H locs cells slots Q (F0 m pc ls (.ref a :: rest)) := c_get C X hW 8 (by decide) ly_8 hk 1 (by decide) (mt_at 972 (by decide +kernel) (by decide +kernel)) hdg (by rw [cV_I (by decide +kernel)]; exact kk)
theorem gk7_187 (C : cY p R s m args meth c RX7 cc nL nF nC nS nR ret) (X : cX D s) (hW : cW D S H) (hk : kK S a = 9) (hdg : decode cc pc = .ok (.getfield 187, 3)) (kk : W p l e R s m args below meth c H locs cells slots Q (F0 m (pc + 3) ls (.int (kF S a 11) :: rest))) : W p l e R s m args below meth c H locs cells slots Q (F0 m pc ls (.ref a :: rest)) := c_get C X hW 8 (by decide) ly_8 hk 11 (by decide) (mt_at 1022 (by decide +kernel) (by decide +kernel)) hdg (by rw [cV_I (by decide +kernel)]; exact kk)
theorem gk7_196 (C : cY p R s m args meth c RX7 cc nL nF nC nS nR ret) (X : cX D s) (hW : cW D S H) (hk : kK S a = 9) (hdg : decode cc pc = .ok (.getfield 196, 3)) (kk : W p l e R s m args below meth c H locs cells slots Q (F0 m (pc + 3) ls (.int (kF S a 3) :: rest))) : W p l e R s m args below meth c H locs cells slots Q (F0 m pc ls (.ref a :: rest)) := c_get C X hW 8 (by decide) ly_8 hk 3 (by decide) (mt_at 979 (by decide +kernel) (by decide +kernel)) hdg (by rw [cV_I (by decide +kernel)]; exact kk)
end
section
variable {p : Program} {l : Launch} {e : Env} {R : Room} {s : State} {m : MethodId} {args : Array Value} {below : List Frame} {meth : Method} {c : Code} {D : cG} {S0 S9 : cSt}
noncomputable def fk_7_tell_142 (S : cSt) : Option (cSt) :=
some S
set_option maxRecDepth 100000 in
set_option maxHeartbeats 4000000 in
theorem wk_7_tell_142 (C : cY p R s m args meth c RX7 cX7_tell 5 2 0 0 43 none) (X : cX D s) : ∀ {S : cSt} {H : Heap} {locs : List Loc} {ls : Array Slot}, fk_7_tell_142 S = some S9 → cJ D S0 s.heap S H locs → lv_has ls 5 [] → W p l e R s m args below meth c H locs 0 0 (MQ below (kW none D S0 S9) args s 0 0 (cA S0)) (F0 m 142 ls []) := by
  intro S H locs ls h hJ hl
  unfold fk_7_tell_142 at h
  cases h
  exact c_retvW C hJ dX7_tell_142
noncomputable def fk_7_tell_138 (S : cSt) (s0 : Nat) (s1 : Int32) (s2 : Int32) (s3 : Int32) : Option (cSt) :=
ckk S s0 7 (bd (fk_6_add S s0 s1 s2 s3 (0 : Int32)) fun S1 =>
fk_7_tell_142 S1)
set_option maxRecDepth 100000 in
set_option maxHeartbeats 4000000 in
theorem wk_7_tell_138 (C : cY p R s m args meth c RX7 cX7_tell 5 2 0 0 43 none) (X : cX D s) : ∀ {S : cSt} {s0 : Nat} {s1 : Int32} {s2 : Int32} {s3 : Int32} {H : Heap} {locs : List Loc} {ls : Array Slot}, fk_7_tell_138 S s0 s1 s2 s3 = some S9 → cJ D S0 s.heap S H locs → lv_has ls 5 [] → W p l e R s m args below meth c H locs 0 0 (MQ below (kW none D S0 S9) args s 0 0 (cA S0)) (F0 m 138 ls [.int s3, .int s2, .int s1, .ref s0]) := by
  intro S s0 s1 s2 s3 H locs ls h hJ hl
  unfold fk_7_tell_138 at h
  refine lv_iconst (v := 0) C.1 C.2.1 dX7_tell_138 (by decide) ?_
  obtain ⟨hk, h⟩ := ckk_ok h
  obtain ⟨S1, h_S1, h⟩ := bd_ok h
  refine c_callW (rest := []) C X hJ hl.1 6 (by decide) hk [.int s1, .int s2, .int s3, .int (0 : Int32)] (tk_6_add l h_S1) cw7_193 ki_6_add kl_6_add rfl ⟨by decide, by decide⟩ ⟨(by decide), (by decide)⟩ rfl (Nat.le_of_ble_eq_true rfl) dX7_tell_139 (fun H locs hJ => ?_)
  refine W.eq (g2 := F0 m 142 ls []) rfl ?_
  exact wk_7_tell_142 C X h hJ (lv_sub hl [] rfl)
noncomputable def fk_7_tell_103 (S : cSt) (v0 : Nat) (v1 : Nat) (v2 : Nat) (s0 : Int32) : Option (cSt) :=
ckk S v0 8 (bd (kR S v0 3) fun a1 =>
ckk S v1 9 (
ckk S v0 8 (bd (kR S v0 12) fun a2 =>
ckk S v2 9 (
ckk S a2 1 (bd (fk_0_nameOf S a2 (kF S v2 1)) fun r3 =>
if s0 = 0 then (
ckk S v2 9 (
fk_7_tell_138 S a1 (kF S v1 11) r3 (kF S v2 3)))
else (
fk_7_tell_138 S a1 (kF S v1 11) r3 (7 : Int32)))))))
set_option maxRecDepth 100000 in
set_option maxHeartbeats 4000000 in
theorem wk_7_tell_103 (C : cY p R s m args meth c RX7 cX7_tell 5 2 0 0 43 none) (X : cX D s) : ∀ {S : cSt} {v0 : Nat} {v1 : Nat} {v2 : Nat} {s0 : Int32} {H : Heap} {locs : List Loc} {ls : Array Slot}, fk_7_tell_103 S v0 v1 v2 s0 = some S9 → cJ D S0 s.heap S H locs → lv_has ls 5 [(0, .ref v0), (1, .ref v1), (2, .ref v2)] → W p l e R s m args below meth c H locs 0 0 (MQ below (kW none D S0 S9) args s 0 0 (cA S0)) (F0 m 103 ls [.int s0]) := by
  intro S v0 v1 v2 s0 H locs ls h hJ hl
  unfold fk_7_tell_103 at h
  refine lv_istore (lv' := [(4, .int s0), (0, .ref v0), (1, .ref v1), (2, .ref v2)]) C.1 C.2.1 dX7_tell_103 hl (by decide) rfl (fun ls hl => ?_)
  refine lv_aload_n C.1 C.2.1 dX7_tell_105 rfl (lv_at hl 1 rfl) ?_
  obtain ⟨hk, h⟩ := ckk_ok h
  obtain ⟨a1, h_a1, h⟩ := bd_ok h
  refine gk7_14 C X hJ.1 hk h_a1 dX7_tell_106 ?_
  refine lv_aload_n C.1 C.2.1 dX7_tell_109 rfl (lv_at hl 2 rfl) ?_
  obtain ⟨hk, h⟩ := ckk_ok h
  refine gk7_187 C X hJ.1 hk dX7_tell_110 ?_
  refine lv_aload_n C.1 C.2.1 dX7_tell_113 rfl (lv_at hl 1 rfl) ?_
  obtain ⟨hk, h⟩ := ckk_ok h
  obtain ⟨a2, h_a2, h⟩ := bd_ok h
  refine gk7_64 C X hJ.1 hk h_a2 dX7_tell_114 ?_
  refine lv_aload_n C.1 C.2.1 dX7_tell_117 rfl (lv_at hl 3 rfl) ?_
  obtain ⟨hk, h⟩ := ckk_ok h
  refine gk7_152 C X hJ.1 hk dX7_tell_118 ?_
  obtain ⟨hk, h⟩ := ckk_ok h
  obtain ⟨r3, h_r3, h⟩ := bd_ok h
  refine c_callR (rest := [.int (kF S v1 11), .ref a1]) C X hJ.1 hl.1 0 (by decide) hk [.int (kF S v2 1)] (tk_0_nameOf l h_r3) cw7_190 ki_0_nameOf kl_0_nameOf rfl ⟨by decide, by decide⟩ ⟨(by decide), (by decide)⟩ rfl (Nat.le_of_ble_eq_true rfl) dX7_tell_121 ?_
  refine W.eq (g2 := F0 m 124 ls [.int r3, .int (kF S v1 11), .ref a1]) rfl ?_
  refine lv_iload C.1 C.2.1 dX7_tell_124 (lv_at hl 0 rfl) ?_
  refine lv_if_eq (tgt := 134) C.1 C.2.1 dX7_tell_126 (by decide) (fun c4 => ?_) (fun c4 => ?_)
  · have h := if_t h c4
    refine lv_aload_n C.1 C.2.1 dX7_tell_134 rfl (lv_at hl 3 rfl) ?_
    obtain ⟨hk, h⟩ := ckk_ok h
    refine gk7_196 C X hJ.1 hk dX7_tell_135 ?_
    exact wk_7_tell_138 C X h hJ (lv_sub hl [] rfl)
  · have h := if_f h c4
    refine lv_bipush (v := 7) C.1 C.2.1 dX7_tell_129 (by decide) ?_
    refine lv_goto (tgt := 138) C.1 C.2.1 dX7_tell_131 (by decide) ?_
    exact wk_7_tell_138 C X h hJ (lv_sub hl [] rfl)
noncomputable def fk_7_tell_98 (S : cSt) (v0 : Nat) (v1 : Nat) (v2 : Nat) : Option (cSt) :=
fk_7_tell_103 S v0 v1 v2 (1 : Int32)
set_option maxRecDepth 100000 in
set_option maxHeartbeats 4000000 in
theorem wk_7_tell_98 (C : cY p R s m args meth c RX7 cX7_tell 5 2 0 0 43 none) (X : cX D s) : ∀ {S : cSt} {v0 : Nat} {v1 : Nat} {v2 : Nat} {H : Heap} {locs : List Loc} {ls : Array Slot}, fk_7_tell_98 S v0 v1 v2 = some S9 → cJ D S0 s.heap S H locs → lv_has ls 5 [(0, .ref v0), (1, .ref v1), (2, .ref v2)] → W p l e R s m args below meth c H locs 0 0 (MQ below (kW none D S0 S9) args s 0 0 (cA S0)) (F0 m 98 ls []) := by
  intro S v0 v1 v2 H locs ls h hJ hl
  unfold fk_7_tell_98 at h
  refine lv_iconst (v := 1) C.1 C.2.1 dX7_tell_98 (by decide) ?_
  refine lv_goto (tgt := 103) C.1 C.2.1 dX7_tell_99 (by decide) ?_
  exact wk_7_tell_103 C X h hJ (lv_sub hl [0, 1, 2] rfl)
noncomputable def fk_7_tell_63 (g_5 : cSt → Nat → Nat → Nat → Int32 → Int32 → Option (cSt)) (S : cSt) (v0 : Nat) (v1 : Nat) (v2 : Nat) (v3 : Int32) (v4 : Int32) : Option (cSt) :=
lt (v4 + (1 : Int32)) fun x1 =>
g_5 S v0 v1 v2 v3 x1
set_option maxRecDepth 100000 in
set_option maxHeartbeats 4000000 in
theorem wk_7_tell_63 (C : cY p R s m args meth c RX7 cX7_tell 5 2 0 0 43 none) (X : cX D s) {g_5 : cSt → Nat → Nat → Nat → Int32 → Int32 → Option (cSt)} (hg_5 : ∀ {S : cSt} {v0 : Nat} {v1 : Nat} {v2 : Nat} {v3 : Int32} {v4 : Int32} {H : Heap} {locs : List Loc} {ls : Array Slot}, g_5 S v0 v1 v2 v3 v4 = some S9 → cJ D S0 s.heap S H locs → lv_has ls 5 [(0, .ref v0), (1, .ref v1), (2, .ref v2), (3, .int v3), (4, .int v4)] → W p l e R s m args below meth c H locs 0 0 (MQ below (kW none D S0 S9) args s 0 0 (cA S0)) (F0 m 5 ls [])) : ∀ {S : cSt} {v0 : Nat} {v1 : Nat} {v2 : Nat} {v3 : Int32} {v4 : Int32} {H : Heap} {locs : List Loc} {ls : Array Slot}, fk_7_tell_63 g_5 S v0 v1 v2 v3 v4 = some S9 → cJ D S0 s.heap S H locs → lv_has ls 5 [(0, .ref v0), (1, .ref v1), (2, .ref v2), (3, .int v3), (4, .int v4)] → W p l e R s m args below meth c H locs 0 0 (MQ below (kW none D S0 S9) args s 0 0 (cA S0)) (F0 m 63 ls []) := by
  intro S v0 v1 v2 v3 v4 H locs ls h hJ hl
  unfold fk_7_tell_63 at h
  refine lt_ok h (fun x1 e_x1 h => ?_)
  refine lv_iinc (v := x1) (lv' := [(4, .int x1), (0, .ref v0), (1, .ref v1), (2, .ref v2), (3, .int v3)]) C.1 C.2.1 dX7_tell_63 hl (k := 4) rfl (by rw [← e_x1]; rfl) (by decide) rfl (fun ls hl => ?_)
  refine lv_goto (tgt := 5) C.1 C.2.1 dX7_tell_66 (by decide) ?_
  exact hg_5 h hJ (lv_sub hl [1, 2, 3, 4, 0] rfl)
noncomputable def fk_7_tell_5 : Nat → cSt → Nat → Nat → Nat → Int32 → Int32 → Option (cSt)
  | 0, _, _, _, _, _, _ => none
  | n + 1, S, v0, v1, v2, v3, v4 =>
    if (48 : Int32) ≤ v4 then (
    if v3 = 0 then (
    fk_7_tell_142 S)
    else (
    ckk S v2 9 (
    if (kF S v2 0) = (11 : Int32) then (
    fk_7_tell_142 S)
    else (
    ckk S v2 9 (
    if (kF S v2 0) = 0 then (
    fk_7_tell_98 S v0 v1 v2)
    else (
    ckk S v2 9 (
    if (kF S v2 0) = (12 : Int32) then (
    fk_7_tell_98 S v0 v1 v2)
    else (
    fk_7_tell_103 S v0 v1 v2 (0 : Int32)))))))))
    else (
    ckk S v0 8 (bd (kR S v0 14) fun a6 =>
    ckk S a6 20 (ck v4 (kL S a6) (
    ckk S v0 8 (bd (kR S v0 15) fun a7 =>
    ckk S a7 20 (ck v4 (kL S a7) (
    if (kI S a6 (Int32.toNatClampNeg v4)) = (kI S a7 (Int32.toNatClampNeg v4)) then (
    fk_7_tell_63 (fk_7_tell_5 n) S v0 v1 v2 v3 v4)
    else (
    ckk S v2 9 (
    if (kF S v2 0) = (11 : Int32) then (
    ckk S v0 8 (bd (kR S v0 3) fun a10 =>
    ckk S v1 9 (
    ckk S v0 8 (bd (kR S v0 12) fun a11 =>
    ckk S a11 1 (bd (fk_0_nameOf S a11 v4) fun r12 =>
    ckk S a10 7 (bd (fk_6_add S a10 (kF S v1 11) r12 (6 : Int32) (0 : Int32)) fun S13 =>
    fk_7_tell_63 (fk_7_tell_5 n) S13 v0 v1 v2 (1 : Int32) v4))))))
    else (
    fk_7_tell_63 (fk_7_tell_5 n) S v0 v1 v2 (1 : Int32) v4))))))))))
set_option maxRecDepth 100000 in
set_option maxHeartbeats 4000000 in
theorem wk_7_tell_5 (C : cY p R s m args meth c RX7 cX7_tell 5 2 0 0 43 none) (X : cX D s) : ∀ (n : Nat), ∀ {S : cSt} {v0 : Nat} {v1 : Nat} {v2 : Nat} {v3 : Int32} {v4 : Int32} {H : Heap} {locs : List Loc} {ls : Array Slot}, fk_7_tell_5 n S v0 v1 v2 v3 v4 = some S9 → cJ D S0 s.heap S H locs → lv_has ls 5 [(0, .ref v0), (1, .ref v1), (2, .ref v2), (3, .int v3), (4, .int v4)] → W p l e R s m args below meth c H locs 0 0 (MQ below (kW none D S0 S9) args s 0 0 (cA S0)) (F0 m 5 ls []) := by
  intro n
  induction n with
  | zero =>
    intro S v0 v1 v2 v3 v4 H locs ls h hJ hl
    exact absurd (show (none : Option (cSt)) = _ from h) (fun q => by cases q)
  | succ n ih =>
    intro S v0 v1 v2 v3 v4 H locs ls h hJ hl
    rw [fk_7_tell_5] at h
    refine lv_iload C.1 C.2.1 dX7_tell_5 (lv_at hl 4 rfl) ?_
    refine lv_bipush (v := 48) C.1 C.2.1 dX7_tell_7 (by decide) ?_
    refine lv_icmp_ge (tgt := 69) C.1 C.2.1 dX7_tell_9 (by decide) (fun c1 => ?_) (fun c1 => ?_)
    · have h := if_t h c1
      refine lv_iload_n C.1 C.2.1 dX7_tell_69 rfl (lv_at hl 3 rfl) ?_
      refine lv_if_eq (tgt := 142) C.1 C.2.1 dX7_tell_70 (by decide) (fun c2 => ?_) (fun c2 => ?_)
      · have h := if_t h c2
        exact wk_7_tell_142 C X h hJ (lv_sub hl [] rfl)
      · have h := if_f h c2
        refine lv_aload_n C.1 C.2.1 dX7_tell_73 rfl (lv_at hl 2 rfl) ?_
        obtain ⟨hk, h⟩ := ckk_ok h
        refine gk7_147 C X hJ.1 hk dX7_tell_74 ?_
        refine lv_bipush (v := 11) C.1 C.2.1 dX7_tell_77 (by decide) ?_
        refine lv_icmp_eq (tgt := 142) C.1 C.2.1 dX7_tell_79 (by decide) (fun c3 => ?_) (fun c3 => ?_)
        · have h := if_t h c3
          exact wk_7_tell_142 C X h hJ (lv_sub hl [] rfl)
        · have h := if_f h c3
          refine lv_aload_n C.1 C.2.1 dX7_tell_82 rfl (lv_at hl 2 rfl) ?_
          obtain ⟨hk, h⟩ := ckk_ok h
          refine gk7_147 C X hJ.1 hk dX7_tell_83 ?_
          refine lv_if_eq (tgt := 98) C.1 C.2.1 dX7_tell_86 (by decide) (fun c4 => ?_) (fun c4 => ?_)
          · have h := if_t h c4
            exact wk_7_tell_98 C X h hJ (lv_sub hl [0, 1, 2] rfl)
          · have h := if_f h c4
            refine lv_aload_n C.1 C.2.1 dX7_tell_89 rfl (lv_at hl 2 rfl) ?_
            obtain ⟨hk, h⟩ := ckk_ok h
            refine gk7_147 C X hJ.1 hk dX7_tell_90 ?_
            refine lv_bipush (v := 12) C.1 C.2.1 dX7_tell_93 (by decide) ?_
            refine lv_icmp_ne (tgt := 102) C.1 C.2.1 dX7_tell_95 (by decide) (fun c5 => ?_) (fun c5 => ?_)
            · have h := if_f h c5
              refine lv_iconst (v := 0) C.1 C.2.1 dX7_tell_102 (by decide) ?_
              exact wk_7_tell_103 C X h hJ (lv_sub hl [0, 1, 2] rfl)
            · have h := if_t h c5
              exact wk_7_tell_98 C X h hJ (lv_sub hl [0, 1, 2] rfl)
    · have h := if_f h c1
      refine lv_aload_n C.1 C.2.1 dX7_tell_12 rfl (lv_at hl 0 rfl) ?_
      obtain ⟨hk, h⟩ := ckk_ok h
      obtain ⟨a6, h_a6, h⟩ := bd_ok h
      refine gk7_52 C X hJ.1 hk h_a6 dX7_tell_13 ?_
      refine lv_iload C.1 C.2.1 dX7_tell_16 (lv_at hl 4 rfl) ?_
      obtain ⟨hk, h⟩ := ckk_ok h
      obtain ⟨hin2, h⟩ := ck_ok h
      refine c_iald C X hJ.1 hk hin2 dX7_tell_18 ?_
      refine lv_aload_n C.1 C.2.1 dX7_tell_19 rfl (lv_at hl 0 rfl) ?_
      obtain ⟨hk, h⟩ := ckk_ok h
      obtain ⟨a7, h_a7, h⟩ := bd_ok h
      refine gk7_55 C X hJ.1 hk h_a7 dX7_tell_20 ?_
      refine lv_iload C.1 C.2.1 dX7_tell_23 (lv_at hl 4 rfl) ?_
      obtain ⟨hk, h⟩ := ckk_ok h
      obtain ⟨hin2, h⟩ := ck_ok h
      refine c_iald C X hJ.1 hk hin2 dX7_tell_25 ?_
      refine lv_icmp_eq (tgt := 63) C.1 C.2.1 dX7_tell_26 (by decide) (fun c8 => ?_) (fun c8 => ?_)
      · have h := if_t h c8
        exact wk_7_tell_63 C X ih h hJ (lv_sub hl [0, 1, 2, 3, 4] rfl)
      · have h := if_f h c8
        refine lv_iconst (v := 1) C.1 C.2.1 dX7_tell_29 (by decide) ?_
        refine lv_istore_n (lv' := [(3, .int (1 : Int32)), (0, .ref v0), (1, .ref v1), (2, .ref v2), (4, .int v4)]) C.1 C.2.1 dX7_tell_30 rfl hl (by decide) rfl (fun ls hl => ?_)
        refine lv_aload_n C.1 C.2.1 dX7_tell_31 rfl (lv_at hl 3 rfl) ?_
        obtain ⟨hk, h⟩ := ckk_ok h
        refine gk7_147 C X hJ.1 hk dX7_tell_32 ?_
        refine lv_bipush (v := 11) C.1 C.2.1 dX7_tell_35 (by decide) ?_
        refine lv_icmp_ne (tgt := 63) C.1 C.2.1 dX7_tell_37 (by decide) (fun c9 => ?_) (fun c9 => ?_)
        · have h := if_f h c9
          exact wk_7_tell_63 C X ih h hJ (lv_sub hl [1, 2, 3, 0, 4] rfl)
        · have h := if_t h c9
          refine lv_aload_n C.1 C.2.1 dX7_tell_40 rfl (lv_at hl 1 rfl) ?_
          obtain ⟨hk, h⟩ := ckk_ok h
          obtain ⟨a10, h_a10, h⟩ := bd_ok h
          refine gk7_14 C X hJ.1 hk h_a10 dX7_tell_41 ?_
          refine lv_aload_n C.1 C.2.1 dX7_tell_44 rfl (lv_at hl 2 rfl) ?_
          obtain ⟨hk, h⟩ := ckk_ok h
          refine gk7_187 C X hJ.1 hk dX7_tell_45 ?_
          refine lv_aload_n C.1 C.2.1 dX7_tell_48 rfl (lv_at hl 1 rfl) ?_
          obtain ⟨hk, h⟩ := ckk_ok h
          obtain ⟨a11, h_a11, h⟩ := bd_ok h
          refine gk7_64 C X hJ.1 hk h_a11 dX7_tell_49 ?_
          refine lv_iload C.1 C.2.1 dX7_tell_52 (lv_at hl 4 rfl) ?_
          obtain ⟨hk, h⟩ := ckk_ok h
          obtain ⟨r12, h_r12, h⟩ := bd_ok h
          refine c_callR (rest := [.int (kF S v1 11), .ref a10]) C X hJ.1 hl.1 0 (by decide) hk [.int v4] (tk_0_nameOf l h_r12) cw7_190 ki_0_nameOf kl_0_nameOf rfl ⟨by decide, by decide⟩ ⟨(by decide), (by decide)⟩ rfl (Nat.le_of_ble_eq_true rfl) dX7_tell_54 ?_
          refine W.eq (g2 := F0 m 57 ls [.int r12, .int (kF S v1 11), .ref a10]) rfl ?_
          refine lv_bipush (v := 6) C.1 C.2.1 dX7_tell_57 (by decide) ?_
          refine lv_iconst (v := 0) C.1 C.2.1 dX7_tell_59 (by decide) ?_
          obtain ⟨hk, h⟩ := ckk_ok h
          obtain ⟨S13, h_S13, h⟩ := bd_ok h
          refine c_callW (rest := []) C X hJ hl.1 6 (by decide) hk [.int (kF S v1 11), .int r12, .int (6 : Int32), .int (0 : Int32)] (tk_6_add l h_S13) cw7_193 ki_6_add kl_6_add rfl ⟨by decide, by decide⟩ ⟨(by decide), (by decide)⟩ rfl (Nat.le_of_ble_eq_true rfl) dX7_tell_60 (fun H locs hJ => ?_)
          refine W.eq (g2 := F0 m 63 ls []) rfl ?_
          exact wk_7_tell_63 C X ih h hJ (lv_sub hl [1, 2, 3, 0, 4] rfl)
noncomputable def fk_7_tell (S : cSt) (v0 : Nat) (v1 : Nat) (v2 : Nat) : Option (cSt) :=
fk_7_tell_5 mFU S v0 v1 v2 (0 : Int32) (0 : Int32)
set_option maxRecDepth 100000 in
set_option maxHeartbeats 4000000 in
theorem tk_7_tell (l : Launch) {D : cG} {S : cSt} {v0 : Nat} {v1 : Nat} {v2 : Nat} {S9 : cSt} (h : fk_7_tell S v0 v1 v2 = some S9) : Met l yX7_tell (Cond.code yX7_tell cX7_tell 5 none :: lw_g) { frames := 2, cells := 0, slots := 0, locals := 43 } (kPi [.ref v0, .ref v1, .ref v2] D S) (kW none D S S9) 0 0 (cA S) := by
  refine Met.ofW (cc := cX7_tell) (maxL := 5) (ret := none) (by decide) rfl ?_
  intro p e s m args below meth c s₁ B hml hv
  obtain ⟨rfl, hW, X⟩ := hv
  have C : cY p (headSpec (Cond.code yX7_tell cX7_tell 5 none :: lw_g) { frames := 2, cells := 0, slots := 0, locals := 43 }).room s m _ meth c RX7 cX7_tell 5 2 0 0 43 none := ⟨B.exec, B.bytes, hml, findClass_of_methodNamed B.named, fun w hw => atoms_spec (ws := Cond.code yX7_tell cX7_tell 5 none :: lw_g) B.pre w (List.mem_cons_of_mem _ hw), ⟨Nat.le_refl _, Nat.le_refl _, Nat.le_refl _, Nat.le_refl _⟩, B.returns, B.notSynchronized⟩
  have hl := lv_entry ([.ref v0, .ref v1, .ref v2]) (n := 5) (Nat.le_of_ble_eq_true rfl)
  rw [lg_entry_eq]
  generalize (lg_sl ([.ref v0, .ref v1, .ref v2]) ++ List.replicate (5 - (lg_sl ([.ref v0, .ref v1, .ref v2])).length) Slot.unset).toArray = ls at hl ⊢
  have hl : lv_has ls 5 [(0, .ref v0), (1, .ref v1), (2, .ref v2)] := hl
  have hJ : cJ D S s.heap S s.heap [] := cJ.rf hW
  unfold fk_7_tell at h
  refine lv_iconst (v := 0) C.1 C.2.1 dX7_tell_0 (by decide) ?_
  refine lv_istore_n (lv' := [(3, .int (0 : Int32)), (0, .ref v0), (1, .ref v1), (2, .ref v2)]) C.1 C.2.1 dX7_tell_1 rfl hl (by decide) rfl (fun ls hl => ?_)
  refine lv_iconst (v := 0) C.1 C.2.1 dX7_tell_2 (by decide) ?_
  refine lv_istore (lv' := [(4, .int (0 : Int32)), (3, .int (0 : Int32)), (0, .ref v0), (1, .ref v1), (2, .ref v2)]) C.1 C.2.1 dX7_tell_3 hl (by decide) rfl (fun ls hl => ?_)
  exact wk_7_tell_5 C X mFU h hJ (lv_sub hl [2, 3, 4, 1, 0] rfl)
end
theorem dX7_turn_0 : decode cX7_turn 0 = .ok (.iconst 0, 1) := by decide +kernel
theorem dX7_turn_1 : decode cX7_turn 1 = .ok (.istore 5, 2) := by decide +kernel
theorem dX7_turn_3 : decode cX7_turn 3 = .ok (.iload 5, 2) := by decide +kernel
theorem dX7_turn_5 : decode cX7_turn 5 = .ok (.iconst 4, 1) := by decide +kernel
theorem dX7_turn_6 : decode cX7_turn 6 = .ok (.if_icmp .ge 56, 3) := by decide +kernel
theorem dX7_turn_9 : decode cX7_turn 9 = .ok (.iload_n 3, 1) := by decide +kernel
theorem dX7_turn_10 : decode cX7_turn 10 = .ok (.iload 5, 2) := by decide +kernel
theorem dX7_turn_12 : decode cX7_turn 12 = .ok (.ishr, 1) := by decide +kernel
theorem dX7_turn_13 : decode cX7_turn 13 = .ok (.iconst 1, 1) := by decide +kernel
theorem dX7_turn_14 : decode cX7_turn 14 = .ok (.iand, 1) := by decide +kernel
theorem dX7_turn_15 : decode cX7_turn 15 = .ok (.istore 6, 2) := by decide +kernel
theorem dX7_turn_17 : decode cX7_turn 17 = .ok (.iload 4, 2) := by decide +kernel
theorem dX7_turn_19 : decode cX7_turn 19 = .ok (.iload 5, 2) := by decide +kernel
theorem dX7_turn_21 : decode cX7_turn 21 = .ok (.ishr, 1) := by decide +kernel
theorem dX7_turn_22 : decode cX7_turn 22 = .ok (.iconst 1, 1) := by decide +kernel
theorem dX7_turn_23 : decode cX7_turn 23 = .ok (.iand, 1) := by decide +kernel
theorem dX7_turn_24 : decode cX7_turn 24 = .ok (.istore 7, 2) := by decide +kernel
theorem dX7_turn_26 : decode cX7_turn 26 = .ok (.iload 6, 2) := by decide +kernel
theorem dX7_turn_28 : decode cX7_turn 28 = .ok (.iload 7, 2) := by decide +kernel
theorem dX7_turn_30 : decode cX7_turn 30 = .ok (.if_icmp .eq 26, 3) := by decide +kernel
theorem dX7_turn_33 : decode cX7_turn 33 = .ok (.aload_n 0, 1) := by decide +kernel
theorem dX7_turn_34 : decode cX7_turn 34 = .ok (.getfield 20, 3) := by decide +kernel
theorem dX7_turn_37 : decode cX7_turn 37 = .ok (.aload_n 1, 1) := by decide +kernel
theorem dX7_turn_38 : decode cX7_turn 38 = .ok (.getfield 187, 3) := by decide +kernel
theorem dX7_turn_41 : decode cX7_turn 41 = .ok (.iload 5, 2) := by decide +kernel
theorem dX7_turn_43 : decode cX7_turn 43 = .ok (.aload_n 0, 1) := by decide +kernel
theorem dX7_turn_44 : decode cX7_turn 44 = .ok (.getfield 64, 3) := by decide +kernel
theorem dX7_turn_47 : decode cX7_turn 47 = .ok (.iload_n 2, 1) := by decide +kernel
theorem dX7_turn_48 : decode cX7_turn 48 = .ok (.invokevirtual 190, 3) := by decide +kernel
theorem dX7_turn_51 : decode cX7_turn 51 = .ok (.iload 7, 2) := by decide +kernel
theorem dX7_turn_53 : decode cX7_turn 53 = .ok (.invokevirtual 193, 3) := by decide +kernel
theorem dX7_turn_56 : decode cX7_turn 56 = .ok (.iinc 5 1, 3) := by decide +kernel
theorem dX7_turn_59 : decode cX7_turn 59 = .ok (.goto (-56), 3) := by decide +kernel
theorem dX7_turn_62 : decode cX7_turn 62 = .ok (.return_, 1) := by decide +kernel
theorem kd_7_turn : Cond.code yX7_turn cX7_turn 8 none ∈ lw_g := mt_at 1171 (by decide +kernel) rfl
theorem ki_7_turn : Cond.instanceMethod yX7_turn ∈ lw_g := mt_at 1170 (by decide +kernel) rfl
theorem kl_7_turn : Cond.selects (kRn 7) yX7_turn yX7_turn ∈ lw_g := mt_sel 21 (by decide +kernel) rfl
section
variable {p : Program} {l : Launch} {e : Env} {R : Room} {s : State} {m : MethodId} {args : Array Value} {below : List Frame} {meth : Method} {c : Code} {H : Heap} {locs : List Loc} {cells slots : Nat} {Q : State → Prop}
variable {D : cG} {S S0 : cSt} {cc : ByteArray} {nL : Nat} {pc : Nat} {ls : Array Slot} {rest : List Value} {H0 : Heap} {nF nR nC nS : Nat} {ret : Option FieldType} {a : Nat}
theorem gk7_20 (C : cY p R s m args meth c RX7 cc nL nF nC nS nR ret) (X : cX D s) (hW : cW D S H) (hk : kK S a = 8) {x : Nat} (hx : kR S a 4 = some x) (hdg : decode cc pc = .ok (.getfield 20, 3)) (kk : W p l e R s m args below meth c H locs cells slots Q (F0 m (pc + 3) ls (.ref x :: rest))) : W p l e R s m args below meth c H locs cells slots Q (F0 m pc ls (.ref a :: rest)) := c_get C X hW 7 (by decide) ly_7 hk 4 (by decide) (mt_at 311 (by decide +kernel) (by decide +kernel)) hdg (by rw [cV_R (by decide +kernel) hx]; exact kk)
end
section
variable {p : Program} {l : Launch} {e : Env} {R : Room} {s : State} {m : MethodId} {args : Array Value} {below : List Frame} {meth : Method} {c : Code} {D : cG} {S0 S9 : cSt}
noncomputable def fk_7_turn_56 (g_3 : cSt → Nat → Nat → Int32 → Int32 → Int32 → Int32 → Option (cSt)) (S : cSt) (v0 : Nat) (v1 : Nat) (v2 : Int32) (v3 : Int32) (v4 : Int32) (v5 : Int32) : Option (cSt) :=
lt (v5 + (1 : Int32)) fun x1 =>
g_3 S v0 v1 v2 v3 v4 x1
set_option maxRecDepth 100000 in
set_option maxHeartbeats 4000000 in
theorem wk_7_turn_56 (C : cY p R s m args meth c RX7 cX7_turn 8 2 0 0 43 none) (X : cX D s) {g_3 : cSt → Nat → Nat → Int32 → Int32 → Int32 → Int32 → Option (cSt)} (hg_3 : ∀ {S : cSt} {v0 : Nat} {v1 : Nat} {v2 : Int32} {v3 : Int32} {v4 : Int32} {v5 : Int32} {H : Heap} {locs : List Loc} {ls : Array Slot}, g_3 S v0 v1 v2 v3 v4 v5 = some S9 → cJ D S0 s.heap S H locs → lv_has ls 8 [(0, .ref v0), (1, .ref v1), (2, .int v2), (3, .int v3), (4, .int v4), (5, .int v5)] → W p l e R s m args below meth c H locs 0 0 (MQ below (kW none D S0 S9) args s 0 0 (cA S0)) (F0 m 3 ls [])) : ∀ {S : cSt} {v0 : Nat} {v1 : Nat} {v2 : Int32} {v3 : Int32} {v4 : Int32} {v5 : Int32} {H : Heap} {locs : List Loc} {ls : Array Slot}, fk_7_turn_56 g_3 S v0 v1 v2 v3 v4 v5 = some S9 → cJ D S0 s.heap S H locs → lv_has ls 8 [(0, .ref v0), (1, .ref v1), (2, .int v2), (3, .int v3), (4, .int v4), (5, .int v5)] → W p l e R s m args below meth c H locs 0 0 (MQ below (kW none D S0 S9) args s 0 0 (cA S0)) (F0 m 56 ls []) := by
  intro S v0 v1 v2 v3 v4 v5 H locs ls h hJ hl
  unfold fk_7_turn_56 at h
  refine lt_ok h (fun x1 e_x1 h => ?_)
  refine lv_iinc (v := x1) (lv' := [(5, .int x1), (0, .ref v0), (1, .ref v1), (2, .int v2), (3, .int v3), (4, .int v4)]) C.1 C.2.1 dX7_turn_56 hl (k := 5) rfl (by rw [← e_x1]; rfl) (by decide) rfl (fun ls hl => ?_)
  refine lv_goto (tgt := 3) C.1 C.2.1 dX7_turn_59 (by decide) ?_
  exact hg_3 h hJ (lv_sub hl [1, 2, 3, 4, 5, 0] rfl)
noncomputable def fk_7_turn_3 : Nat → cSt → Nat → Nat → Int32 → Int32 → Int32 → Int32 → Option (cSt)
  | 0, _, _, _, _, _, _, _ => none
  | n + 1, S, v0, v1, v2, v3, v4, v5 =>
    if (4 : Int32) ≤ v5 then (
    some S)
    else (
    lt ((v3 >>> (v5 &&& 31)) &&& (1 : Int32)) fun x2 =>
    lt ((v4 >>> (v5 &&& 31)) &&& (1 : Int32)) fun x3 =>
    if x2 = x3 then (
    fk_7_turn_56 (fk_7_turn_3 n) S v0 v1 v2 v3 v4 v5)
    else (
    ckk S v0 8 (bd (kR S v0 4) fun a5 =>
    ckk S v1 9 (
    ckk S v0 8 (bd (kR S v0 12) fun a6 =>
    ckk S a6 1 (bd (fk_0_nameOf S a6 v2) fun r7 =>
    ckk S a5 7 (bd (fk_6_add S a5 (kF S v1 11) v5 r7 x3) fun S8 =>
    fk_7_turn_56 (fk_7_turn_3 n) S8 v0 v1 v2 v3 v4 v5)))))))
set_option maxRecDepth 100000 in
set_option maxHeartbeats 4000000 in
theorem wk_7_turn_3 (C : cY p R s m args meth c RX7 cX7_turn 8 2 0 0 43 none) (X : cX D s) : ∀ (n : Nat), ∀ {S : cSt} {v0 : Nat} {v1 : Nat} {v2 : Int32} {v3 : Int32} {v4 : Int32} {v5 : Int32} {H : Heap} {locs : List Loc} {ls : Array Slot}, fk_7_turn_3 n S v0 v1 v2 v3 v4 v5 = some S9 → cJ D S0 s.heap S H locs → lv_has ls 8 [(0, .ref v0), (1, .ref v1), (2, .int v2), (3, .int v3), (4, .int v4), (5, .int v5)] → W p l e R s m args below meth c H locs 0 0 (MQ below (kW none D S0 S9) args s 0 0 (cA S0)) (F0 m 3 ls []) := by
  intro n
  induction n with
  | zero =>
    intro S v0 v1 v2 v3 v4 v5 H locs ls h hJ hl
    exact absurd (show (none : Option (cSt)) = _ from h) (fun q => by cases q)
  | succ n ih =>
    intro S v0 v1 v2 v3 v4 v5 H locs ls h hJ hl
    rw [fk_7_turn_3] at h
    refine lv_iload C.1 C.2.1 dX7_turn_3 (lv_at hl 5 rfl) ?_
    refine lv_iconst (v := 4) C.1 C.2.1 dX7_turn_5 (by decide) ?_
    refine lv_icmp_ge (tgt := 62) C.1 C.2.1 dX7_turn_6 (by decide) (fun c1 => ?_) (fun c1 => ?_)
    · have h := if_t h c1
      cases h
      exact c_retvW C hJ dX7_turn_62
    · have h := if_f h c1
      refine lv_iload_n C.1 C.2.1 dX7_turn_9 rfl (lv_at hl 3 rfl) ?_
      refine lv_iload C.1 C.2.1 dX7_turn_10 (lv_at hl 5 rfl) ?_
      refine lv_ishr C.1 C.2.1 dX7_turn_12 ?_
      refine lv_iconst (v := 1) C.1 C.2.1 dX7_turn_13 (by decide) ?_
      refine lv_iand C.1 C.2.1 dX7_turn_14 ?_
      refine lt_ok h (fun x2 e_x2 h => ?_)
      refine lv_nm e_x2 ?_
      refine lv_istore (lv' := [(6, .int x2), (0, .ref v0), (1, .ref v1), (2, .int v2), (3, .int v3), (4, .int v4), (5, .int v5)]) C.1 C.2.1 dX7_turn_15 hl (by decide) rfl (fun ls hl => ?_)
      refine lv_iload C.1 C.2.1 dX7_turn_17 (lv_at hl 5 rfl) ?_
      refine lv_iload C.1 C.2.1 dX7_turn_19 (lv_at hl 6 rfl) ?_
      refine lv_ishr C.1 C.2.1 dX7_turn_21 ?_
      refine lv_iconst (v := 1) C.1 C.2.1 dX7_turn_22 (by decide) ?_
      refine lv_iand C.1 C.2.1 dX7_turn_23 ?_
      refine lt_ok h (fun x3 e_x3 h => ?_)
      refine lv_nm e_x3 ?_
      refine lv_istore (lv' := [(7, .int x3), (6, .int x2), (0, .ref v0), (1, .ref v1), (2, .int v2), (3, .int v3), (4, .int v4), (5, .int v5)]) C.1 C.2.1 dX7_turn_24 hl (by decide) rfl (fun ls hl => ?_)
      refine lv_iload C.1 C.2.1 dX7_turn_26 (lv_at hl 1 rfl) ?_
      refine lv_iload C.1 C.2.1 dX7_turn_28 (lv_at hl 0 rfl) ?_
      refine lv_icmp_eq (tgt := 56) C.1 C.2.1 dX7_turn_30 (by decide) (fun c4 => ?_) (fun c4 => ?_)
      · have h := if_t h c4
        exact wk_7_turn_56 C X ih h hJ (lv_sub hl [2, 3, 4, 5, 6, 7] rfl)
      · have h := if_f h c4
        refine lv_aload_n C.1 C.2.1 dX7_turn_33 rfl (lv_at hl 2 rfl) ?_
        obtain ⟨hk, h⟩ := ckk_ok h
        obtain ⟨a5, h_a5, h⟩ := bd_ok h
        refine gk7_20 C X hJ.1 hk h_a5 dX7_turn_34 ?_
        refine lv_aload_n C.1 C.2.1 dX7_turn_37 rfl (lv_at hl 3 rfl) ?_
        obtain ⟨hk, h⟩ := ckk_ok h
        refine gk7_187 C X hJ.1 hk dX7_turn_38 ?_
        refine lv_iload C.1 C.2.1 dX7_turn_41 (lv_at hl 7 rfl) ?_
        refine lv_aload_n C.1 C.2.1 dX7_turn_43 rfl (lv_at hl 2 rfl) ?_
        obtain ⟨hk, h⟩ := ckk_ok h
        obtain ⟨a6, h_a6, h⟩ := bd_ok h
        refine gk7_64 C X hJ.1 hk h_a6 dX7_turn_44 ?_
        refine lv_iload_n C.1 C.2.1 dX7_turn_47 rfl (lv_at hl 4 rfl) ?_
        obtain ⟨hk, h⟩ := ckk_ok h
        obtain ⟨r7, h_r7, h⟩ := bd_ok h
        refine c_callR (rest := [.int v5, .int (kF S v1 11), .ref a5]) C X hJ.1 hl.1 0 (by decide) hk [.int v2] (tk_0_nameOf l h_r7) cw7_190 ki_0_nameOf kl_0_nameOf rfl ⟨by decide, by decide⟩ ⟨(by decide), (by decide)⟩ rfl (Nat.le_of_ble_eq_true rfl) dX7_turn_48 ?_
        refine W.eq (g2 := F0 m 51 ls [.int r7, .int v5, .int (kF S v1 11), .ref a5]) rfl ?_
        refine lv_iload C.1 C.2.1 dX7_turn_51 (lv_at hl 0 rfl) ?_
        obtain ⟨hk, h⟩ := ckk_ok h
        obtain ⟨S8, h_S8, h⟩ := bd_ok h
        refine c_callW (rest := []) C X hJ hl.1 6 (by decide) hk [.int (kF S v1 11), .int v5, .int r7, .int x3] (tk_6_add l h_S8) cw7_193 ki_6_add kl_6_add rfl ⟨by decide, by decide⟩ ⟨(by decide), (by decide)⟩ rfl (Nat.le_of_ble_eq_true rfl) dX7_turn_53 (fun H locs hJ => ?_)
        refine W.eq (g2 := F0 m 56 ls []) rfl ?_
        exact wk_7_turn_56 C X ih h hJ (lv_sub hl [2, 3, 4, 5, 6, 7] rfl)
noncomputable def fk_7_turn (S : cSt) (v0 : Nat) (v1 : Nat) (v2 : Int32) (v3 : Int32) (v4 : Int32) : Option (cSt) :=
fk_7_turn_3 mFU S v0 v1 v2 v3 v4 (0 : Int32)
set_option maxRecDepth 100000 in
set_option maxHeartbeats 4000000 in
theorem tk_7_turn (l : Launch) {D : cG} {S : cSt} {v0 : Nat} {v1 : Nat} {v2 : Int32} {v3 : Int32} {v4 : Int32} {S9 : cSt} (h : fk_7_turn S v0 v1 v2 v3 v4 = some S9) : Met l yX7_turn (Cond.code yX7_turn cX7_turn 8 none :: lw_g) { frames := 2, cells := 0, slots := 0, locals := 43 } (kPi [.ref v0, .ref v1, .int v2, .int v3, .int v4] D S) (kW none D S S9) 0 0 (cA S) := by
  refine Met.ofW (cc := cX7_turn) (maxL := 8) (ret := none) (by decide) rfl ?_
  intro p e s m args below meth c s₁ B hml hv
  obtain ⟨rfl, hW, X⟩ := hv
  have C : cY p (headSpec (Cond.code yX7_turn cX7_turn 8 none :: lw_g) { frames := 2, cells := 0, slots := 0, locals := 43 }).room s m _ meth c RX7 cX7_turn 8 2 0 0 43 none := ⟨B.exec, B.bytes, hml, findClass_of_methodNamed B.named, fun w hw => atoms_spec (ws := Cond.code yX7_turn cX7_turn 8 none :: lw_g) B.pre w (List.mem_cons_of_mem _ hw), ⟨Nat.le_refl _, Nat.le_refl _, Nat.le_refl _, Nat.le_refl _⟩, B.returns, B.notSynchronized⟩
  have hl := lv_entry ([.ref v0, .ref v1, .int v2, .int v3, .int v4]) (n := 8) (Nat.le_of_ble_eq_true rfl)
  rw [lg_entry_eq]
  generalize (lg_sl ([.ref v0, .ref v1, .int v2, .int v3, .int v4]) ++ List.replicate (8 - (lg_sl ([.ref v0, .ref v1, .int v2, .int v3, .int v4])).length) Slot.unset).toArray = ls at hl ⊢
  have hl : lv_has ls 8 [(0, .ref v0), (1, .ref v1), (2, .int v2), (3, .int v3), (4, .int v4)] := hl
  have hJ : cJ D S s.heap S s.heap [] := cJ.rf hW
  unfold fk_7_turn at h
  refine lv_iconst (v := 0) C.1 C.2.1 dX7_turn_0 (by decide) ?_
  refine lv_istore (lv' := [(5, .int (0 : Int32)), (0, .ref v0), (1, .ref v1), (2, .int v2), (3, .int v3), (4, .int v4)]) C.1 C.2.1 dX7_turn_1 hl (by decide) rfl (fun ls hl => ?_)
  exact wk_7_turn_3 C X mFU h hJ (lv_sub hl [1, 2, 3, 4, 5, 0] rfl)
end
theorem dX7_apply_0 : decode cX7_apply 0 = .ok (.aload_n 1, 1) := by decide +kernel
theorem dX7_apply_1 : decode cX7_apply 1 = .ok (.invokevirtual 136, 3) := by decide +kernel
theorem dX7_apply_4 : decode cX7_apply 4 = .ok (.ifCond .eq 17, 3) := by decide +kernel
theorem dX7_apply_7 : decode cX7_apply 7 = .ok (.aload_n 0, 1) := by decide +kernel
theorem dX7_apply_8 : decode cX7_apply 8 = .ok (.getfield 64, 3) := by decide +kernel
theorem dX7_apply_11 : decode cX7_apply 11 = .ok (.aload_n 1, 1) := by decide +kernel
theorem dX7_apply_12 : decode cX7_apply 12 = .ok (.getfield 140, 3) := by decide +kernel
theorem dX7_apply_15 : decode cX7_apply 15 = .ok (.invokevirtual 143, 3) := by decide +kernel
theorem dX7_apply_18 : decode cX7_apply 18 = .ok (.goto 4, 3) := by decide +kernel
theorem dX7_apply_21 : decode cX7_apply 21 = .ok (.aload_n 1, 1) := by decide +kernel
theorem dX7_apply_22 : decode cX7_apply 22 = .ok (.astore_n 2, 1) := by decide +kernel
theorem dX7_apply_23 : decode cX7_apply 23 = .ok (.aload_n 2, 1) := by decide +kernel
theorem dX7_apply_24 : decode cX7_apply 24 = .ok (.ifnonnull 7, 3) := by decide +kernel
theorem dX7_apply_27 : decode cX7_apply 27 = .ok (.aload_n 1, 1) := by decide +kernel
theorem dX7_apply_28 : decode cX7_apply 28 = .ok (.goto 4, 3) := by decide +kernel
theorem dX7_apply_31 : decode cX7_apply 31 = .ok (.aload_n 2, 1) := by decide +kernel
theorem dX7_apply_32 : decode cX7_apply 32 = .ok (.astore_n 3, 1) := by decide +kernel
theorem dX7_apply_33 : decode cX7_apply 33 = .ok (.aload_n 3, 1) := by decide +kernel
theorem dX7_apply_34 : decode cX7_apply 34 = .ok (.getfield 147, 3) := by decide +kernel
theorem dX7_apply_37 : decode cX7_apply 37 = .ok (.invokestatic 148, 3) := by decide +kernel
theorem dX7_apply_40 : decode cX7_apply 40 = .ok (.istore 4, 2) := by decide +kernel
theorem dX7_apply_42 : decode cX7_apply 42 = .ok (.iload 4, 2) := by decide +kernel
theorem dX7_apply_44 : decode cX7_apply 44 = .ok (.ifCond .eq 14, 3) := by decide +kernel
theorem dX7_apply_47 : decode cX7_apply 47 = .ok (.aload_n 0, 1) := by decide +kernel
theorem dX7_apply_48 : decode cX7_apply 48 = .ok (.aload_n 3, 1) := by decide +kernel
theorem dX7_apply_49 : decode cX7_apply 49 = .ok (.getfield 152, 3) := by decide +kernel
theorem dX7_apply_52 : decode cX7_apply 52 = .ok (.invokevirtual 153, 3) := by decide +kernel
theorem dX7_apply_55 : decode cX7_apply 55 = .ok (.goto 4, 3) := by decide +kernel
theorem dX7_apply_58 : decode cX7_apply 58 = .ok (.iconst 0, 1) := by decide +kernel
theorem dX7_apply_59 : decode cX7_apply 59 = .ok (.istore 5, 2) := by decide +kernel
theorem dX7_apply_61 : decode cX7_apply 61 = .ok (.aload_n 0, 1) := by decide +kernel
theorem dX7_apply_62 : decode cX7_apply 62 = .ok (.getfield 85, 3) := by decide +kernel
theorem dX7_apply_65 : decode cX7_apply 65 = .ok (.aload_n 3, 1) := by decide +kernel
theorem dX7_apply_66 : decode cX7_apply 66 = .ok (.aload_n 0, 1) := by decide +kernel
theorem dX7_apply_67 : decode cX7_apply 67 = .ok (.getfield 52, 3) := by decide +kernel
theorem dX7_apply_70 : decode cX7_apply 70 = .ok (.invokevirtual 156, 3) := by decide +kernel
theorem dX7_apply_73 : decode cX7_apply 73 = .ok (.aload_n 0, 1) := by decide +kernel
theorem dX7_apply_74 : decode cX7_apply 74 = .ok (.aload_n 1, 1) := by decide +kernel
theorem dX7_apply_75 : decode cX7_apply 75 = .ok (.invokevirtual 160, 3) := by decide +kernel
theorem dX7_apply_78 : decode cX7_apply 78 = .ok (.aload_n 0, 1) := by decide +kernel
theorem dX7_apply_79 : decode cX7_apply 79 = .ok (.getfield 85, 3) := by decide +kernel
theorem dX7_apply_82 : decode cX7_apply 82 = .ok (.aload_n 3, 1) := by decide +kernel
theorem dX7_apply_83 : decode cX7_apply 83 = .ok (.aload_n 0, 1) := by decide +kernel
theorem dX7_apply_84 : decode cX7_apply 84 = .ok (.getfield 55, 3) := by decide +kernel
theorem dX7_apply_87 : decode cX7_apply 87 = .ok (.invokevirtual 156, 3) := by decide +kernel
theorem dX7_apply_90 : decode cX7_apply 90 = .ok (.aload_n 0, 1) := by decide +kernel
theorem dX7_apply_91 : decode cX7_apply 91 = .ok (.aload_n 1, 1) := by decide +kernel
theorem dX7_apply_92 : decode cX7_apply 92 = .ok (.aload_n 3, 1) := by decide +kernel
theorem dX7_apply_93 : decode cX7_apply 93 = .ok (.invokevirtual 163, 3) := by decide +kernel
theorem dX7_apply_96 : decode cX7_apply 96 = .ok (.iload 4, 2) := by decide +kernel
theorem dX7_apply_98 : decode cX7_apply 98 = .ok (.ifCond .eq 22, 3) := by decide +kernel
theorem dX7_apply_101 : decode cX7_apply 101 = .ok (.aload_n 0, 1) := by decide +kernel
theorem dX7_apply_102 : decode cX7_apply 102 = .ok (.aload_n 1, 1) := by decide +kernel
theorem dX7_apply_103 : decode cX7_apply 103 = .ok (.aload_n 3, 1) := by decide +kernel
theorem dX7_apply_104 : decode cX7_apply 104 = .ok (.getfield 152, 3) := by decide +kernel
theorem dX7_apply_107 : decode cX7_apply 107 = .ok (.iload 5, 2) := by decide +kernel
theorem dX7_apply_109 : decode cX7_apply 109 = .ok (.aload_n 0, 1) := by decide +kernel
theorem dX7_apply_110 : decode cX7_apply 110 = .ok (.aload_n 3, 1) := by decide +kernel
theorem dX7_apply_111 : decode cX7_apply 111 = .ok (.getfield 152, 3) := by decide +kernel
theorem dX7_apply_114 : decode cX7_apply 114 = .ok (.invokevirtual 153, 3) := by decide +kernel
theorem dX7_apply_117 : decode cX7_apply 117 = .ok (.invokevirtual 167, 3) := by decide +kernel
theorem dX7_apply_120 : decode cX7_apply 120 = .ok (.return_, 1) := by decide +kernel
theorem kd_7_apply : Cond.code yX7_apply cX7_apply 6 none ∈ lw_g := mt_at 1070 (by decide +kernel) rfl
theorem ki_7_apply : Cond.instanceMethod yX7_apply ∈ lw_g := mt_at 1069 (by decide +kernel) rfl
theorem kl_7_apply : Cond.selects (kRn 7) yX7_apply yX7_apply ∈ lw_g := mt_sel 14 (by decide +kernel) rfl
theorem cw7_136 : cCw RX7 136 yX8_turnsAnother cX8_turnsAnother 1 (some .boolean) 0 := ⟨kd_8_turnsAnother, mt_at 1071 (by decide +kernel) rfl, mt_at 29 (by decide +kernel) rfl, by decide +kernel⟩
theorem cw7_143 : cCw RX7 143 yX0_rowNamed cX0_rowNamed 3 (some (.object "AccordHouse$Row")) 1 := ⟨kd_0_rowNamed, mt_at 569 (by decide +kernel) rfl, mt_at 3 (by decide +kernel) rfl, by decide +kernel⟩
theorem cw7_148 : cCw RX7 148 yX7_turnsLists cX7_turnsLists 1 (some .boolean) 1 := ⟨kd_7_turnsLists, mt_at 1075 (by decide +kernel) rfl, mt_at 7 (by decide +kernel) rfl, by decide +kernel⟩
theorem cw7_153 : cCw RX7 153 yX7_listsWith cX7_listsWith 6 (some .int) 1 := ⟨kd_7_listsWith, mt_at 1078 (by decide +kernel) rfl, mt_at 7 (by decide +kernel) rfl, by decide +kernel⟩
theorem cw7_156 : cCw RX7 156 yX10_glance cX10_glance 4 none 2 := ⟨kd_10_glance, mt_at 1088 (by decide +kernel) rfl, mt_at 10 (by decide +kernel) rfl, by decide +kernel⟩
theorem cw7_160 : cCw RX7 160 yX7_take cX7_take 2 none 1 := ⟨kd_7_take, mt_at 1126 (by decide +kernel) rfl, mt_at 7 (by decide +kernel) rfl, by decide +kernel⟩
theorem cw7_163 : cCw RX7 163 yX7_tell cX7_tell 5 none 2 := ⟨kd_7_tell, mt_at 1156 (by decide +kernel) rfl, mt_at 7 (by decide +kernel) rfl, by decide +kernel⟩
theorem cw7_167 : cCw RX7 167 yX7_turn cX7_turn 8 none 4 := ⟨kd_7_turn, mt_at 1168 (by decide +kernel) rfl, mt_at 7 (by decide +kernel) rfl, by decide +kernel⟩
section
variable {p : Program} {l : Launch} {e : Env} {R : Room} {s : State} {m : MethodId} {args : Array Value} {below : List Frame} {meth : Method} {c : Code} {H : Heap} {locs : List Loc} {cells slots : Nat} {Q : State → Prop}
variable {D : cG} {S S0 : cSt} {cc : ByteArray} {nL : Nat} {pc : Nat} {ls : Array Slot} {rest : List Value} {H0 : Heap} {nF nR nC nS : Nat} {ret : Option FieldType} {a : Nat}
theorem gk7_140 (C : cY p R s m args meth c RX7 cc nL nF nC nS nR ret) (X : cX D s) (hW : cW D S H) (hk : kK S a = 9) (hdg : decode cc pc = .ok (.getfield 140, 3)) (kk : W p l e R s m args below meth c H locs cells slots Q (F0 m (pc + 3) ls (.int (kF S a 5) :: rest))) : W p l e R s m args below meth c H locs cells slots Q (F0 m pc ls (.ref a :: rest)) := c_get C X hW 8 (by decide) ly_8 hk 5 (by decide) (mt_at 991 (by decide +kernel) (by decide +kernel)) hdg (by rw [cV_I (by decide +kernel)]; exact kk)
end
section
variable {p : Program} {l : Launch} {e : Env} {R : Room} {s : State} {m : MethodId} {args : Array Value} {below : List Frame} {meth : Method} {c : Code} {D : cG} {S0 S9 : cSt}
noncomputable def fk_7_apply_120 (S : cSt) : Option (cSt) :=
some S
set_option maxRecDepth 100000 in
set_option maxHeartbeats 4000000 in
theorem wk_7_apply_120 (C : cY p R s m args meth c RX7 cX7_apply 6 4 0 0 92 none) (X : cX D s) : ∀ {S : cSt} {H : Heap} {locs : List Loc} {ls : Array Slot}, fk_7_apply_120 S = some S9 → cJ D S0 s.heap S H locs → lv_has ls 6 [] → W p l e R s m args below meth c H locs 0 0 (MQ below (kW none D S0 S9) args s 0 0 (cA S0)) (F0 m 120 ls []) := by
  intro S H locs ls h hJ hl
  unfold fk_7_apply_120 at h
  cases h
  exact c_retvW C hJ dX7_apply_120
noncomputable def fk_7_apply_59 (S : cSt) (v0 : Nat) (v1 : Nat) (v3 : Option Nat) (v4 : Int32) (s0 : Int32) : Option (cSt) :=
ckk S v0 8 (bd (kR S v0 2) fun a1 =>
ckk S v0 8 (bd (kR S v0 14) fun a2 =>
bd v3 fun a3 =>
ckk S a1 11 (bd (fk_10_glance S a1 a3 a2) fun S4 =>
ckk S4 v0 8 (bd (fk_7_take S4 v0 v1) fun S5 =>
ckk S5 v0 8 (bd (kR S5 v0 2) fun a6 =>
ckk S5 v0 8 (bd (kR S5 v0 15) fun a7 =>
ckk S5 a6 11 (bd (fk_10_glance S5 a6 a3 a7) fun S8 =>
ckk S8 v0 8 (bd (fk_7_tell S8 v0 v1 a3) fun S10 =>
if v4 = 0 then (
fk_7_apply_120 S10)
else (
ckk S10 a3 9 (
ckk S10 a3 9 (
ckk S10 v0 8 (bd (fk_7_listsWith S10 v0 (kF S10 a3 1)) fun r12 =>
ckk S10 v0 8 (bd (fk_7_turn S10 v0 v1 (kF S10 a3 1) s0 r12) fun S13 =>
fk_7_apply_120 S13)))))))))))))
set_option maxRecDepth 100000 in
set_option maxHeartbeats 4000000 in
theorem wk_7_apply_59 (C : cY p R s m args meth c RX7 cX7_apply 6 4 0 0 92 none) (X : cX D s) : ∀ {S : cSt} {v0 : Nat} {v1 : Nat} {v3 : Option Nat} {v4 : Int32} {s0 : Int32} {H : Heap} {locs : List Loc} {ls : Array Slot}, fk_7_apply_59 S v0 v1 v3 v4 s0 = some S9 → cJ D S0 s.heap S H locs → lv_has ls 6 [(0, .ref v0), (1, .ref v1), (3, va_rf v3), (4, .int v4)] → W p l e R s m args below meth c H locs 0 0 (MQ below (kW none D S0 S9) args s 0 0 (cA S0)) (F0 m 59 ls [.int s0]) := by
  intro S v0 v1 v3 v4 s0 H locs ls h hJ hl
  unfold fk_7_apply_59 at h
  refine lv_istore (lv' := [(5, .int s0), (0, .ref v0), (1, .ref v1), (3, va_rf v3), (4, .int v4)]) C.1 C.2.1 dX7_apply_59 hl (by decide) rfl (fun ls hl => ?_)
  refine lv_aload_n C.1 C.2.1 dX7_apply_61 rfl (lv_at hl 1 rfl) ?_
  obtain ⟨hk, h⟩ := ckk_ok h
  obtain ⟨a1, h_a1, h⟩ := bd_ok h
  refine gk7_85 C X hJ.1 hk h_a1 dX7_apply_62 ?_
  refine lv_aload_nq (o := v3) C.1 C.2.1 dX7_apply_65 rfl (lv_at hl 3 rfl) ?_
  refine lv_aload_n C.1 C.2.1 dX7_apply_66 rfl (lv_at hl 1 rfl) ?_
  obtain ⟨hk, h⟩ := ckk_ok h
  obtain ⟨a2, h_a2, h⟩ := bd_ok h
  refine gk7_52 C X hJ.1 hk h_a2 dX7_apply_67 ?_
  obtain ⟨a3, e_a3, h⟩ := bd_ok h
  revert h; subst e_a3; intro h
  obtain ⟨hk, h⟩ := ckk_ok h
  obtain ⟨S4, h_S4, h⟩ := bd_ok h
  refine c_callW (rest := []) C X hJ hl.1 10 (by decide) hk [.ref a3, .ref a2] (tk_10_glance l h_S4) cw7_156 ki_10_glance kl_10_glance rfl ⟨by decide, by decide⟩ ⟨(by decide), (by decide)⟩ rfl (Nat.le_of_ble_eq_true rfl) dX7_apply_70 (fun H locs hJ => ?_)
  refine W.eq (g2 := F0 m 73 ls []) rfl ?_
  refine lv_aload_n C.1 C.2.1 dX7_apply_73 rfl (lv_at hl 1 rfl) ?_
  refine lv_aload_n C.1 C.2.1 dX7_apply_74 rfl (lv_at hl 2 rfl) ?_
  obtain ⟨hk, h⟩ := ckk_ok h
  obtain ⟨S5, h_S5, h⟩ := bd_ok h
  refine c_callW (rest := []) C X hJ hl.1 7 (by decide) hk [.ref v1] (tk_7_take l h_S5) cw7_160 ki_7_take kl_7_take rfl ⟨by decide, by decide⟩ ⟨(by decide), (by decide)⟩ rfl (Nat.le_of_ble_eq_true rfl) dX7_apply_75 (fun H locs hJ => ?_)
  refine W.eq (g2 := F0 m 78 ls []) rfl ?_
  refine lv_aload_n C.1 C.2.1 dX7_apply_78 rfl (lv_at hl 1 rfl) ?_
  obtain ⟨hk, h⟩ := ckk_ok h
  obtain ⟨a6, h_a6, h⟩ := bd_ok h
  refine gk7_85 C X hJ.1 hk h_a6 dX7_apply_79 ?_
  refine lv_aload_n C.1 C.2.1 dX7_apply_82 rfl (lv_at hl 3 rfl) ?_
  refine lv_aload_n C.1 C.2.1 dX7_apply_83 rfl (lv_at hl 1 rfl) ?_
  obtain ⟨hk, h⟩ := ckk_ok h
  obtain ⟨a7, h_a7, h⟩ := bd_ok h
  refine gk7_55 C X hJ.1 hk h_a7 dX7_apply_84 ?_
  obtain ⟨hk, h⟩ := ckk_ok h
  obtain ⟨S8, h_S8, h⟩ := bd_ok h
  refine c_callW (rest := []) C X hJ hl.1 10 (by decide) hk [.ref a3, .ref a7] (tk_10_glance l h_S8) cw7_156 ki_10_glance kl_10_glance rfl ⟨by decide, by decide⟩ ⟨(by decide), (by decide)⟩ rfl (Nat.le_of_ble_eq_true rfl) dX7_apply_87 (fun H locs hJ => ?_)
  refine W.eq (g2 := F0 m 90 ls []) rfl ?_
  refine lv_aload_n C.1 C.2.1 dX7_apply_90 rfl (lv_at hl 1 rfl) ?_
  refine lv_aload_n C.1 C.2.1 dX7_apply_91 rfl (lv_at hl 2 rfl) ?_
  refine lv_aload_n C.1 C.2.1 dX7_apply_92 rfl (lv_at hl 3 rfl) ?_
  obtain ⟨hk, h⟩ := ckk_ok h
  obtain ⟨S10, h_S10, h⟩ := bd_ok h
  refine c_callW (rest := []) C X hJ hl.1 7 (by decide) hk [.ref v1, .ref a3] (tk_7_tell l h_S10) cw7_163 ki_7_tell kl_7_tell rfl ⟨by decide, by decide⟩ ⟨(by decide), (by decide)⟩ rfl (Nat.le_of_ble_eq_true rfl) dX7_apply_93 (fun H locs hJ => ?_)
  refine W.eq (g2 := F0 m 96 ls []) rfl ?_
  refine lv_iload C.1 C.2.1 dX7_apply_96 (lv_at hl 4 rfl) ?_
  refine lv_if_eq (tgt := 120) C.1 C.2.1 dX7_apply_98 (by decide) (fun c11 => ?_) (fun c11 => ?_)
  · have h := if_t h c11
    exact wk_7_apply_120 C X h hJ (lv_sub hl [] rfl)
  · have h := if_f h c11
    refine lv_aload_n C.1 C.2.1 dX7_apply_101 rfl (lv_at hl 1 rfl) ?_
    refine lv_aload_n C.1 C.2.1 dX7_apply_102 rfl (lv_at hl 2 rfl) ?_
    refine lv_aload_n C.1 C.2.1 dX7_apply_103 rfl (lv_at hl 3 rfl) ?_
    obtain ⟨hk, h⟩ := ckk_ok h
    refine gk7_152 C X hJ.1 hk dX7_apply_104 ?_
    refine lv_iload C.1 C.2.1 dX7_apply_107 (lv_at hl 0 rfl) ?_
    refine lv_aload_n C.1 C.2.1 dX7_apply_109 rfl (lv_at hl 1 rfl) ?_
    refine lv_aload_n C.1 C.2.1 dX7_apply_110 rfl (lv_at hl 3 rfl) ?_
    obtain ⟨hk, h⟩ := ckk_ok h
    refine gk7_152 C X hJ.1 hk dX7_apply_111 ?_
    obtain ⟨hk, h⟩ := ckk_ok h
    obtain ⟨r12, h_r12, h⟩ := bd_ok h
    refine c_callR (rest := [.int s0, .int (kF S10 a3 1), .ref v1, .ref v0]) C X hJ.1 hl.1 7 (by decide) hk [.int (kF S10 a3 1)] (tk_7_listsWith l h_r12) cw7_153 ki_7_listsWith kl_7_listsWith rfl ⟨by decide, by decide⟩ ⟨(by decide), (by decide)⟩ rfl (Nat.le_of_ble_eq_true rfl) dX7_apply_114 ?_
    refine W.eq (g2 := F0 m 117 ls [.int r12, .int s0, .int (kF S10 a3 1), .ref v1, .ref v0]) rfl ?_
    obtain ⟨hk, h⟩ := ckk_ok h
    obtain ⟨S13, h_S13, h⟩ := bd_ok h
    refine c_callW (rest := []) C X hJ hl.1 7 (by decide) hk [.ref v1, .int (kF S10 a3 1), .int s0, .int r12] (tk_7_turn l h_S13) cw7_167 ki_7_turn kl_7_turn rfl ⟨by decide, by decide⟩ ⟨(by decide), (by decide)⟩ rfl (Nat.le_of_ble_eq_true rfl) dX7_apply_117 (fun H locs hJ => ?_)
    refine W.eq (g2 := F0 m 120 ls []) rfl ?_
    exact wk_7_apply_120 C X h hJ (lv_sub hl [] rfl)
noncomputable def fk_7_apply_32 (S : cSt) (v0 : Nat) (v1 : Nat) (s0 : Option Nat) : Option (cSt) :=
bd s0 fun a1 =>
ckk S a1 9 (
bd (fk_7_turnsLists (kF S a1 0)) fun r2 =>
if r2 = 0 then (
fk_7_apply_59 S v0 v1 (some a1) r2 (0 : Int32))
else (
ckk S a1 9 (
ckk S v0 8 (bd (fk_7_listsWith S v0 (kF S a1 1)) fun r4 =>
fk_7_apply_59 S v0 v1 (some a1) r2 r4))))
set_option maxRecDepth 100000 in
set_option maxHeartbeats 4000000 in
theorem wk_7_apply_32 (C : cY p R s m args meth c RX7 cX7_apply 6 4 0 0 92 none) (X : cX D s) : ∀ {S : cSt} {v0 : Nat} {v1 : Nat} {s0 : Option Nat} {H : Heap} {locs : List Loc} {ls : Array Slot}, fk_7_apply_32 S v0 v1 s0 = some S9 → cJ D S0 s.heap S H locs → lv_has ls 6 [(0, .ref v0), (1, .ref v1)] → W p l e R s m args below meth c H locs 0 0 (MQ below (kW none D S0 S9) args s 0 0 (cA S0)) (F0 m 32 ls [va_rf s0]) := by
  intro S v0 v1 s0 H locs ls h hJ hl
  unfold fk_7_apply_32 at h
  refine lv_astore_nq (o := s0) (lv' := [(3, va_rf s0), (0, .ref v0), (1, .ref v1)]) C.1 C.2.1 dX7_apply_32 rfl hl (by decide) rfl (fun ls hl => ?_)
  refine lv_aload_nq (o := s0) C.1 C.2.1 dX7_apply_33 rfl (lv_at hl 0 rfl) ?_
  obtain ⟨a1, e_a1, h⟩ := bd_ok h
  revert h; subst e_a1; intro h
  obtain ⟨hk, h⟩ := ckk_ok h
  refine gk7_147 C X hJ.1 hk dX7_apply_34 ?_
  obtain ⟨r2, h_r2, h⟩ := bd_ok h
  refine c_callS (rest := []) C hl.1 [.int (kF S a1 0)] (tk_7_turnsLists l h_r2) cw7_148 ks_7_turnsLists rfl ⟨by decide, by decide⟩ ⟨(by decide), (by decide)⟩ rfl (Nat.le_of_ble_eq_true rfl) dX7_apply_37 ?_
  refine W.eq (g2 := F0 m 40 ls [.int r2]) rfl ?_
  refine lv_istore (lv' := [(4, .int r2), (3, .ref a1), (0, .ref v0), (1, .ref v1)]) C.1 C.2.1 dX7_apply_40 hl (by decide) rfl (fun ls hl => ?_)
  refine lv_iload C.1 C.2.1 dX7_apply_42 (lv_at hl 0 rfl) ?_
  refine lv_if_eq (tgt := 58) C.1 C.2.1 dX7_apply_44 (by decide) (fun c3 => ?_) (fun c3 => ?_)
  · have h := if_t h c3
    refine lv_iconst (v := 0) C.1 C.2.1 dX7_apply_58 (by decide) ?_
    exact wk_7_apply_59 C X h hJ (lv_sub hl [2, 3, 1, 0] rfl)
  · have h := if_f h c3
    refine lv_aload_n C.1 C.2.1 dX7_apply_47 rfl (lv_at hl 2 rfl) ?_
    refine lv_aload_n C.1 C.2.1 dX7_apply_48 rfl (lv_at hl 1 rfl) ?_
    obtain ⟨hk, h⟩ := ckk_ok h
    refine gk7_152 C X hJ.1 hk dX7_apply_49 ?_
    obtain ⟨hk, h⟩ := ckk_ok h
    obtain ⟨r4, h_r4, h⟩ := bd_ok h
    refine c_callR (rest := []) C X hJ.1 hl.1 7 (by decide) hk [.int (kF S a1 1)] (tk_7_listsWith l h_r4) cw7_153 ki_7_listsWith kl_7_listsWith rfl ⟨by decide, by decide⟩ ⟨(by decide), (by decide)⟩ rfl (Nat.le_of_ble_eq_true rfl) dX7_apply_52 ?_
    refine W.eq (g2 := F0 m 55 ls [.int r4]) rfl ?_
    refine lv_goto (tgt := 59) C.1 C.2.1 dX7_apply_55 (by decide) ?_
    exact wk_7_apply_59 C X h hJ (lv_sub hl [2, 3, 1, 0] rfl)
noncomputable def fk_7_apply_22 (S : cSt) (v0 : Nat) (v1 : Nat) (s0 : Option Nat) : Option (cSt) :=
cs s0 (
fk_7_apply_32 S v0 v1 (some v1)) (fun a1 =>
fk_7_apply_32 S v0 v1 (some a1))
set_option maxRecDepth 100000 in
set_option maxHeartbeats 4000000 in
theorem wk_7_apply_22 (C : cY p R s m args meth c RX7 cX7_apply 6 4 0 0 92 none) (X : cX D s) : ∀ {S : cSt} {v0 : Nat} {v1 : Nat} {s0 : Option Nat} {H : Heap} {locs : List Loc} {ls : Array Slot}, fk_7_apply_22 S v0 v1 s0 = some S9 → cJ D S0 s.heap S H locs → lv_has ls 6 [(0, .ref v0), (1, .ref v1)] → W p l e R s m args below meth c H locs 0 0 (MQ below (kW none D S0 S9) args s 0 0 (cA S0)) (F0 m 22 ls [va_rf s0]) := by
  intro S v0 v1 s0 H locs ls h hJ hl
  unfold fk_7_apply_22 at h
  refine lv_astore_nq (o := s0) (lv' := [(2, va_rf s0), (0, .ref v0), (1, .ref v1)]) C.1 C.2.1 dX7_apply_22 rfl hl (by decide) rfl (fun ls hl => ?_)
  refine lv_aload_nq (o := s0) C.1 C.2.1 dX7_apply_23 rfl (lv_at hl 0 rfl) ?_
  rcases s0 with _ | a1
  · replace h := cs_n h
    refine lv_ifnonnullN C.1 C.2.1 dX7_apply_24 ?_
    refine lv_aload_n C.1 C.2.1 dX7_apply_27 rfl (lv_at hl 2 rfl) ?_
    refine lv_goto (tgt := 32) C.1 C.2.1 dX7_apply_28 (by decide) ?_
    exact wk_7_apply_32 C X h hJ (lv_sub hl [1, 2] rfl)
  · replace h := cs_s h
    refine lv_ifnonnull (tgt := 31) C.1 C.2.1 dX7_apply_24 (by decide) ?_
    refine lv_aload_n C.1 C.2.1 dX7_apply_31 rfl (lv_at hl 0 rfl) ?_
    exact wk_7_apply_32 C X h hJ (lv_sub hl [1, 2] rfl)
noncomputable def fk_7_apply (S : cSt) (v0 : Nat) (v1 : Nat) : Option (cSt) :=
ckk S v1 9 (bd (fk_8_turnsAnother S v1) fun r1 =>
if r1 = 0 then (
fk_7_apply_22 S v0 v1 (some v1))
else (
ckk S v0 8 (bd (kR S v0 12) fun a3 =>
ckk S v1 9 (
ckk S a3 1 (bd (fk_0_rowNamed S a3 (kF S v1 5)) fun o4 =>
fk_7_apply_22 S v0 v1 o4)))))
set_option maxRecDepth 100000 in
set_option maxHeartbeats 4000000 in
theorem tk_7_apply (l : Launch) {D : cG} {S : cSt} {v0 : Nat} {v1 : Nat} {S9 : cSt} (h : fk_7_apply S v0 v1 = some S9) : Met l yX7_apply (Cond.code yX7_apply cX7_apply 6 none :: lw_g) { frames := 4, cells := 0, slots := 0, locals := 92 } (kPi [.ref v0, .ref v1] D S) (kW none D S S9) 0 0 (cA S) := by
  refine Met.ofW (cc := cX7_apply) (maxL := 6) (ret := none) (by decide) rfl ?_
  intro p e s m args below meth c s₁ B hml hv
  obtain ⟨rfl, hW, X⟩ := hv
  have C : cY p (headSpec (Cond.code yX7_apply cX7_apply 6 none :: lw_g) { frames := 4, cells := 0, slots := 0, locals := 92 }).room s m _ meth c RX7 cX7_apply 6 4 0 0 92 none := ⟨B.exec, B.bytes, hml, findClass_of_methodNamed B.named, fun w hw => atoms_spec (ws := Cond.code yX7_apply cX7_apply 6 none :: lw_g) B.pre w (List.mem_cons_of_mem _ hw), ⟨Nat.le_refl _, Nat.le_refl _, Nat.le_refl _, Nat.le_refl _⟩, B.returns, B.notSynchronized⟩
  have hl := lv_entry ([.ref v0, .ref v1]) (n := 6) (Nat.le_of_ble_eq_true rfl)
  rw [lg_entry_eq]
  generalize (lg_sl ([.ref v0, .ref v1]) ++ List.replicate (6 - (lg_sl ([.ref v0, .ref v1])).length) Slot.unset).toArray = ls at hl ⊢
  have hl : lv_has ls 6 [(0, .ref v0), (1, .ref v1)] := hl
  have hJ : cJ D S s.heap S s.heap [] := cJ.rf hW
  unfold fk_7_apply at h
  refine lv_aload_n C.1 C.2.1 dX7_apply_0 rfl (lv_at hl 1 rfl) ?_
  obtain ⟨hk, h⟩ := ckk_ok h
  obtain ⟨r1, h_r1, h⟩ := bd_ok h
  refine c_callR (rest := []) C X hJ.1 hl.1 8 (by decide) hk [] (tk_8_turnsAnother l h_r1) cw7_136 ki_8_turnsAnother kl_8_turnsAnother rfl ⟨by decide, by decide⟩ ⟨(by decide), (by decide)⟩ rfl (Nat.le_of_ble_eq_true rfl) dX7_apply_1 ?_
  refine W.eq (g2 := F0 m 4 ls [.int r1]) rfl ?_
  refine lv_if_eq (tgt := 21) C.1 C.2.1 dX7_apply_4 (by decide) (fun c2 => ?_) (fun c2 => ?_)
  · have h := if_t h c2
    refine lv_aload_n C.1 C.2.1 dX7_apply_21 rfl (lv_at hl 1 rfl) ?_
    exact wk_7_apply_22 C X h hJ (lv_sub hl [0, 1] rfl)
  · have h := if_f h c2
    refine lv_aload_n C.1 C.2.1 dX7_apply_7 rfl (lv_at hl 0 rfl) ?_
    obtain ⟨hk, h⟩ := ckk_ok h
    obtain ⟨a3, h_a3, h⟩ := bd_ok h
    refine gk7_64 C X hJ.1 hk h_a3 dX7_apply_8 ?_
    refine lv_aload_n C.1 C.2.1 dX7_apply_11 rfl (lv_at hl 1 rfl) ?_
    obtain ⟨hk, h⟩ := ckk_ok h
    refine gk7_140 C X hJ.1 hk dX7_apply_12 ?_
    obtain ⟨hk, h⟩ := ckk_ok h
    obtain ⟨o4, h_o4, h⟩ := bd_ok h
    refine c_callR (rest := []) C X hJ.1 hl.1 0 (by decide) hk [.int (kF S v1 5)] (tk_0_rowNamed l h_o4) cw7_143 ki_0_rowNamed kl_0_rowNamed rfl ⟨by decide, by decide⟩ ⟨(by decide), (by decide)⟩ rfl (Nat.le_of_ble_eq_true rfl) dX7_apply_15 ?_
    refine W.eq (g2 := F0 m 18 ls [va_rf o4]) rfl ?_
    refine lv_goto (tgt := 22) C.1 C.2.1 dX7_apply_18 (by decide) ?_
    exact wk_7_apply_22 C X h hJ (lv_sub hl [0, 1] rfl)
end
theorem dX7_make_0 : decode cX7_make 0 = .ok (.aload_n 1, 1) := by decide +kernel
theorem dX7_make_1 : decode cX7_make 1 = .ok (.getfield 101, 3) := by decide +kernel
theorem dX7_make_4 : decode cX7_make 4 = .ok (.ifCond .ne 18, 3) := by decide +kernel
theorem dX7_make_7 : decode cX7_make 7 = .ok (.aload_n 1, 1) := by decide +kernel
theorem dX7_make_8 : decode cX7_make 8 = .ok (.aload_n 0, 1) := by decide +kernel
theorem dX7_make_9 : decode cX7_make 9 = .ok (.getfield 64, 3) := by decide +kernel
theorem dX7_make_12 : decode cX7_make 12 = .ok (.aload_n 0, 1) := by decide +kernel
theorem dX7_make_13 : decode cX7_make 13 = .ok (.getfield 61, 3) := by decide +kernel
theorem dX7_make_16 : decode cX7_make 16 = .ok (.invokevirtual 106, 3) := by decide +kernel
theorem dX7_make_19 : decode cX7_make 19 = .ok (.putfield 110, 3) := by decide +kernel
theorem dX7_make_22 : decode cX7_make 22 = .ok (.aload_n 0, 1) := by decide +kernel
theorem dX7_make_23 : decode cX7_make 23 = .ok (.invokevirtual 113, 3) := by decide +kernel
theorem dX7_make_26 : decode cX7_make 26 = .ok (.istore_n 2, 1) := by decide +kernel
theorem dX7_make_27 : decode cX7_make 27 = .ok (.iload_n 2, 1) := by decide +kernel
theorem dX7_make_28 : decode cX7_make 28 = .ok (.aload_n 0, 1) := by decide +kernel
theorem dX7_make_29 : decode cX7_make 29 = .ok (.getfield 37, 3) := by decide +kernel
theorem dX7_make_32 : decode cX7_make 32 = .ok (.if_icmp .ne 12, 3) := by decide +kernel
theorem dX7_make_35 : decode cX7_make 35 = .ok (.aload_n 0, 1) := by decide +kernel
theorem dX7_make_36 : decode cX7_make 36 = .ok (.getfield 40, 3) := by decide +kernel
theorem dX7_make_39 : decode cX7_make 39 = .ok (.iconst 1, 1) := by decide +kernel
theorem dX7_make_40 : decode cX7_make 40 = .ok (.iadd, 1) := by decide +kernel
theorem dX7_make_41 : decode cX7_make 41 = .ok (.goto 4, 3) := by decide +kernel
theorem dX7_make_44 : decode cX7_make 44 = .ok (.iconst 0, 1) := by decide +kernel
theorem dX7_make_45 : decode cX7_make 45 = .ok (.istore_n 3, 1) := by decide +kernel
theorem dX7_make_46 : decode cX7_make 46 = .ok (.aload_n 0, 1) := by decide +kernel
theorem dX7_make_47 : decode cX7_make 47 = .ok (.getfield 23, 3) := by decide +kernel
theorem dX7_make_50 : decode cX7_make 50 = .ok (.iconst 4, 1) := by decide +kernel
theorem dX7_make_51 : decode cX7_make 51 = .ok (.aload_n 0, 1) := by decide +kernel
theorem dX7_make_52 : decode cX7_make 52 = .ok (.getfield 61, 3) := by decide +kernel
theorem dX7_make_55 : decode cX7_make 55 = .ok (.imul, 1) := by decide +kernel
theorem dX7_make_56 : decode cX7_make 56 = .ok (.iconst 4, 1) := by decide +kernel
theorem dX7_make_57 : decode cX7_make 57 = .ok (.aload_n 0, 1) := by decide +kernel
theorem dX7_make_58 : decode cX7_make 58 = .ok (.getfield 61, 3) := by decide +kernel
theorem dX7_make_61 : decode cX7_make 61 = .ok (.imul, 1) := by decide +kernel
theorem dX7_make_62 : decode cX7_make 62 = .ok (.iconst 4, 1) := by decide +kernel
theorem dX7_make_63 : decode cX7_make 63 = .ok (.iadd, 1) := by decide +kernel
theorem dX7_make_64 : decode cX7_make 64 = .ok (.invokestatic 117, 3) := by decide +kernel
theorem dX7_make_67 : decode cX7_make 67 = .ok (.astore 4, 2) := by decide +kernel
theorem dX7_make_69 : decode cX7_make 69 = .ok (.new 46, 3) := by decide +kernel
theorem dX7_make_72 : decode cX7_make 72 = .ok (.dup, 1) := by decide +kernel
theorem dX7_make_73 : decode cX7_make 73 = .ok (.aload_n 1, 1) := by decide +kernel
theorem dX7_make_74 : decode cX7_make 74 = .ok (.aload_n 0, 1) := by decide +kernel
theorem dX7_make_75 : decode cX7_make 75 = .ok (.getfield 61, 3) := by decide +kernel
theorem dX7_make_78 : decode cX7_make 78 = .ok (.aload_n 0, 1) := by decide +kernel
theorem dX7_make_79 : decode cX7_make 79 = .ok (.aload_n 0, 1) := by decide +kernel
theorem dX7_make_80 : decode cX7_make 80 = .ok (.getfield 61, 3) := by decide +kernel
theorem dX7_make_83 : decode cX7_make 83 = .ok (.invokevirtual 123, 3) := by decide +kernel
theorem dX7_make_86 : decode cX7_make 86 = .ok (.iconst 1, 1) := by decide +kernel
theorem dX7_make_87 : decode cX7_make 87 = .ok (.iadd, 1) := by decide +kernel
theorem dX7_make_88 : decode cX7_make 88 = .ok (.iload_n 2, 1) := by decide +kernel
theorem dX7_make_89 : decode cX7_make 89 = .ok (.iload_n 3, 1) := by decide +kernel
theorem dX7_make_90 : decode cX7_make 90 = .ok (.aload 4, 2) := by decide +kernel
theorem dX7_make_92 : decode cX7_make 92 = .ok (.invokespecial 126, 3) := by decide +kernel
theorem dX7_make_95 : decode cX7_make 95 = .ok (.astore 5, 2) := by decide +kernel
theorem dX7_make_97 : decode cX7_make 97 = .ok (.aload_n 0, 1) := by decide +kernel
theorem dX7_make_98 : decode cX7_make 98 = .ok (.getfield 64, 3) := by decide +kernel
theorem dX7_make_101 : decode cX7_make 101 = .ok (.aload 5, 2) := by decide +kernel
theorem dX7_make_103 : decode cX7_make 103 = .ok (.invokevirtual 129, 3) := by decide +kernel
theorem dX7_make_106 : decode cX7_make 106 = .ok (.aload_n 0, 1) := by decide +kernel
theorem dX7_make_107 : decode cX7_make 107 = .ok (.aload 5, 2) := by decide +kernel
theorem dX7_make_109 : decode cX7_make 109 = .ok (.invokevirtual 133, 3) := by decide +kernel
theorem dX7_make_112 : decode cX7_make 112 = .ok (.aload 5, 2) := by decide +kernel
theorem dX7_make_114 : decode cX7_make 114 = .ok (.areturn, 1) := by decide +kernel
theorem kd_7_make : Cond.code yX7_make cX7_make 6 (some (.object "AccordHouse$Row")) ∈ lw_g := mt_at 654 (by decide +kernel) rfl
theorem ki_7_make : Cond.instanceMethod yX7_make ∈ lw_g := mt_at 652 (by decide +kernel) rfl
theorem kl_7_make : Cond.selects (kRn 7) yX7_make yX7_make ∈ lw_g := mt_at 653 (by decide +kernel) rfl
theorem cw7_106 : cCw RX7 106 yX0_nextSlot cX0_nextSlot 2 (some .int) 1 := ⟨kd_0_nextSlot, mt_at 655 (by decide +kernel) rfl, mt_at 3 (by decide +kernel) rfl, by decide +kernel⟩
theorem cw7_113 : cCw RX7 113 yX7_timeNow cX7_timeNow 1 (some .int) 0 := ⟨kd_7_timeNow, mt_at 659 (by decide +kernel) rfl, mt_at 7 (by decide +kernel) rfl, by decide +kernel⟩
theorem cw7_117 : cCw RX7 117 yJ7_copyOfRange_feecc cJ7_copyOfRange_feecc 3 (some (.array .int)) 3 := ⟨kd_107_copyOfRange_feecc, mt_at 660 (by decide +kernel) rfl, mt_at 24 (by decide +kernel) rfl, by decide +kernel⟩
theorem cw7_123 : cCw RX7 123 yX7_knownOf cX7_knownOf 2 (some .int) 1 := ⟨kd_7_knownOf, mt_at 565 (by decide +kernel) rfl, mt_at 7 (by decide +kernel) rfl, by decide +kernel⟩
theorem cw7_126 : cCw RX7 126 yX8_init cX8_init 7 none 6 := ⟨kd_8_init, mt_at 955 (by decide +kernel) rfl, mt_at 29 (by decide +kernel) rfl, by decide +kernel⟩
theorem cw7_129 : cCw RX7 129 yX0_add cX0_add 2 none 1 := ⟨kd_0_add, mt_at 1063 (by decide +kernel) rfl, mt_at 3 (by decide +kernel) rfl, by decide +kernel⟩
theorem cw7_133 : cCw RX7 133 yX7_apply cX7_apply 6 none 1 := ⟨kd_7_apply, mt_at 1067 (by decide +kernel) rfl, mt_at 7 (by decide +kernel) rfl, by decide +kernel⟩
section
variable {p : Program} {l : Launch} {e : Env} {R : Room} {s : State} {m : MethodId} {args : Array Value} {below : List Frame} {meth : Method} {c : Code} {H : Heap} {locs : List Loc} {cells slots : Nat} {Q : State → Prop}
variable {D : cG} {S S0 : cSt} {cc : ByteArray} {nL : Nat} {pc : Nat} {ls : Array Slot} {rest : List Value} {H0 : Heap} {nF nR nC nS : Nat} {ret : Option FieldType} {a : Nat}
theorem nk7_46 (C : cY p R s m args meth c RX7 cc nL nF nC nS nR ret) (X : cX D s) (hJ : cJ D S0 H0 S H locs) (hce : cells + 1 ≤ nC) (hsl : slots + 14 ≤ nS) (hdg : decode cc pc = .ok (.new 46, 3)) (kk : ∀ (H1 : Heap), cJ D S0 H0 (cNw S 9 0) H1 locs → W p l e R s m args below meth c H1 locs (cells + 1) (slots + 14) Q (F0 m (pc + 3) ls (.ref (kZ S) :: rest))) : W p l e R s m args below meth c H locs cells slots Q (F0 m pc ls (rest)) := c_new C X hJ 8 (by decide) ly_8 (fun j hj => by match j, hj with | 0, _ => rfl | 1, _ => rfl | 2, _ => rfl | 3, _ => rfl | 4, _ => rfl | 5, _ => rfl | 6, _ => rfl | 7, _ => rfl | 8, _ => rfl | 9, _ => rfl | 10, _ => rfl | 11, _ => rfl | 12, _ => rfl | 13, _ => rfl) (mt_at 218 (by decide +kernel) rfl) (mt_at 954 (by decide +kernel) rfl) (mt_at 29 (by decide +kernel) rfl) hce hsl hdg kk
theorem gk7_101 (C : cY p R s m args meth c RX7 cc nL nF nC nS nR ret) (X : cX D s) (hW : cW D S H) (hk : kK S a = 2) (hdg : decode cc pc = .ok (.getfield 101, 3)) (kk : W p l e R s m args below meth c H locs cells slots Q (F0 m (pc + 3) ls (.int (kF S a 0) :: rest))) : W p l e R s m args below meth c H locs cells slots Q (F0 m pc ls (.ref a :: rest)) := c_get C X hW 1 (by decide) ly_1 hk 0 (by decide) (mt_at 163 (by decide +kernel) (by decide +kernel)) hdg (by rw [cV_I (by decide +kernel)]; exact kk)
theorem pk7_110 {x : Int32} (C : cY p R s m args meth c RX7 cc nL nF nC nS nR ret) (X : cX D s) (hJ : cJ D S0 H0 S H locs) (hk : kK S a = 2) (hdg : decode cc pc = .ok (.putfield 110, 3)) (kk : ∀ (H1 : Heap) (locs1 : List Loc), cJ D S0 H0 (cPi S a 1 x) H1 locs1 → W p l e R s m args below meth c H1 locs1 cells slots Q (F0 m (pc + 3) ls (rest))) : W p l e R s m args below meth c H locs cells slots Q (F0 m pc ls (.int x :: .ref a :: rest)) := c_put (S1 := (cPi S a 1 x)) C X hJ 1 (by decide) ly_1 hk 1 (by decide) (by decide +kernel)  rfl rfl (by decide) rfl rfl (fun j _ => c_vI (by decide +kernel)) c_oPi (mt_at 167 (by decide +kernel) (by decide +kernel)) hdg kk
end
section
variable {p : Program} {l : Launch} {e : Env} {R : Room} {s : State} {m : MethodId} {args : Array Value} {below : List Frame} {meth : Method} {c : Code} {D : cG} {S0 S9 : cSt} {r : Option Nat}
noncomputable def fk_7_make_45 (S : cSt) (v0 : Nat) (v1 : Nat) (v2 : Int32) (s0 : Int32) : Option ((Option Nat) × cSt) :=
ckk S v0 8 (bd (kR S v0 5) fun a1 =>
ckk S v0 8 (
ckk S v0 8 (
bd (fk_107_copyOfRange_feecc S a1 ((4 : Int32) * (kF S v0 0)) (((4 : Int32) * (kF S v0 0)) + (4 : Int32))) fun q_o3 => lt q_o3.1 fun o3 => lt q_o3.2 fun S2 =>
lt (kZ S2) fun a5 => lt (cNw S2 9 0) fun S4 =>
ckk S4 v0 8 (
ckk S4 v0 8 (
ckk S4 v0 8 (bd (fk_7_knownOf S4 v0 (kF S4 v0 0)) fun r6 =>
bd o3 fun a7 =>
bd (fk_8_init S4 a5 v1 (kF S4 v0 0) (r6 + (1 : Int32)) v2 s0 a7) fun S8 =>
ckk S8 v0 8 (bd (kR S8 v0 12) fun a9 =>
ckk S8 a9 1 (bd (fk_0_add S8 a9 a5) fun S10 =>
ckk S10 v0 8 (bd (fk_7_apply S10 v0 a5) fun S11 =>
some ((some a5), S11))))))))))
set_option maxRecDepth 100000 in
set_option maxHeartbeats 4000000 in
theorem wk_7_make_45 (C : cY p R s m args meth c RX7 cX7_make 6 5 2 18 117 (some (.object "AccordHouse$Row"))) (X : cX D s) : ∀ {S : cSt} {v0 : Nat} {v1 : Nat} {v2 : Int32} {s0 : Int32} {H : Heap} {locs : List Loc} {ls : Array Slot}, fk_7_make_45 S v0 v1 v2 s0 = some (r, S9) → cJ D S0 s.heap S H locs → lv_has ls 6 [(0, .ref v0), (1, .ref v1), (2, .int v2)] → W p l e R s m args below meth c H locs 0 0 (MQ below (kW (some (va_rf r)) D S0 S9) args s 2 18 (cA S0)) (F0 m 45 ls [.int s0]) := by
  intro S v0 v1 v2 s0 H locs ls h hJ hl
  unfold fk_7_make_45 at h
  refine lv_istore_n (lv' := [(3, .int s0), (0, .ref v0), (1, .ref v1), (2, .int v2)]) C.1 C.2.1 dX7_make_45 rfl hl (by decide) rfl (fun ls hl => ?_)
  refine lv_aload_n C.1 C.2.1 dX7_make_46 rfl (lv_at hl 1 rfl) ?_
  obtain ⟨hk, h⟩ := ckk_ok h
  obtain ⟨a1, h_a1, h⟩ := bd_ok h
  refine gk7_23 C X hJ.1 hk h_a1 dX7_make_47 ?_
  refine lv_iconst (v := 4) C.1 C.2.1 dX7_make_50 (by decide) ?_
  refine lv_aload_n C.1 C.2.1 dX7_make_51 rfl (lv_at hl 1 rfl) ?_
  obtain ⟨hk, h⟩ := ckk_ok h
  refine gk7_61 C X hJ.1 hk dX7_make_52 ?_
  refine lv_imul C.1 C.2.1 dX7_make_55 ?_
  refine lv_iconst (v := 4) C.1 C.2.1 dX7_make_56 (by decide) ?_
  refine lv_aload_n C.1 C.2.1 dX7_make_57 rfl (lv_at hl 1 rfl) ?_
  obtain ⟨hk, h⟩ := ckk_ok h
  refine gk7_61 C X hJ.1 hk dX7_make_58 ?_
  refine lv_imul C.1 C.2.1 dX7_make_61 ?_
  refine lv_iconst (v := 4) C.1 C.2.1 dX7_make_62 (by decide) ?_
  refine lv_iadd C.1 C.2.1 dX7_make_63 ?_
  obtain ⟨⟨o3, S2⟩, h_S2, h⟩ := bd_ok h
  replace h := lt2_ok h
  refine c_callSW (rest := []) C X hJ hl.1 [.ref a1, .int ((4 : Int32) * (kF S v0 0)), .int (((4 : Int32) * (kF S v0 0)) + (4 : Int32))] (tk_107_copyOfRange_feecc l h_S2) cw7_117 ks_107_copyOfRange_feecc rfl ⟨by decide, by decide⟩ ⟨(by decide), (by decide)⟩ rfl (Nat.le_of_ble_eq_true rfl) dX7_make_64 (fun H locs hJ => ?_)
  refine W.eq (g2 := F0 m 67 ls [va_rf o3]) rfl ?_
  refine lv_astoreq (o := o3) (lv' := [(4, va_rf o3), (3, .int s0), (0, .ref v0), (1, .ref v1), (2, .int v2)]) C.1 C.2.1 dX7_make_67 hl (by decide) rfl (fun ls hl => ?_)
  refine nk7_46 C X hJ (by decide) (by decide) dX7_make_69 (fun H hJ => ?_)
  refine lt_ok h (fun a5 e_a5 h => ?_)
  refine lt_ok h (fun S4 e_S4 h => ?_)
  rw [e_S4] at hJ
  rw [e_a5]
  refine lv_dup C.1 C.2.1 dX7_make_72 rfl ?_
  refine lv_aload_n C.1 C.2.1 dX7_make_73 rfl (lv_at hl 3 rfl) ?_
  refine lv_aload_n C.1 C.2.1 dX7_make_74 rfl (lv_at hl 2 rfl) ?_
  obtain ⟨hk, h⟩ := ckk_ok h
  refine gk7_61 C X hJ.1 hk dX7_make_75 ?_
  refine lv_aload_n C.1 C.2.1 dX7_make_78 rfl (lv_at hl 2 rfl) ?_
  refine lv_aload_n C.1 C.2.1 dX7_make_79 rfl (lv_at hl 2 rfl) ?_
  obtain ⟨hk, h⟩ := ckk_ok h
  refine gk7_61 C X hJ.1 hk dX7_make_80 ?_
  obtain ⟨hk, h⟩ := ckk_ok h
  obtain ⟨r6, h_r6, h⟩ := bd_ok h
  refine c_callR (rest := [.int (kF S4 v0 0), .ref v1, .ref a5, .ref a5]) C X hJ.1 hl.1 7 (by decide) hk [.int (kF S4 v0 0)] (tk_7_knownOf l h_r6) cw7_123 ki_7_knownOf kl_7_knownOf rfl ⟨by decide, by decide⟩ ⟨(by decide), (by decide)⟩ rfl (Nat.le_of_ble_eq_true rfl) dX7_make_83 ?_
  refine W.eq (g2 := F0 m 86 ls [.int r6, .int (kF S4 v0 0), .ref v1, .ref a5, .ref a5]) rfl ?_
  refine lv_iconst (v := 1) C.1 C.2.1 dX7_make_86 (by decide) ?_
  refine lv_iadd C.1 C.2.1 dX7_make_87 ?_
  refine lv_iload_n C.1 C.2.1 dX7_make_88 rfl (lv_at hl 4 rfl) ?_
  refine lv_iload_n C.1 C.2.1 dX7_make_89 rfl (lv_at hl 1 rfl) ?_
  refine lv_aloadq (o := o3) C.1 C.2.1 dX7_make_90 (lv_at hl 0 rfl) ?_
  obtain ⟨a7, e_a7, h⟩ := bd_ok h
  revert h; subst e_a7; intro h
  obtain ⟨S8, h_S8, h⟩ := bd_ok h
  refine c_callI (rest := [.ref a5]) C X hJ hl.1 [.ref v1, .int (kF S4 v0 0), .int (r6 + (1 : Int32)), .int v2, .int s0, .ref a7] (tk_8_init l h_S8) cw7_126 ki_8_init rfl rfl ⟨by decide, by decide⟩ ⟨(by decide), (by decide)⟩ rfl (Nat.le_of_ble_eq_true rfl) dX7_make_92 (fun H locs hJ => ?_)
  refine W.eq (g2 := F0 m 95 ls [.ref a5]) rfl ?_
  refine lv_astore (lv' := [(5, .ref a5), (4, .ref a7), (3, .int s0), (0, .ref v0), (1, .ref v1), (2, .int v2)]) C.1 C.2.1 dX7_make_95 hl (by decide) rfl (fun ls hl => ?_)
  refine lv_aload_n C.1 C.2.1 dX7_make_97 rfl (lv_at hl 3 rfl) ?_
  obtain ⟨hk, h⟩ := ckk_ok h
  obtain ⟨a9, h_a9, h⟩ := bd_ok h
  refine gk7_64 C X hJ.1 hk h_a9 dX7_make_98 ?_
  refine lv_aload C.1 C.2.1 dX7_make_101 (lv_at hl 0 rfl) ?_
  obtain ⟨hk, h⟩ := ckk_ok h
  obtain ⟨S10, h_S10, h⟩ := bd_ok h
  refine c_callW (rest := []) C X hJ hl.1 0 (by decide) hk [.ref a5] (tk_0_add l h_S10) cw7_129 ki_0_add kl_0_add rfl ⟨by decide, by decide⟩ ⟨(by decide), (by decide)⟩ rfl (Nat.le_of_ble_eq_true rfl) dX7_make_103 (fun H locs hJ => ?_)
  refine W.eq (g2 := F0 m 106 ls []) rfl ?_
  refine lv_aload_n C.1 C.2.1 dX7_make_106 rfl (lv_at hl 3 rfl) ?_
  refine lv_aload C.1 C.2.1 dX7_make_107 (lv_at hl 0 rfl) ?_
  obtain ⟨hk, h⟩ := ckk_ok h
  obtain ⟨S11, h_S11, h⟩ := bd_ok h
  refine c_callW (rest := []) C X hJ hl.1 7 (by decide) hk [.ref a5] (tk_7_apply l h_S11) cw7_133 ki_7_apply kl_7_apply rfl ⟨by decide, by decide⟩ ⟨(by decide), (by decide)⟩ rfl (Nat.le_of_ble_eq_true rfl) dX7_make_109 (fun H locs hJ => ?_)
  refine W.eq (g2 := F0 m 112 ls []) rfl ?_
  refine lv_aload C.1 C.2.1 dX7_make_112 (lv_at hl 0 rfl) ?_
  cases h
  exact c_retaW (o := (some a5)) C hJ dX7_make_114
noncomputable def fk_7_make_22 (S : cSt) (v0 : Nat) (v1 : Nat) : Option ((Option Nat) × cSt) :=
ckk S v0 8 (bd (fk_7_timeNow S v0) fun r1 =>
ckk S v0 8 (
if r1 = (kF S v0 9) then (
ckk S v0 8 (
fk_7_make_45 S v0 v1 r1 ((kF S v0 10) + (1 : Int32))))
else (
fk_7_make_45 S v0 v1 r1 (0 : Int32))))
set_option maxRecDepth 100000 in
set_option maxHeartbeats 4000000 in
theorem wk_7_make_22 (C : cY p R s m args meth c RX7 cX7_make 6 5 2 18 117 (some (.object "AccordHouse$Row"))) (X : cX D s) : ∀ {S : cSt} {v0 : Nat} {v1 : Nat} {H : Heap} {locs : List Loc} {ls : Array Slot}, fk_7_make_22 S v0 v1 = some (r, S9) → cJ D S0 s.heap S H locs → lv_has ls 6 [(0, .ref v0), (1, .ref v1)] → W p l e R s m args below meth c H locs 0 0 (MQ below (kW (some (va_rf r)) D S0 S9) args s 2 18 (cA S0)) (F0 m 22 ls []) := by
  intro S v0 v1 H locs ls h hJ hl
  unfold fk_7_make_22 at h
  refine lv_aload_n C.1 C.2.1 dX7_make_22 rfl (lv_at hl 0 rfl) ?_
  obtain ⟨hk, h⟩ := ckk_ok h
  obtain ⟨r1, h_r1, h⟩ := bd_ok h
  refine c_callR (rest := []) C X hJ.1 hl.1 7 (by decide) hk [] (tk_7_timeNow l h_r1) cw7_113 ki_7_timeNow kl_7_timeNow rfl ⟨by decide, by decide⟩ ⟨(by decide), (by decide)⟩ rfl (Nat.le_of_ble_eq_true rfl) dX7_make_23 ?_
  refine W.eq (g2 := F0 m 26 ls [.int r1]) rfl ?_
  refine lv_istore_n (lv' := [(2, .int r1), (0, .ref v0), (1, .ref v1)]) C.1 C.2.1 dX7_make_26 rfl hl (by decide) rfl (fun ls hl => ?_)
  refine lv_iload_n C.1 C.2.1 dX7_make_27 rfl (lv_at hl 0 rfl) ?_
  refine lv_aload_n C.1 C.2.1 dX7_make_28 rfl (lv_at hl 1 rfl) ?_
  obtain ⟨hk, h⟩ := ckk_ok h
  refine gk7_37 C X hJ.1 hk dX7_make_29 ?_
  refine lv_icmp_ne (tgt := 44) C.1 C.2.1 dX7_make_32 (by decide) (fun c2 => ?_) (fun c2 => ?_)
  · have h := if_f h c2
    refine lv_iconst (v := 0) C.1 C.2.1 dX7_make_44 (by decide) ?_
    exact wk_7_make_45 C X h hJ (lv_sub hl [1, 2, 0] rfl)
  · have h := if_t h c2
    refine lv_aload_n C.1 C.2.1 dX7_make_35 rfl (lv_at hl 1 rfl) ?_
    obtain ⟨hk, h⟩ := ckk_ok h
    refine gk7_40 C X hJ.1 hk dX7_make_36 ?_
    refine lv_iconst (v := 1) C.1 C.2.1 dX7_make_39 (by decide) ?_
    refine lv_iadd C.1 C.2.1 dX7_make_40 ?_
    refine lv_goto (tgt := 45) C.1 C.2.1 dX7_make_41 (by decide) ?_
    exact wk_7_make_45 C X h hJ (lv_sub hl [1, 2, 0] rfl)
noncomputable def fk_7_make (S : cSt) (v0 : Nat) (v1 : Nat) : Option ((Option Nat) × cSt) :=
ckk S v1 2 (
if (kF S v1 0) = 0 then (
ckk S v0 8 (bd (kR S v0 12) fun a2 =>
ckk S v0 8 (
ckk S a2 1 (bd (fk_0_nextSlot S a2 (kF S v0 0)) fun r3 =>
ckk S v1 2 (lt (cPi S v1 1 r3) fun S4 =>
fk_7_make_22 S4 v0 v1)))))
else (
fk_7_make_22 S v0 v1))
set_option maxRecDepth 100000 in
set_option maxHeartbeats 4000000 in
theorem tk_7_make (l : Launch) {D : cG} {S : cSt} {v0 : Nat} {v1 : Nat} {r : Option Nat} {S9 : cSt} (h : fk_7_make S v0 v1 = some (r, S9)) : Met l yX7_make (Cond.code yX7_make cX7_make 6 (some (.object "AccordHouse$Row")) :: lw_g) { frames := 5, cells := 2, slots := 18, locals := 117 } (kPi [.ref v0, .ref v1] D S) (kW (some (va_rf r)) D S S9) 2 18 (cA S) := by
  refine Met.ofW (cc := cX7_make) (maxL := 6) (ret := (some (.object "AccordHouse$Row"))) (by decide) rfl ?_
  intro p e s m args below meth c s₁ B hml hv
  obtain ⟨rfl, hW, X⟩ := hv
  have C : cY p (headSpec (Cond.code yX7_make cX7_make 6 (some (.object "AccordHouse$Row")) :: lw_g) { frames := 5, cells := 2, slots := 18, locals := 117 }).room s m _ meth c RX7 cX7_make 6 5 2 18 117 (some (.object "AccordHouse$Row")) := ⟨B.exec, B.bytes, hml, findClass_of_methodNamed B.named, fun w hw => atoms_spec (ws := Cond.code yX7_make cX7_make 6 (some (.object "AccordHouse$Row")) :: lw_g) B.pre w (List.mem_cons_of_mem _ hw), ⟨Nat.le_refl _, Nat.le_refl _, Nat.le_refl _, Nat.le_refl _⟩, B.returns, B.notSynchronized⟩
  have hl := lv_entry ([.ref v0, .ref v1]) (n := 6) (Nat.le_of_ble_eq_true rfl)
  rw [lg_entry_eq]
  generalize (lg_sl ([.ref v0, .ref v1]) ++ List.replicate (6 - (lg_sl ([.ref v0, .ref v1])).length) Slot.unset).toArray = ls at hl ⊢
  have hl : lv_has ls 6 [(0, .ref v0), (1, .ref v1)] := hl
  have hJ : cJ D S s.heap S s.heap [] := cJ.rf hW
  unfold fk_7_make at h
  refine lv_aload_n C.1 C.2.1 dX7_make_0 rfl (lv_at hl 1 rfl) ?_
  obtain ⟨hk, h⟩ := ckk_ok h
  refine gk7_101 C X hJ.1 hk dX7_make_1 ?_
  refine lv_if_ne (tgt := 22) C.1 C.2.1 dX7_make_4 (by decide) (fun c1 => ?_) (fun c1 => ?_)
  · have h := if_f h c1
    exact wk_7_make_22 C X h hJ (lv_sub hl [0, 1] rfl)
  · have h := if_t h c1
    refine lv_aload_n C.1 C.2.1 dX7_make_7 rfl (lv_at hl 1 rfl) ?_
    refine lv_aload_n C.1 C.2.1 dX7_make_8 rfl (lv_at hl 0 rfl) ?_
    obtain ⟨hk, h⟩ := ckk_ok h
    obtain ⟨a2, h_a2, h⟩ := bd_ok h
    refine gk7_64 C X hJ.1 hk h_a2 dX7_make_9 ?_
    refine lv_aload_n C.1 C.2.1 dX7_make_12 rfl (lv_at hl 0 rfl) ?_
    obtain ⟨hk, h⟩ := ckk_ok h
    refine gk7_61 C X hJ.1 hk dX7_make_13 ?_
    obtain ⟨hk, h⟩ := ckk_ok h
    obtain ⟨r3, h_r3, h⟩ := bd_ok h
    refine c_callR (rest := [.ref v1]) C X hJ.1 hl.1 0 (by decide) hk [.int (kF S v0 0)] (tk_0_nextSlot l h_r3) cw7_106 ki_0_nextSlot kl_0_nextSlot rfl ⟨by decide, by decide⟩ ⟨(by decide), (by decide)⟩ rfl (Nat.le_of_ble_eq_true rfl) dX7_make_16 ?_
    refine W.eq (g2 := F0 m 19 ls [.int r3, .ref v1]) rfl ?_
    obtain ⟨hk, h⟩ := ckk_ok h
    refine pk7_110 C X hJ hk dX7_make_19 (fun H locs hJ => ?_)
    refine lt_ok h (fun S4 e_S4 h => ?_)
    rw [e_S4] at hJ
    exact wk_7_make_22 C X h hJ (lv_sub hl [0, 1] rfl)
end
theorem dX7_putList_0 : decode cX7_putList 0 = .ok (.aload_n 0, 1) := by decide +kernel
theorem dX7_putList_1 : decode cX7_putList 1 = .ok (.getfield 58, 3) := by decide +kernel
theorem dX7_putList_4 : decode cX7_putList 4 = .ok (.iconst 4, 1) := by decide +kernel
theorem dX7_putList_5 : decode cX7_putList 5 = .ok (.iload_n 1, 1) := by decide +kernel
theorem dX7_putList_6 : decode cX7_putList 6 = .ok (.imul, 1) := by decide +kernel
theorem dX7_putList_7 : decode cX7_putList 7 = .ok (.iload_n 2, 1) := by decide +kernel
theorem dX7_putList_8 : decode cX7_putList 8 = .ok (.iconst 1, 1) := by decide +kernel
theorem dX7_putList_9 : decode cX7_putList 9 = .ok (.iadd, 1) := by decide +kernel
theorem dX7_putList_10 : decode cX7_putList 10 = .ok (.iastore, 1) := by decide +kernel
theorem dX7_putList_11 : decode cX7_putList 11 = .ok (.aload_n 0, 1) := by decide +kernel
theorem dX7_putList_12 : decode cX7_putList 12 = .ok (.getfield 58, 3) := by decide +kernel
theorem dX7_putList_15 : decode cX7_putList 15 = .ok (.iconst 4, 1) := by decide +kernel
theorem dX7_putList_16 : decode cX7_putList 16 = .ok (.iload_n 1, 1) := by decide +kernel
theorem dX7_putList_17 : decode cX7_putList 17 = .ok (.imul, 1) := by decide +kernel
theorem dX7_putList_18 : decode cX7_putList 18 = .ok (.iconst 1, 1) := by decide +kernel
theorem dX7_putList_19 : decode cX7_putList 19 = .ok (.iadd, 1) := by decide +kernel
theorem dX7_putList_20 : decode cX7_putList 20 = .ok (.iload_n 3, 1) := by decide +kernel
theorem dX7_putList_21 : decode cX7_putList 21 = .ok (.iastore, 1) := by decide +kernel
theorem dX7_putList_22 : decode cX7_putList 22 = .ok (.aload_n 0, 1) := by decide +kernel
theorem dX7_putList_23 : decode cX7_putList 23 = .ok (.getfield 58, 3) := by decide +kernel
theorem dX7_putList_26 : decode cX7_putList 26 = .ok (.iconst 4, 1) := by decide +kernel
theorem dX7_putList_27 : decode cX7_putList 27 = .ok (.iload_n 1, 1) := by decide +kernel
theorem dX7_putList_28 : decode cX7_putList 28 = .ok (.imul, 1) := by decide +kernel
theorem dX7_putList_29 : decode cX7_putList 29 = .ok (.iconst 2, 1) := by decide +kernel
theorem dX7_putList_30 : decode cX7_putList 30 = .ok (.iadd, 1) := by decide +kernel
theorem dX7_putList_31 : decode cX7_putList 31 = .ok (.iload 4, 2) := by decide +kernel
theorem dX7_putList_33 : decode cX7_putList 33 = .ok (.iastore, 1) := by decide +kernel
theorem dX7_putList_34 : decode cX7_putList 34 = .ok (.aload_n 0, 1) := by decide +kernel
theorem dX7_putList_35 : decode cX7_putList 35 = .ok (.getfield 58, 3) := by decide +kernel
theorem dX7_putList_38 : decode cX7_putList 38 = .ok (.iconst 4, 1) := by decide +kernel
theorem dX7_putList_39 : decode cX7_putList 39 = .ok (.iload_n 1, 1) := by decide +kernel
theorem dX7_putList_40 : decode cX7_putList 40 = .ok (.imul, 1) := by decide +kernel
theorem dX7_putList_41 : decode cX7_putList 41 = .ok (.iconst 3, 1) := by decide +kernel
theorem dX7_putList_42 : decode cX7_putList 42 = .ok (.iadd, 1) := by decide +kernel
theorem dX7_putList_43 : decode cX7_putList 43 = .ok (.iload 5, 2) := by decide +kernel
theorem dX7_putList_45 : decode cX7_putList 45 = .ok (.iastore, 1) := by decide +kernel
theorem dX7_putList_46 : decode cX7_putList 46 = .ok (.return_, 1) := by decide +kernel
theorem kd_7_putList : Cond.code yX7_putList cX7_putList 6 none ∈ lw_g := mt_at 1232 (by decide +kernel) rfl
theorem ki_7_putList : Cond.instanceMethod yX7_putList ∈ lw_g := mt_at 1230 (by decide +kernel) rfl
theorem kl_7_putList : Cond.selects (kRn 7) yX7_putList yX7_putList ∈ lw_g := mt_at 1231 (by decide +kernel) rfl
section
variable {p : Program} {l : Launch} {e : Env} {R : Room} {s : State} {m : MethodId} {args : Array Value} {below : List Frame} {meth : Method} {c : Code} {D : cG} {S0 S9 : cSt}
noncomputable def fk_7_putList (S : cSt) (v0 : Nat) (v1 : Int32) (v2 : Int32) (v3 : Int32) (v4 : Int32) (v5 : Int32) : Option (cSt) :=
ckk S v0 8 (bd (kR S v0 16) fun a1 =>
ckk S a1 20 (ck ((4 : Int32) * v1) (kL S a1) (lt (cWi S a1 (Int32.toNatClampNeg ((4 : Int32) * v1)) (v2 + (1 : Int32))) fun S2 =>
ckk S2 v0 8 (bd (kR S2 v0 16) fun a3 =>
ckk S2 a3 20 (ck (((4 : Int32) * v1) + (1 : Int32)) (kL S2 a3) (lt (cWi S2 a3 (Int32.toNatClampNeg (((4 : Int32) * v1) + (1 : Int32))) v3) fun S4 =>
ckk S4 v0 8 (bd (kR S4 v0 16) fun a5 =>
ckk S4 a5 20 (ck (((4 : Int32) * v1) + (2 : Int32)) (kL S4 a5) (lt (cWi S4 a5 (Int32.toNatClampNeg (((4 : Int32) * v1) + (2 : Int32))) v4) fun S6 =>
ckk S6 v0 8 (bd (kR S6 v0 16) fun a7 =>
ckk S6 a7 20 (ck (((4 : Int32) * v1) + (3 : Int32)) (kL S6 a7) (lt (cWi S6 a7 (Int32.toNatClampNeg (((4 : Int32) * v1) + (3 : Int32))) v5) fun S8 =>
some S8))))))))))))
set_option maxRecDepth 100000 in
set_option maxHeartbeats 4000000 in
theorem tk_7_putList (l : Launch) {D : cG} {S : cSt} {v0 : Nat} {v1 : Int32} {v2 : Int32} {v3 : Int32} {v4 : Int32} {v5 : Int32} {S9 : cSt} (h : fk_7_putList S v0 v1 v2 v3 v4 v5 = some S9) : Met l yX7_putList (Cond.code yX7_putList cX7_putList 6 none :: lw_g) { frames := 0, cells := 0, slots := 0, locals := 0 } (kPi [.ref v0, .int v1, .int v2, .int v3, .int v4, .int v5] D S) (kW none D S S9) 0 0 (cA S) := by
  refine Met.ofW (cc := cX7_putList) (maxL := 6) (ret := none) (by decide) rfl ?_
  intro p e s m args below meth c s₁ B hml hv
  obtain ⟨rfl, hW, X⟩ := hv
  have C : cY p (headSpec (Cond.code yX7_putList cX7_putList 6 none :: lw_g) { frames := 0, cells := 0, slots := 0, locals := 0 }).room s m _ meth c RX7 cX7_putList 6 0 0 0 0 none := ⟨B.exec, B.bytes, hml, findClass_of_methodNamed B.named, fun w hw => atoms_spec (ws := Cond.code yX7_putList cX7_putList 6 none :: lw_g) B.pre w (List.mem_cons_of_mem _ hw), ⟨Nat.le_refl _, Nat.le_refl _, Nat.le_refl _, Nat.le_refl _⟩, B.returns, B.notSynchronized⟩
  have hl := lv_entry ([.ref v0, .int v1, .int v2, .int v3, .int v4, .int v5]) (n := 6) (Nat.le_of_ble_eq_true rfl)
  rw [lg_entry_eq]
  generalize (lg_sl ([.ref v0, .int v1, .int v2, .int v3, .int v4, .int v5]) ++ List.replicate (6 - (lg_sl ([.ref v0, .int v1, .int v2, .int v3, .int v4, .int v5])).length) Slot.unset).toArray = ls at hl ⊢
  have hl : lv_has ls 6 [(0, .ref v0), (1, .int v1), (2, .int v2), (3, .int v3), (4, .int v4), (5, .int v5)] := hl
  have hJ : cJ D S s.heap S s.heap [] := cJ.rf hW
  unfold fk_7_putList at h
  refine lv_aload_n C.1 C.2.1 dX7_putList_0 rfl (lv_at hl 0 rfl) ?_
  obtain ⟨hk, h⟩ := ckk_ok h
  obtain ⟨a1, h_a1, h⟩ := bd_ok h
  refine gk7_58 C X hJ.1 hk h_a1 dX7_putList_1 ?_
  refine lv_iconst (v := 4) C.1 C.2.1 dX7_putList_4 (by decide) ?_
  refine lv_iload_n C.1 C.2.1 dX7_putList_5 rfl (lv_at hl 1 rfl) ?_
  refine lv_imul C.1 C.2.1 dX7_putList_6 ?_
  refine lv_iload_n C.1 C.2.1 dX7_putList_7 rfl (lv_at hl 2 rfl) ?_
  refine lv_iconst (v := 1) C.1 C.2.1 dX7_putList_8 (by decide) ?_
  refine lv_iadd C.1 C.2.1 dX7_putList_9 ?_
  obtain ⟨hk, h⟩ := ckk_ok h
  obtain ⟨hin2, h⟩ := ck_ok h
  refine c_iast C X hJ hk hin2 dX7_putList_10 (fun H locs hJ => ?_)
  refine lt_ok h (fun S2 e_S2 h => ?_)
  rw [e_S2] at hJ
  refine lv_aload_n C.1 C.2.1 dX7_putList_11 rfl (lv_at hl 0 rfl) ?_
  obtain ⟨hk, h⟩ := ckk_ok h
  obtain ⟨a3, h_a3, h⟩ := bd_ok h
  refine gk7_58 C X hJ.1 hk h_a3 dX7_putList_12 ?_
  refine lv_iconst (v := 4) C.1 C.2.1 dX7_putList_15 (by decide) ?_
  refine lv_iload_n C.1 C.2.1 dX7_putList_16 rfl (lv_at hl 1 rfl) ?_
  refine lv_imul C.1 C.2.1 dX7_putList_17 ?_
  refine lv_iconst (v := 1) C.1 C.2.1 dX7_putList_18 (by decide) ?_
  refine lv_iadd C.1 C.2.1 dX7_putList_19 ?_
  refine lv_iload_n C.1 C.2.1 dX7_putList_20 rfl (lv_at hl 3 rfl) ?_
  obtain ⟨hk, h⟩ := ckk_ok h
  obtain ⟨hin2, h⟩ := ck_ok h
  refine c_iast C X hJ hk hin2 dX7_putList_21 (fun H locs hJ => ?_)
  refine lt_ok h (fun S4 e_S4 h => ?_)
  rw [e_S4] at hJ
  refine lv_aload_n C.1 C.2.1 dX7_putList_22 rfl (lv_at hl 0 rfl) ?_
  obtain ⟨hk, h⟩ := ckk_ok h
  obtain ⟨a5, h_a5, h⟩ := bd_ok h
  refine gk7_58 C X hJ.1 hk h_a5 dX7_putList_23 ?_
  refine lv_iconst (v := 4) C.1 C.2.1 dX7_putList_26 (by decide) ?_
  refine lv_iload_n C.1 C.2.1 dX7_putList_27 rfl (lv_at hl 1 rfl) ?_
  refine lv_imul C.1 C.2.1 dX7_putList_28 ?_
  refine lv_iconst (v := 2) C.1 C.2.1 dX7_putList_29 (by decide) ?_
  refine lv_iadd C.1 C.2.1 dX7_putList_30 ?_
  refine lv_iload C.1 C.2.1 dX7_putList_31 (lv_at hl 4 rfl) ?_
  obtain ⟨hk, h⟩ := ckk_ok h
  obtain ⟨hin2, h⟩ := ck_ok h
  refine c_iast C X hJ hk hin2 dX7_putList_33 (fun H locs hJ => ?_)
  refine lt_ok h (fun S6 e_S6 h => ?_)
  rw [e_S6] at hJ
  refine lv_aload_n C.1 C.2.1 dX7_putList_34 rfl (lv_at hl 0 rfl) ?_
  obtain ⟨hk, h⟩ := ckk_ok h
  obtain ⟨a7, h_a7, h⟩ := bd_ok h
  refine gk7_58 C X hJ.1 hk h_a7 dX7_putList_35 ?_
  refine lv_iconst (v := 4) C.1 C.2.1 dX7_putList_38 (by decide) ?_
  refine lv_iload_n C.1 C.2.1 dX7_putList_39 rfl (lv_at hl 1 rfl) ?_
  refine lv_imul C.1 C.2.1 dX7_putList_40 ?_
  refine lv_iconst (v := 3) C.1 C.2.1 dX7_putList_41 (by decide) ?_
  refine lv_iadd C.1 C.2.1 dX7_putList_42 ?_
  refine lv_iload C.1 C.2.1 dX7_putList_43 (lv_at hl 5 rfl) ?_
  obtain ⟨hk, h⟩ := ckk_ok h
  obtain ⟨hin2, h⟩ := ck_ok h
  refine c_iast C X hJ hk hin2 dX7_putList_45 (fun H locs hJ => ?_)
  refine lt_ok h (fun S8 e_S8 h => ?_)
  rw [e_S8] at hJ
  cases h
  exact c_retvW C hJ dX7_putList_46
end
theorem dX7_setCursor_0 : decode cX7_setCursor 0 = .ok (.aload_n 0, 1) := by decide +kernel
theorem dX7_setCursor_1 : decode cX7_setCursor 1 = .ok (.getfield 30, 3) := by decide +kernel
theorem dX7_setCursor_4 : decode cX7_setCursor 4 = .ok (.iconst 4, 1) := by decide +kernel
theorem dX7_setCursor_5 : decode cX7_setCursor 5 = .ok (.aload_n 0, 1) := by decide +kernel
theorem dX7_setCursor_6 : decode cX7_setCursor 6 = .ok (.getfield 61, 3) := by decide +kernel
theorem dX7_setCursor_9 : decode cX7_setCursor 9 = .ok (.imul, 1) := by decide +kernel
theorem dX7_setCursor_10 : decode cX7_setCursor 10 = .ok (.dup2, 1) := by decide +kernel
theorem dX7_setCursor_11 : decode cX7_setCursor 11 = .ok (.iaload, 1) := by decide +kernel
theorem dX7_setCursor_12 : decode cX7_setCursor 12 = .ok (.iconst 1, 1) := by decide +kernel
theorem dX7_setCursor_13 : decode cX7_setCursor 13 = .ok (.iadd, 1) := by decide +kernel
theorem dX7_setCursor_14 : decode cX7_setCursor 14 = .ok (.iastore, 1) := by decide +kernel
theorem dX7_setCursor_15 : decode cX7_setCursor 15 = .ok (.aload_n 0, 1) := by decide +kernel
theorem dX7_setCursor_16 : decode cX7_setCursor 16 = .ok (.getfield 30, 3) := by decide +kernel
theorem dX7_setCursor_19 : decode cX7_setCursor 19 = .ok (.iconst 4, 1) := by decide +kernel
theorem dX7_setCursor_20 : decode cX7_setCursor 20 = .ok (.aload_n 0, 1) := by decide +kernel
theorem dX7_setCursor_21 : decode cX7_setCursor 21 = .ok (.getfield 61, 3) := by decide +kernel
theorem dX7_setCursor_24 : decode cX7_setCursor 24 = .ok (.imul, 1) := by decide +kernel
theorem dX7_setCursor_25 : decode cX7_setCursor 25 = .ok (.iconst 1, 1) := by decide +kernel
theorem dX7_setCursor_26 : decode cX7_setCursor 26 = .ok (.iadd, 1) := by decide +kernel
theorem dX7_setCursor_27 : decode cX7_setCursor 27 = .ok (.iload_n 1, 1) := by decide +kernel
theorem dX7_setCursor_28 : decode cX7_setCursor 28 = .ok (.iastore, 1) := by decide +kernel
theorem dX7_setCursor_29 : decode cX7_setCursor 29 = .ok (.aload_n 0, 1) := by decide +kernel
theorem dX7_setCursor_30 : decode cX7_setCursor 30 = .ok (.getfield 30, 3) := by decide +kernel
theorem dX7_setCursor_33 : decode cX7_setCursor 33 = .ok (.iconst 4, 1) := by decide +kernel
theorem dX7_setCursor_34 : decode cX7_setCursor 34 = .ok (.aload_n 0, 1) := by decide +kernel
theorem dX7_setCursor_35 : decode cX7_setCursor 35 = .ok (.getfield 61, 3) := by decide +kernel
theorem dX7_setCursor_38 : decode cX7_setCursor 38 = .ok (.imul, 1) := by decide +kernel
theorem dX7_setCursor_39 : decode cX7_setCursor 39 = .ok (.iconst 2, 1) := by decide +kernel
theorem dX7_setCursor_40 : decode cX7_setCursor 40 = .ok (.iadd, 1) := by decide +kernel
theorem dX7_setCursor_41 : decode cX7_setCursor 41 = .ok (.iload_n 2, 1) := by decide +kernel
theorem dX7_setCursor_42 : decode cX7_setCursor 42 = .ok (.iastore, 1) := by decide +kernel
theorem dX7_setCursor_43 : decode cX7_setCursor 43 = .ok (.aload_n 0, 1) := by decide +kernel
theorem dX7_setCursor_44 : decode cX7_setCursor 44 = .ok (.getfield 30, 3) := by decide +kernel
theorem dX7_setCursor_47 : decode cX7_setCursor 47 = .ok (.iconst 4, 1) := by decide +kernel
theorem dX7_setCursor_48 : decode cX7_setCursor 48 = .ok (.aload_n 0, 1) := by decide +kernel
theorem dX7_setCursor_49 : decode cX7_setCursor 49 = .ok (.getfield 61, 3) := by decide +kernel
theorem dX7_setCursor_52 : decode cX7_setCursor 52 = .ok (.imul, 1) := by decide +kernel
theorem dX7_setCursor_53 : decode cX7_setCursor 53 = .ok (.iconst 3, 1) := by decide +kernel
theorem dX7_setCursor_54 : decode cX7_setCursor 54 = .ok (.iadd, 1) := by decide +kernel
theorem dX7_setCursor_55 : decode cX7_setCursor 55 = .ok (.iload_n 3, 1) := by decide +kernel
theorem dX7_setCursor_56 : decode cX7_setCursor 56 = .ok (.iastore, 1) := by decide +kernel
theorem dX7_setCursor_57 : decode cX7_setCursor 57 = .ok (.return_, 1) := by decide +kernel
theorem kd_7_setCursor : Cond.code yX7_setCursor cX7_setCursor 4 none ∈ lw_g := mt_at 1210 (by decide +kernel) rfl
theorem ki_7_setCursor : Cond.instanceMethod yX7_setCursor ∈ lw_g := mt_at 1208 (by decide +kernel) rfl
theorem kl_7_setCursor : Cond.selects (kRn 7) yX7_setCursor yX7_setCursor ∈ lw_g := mt_at 1209 (by decide +kernel) rfl
section
variable {p : Program} {l : Launch} {e : Env} {R : Room} {s : State} {m : MethodId} {args : Array Value} {below : List Frame} {meth : Method} {c : Code} {H : Heap} {locs : List Loc} {cells slots : Nat} {Q : State → Prop}
variable {D : cG} {S S0 : cSt} {cc : ByteArray} {nL : Nat} {pc : Nat} {ls : Array Slot} {rest : List Value} {H0 : Heap} {nF nR nC nS : Nat} {ret : Option FieldType} {a : Nat}
theorem gk7_30 (C : cY p R s m args meth c RX7 cc nL nF nC nS nR ret) (X : cX D s) (hW : cW D S H) (hk : kK S a = 8) {x : Nat} (hx : kR S a 7 = some x) (hdg : decode cc pc = .ok (.getfield 30, 3)) (kk : W p l e R s m args below meth c H locs cells slots Q (F0 m (pc + 3) ls (.ref x :: rest))) : W p l e R s m args below meth c H locs cells slots Q (F0 m pc ls (.ref a :: rest)) := c_get C X hW 7 (by decide) ly_7 hk 7 (by decide) (mt_at 318 (by decide +kernel) (by decide +kernel)) hdg (by rw [cV_R (by decide +kernel) hx]; exact kk)
end
section
variable {p : Program} {l : Launch} {e : Env} {R : Room} {s : State} {m : MethodId} {args : Array Value} {below : List Frame} {meth : Method} {c : Code} {D : cG} {S0 S9 : cSt}
noncomputable def fk_7_setCursor (S : cSt) (v0 : Nat) (v1 : Int32) (v2 : Int32) (v3 : Int32) : Option (cSt) :=
ckk S v0 8 (bd (kR S v0 7) fun a1 =>
ckk S v0 8 (
ckk S a1 20 (ck ((4 : Int32) * (kF S v0 0)) (kL S a1) (
ckk S a1 20 (ck ((4 : Int32) * (kF S v0 0)) (kL S a1) (lt (cWi S a1 (Int32.toNatClampNeg ((4 : Int32) * (kF S v0 0))) ((kI S a1 (Int32.toNatClampNeg ((4 : Int32) * (kF S v0 0)))) + (1 : Int32))) fun S2 =>
ckk S2 v0 8 (bd (kR S2 v0 7) fun a3 =>
ckk S2 v0 8 (
ckk S2 a3 20 (ck (((4 : Int32) * (kF S2 v0 0)) + (1 : Int32)) (kL S2 a3) (lt (cWi S2 a3 (Int32.toNatClampNeg (((4 : Int32) * (kF S2 v0 0)) + (1 : Int32))) v1) fun S4 =>
ckk S4 v0 8 (bd (kR S4 v0 7) fun a5 =>
ckk S4 v0 8 (
ckk S4 a5 20 (ck (((4 : Int32) * (kF S4 v0 0)) + (2 : Int32)) (kL S4 a5) (lt (cWi S4 a5 (Int32.toNatClampNeg (((4 : Int32) * (kF S4 v0 0)) + (2 : Int32))) v2) fun S6 =>
ckk S6 v0 8 (bd (kR S6 v0 7) fun a7 =>
ckk S6 v0 8 (
ckk S6 a7 20 (ck (((4 : Int32) * (kF S6 v0 0)) + (3 : Int32)) (kL S6 a7) (lt (cWi S6 a7 (Int32.toNatClampNeg (((4 : Int32) * (kF S6 v0 0)) + (3 : Int32))) v3) fun S8 =>
some S8))))))))))))))))))
set_option maxRecDepth 100000 in
set_option maxHeartbeats 4000000 in
theorem tk_7_setCursor (l : Launch) {D : cG} {S : cSt} {v0 : Nat} {v1 : Int32} {v2 : Int32} {v3 : Int32} {S9 : cSt} (h : fk_7_setCursor S v0 v1 v2 v3 = some S9) : Met l yX7_setCursor (Cond.code yX7_setCursor cX7_setCursor 4 none :: lw_g) { frames := 0, cells := 0, slots := 0, locals := 0 } (kPi [.ref v0, .int v1, .int v2, .int v3] D S) (kW none D S S9) 0 0 (cA S) := by
  refine Met.ofW (cc := cX7_setCursor) (maxL := 4) (ret := none) (by decide) rfl ?_
  intro p e s m args below meth c s₁ B hml hv
  obtain ⟨rfl, hW, X⟩ := hv
  have C : cY p (headSpec (Cond.code yX7_setCursor cX7_setCursor 4 none :: lw_g) { frames := 0, cells := 0, slots := 0, locals := 0 }).room s m _ meth c RX7 cX7_setCursor 4 0 0 0 0 none := ⟨B.exec, B.bytes, hml, findClass_of_methodNamed B.named, fun w hw => atoms_spec (ws := Cond.code yX7_setCursor cX7_setCursor 4 none :: lw_g) B.pre w (List.mem_cons_of_mem _ hw), ⟨Nat.le_refl _, Nat.le_refl _, Nat.le_refl _, Nat.le_refl _⟩, B.returns, B.notSynchronized⟩
  have hl := lv_entry ([.ref v0, .int v1, .int v2, .int v3]) (n := 4) (Nat.le_of_ble_eq_true rfl)
  rw [lg_entry_eq]
  generalize (lg_sl ([.ref v0, .int v1, .int v2, .int v3]) ++ List.replicate (4 - (lg_sl ([.ref v0, .int v1, .int v2, .int v3])).length) Slot.unset).toArray = ls at hl ⊢
  have hl : lv_has ls 4 [(0, .ref v0), (1, .int v1), (2, .int v2), (3, .int v3)] := hl
  have hJ : cJ D S s.heap S s.heap [] := cJ.rf hW
  unfold fk_7_setCursor at h
  refine lv_aload_n C.1 C.2.1 dX7_setCursor_0 rfl (lv_at hl 0 rfl) ?_
  obtain ⟨hk, h⟩ := ckk_ok h
  obtain ⟨a1, h_a1, h⟩ := bd_ok h
  refine gk7_30 C X hJ.1 hk h_a1 dX7_setCursor_1 ?_
  refine lv_iconst (v := 4) C.1 C.2.1 dX7_setCursor_4 (by decide) ?_
  refine lv_aload_n C.1 C.2.1 dX7_setCursor_5 rfl (lv_at hl 0 rfl) ?_
  obtain ⟨hk, h⟩ := ckk_ok h
  refine gk7_61 C X hJ.1 hk dX7_setCursor_6 ?_
  refine lv_imul C.1 C.2.1 dX7_setCursor_9 ?_
  refine lv_dup2_11 C.1 C.2.1 dX7_setCursor_10 rfl rfl ?_
  obtain ⟨hk, h⟩ := ckk_ok h
  obtain ⟨hin2, h⟩ := ck_ok h
  refine c_iald C X hJ.1 hk hin2 dX7_setCursor_11 ?_
  refine lv_iconst (v := 1) C.1 C.2.1 dX7_setCursor_12 (by decide) ?_
  refine lv_iadd C.1 C.2.1 dX7_setCursor_13 ?_
  obtain ⟨hk, h⟩ := ckk_ok h
  obtain ⟨hin2, h⟩ := ck_ok h
  refine c_iast C X hJ hk hin2 dX7_setCursor_14 (fun H locs hJ => ?_)
  refine lt_ok h (fun S2 e_S2 h => ?_)
  rw [e_S2] at hJ
  refine lv_aload_n C.1 C.2.1 dX7_setCursor_15 rfl (lv_at hl 0 rfl) ?_
  obtain ⟨hk, h⟩ := ckk_ok h
  obtain ⟨a3, h_a3, h⟩ := bd_ok h
  refine gk7_30 C X hJ.1 hk h_a3 dX7_setCursor_16 ?_
  refine lv_iconst (v := 4) C.1 C.2.1 dX7_setCursor_19 (by decide) ?_
  refine lv_aload_n C.1 C.2.1 dX7_setCursor_20 rfl (lv_at hl 0 rfl) ?_
  obtain ⟨hk, h⟩ := ckk_ok h
  refine gk7_61 C X hJ.1 hk dX7_setCursor_21 ?_
  refine lv_imul C.1 C.2.1 dX7_setCursor_24 ?_
  refine lv_iconst (v := 1) C.1 C.2.1 dX7_setCursor_25 (by decide) ?_
  refine lv_iadd C.1 C.2.1 dX7_setCursor_26 ?_
  refine lv_iload_n C.1 C.2.1 dX7_setCursor_27 rfl (lv_at hl 1 rfl) ?_
  obtain ⟨hk, h⟩ := ckk_ok h
  obtain ⟨hin2, h⟩ := ck_ok h
  refine c_iast C X hJ hk hin2 dX7_setCursor_28 (fun H locs hJ => ?_)
  refine lt_ok h (fun S4 e_S4 h => ?_)
  rw [e_S4] at hJ
  refine lv_aload_n C.1 C.2.1 dX7_setCursor_29 rfl (lv_at hl 0 rfl) ?_
  obtain ⟨hk, h⟩ := ckk_ok h
  obtain ⟨a5, h_a5, h⟩ := bd_ok h
  refine gk7_30 C X hJ.1 hk h_a5 dX7_setCursor_30 ?_
  refine lv_iconst (v := 4) C.1 C.2.1 dX7_setCursor_33 (by decide) ?_
  refine lv_aload_n C.1 C.2.1 dX7_setCursor_34 rfl (lv_at hl 0 rfl) ?_
  obtain ⟨hk, h⟩ := ckk_ok h
  refine gk7_61 C X hJ.1 hk dX7_setCursor_35 ?_
  refine lv_imul C.1 C.2.1 dX7_setCursor_38 ?_
  refine lv_iconst (v := 2) C.1 C.2.1 dX7_setCursor_39 (by decide) ?_
  refine lv_iadd C.1 C.2.1 dX7_setCursor_40 ?_
  refine lv_iload_n C.1 C.2.1 dX7_setCursor_41 rfl (lv_at hl 2 rfl) ?_
  obtain ⟨hk, h⟩ := ckk_ok h
  obtain ⟨hin2, h⟩ := ck_ok h
  refine c_iast C X hJ hk hin2 dX7_setCursor_42 (fun H locs hJ => ?_)
  refine lt_ok h (fun S6 e_S6 h => ?_)
  rw [e_S6] at hJ
  refine lv_aload_n C.1 C.2.1 dX7_setCursor_43 rfl (lv_at hl 0 rfl) ?_
  obtain ⟨hk, h⟩ := ckk_ok h
  obtain ⟨a7, h_a7, h⟩ := bd_ok h
  refine gk7_30 C X hJ.1 hk h_a7 dX7_setCursor_44 ?_
  refine lv_iconst (v := 4) C.1 C.2.1 dX7_setCursor_47 (by decide) ?_
  refine lv_aload_n C.1 C.2.1 dX7_setCursor_48 rfl (lv_at hl 0 rfl) ?_
  obtain ⟨hk, h⟩ := ckk_ok h
  refine gk7_61 C X hJ.1 hk dX7_setCursor_49 ?_
  refine lv_imul C.1 C.2.1 dX7_setCursor_52 ?_
  refine lv_iconst (v := 3) C.1 C.2.1 dX7_setCursor_53 (by decide) ?_
  refine lv_iadd C.1 C.2.1 dX7_setCursor_54 ?_
  refine lv_iload_n C.1 C.2.1 dX7_setCursor_55 rfl (lv_at hl 3 rfl) ?_
  obtain ⟨hk, h⟩ := ckk_ok h
  obtain ⟨hin2, h⟩ := ck_ok h
  refine c_iast C X hJ hk hin2 dX7_setCursor_56 (fun H locs hJ => ?_)
  refine lt_ok h (fun S8 e_S8 h => ?_)
  rw [e_S8] at hJ
  cases h
  exact c_retvW C hJ dX7_setCursor_57
end
theorem dX7_stableOf_0 : decode cX7_stableOf 0 = .ok (.aload_n 0, 1) := by decide +kernel
theorem dX7_stableOf_1 : decode cX7_stableOf 1 = .ok (.iload_n 1, 1) := by decide +kernel
theorem dX7_stableOf_2 : decode cX7_stableOf 2 = .ok (.invokevirtual 123, 3) := by decide +kernel
theorem dX7_stableOf_5 : decode cX7_stableOf 5 = .ok (.istore_n 2, 1) := by decide +kernel
theorem dX7_stableOf_6 : decode cX7_stableOf 6 = .ok (.iconst 0, 1) := by decide +kernel
theorem dX7_stableOf_7 : decode cX7_stableOf 7 = .ok (.istore_n 3, 1) := by decide +kernel
theorem dX7_stableOf_8 : decode cX7_stableOf 8 = .ok (.iload_n 3, 1) := by decide +kernel
theorem dX7_stableOf_9 : decode cX7_stableOf 9 = .ok (.iconst 4, 1) := by decide +kernel
theorem dX7_stableOf_10 : decode cX7_stableOf 10 = .ok (.if_icmp .ge 24, 3) := by decide +kernel
theorem dX7_stableOf_13 : decode cX7_stableOf 13 = .ok (.iload_n 2, 1) := by decide +kernel
theorem dX7_stableOf_14 : decode cX7_stableOf 14 = .ok (.aload_n 0, 1) := by decide +kernel
theorem dX7_stableOf_15 : decode cX7_stableOf 15 = .ok (.getfield 23, 3) := by decide +kernel
theorem dX7_stableOf_18 : decode cX7_stableOf 18 = .ok (.iconst 4, 1) := by decide +kernel
theorem dX7_stableOf_19 : decode cX7_stableOf 19 = .ok (.iload_n 3, 1) := by decide +kernel
theorem dX7_stableOf_20 : decode cX7_stableOf 20 = .ok (.imul, 1) := by decide +kernel
theorem dX7_stableOf_21 : decode cX7_stableOf 21 = .ok (.iload_n 1, 1) := by decide +kernel
theorem dX7_stableOf_22 : decode cX7_stableOf 22 = .ok (.iadd, 1) := by decide +kernel
theorem dX7_stableOf_23 : decode cX7_stableOf 23 = .ok (.iaload, 1) := by decide +kernel
theorem dX7_stableOf_24 : decode cX7_stableOf 24 = .ok (.invokestatic 211, 3) := by decide +kernel
theorem dX7_stableOf_27 : decode cX7_stableOf 27 = .ok (.istore_n 2, 1) := by decide +kernel
theorem dX7_stableOf_28 : decode cX7_stableOf 28 = .ok (.iinc 3 1, 3) := by decide +kernel
theorem dX7_stableOf_31 : decode cX7_stableOf 31 = .ok (.goto (-23), 3) := by decide +kernel
theorem dX7_stableOf_34 : decode cX7_stableOf 34 = .ok (.iload_n 2, 1) := by decide +kernel
theorem dX7_stableOf_35 : decode cX7_stableOf 35 = .ok (.ireturn, 1) := by decide +kernel
theorem kd_7_stableOf : Cond.code yX7_stableOf cX7_stableOf 4 (some .int) ∈ lw_g := mt_at 581 (by decide +kernel) rfl
theorem ki_7_stableOf : Cond.instanceMethod yX7_stableOf ∈ lw_g := mt_at 580 (by decide +kernel) rfl
theorem kl_7_stableOf : Cond.selects (kRn 7) yX7_stableOf yX7_stableOf ∈ lw_g := mt_sel 7 (by decide +kernel) rfl
theorem mm7_211 : Cond.methodLink RX7 211 Lib.Math.min.name ∈ lw_g := mt_at 582 (by decide +kernel) rfl
section
variable {p : Program} {l : Launch} {e : Env} {R : Room} {s : State} {m : MethodId} {args : Array Value} {below : List Frame} {meth : Method} {c : Code} {D : cG} {S : cSt} {r : Int32}
noncomputable def fk_7_stableOf_8 (S : cSt) : Nat → Nat → Int32 → Int32 → Int32 → Option (Int32)
  | 0, _, _, _, _ => none
  | n + 1, v0, v1, v2, v3 =>
    if (4 : Int32) ≤ v3 then (
    some v2)
    else (
    ckk S v0 8 (bd (kR S v0 5) fun a2 =>
    ckk S a2 20 (ck (((4 : Int32) * v3) + v1) (kL S a2) (
    lt (if (kI S a2 (Int32.toNatClampNeg (((4 : Int32) * v3) + v1))) < v2 then (kI S a2 (Int32.toNatClampNeg (((4 : Int32) * v3) + v1))) else v2) fun x3 =>
    lt (v3 + (1 : Int32)) fun x4 =>
    fk_7_stableOf_8 S n v0 v1 x3 x4))))
set_option maxRecDepth 100000 in
set_option maxHeartbeats 4000000 in
theorem wk_7_stableOf_8 (C : cY p R s m args meth c RX7 cX7_stableOf 4 2 0 0 60 (some .int)) (X : cX D s) (hW : cW D S s.heap) : ∀ (n : Nat), ∀ {v0 : Nat} {v1 : Int32} {v2 : Int32} {v3 : Int32} {ls : Array Slot}, fk_7_stableOf_8 S n v0 v1 v2 v3 = some r → lv_has ls 4 [(0, .ref v0), (1, .int v1), (2, .int v2), (3, .int v3)] → W p l e R s m args below meth c s.heap [] 0 0 (MQ below (kQ (some (.int r))) args s 0 0 mNo) (F0 m 8 ls []) := by
  intro n
  induction n with
  | zero =>
    intro v0 v1 v2 v3 ls h hl
    exact absurd (show (none : Option (Int32)) = _ from h) (fun q => by cases q)
  | succ n ih =>
    intro v0 v1 v2 v3 ls h hl
    rw [fk_7_stableOf_8] at h
    refine lv_iload_n C.1 C.2.1 dX7_stableOf_8 rfl (lv_at hl 3 rfl) ?_
    refine lv_iconst (v := 4) C.1 C.2.1 dX7_stableOf_9 (by decide) ?_
    refine lv_icmp_ge (tgt := 34) C.1 C.2.1 dX7_stableOf_10 (by decide) (fun c1 => ?_) (fun c1 => ?_)
    · have h := if_t h c1
      refine lv_iload_n C.1 C.2.1 dX7_stableOf_34 rfl (lv_at hl 2 rfl) ?_
      cases h
      exact c_reti C rfl rfl dX7_stableOf_35
    · have h := if_f h c1
      refine lv_iload_n C.1 C.2.1 dX7_stableOf_13 rfl (lv_at hl 2 rfl) ?_
      refine lv_aload_n C.1 C.2.1 dX7_stableOf_14 rfl (lv_at hl 0 rfl) ?_
      obtain ⟨hk, h⟩ := ckk_ok h
      obtain ⟨a2, h_a2, h⟩ := bd_ok h
      refine gk7_23 C X hW hk h_a2 dX7_stableOf_15 ?_
      refine lv_iconst (v := 4) C.1 C.2.1 dX7_stableOf_18 (by decide) ?_
      refine lv_iload_n C.1 C.2.1 dX7_stableOf_19 rfl (lv_at hl 3 rfl) ?_
      refine lv_imul C.1 C.2.1 dX7_stableOf_20 ?_
      refine lv_iload_n C.1 C.2.1 dX7_stableOf_21 rfl (lv_at hl 1 rfl) ?_
      refine lv_iadd C.1 C.2.1 dX7_stableOf_22 ?_
      obtain ⟨hk, h⟩ := ckk_ok h
      obtain ⟨hin2, h⟩ := ck_ok h
      refine c_iald C X hW hk hin2 dX7_stableOf_23 ?_
      refine va_mmin (rest := []) C.1 C.2.1 (C.2.2.1.trans hl.1.symm) (own := RX7) C.2.2.2.1 (C.2.2.2.2.1 _ mm7_211) (C.2.2.2.2.1 _ mmin_s) (C.2.2.2.2.1 _ ma_i) (C.2.2.2.2.1 _ mmin_c) (Nat.le_trans (by decide) C.2.2.2.2.2.1.1) (Nat.le_trans (Nat.le_of_ble_eq_true rfl) C.2.2.2.2.2.1.2.2.2) (Nat.le_trans (by decide) C.2.2.2.2.2.1.2.1) (Nat.le_trans (by decide) C.2.2.2.2.2.1.2.2.1) dX7_stableOf_24 ?_
      refine lt_ok h (fun x3 e_x3 h => ?_)
      refine lv_nm e_x3 ?_
      refine lv_istore_n (lv' := [(2, .int x3), (0, .ref v0), (1, .int v1), (3, .int v3)]) C.1 C.2.1 dX7_stableOf_27 rfl hl (by decide) rfl (fun ls hl => ?_)
      refine lt_ok h (fun x4 e_x4 h => ?_)
      refine lv_iinc (v := x4) (lv' := [(3, .int x4), (2, .int x3), (0, .ref v0), (1, .int v1)]) C.1 C.2.1 dX7_stableOf_28 hl (k := 3) rfl (by rw [← e_x4]; rfl) (by decide) rfl (fun ls hl => ?_)
      refine lv_goto (tgt := 8) C.1 C.2.1 dX7_stableOf_31 (by decide) ?_
      exact ih h (lv_sub hl [2, 3, 1, 0] rfl)
noncomputable def fk_7_stableOf (S : cSt) (v0 : Nat) (v1 : Int32) : Option (Int32) :=
ckk S v0 8 (bd (fk_7_knownOf S v0 v1) fun r1 =>
fk_7_stableOf_8 S mFU v0 v1 r1 (0 : Int32))
set_option maxRecDepth 100000 in
set_option maxHeartbeats 4000000 in
theorem tk_7_stableOf (l : Launch) {D : cG} {S : cSt} {v0 : Nat} {v1 : Int32} {r : Int32}  (h : fk_7_stableOf S v0 v1 = some r) : Met l yX7_stableOf (Cond.code yX7_stableOf cX7_stableOf 4 (some .int) :: lw_g) { frames := 2, cells := 0, slots := 0, locals := 60 } (kPi [.ref v0, .int v1] D S) (kQ (some (.int r))) 0 0 (mNo) := by
  refine Met.ofW (cc := cX7_stableOf) (maxL := 4) (ret := (some .int)) (by decide) rfl ?_
  intro p e s m args below meth c s₁ B hml hv
  obtain ⟨rfl, hW, X⟩ := hv
  have C : cY p (headSpec (Cond.code yX7_stableOf cX7_stableOf 4 (some .int) :: lw_g) { frames := 2, cells := 0, slots := 0, locals := 60 }).room s m _ meth c RX7 cX7_stableOf 4 2 0 0 60 (some .int) := ⟨B.exec, B.bytes, hml, findClass_of_methodNamed B.named, fun w hw => atoms_spec (ws := Cond.code yX7_stableOf cX7_stableOf 4 (some .int) :: lw_g) B.pre w (List.mem_cons_of_mem _ hw), ⟨Nat.le_refl _, Nat.le_refl _, Nat.le_refl _, Nat.le_refl _⟩, B.returns, B.notSynchronized⟩
  have hl := lv_entry ([.ref v0, .int v1]) (n := 4) (Nat.le_of_ble_eq_true rfl)
  rw [lg_entry_eq]
  generalize (lg_sl ([.ref v0, .int v1]) ++ List.replicate (4 - (lg_sl ([.ref v0, .int v1])).length) Slot.unset).toArray = ls at hl ⊢
  have hl : lv_has ls 4 [(0, .ref v0), (1, .int v1)] := hl
  unfold fk_7_stableOf at h
  refine lv_aload_n C.1 C.2.1 dX7_stableOf_0 rfl (lv_at hl 0 rfl) ?_
  refine lv_iload_n C.1 C.2.1 dX7_stableOf_1 rfl (lv_at hl 1 rfl) ?_
  obtain ⟨hk, h⟩ := ckk_ok h
  obtain ⟨r1, h_r1, h⟩ := bd_ok h
  refine c_callR (rest := []) C X hW hl.1 7 (by decide) hk [.int v1] (tk_7_knownOf l h_r1) cw7_123 ki_7_knownOf kl_7_knownOf rfl ⟨by decide, by decide⟩ ⟨(by decide), (by decide)⟩ rfl (Nat.le_of_ble_eq_true rfl) dX7_stableOf_2 ?_
  refine W.eq (g2 := F0 m 5 ls [.int r1]) rfl ?_
  refine lv_istore_n (lv' := [(2, .int r1), (0, .ref v0), (1, .int v1)]) C.1 C.2.1 dX7_stableOf_5 rfl hl (by decide) rfl (fun ls hl => ?_)
  refine lv_iconst (v := 0) C.1 C.2.1 dX7_stableOf_6 (by decide) ?_
  refine lv_istore_n (lv' := [(3, .int (0 : Int32)), (2, .int r1), (0, .ref v0), (1, .int v1)]) C.1 C.2.1 dX7_stableOf_7 rfl hl (by decide) rfl (fun ls hl => ?_)
  exact wk_7_stableOf_8 C X hW mFU h (lv_sub hl [2, 3, 1, 0] rfl)
end
theorem dX7_isStable_0 : decode cX7_isStable 0 = .ok (.aload_n 1, 1) := by decide +kernel
theorem dX7_isStable_1 : decode cX7_isStable 1 = .ok (.getfield 175, 3) := by decide +kernel
theorem dX7_isStable_4 : decode cX7_isStable 4 = .ok (.aload_n 0, 1) := by decide +kernel
theorem dX7_isStable_5 : decode cX7_isStable 5 = .ok (.aload_n 1, 1) := by decide +kernel
theorem dX7_isStable_6 : decode cX7_isStable 6 = .ok (.getfield 172, 3) := by decide +kernel
theorem dX7_isStable_9 : decode cX7_isStable 9 = .ok (.invokevirtual 208, 3) := by decide +kernel
theorem dX7_isStable_12 : decode cX7_isStable 12 = .ok (.if_icmp .gt 7, 3) := by decide +kernel
theorem dX7_isStable_15 : decode cX7_isStable 15 = .ok (.iconst 1, 1) := by decide +kernel
theorem dX7_isStable_16 : decode cX7_isStable 16 = .ok (.goto 4, 3) := by decide +kernel
theorem dX7_isStable_19 : decode cX7_isStable 19 = .ok (.iconst 0, 1) := by decide +kernel
theorem dX7_isStable_20 : decode cX7_isStable 20 = .ok (.ireturn, 1) := by decide +kernel
theorem kd_7_isStable : Cond.code yX7_isStable cX7_isStable 2 (some .boolean) ∈ lw_g := mt_at 577 (by decide +kernel) rfl
theorem ki_7_isStable : Cond.instanceMethod yX7_isStable ∈ lw_g := mt_at 575 (by decide +kernel) rfl
theorem kl_7_isStable : Cond.selects (kRn 7) yX7_isStable yX7_isStable ∈ lw_g := mt_at 576 (by decide +kernel) rfl
theorem cw7_208 : cCw RX7 208 yX7_stableOf cX7_stableOf 4 (some .int) 1 := ⟨kd_7_stableOf, mt_at 578 (by decide +kernel) rfl, mt_at 7 (by decide +kernel) rfl, by decide +kernel⟩
section
variable {p : Program} {l : Launch} {e : Env} {R : Room} {s : State} {m : MethodId} {args : Array Value} {below : List Frame} {meth : Method} {c : Code} {D : cG} {S : cSt} {r : Int32}
noncomputable def fk_7_isStable_20 (S : cSt) (s0 : Int32) : Option (Int32) :=
ckz s0 (some s0)
set_option maxRecDepth 100000 in
set_option maxHeartbeats 4000000 in
theorem wk_7_isStable_20 (C : cY p R s m args meth c RX7 cX7_isStable 2 3 0 0 83 (some .boolean)) (X : cX D s) (hW : cW D S s.heap) : ∀ {s0 : Int32} {ls : Array Slot}, fk_7_isStable_20 S s0 = some r → lv_has ls 2 [] → W p l e R s m args below meth c s.heap [] 0 0 (MQ below (kQ (some (.int r))) args s 0 0 mNo) (F0 m 20 ls [.int s0]) := by
  intro s0 ls h hl
  unfold fk_7_isStable_20 at h
  obtain ⟨hzo, h⟩ := ckz_ok h
  cases h
  exact c_retn C (by rcases hzo with h9 | h9 <;> (rw [h9]; rfl)) rfl rfl dX7_isStable_20
noncomputable def fk_7_isStable (S : cSt) (v0 : Nat) (v1 : Nat) : Option (Int32) :=
ckk S v1 9 (
ckk S v1 9 (
ckk S v0 8 (bd (fk_7_stableOf S v0 (kF S v1 6)) fun r1 =>
if r1 < (kF S v1 7) then (
fk_7_isStable_20 S (0 : Int32))
else (
fk_7_isStable_20 S (1 : Int32)))))
set_option maxRecDepth 100000 in
set_option maxHeartbeats 4000000 in
theorem tk_7_isStable (l : Launch) {D : cG} {S : cSt} {v0 : Nat} {v1 : Nat} {r : Int32}  (h : fk_7_isStable S v0 v1 = some r) : Met l yX7_isStable (Cond.code yX7_isStable cX7_isStable 2 (some .boolean) :: lw_g) { frames := 3, cells := 0, slots := 0, locals := 83 } (kPi [.ref v0, .ref v1] D S) (kQ (some (.int r))) 0 0 (mNo) := by
  refine Met.ofW (cc := cX7_isStable) (maxL := 2) (ret := (some .boolean)) (by decide) rfl ?_
  intro p e s m args below meth c s₁ B hml hv
  obtain ⟨rfl, hW, X⟩ := hv
  have C : cY p (headSpec (Cond.code yX7_isStable cX7_isStable 2 (some .boolean) :: lw_g) { frames := 3, cells := 0, slots := 0, locals := 83 }).room s m _ meth c RX7 cX7_isStable 2 3 0 0 83 (some .boolean) := ⟨B.exec, B.bytes, hml, findClass_of_methodNamed B.named, fun w hw => atoms_spec (ws := Cond.code yX7_isStable cX7_isStable 2 (some .boolean) :: lw_g) B.pre w (List.mem_cons_of_mem _ hw), ⟨Nat.le_refl _, Nat.le_refl _, Nat.le_refl _, Nat.le_refl _⟩, B.returns, B.notSynchronized⟩
  have hl := lv_entry ([.ref v0, .ref v1]) (n := 2) (Nat.le_of_ble_eq_true rfl)
  rw [lg_entry_eq]
  generalize (lg_sl ([.ref v0, .ref v1]) ++ List.replicate (2 - (lg_sl ([.ref v0, .ref v1])).length) Slot.unset).toArray = ls at hl ⊢
  have hl : lv_has ls 2 [(0, .ref v0), (1, .ref v1)] := hl
  unfold fk_7_isStable at h
  refine lv_aload_n C.1 C.2.1 dX7_isStable_0 rfl (lv_at hl 1 rfl) ?_
  obtain ⟨hk, h⟩ := ckk_ok h
  refine gk7_175 C X hW hk dX7_isStable_1 ?_
  refine lv_aload_n C.1 C.2.1 dX7_isStable_4 rfl (lv_at hl 0 rfl) ?_
  refine lv_aload_n C.1 C.2.1 dX7_isStable_5 rfl (lv_at hl 1 rfl) ?_
  obtain ⟨hk, h⟩ := ckk_ok h
  refine gk7_172 C X hW hk dX7_isStable_6 ?_
  obtain ⟨hk, h⟩ := ckk_ok h
  obtain ⟨r1, h_r1, h⟩ := bd_ok h
  refine c_callR (rest := [.int (kF S v1 7)]) C X hW hl.1 7 (by decide) hk [.int (kF S v1 6)] (tk_7_stableOf l h_r1) cw7_208 ki_7_stableOf kl_7_stableOf rfl ⟨by decide, by decide⟩ ⟨(by decide), (by decide)⟩ rfl (Nat.le_of_ble_eq_true rfl) dX7_isStable_9 ?_
  refine W.eq (g2 := F0 m 12 ls [.int r1, .int (kF S v1 7)]) rfl ?_
  refine lv_icmp_gt (tgt := 19) C.1 C.2.1 dX7_isStable_12 (by decide) (fun c2 => ?_) (fun c2 => ?_)
  · have h := if_t h c2
    refine lv_iconst (v := 0) C.1 C.2.1 dX7_isStable_19 (by decide) ?_
    exact wk_7_isStable_20 C X hW h (lv_sub hl [] rfl)
  · have h := if_f h c2
    refine lv_iconst (v := 1) C.1 C.2.1 dX7_isStable_15 (by decide) ?_
    refine lv_goto (tgt := 20) C.1 C.2.1 dX7_isStable_16 (by decide) ?_
    exact wk_7_isStable_20 C X hW h (lv_sub hl [] rfl)
end
theorem dX7_stableRows_0 : decode cX7_stableRows 0 = .ok (.aload_n 0, 1) := by decide +kernel
theorem dX7_stableRows_1 : decode cX7_stableRows 1 = .ok (.iconst 0, 1) := by decide +kernel
theorem dX7_stableRows_2 : decode cX7_stableRows 2 = .ok (.invokevirtual 208, 3) := by decide +kernel
theorem dX7_stableRows_5 : decode cX7_stableRows 5 = .ok (.aload_n 0, 1) := by decide +kernel
theorem dX7_stableRows_6 : decode cX7_stableRows 6 = .ok (.iconst 1, 1) := by decide +kernel
theorem dX7_stableRows_7 : decode cX7_stableRows 7 = .ok (.invokevirtual 208, 3) := by decide +kernel
theorem dX7_stableRows_10 : decode cX7_stableRows 10 = .ok (.iadd, 1) := by decide +kernel
theorem dX7_stableRows_11 : decode cX7_stableRows 11 = .ok (.aload_n 0, 1) := by decide +kernel
theorem dX7_stableRows_12 : decode cX7_stableRows 12 = .ok (.iconst 2, 1) := by decide +kernel
theorem dX7_stableRows_13 : decode cX7_stableRows 13 = .ok (.invokevirtual 208, 3) := by decide +kernel
theorem dX7_stableRows_16 : decode cX7_stableRows 16 = .ok (.iadd, 1) := by decide +kernel
theorem dX7_stableRows_17 : decode cX7_stableRows 17 = .ok (.aload_n 0, 1) := by decide +kernel
theorem dX7_stableRows_18 : decode cX7_stableRows 18 = .ok (.iconst 3, 1) := by decide +kernel
theorem dX7_stableRows_19 : decode cX7_stableRows 19 = .ok (.invokevirtual 208, 3) := by decide +kernel
theorem dX7_stableRows_22 : decode cX7_stableRows 22 = .ok (.iadd, 1) := by decide +kernel
theorem dX7_stableRows_23 : decode cX7_stableRows 23 = .ok (.ireturn, 1) := by decide +kernel
theorem kd_7_stableRows : Cond.code yX7_stableRows cX7_stableRows 1 (some .int) ∈ lw_g := mt_at 1548 (by decide +kernel) rfl
theorem ki_7_stableRows : Cond.instanceMethod yX7_stableRows ∈ lw_g := mt_at 1546 (by decide +kernel) rfl
theorem kl_7_stableRows : Cond.selects (kRn 7) yX7_stableRows yX7_stableRows ∈ lw_g := mt_at 1547 (by decide +kernel) rfl
section
variable {p : Program} {l : Launch} {e : Env} {R : Room} {s : State} {m : MethodId} {args : Array Value} {below : List Frame} {meth : Method} {c : Code} {D : cG} {S : cSt} {r : Int32}
noncomputable def fk_7_stableRows (S : cSt) (v0 : Nat) : Option (Int32) :=
ckk S v0 8 (bd (fk_7_stableOf S v0 (0 : Int32)) fun r1 =>
ckk S v0 8 (bd (fk_7_stableOf S v0 (1 : Int32)) fun r2 =>
ckk S v0 8 (bd (fk_7_stableOf S v0 (2 : Int32)) fun r3 =>
ckk S v0 8 (bd (fk_7_stableOf S v0 (3 : Int32)) fun r4 =>
some (((r1 + r2) + r3) + r4)))))
set_option maxRecDepth 100000 in
set_option maxHeartbeats 4000000 in
theorem tk_7_stableRows (l : Launch) {D : cG} {S : cSt} {v0 : Nat} {r : Int32}  (h : fk_7_stableRows S v0 = some r) : Met l yX7_stableRows (Cond.code yX7_stableRows cX7_stableRows 1 (some .int) :: lw_g) { frames := 3, cells := 0, slots := 0, locals := 83 } (kPi [.ref v0] D S) (kQ (some (.int r))) 0 0 (mNo) := by
  refine Met.ofW (cc := cX7_stableRows) (maxL := 1) (ret := (some .int)) (by decide) rfl ?_
  intro p e s m args below meth c s₁ B hml hv
  obtain ⟨rfl, hW, X⟩ := hv
  have C : cY p (headSpec (Cond.code yX7_stableRows cX7_stableRows 1 (some .int) :: lw_g) { frames := 3, cells := 0, slots := 0, locals := 83 }).room s m _ meth c RX7 cX7_stableRows 1 3 0 0 83 (some .int) := ⟨B.exec, B.bytes, hml, findClass_of_methodNamed B.named, fun w hw => atoms_spec (ws := Cond.code yX7_stableRows cX7_stableRows 1 (some .int) :: lw_g) B.pre w (List.mem_cons_of_mem _ hw), ⟨Nat.le_refl _, Nat.le_refl _, Nat.le_refl _, Nat.le_refl _⟩, B.returns, B.notSynchronized⟩
  have hl := lv_entry ([.ref v0]) (n := 1) (Nat.le_of_ble_eq_true rfl)
  rw [lg_entry_eq]
  generalize (lg_sl ([.ref v0]) ++ List.replicate (1 - (lg_sl ([.ref v0])).length) Slot.unset).toArray = ls at hl ⊢
  have hl : lv_has ls 1 [(0, .ref v0)] := hl
  unfold fk_7_stableRows at h
  refine lv_aload_n C.1 C.2.1 dX7_stableRows_0 rfl (lv_at hl 0 rfl) ?_
  refine lv_iconst (v := 0) C.1 C.2.1 dX7_stableRows_1 (by decide) ?_
  obtain ⟨hk, h⟩ := ckk_ok h
  obtain ⟨r1, h_r1, h⟩ := bd_ok h
  refine c_callR (rest := []) C X hW hl.1 7 (by decide) hk [.int (0 : Int32)] (tk_7_stableOf l h_r1) cw7_208 ki_7_stableOf kl_7_stableOf rfl ⟨by decide, by decide⟩ ⟨(by decide), (by decide)⟩ rfl (Nat.le_of_ble_eq_true rfl) dX7_stableRows_2 ?_
  refine W.eq (g2 := F0 m 5 ls [.int r1]) rfl ?_
  refine lv_aload_n C.1 C.2.1 dX7_stableRows_5 rfl (lv_at hl 0 rfl) ?_
  refine lv_iconst (v := 1) C.1 C.2.1 dX7_stableRows_6 (by decide) ?_
  obtain ⟨hk, h⟩ := ckk_ok h
  obtain ⟨r2, h_r2, h⟩ := bd_ok h
  refine c_callR (rest := [.int r1]) C X hW hl.1 7 (by decide) hk [.int (1 : Int32)] (tk_7_stableOf l h_r2) cw7_208 ki_7_stableOf kl_7_stableOf rfl ⟨by decide, by decide⟩ ⟨(by decide), (by decide)⟩ rfl (Nat.le_of_ble_eq_true rfl) dX7_stableRows_7 ?_
  refine W.eq (g2 := F0 m 10 ls [.int r2, .int r1]) rfl ?_
  refine lv_iadd C.1 C.2.1 dX7_stableRows_10 ?_
  refine lv_aload_n C.1 C.2.1 dX7_stableRows_11 rfl (lv_at hl 0 rfl) ?_
  refine lv_iconst (v := 2) C.1 C.2.1 dX7_stableRows_12 (by decide) ?_
  obtain ⟨hk, h⟩ := ckk_ok h
  obtain ⟨r3, h_r3, h⟩ := bd_ok h
  refine c_callR (rest := [.int (r1 + r2)]) C X hW hl.1 7 (by decide) hk [.int (2 : Int32)] (tk_7_stableOf l h_r3) cw7_208 ki_7_stableOf kl_7_stableOf rfl ⟨by decide, by decide⟩ ⟨(by decide), (by decide)⟩ rfl (Nat.le_of_ble_eq_true rfl) dX7_stableRows_13 ?_
  refine W.eq (g2 := F0 m 16 ls [.int r3, .int (r1 + r2)]) rfl ?_
  refine lv_iadd C.1 C.2.1 dX7_stableRows_16 ?_
  refine lv_aload_n C.1 C.2.1 dX7_stableRows_17 rfl (lv_at hl 0 rfl) ?_
  refine lv_iconst (v := 3) C.1 C.2.1 dX7_stableRows_18 (by decide) ?_
  obtain ⟨hk, h⟩ := ckk_ok h
  obtain ⟨r4, h_r4, h⟩ := bd_ok h
  refine c_callR (rest := [.int ((r1 + r2) + r3)]) C X hW hl.1 7 (by decide) hk [.int (3 : Int32)] (tk_7_stableOf l h_r4) cw7_208 ki_7_stableOf kl_7_stableOf rfl ⟨by decide, by decide⟩ ⟨(by decide), (by decide)⟩ rfl (Nat.le_of_ble_eq_true rfl) dX7_stableRows_19 ?_
  refine W.eq (g2 := F0 m 22 ls [.int r4, .int ((r1 + r2) + r3)]) rfl ?_
  refine lv_iadd C.1 C.2.1 dX7_stableRows_22 ?_
  cases h
  exact c_reti C rfl rfl dX7_stableRows_23
end
theorem dX7_isUndoSort_0 : decode cX7_isUndoSort 0 = .ok (.iload_n 0, 1) := by decide +kernel
theorem dX7_isUndoSort_1 : decode cX7_isUndoSort 1 = .ok (.iconst 1, 1) := by decide +kernel
theorem dX7_isUndoSort_2 : decode cX7_isUndoSort 2 = .ok (.if_icmp .lt 8, 3) := by decide +kernel
theorem dX7_isUndoSort_5 : decode cX7_isUndoSort 5 = .ok (.iload_n 0, 1) := by decide +kernel
theorem dX7_isUndoSort_6 : decode cX7_isUndoSort 6 = .ok (.iconst 3, 1) := by decide +kernel
theorem dX7_isUndoSort_7 : decode cX7_isUndoSort 7 = .ok (.if_icmp .le 27, 3) := by decide +kernel
theorem dX7_isUndoSort_10 : decode cX7_isUndoSort 10 = .ok (.iload_n 0, 1) := by decide +kernel
theorem dX7_isUndoSort_11 : decode cX7_isUndoSort 11 = .ok (.bipush 7, 2) := by decide +kernel
theorem dX7_isUndoSort_13 : decode cX7_isUndoSort 13 = .ok (.if_icmp .lt 9, 3) := by decide +kernel
theorem dX7_isUndoSort_16 : decode cX7_isUndoSort 16 = .ok (.iload_n 0, 1) := by decide +kernel
theorem dX7_isUndoSort_17 : decode cX7_isUndoSort 17 = .ok (.bipush 12, 2) := by decide +kernel
theorem dX7_isUndoSort_19 : decode cX7_isUndoSort 19 = .ok (.if_icmp .le 15, 3) := by decide +kernel
theorem dX7_isUndoSort_22 : decode cX7_isUndoSort 22 = .ok (.iload_n 0, 1) := by decide +kernel
theorem dX7_isUndoSort_23 : decode cX7_isUndoSort 23 = .ok (.bipush 15, 2) := by decide +kernel
theorem dX7_isUndoSort_25 : decode cX7_isUndoSort 25 = .ok (.if_icmp .eq 9, 3) := by decide +kernel
theorem dX7_isUndoSort_28 : decode cX7_isUndoSort 28 = .ok (.iload_n 0, 1) := by decide +kernel
theorem dX7_isUndoSort_29 : decode cX7_isUndoSort 29 = .ok (.bipush 16, 2) := by decide +kernel
theorem dX7_isUndoSort_31 : decode cX7_isUndoSort 31 = .ok (.if_icmp .ne 7, 3) := by decide +kernel
theorem dX7_isUndoSort_34 : decode cX7_isUndoSort 34 = .ok (.iconst 1, 1) := by decide +kernel
theorem dX7_isUndoSort_35 : decode cX7_isUndoSort 35 = .ok (.goto 4, 3) := by decide +kernel
theorem dX7_isUndoSort_38 : decode cX7_isUndoSort 38 = .ok (.iconst 0, 1) := by decide +kernel
theorem dX7_isUndoSort_39 : decode cX7_isUndoSort 39 = .ok (.ireturn, 1) := by decide +kernel
theorem kd_7_isUndoSort : Cond.code yX7_isUndoSort cX7_isUndoSort 1 (some .boolean) ∈ lw_g := mt_at 572 (by decide +kernel) rfl
theorem ks_7_isUndoSort : Cond.static yX7_isUndoSort ∈ lw_g := mt_at 571 (by decide +kernel) rfl
section
variable {p : Program} {l : Launch} {e : Env} {R : Room} {s : State} {m : MethodId} {args : Array Value} {below : List Frame} {meth : Method} {c : Code} {D : cG} {r : Int32}
noncomputable def fk_7_isUndoSort_39 (s0 : Int32) : Option (Int32) :=
ckz s0 (some s0)
set_option maxRecDepth 100000 in
set_option maxHeartbeats 4000000 in
theorem wk_7_isUndoSort_39 (C : cY p R s m args meth c RX7 cX7_isUndoSort 1 0 0 0 0 (some .boolean)) : ∀ {s0 : Int32} {ls : Array Slot}, fk_7_isUndoSort_39 s0 = some r → lv_has ls 1 [] → W p l e R s m args below meth c s.heap [] 0 0 (MQ below (kQ (some (.int r))) args s 0 0 mNo) (F0 m 39 ls [.int s0]) := by
  intro s0 ls h hl
  unfold fk_7_isUndoSort_39 at h
  obtain ⟨hzo, h⟩ := ckz_ok h
  cases h
  exact c_retn C (by rcases hzo with h9 | h9 <;> (rw [h9]; rfl)) rfl rfl dX7_isUndoSort_39
noncomputable def fk_7_isUndoSort_34 : Option (Int32) :=
fk_7_isUndoSort_39 (1 : Int32)
set_option maxRecDepth 100000 in
set_option maxHeartbeats 4000000 in
theorem wk_7_isUndoSort_34 (C : cY p R s m args meth c RX7 cX7_isUndoSort 1 0 0 0 0 (some .boolean)) : ∀ {ls : Array Slot}, fk_7_isUndoSort_34 = some r → lv_has ls 1 [] → W p l e R s m args below meth c s.heap [] 0 0 (MQ below (kQ (some (.int r))) args s 0 0 mNo) (F0 m 34 ls []) := by
  intro ls h hl
  unfold fk_7_isUndoSort_34 at h
  refine lv_iconst (v := 1) C.1 C.2.1 dX7_isUndoSort_34 (by decide) ?_
  refine lv_goto (tgt := 39) C.1 C.2.1 dX7_isUndoSort_35 (by decide) ?_
  exact wk_7_isUndoSort_39 C h (lv_sub hl [] rfl)
noncomputable def fk_7_isUndoSort_22 (v0 : Int32) : Option (Int32) :=
if v0 = (15 : Int32) then (
fk_7_isUndoSort_34)
else (
if v0 = (16 : Int32) then (
fk_7_isUndoSort_34)
else (
fk_7_isUndoSort_39 (0 : Int32)))
set_option maxRecDepth 100000 in
set_option maxHeartbeats 4000000 in
theorem wk_7_isUndoSort_22 (C : cY p R s m args meth c RX7 cX7_isUndoSort 1 0 0 0 0 (some .boolean)) : ∀ {v0 : Int32} {ls : Array Slot}, fk_7_isUndoSort_22 v0 = some r → lv_has ls 1 [(0, .int v0)] → W p l e R s m args below meth c s.heap [] 0 0 (MQ below (kQ (some (.int r))) args s 0 0 mNo) (F0 m 22 ls []) := by
  intro v0 ls h hl
  unfold fk_7_isUndoSort_22 at h
  refine lv_iload_n C.1 C.2.1 dX7_isUndoSort_22 rfl (lv_at hl 0 rfl) ?_
  refine lv_bipush (v := 15) C.1 C.2.1 dX7_isUndoSort_23 (by decide) ?_
  refine lv_icmp_eq (tgt := 34) C.1 C.2.1 dX7_isUndoSort_25 (by decide) (fun c1 => ?_) (fun c1 => ?_)
  · have h := if_t h c1
    exact wk_7_isUndoSort_34 C h (lv_sub hl [] rfl)
  · have h := if_f h c1
    refine lv_iload_n C.1 C.2.1 dX7_isUndoSort_28 rfl (lv_at hl 0 rfl) ?_
    refine lv_bipush (v := 16) C.1 C.2.1 dX7_isUndoSort_29 (by decide) ?_
    refine lv_icmp_ne (tgt := 38) C.1 C.2.1 dX7_isUndoSort_31 (by decide) (fun c2 => ?_) (fun c2 => ?_)
    · have h := if_f h c2
      refine lv_iconst (v := 0) C.1 C.2.1 dX7_isUndoSort_38 (by decide) ?_
      exact wk_7_isUndoSort_39 C h (lv_sub hl [] rfl)
    · have h := if_t h c2
      exact wk_7_isUndoSort_34 C h (lv_sub hl [] rfl)
noncomputable def fk_7_isUndoSort_10 (v0 : Int32) : Option (Int32) :=
if v0 < (7 : Int32) then (
fk_7_isUndoSort_22 v0)
else (
if v0 ≤ (12 : Int32) then (
fk_7_isUndoSort_34)
else (
fk_7_isUndoSort_22 v0))
set_option maxRecDepth 100000 in
set_option maxHeartbeats 4000000 in
theorem wk_7_isUndoSort_10 (C : cY p R s m args meth c RX7 cX7_isUndoSort 1 0 0 0 0 (some .boolean)) : ∀ {v0 : Int32} {ls : Array Slot}, fk_7_isUndoSort_10 v0 = some r → lv_has ls 1 [(0, .int v0)] → W p l e R s m args below meth c s.heap [] 0 0 (MQ below (kQ (some (.int r))) args s 0 0 mNo) (F0 m 10 ls []) := by
  intro v0 ls h hl
  unfold fk_7_isUndoSort_10 at h
  refine lv_iload_n C.1 C.2.1 dX7_isUndoSort_10 rfl (lv_at hl 0 rfl) ?_
  refine lv_bipush (v := 7) C.1 C.2.1 dX7_isUndoSort_11 (by decide) ?_
  refine lv_icmp_lt (tgt := 22) C.1 C.2.1 dX7_isUndoSort_13 (by decide) (fun c1 => ?_) (fun c1 => ?_)
  · have h := if_t h c1
    exact wk_7_isUndoSort_22 C h (lv_sub hl [0] rfl)
  · have h := if_f h c1
    refine lv_iload_n C.1 C.2.1 dX7_isUndoSort_16 rfl (lv_at hl 0 rfl) ?_
    refine lv_bipush (v := 12) C.1 C.2.1 dX7_isUndoSort_17 (by decide) ?_
    refine lv_icmp_le (tgt := 34) C.1 C.2.1 dX7_isUndoSort_19 (by decide) (fun c2 => ?_) (fun c2 => ?_)
    · have h := if_t h c2
      exact wk_7_isUndoSort_34 C h (lv_sub hl [] rfl)
    · have h := if_f h c2
      exact wk_7_isUndoSort_22 C h (lv_sub hl [0] rfl)
noncomputable def fk_7_isUndoSort (v0 : Int32) : Option (Int32) :=
if v0 < (1 : Int32) then (
fk_7_isUndoSort_10 v0)
else (
if v0 ≤ (3 : Int32) then (
fk_7_isUndoSort_34)
else (
fk_7_isUndoSort_10 v0))
set_option maxRecDepth 100000 in
set_option maxHeartbeats 4000000 in
theorem tk_7_isUndoSort (l : Launch) {v0 : Int32} {r : Int32}  (h : fk_7_isUndoSort v0 = some r) : Met l yX7_isUndoSort (Cond.code yX7_isUndoSort cX7_isUndoSort 1 (some .boolean) :: lw_g) { frames := 0, cells := 0, slots := 0, locals := 0 } (mPs [.int v0]) (kQ (some (.int r))) 0 0 (mNo) := by
  refine Met.ofW (cc := cX7_isUndoSort) (maxL := 1) (ret := (some .boolean)) (by decide) rfl ?_
  intro p e s m args below meth c s₁ B hml hv
  obtain rfl := hv
  have C : cY p (headSpec (Cond.code yX7_isUndoSort cX7_isUndoSort 1 (some .boolean) :: lw_g) { frames := 0, cells := 0, slots := 0, locals := 0 }).room s m _ meth c RX7 cX7_isUndoSort 1 0 0 0 0 (some .boolean) := ⟨B.exec, B.bytes, hml, findClass_of_methodNamed B.named, fun w hw => atoms_spec (ws := Cond.code yX7_isUndoSort cX7_isUndoSort 1 (some .boolean) :: lw_g) B.pre w (List.mem_cons_of_mem _ hw), ⟨Nat.le_refl _, Nat.le_refl _, Nat.le_refl _, Nat.le_refl _⟩, B.returns, B.notSynchronized⟩
  have hl := lv_entry ([.int v0]) (n := 1) (Nat.le_of_ble_eq_true rfl)
  rw [lg_entry_eq]
  generalize (lg_sl ([.int v0]) ++ List.replicate (1 - (lg_sl ([.int v0])).length) Slot.unset).toArray = ls at hl ⊢
  have hl : lv_has ls 1 [(0, .int v0)] := hl
  unfold fk_7_isUndoSort at h
  refine lv_iload_n C.1 C.2.1 dX7_isUndoSort_0 rfl (lv_at hl 0 rfl) ?_
  refine lv_iconst (v := 1) C.1 C.2.1 dX7_isUndoSort_1 (by decide) ?_
  refine lv_icmp_lt (tgt := 10) C.1 C.2.1 dX7_isUndoSort_2 (by decide) (fun c1 => ?_) (fun c1 => ?_)
  · have h := if_t h c1
    exact wk_7_isUndoSort_10 C h (lv_sub hl [0] rfl)
  · have h := if_f h c1
    refine lv_iload_n C.1 C.2.1 dX7_isUndoSort_5 rfl (lv_at hl 0 rfl) ?_
    refine lv_iconst (v := 3) C.1 C.2.1 dX7_isUndoSort_6 (by decide) ?_
    refine lv_icmp_le (tgt := 34) C.1 C.2.1 dX7_isUndoSort_7 (by decide) (fun c2 => ?_) (fun c2 => ?_)
    · have h := if_t h c2
      exact wk_7_isUndoSort_34 C h (lv_sub hl [] rfl)
    · have h := if_f h c2
      exact wk_7_isUndoSort_10 C h (lv_sub hl [0] rfl)
end
theorem dX7_undoable_0 : decode cX7_undoable 0 = .ok (.aload_n 0, 1) := by decide +kernel
theorem dX7_undoable_1 : decode cX7_undoable 1 = .ok (.aload_n 0, 1) := by decide +kernel
theorem dX7_undoable_2 : decode cX7_undoable 2 = .ok (.getfield 61, 3) := by decide +kernel
theorem dX7_undoable_5 : decode cX7_undoable 5 = .ok (.invokevirtual 123, 3) := by decide +kernel
theorem dX7_undoable_8 : decode cX7_undoable 8 = .ok (.istore_n 1, 1) := by decide +kernel
theorem dX7_undoable_9 : decode cX7_undoable 9 = .ok (.iload_n 1, 1) := by decide +kernel
theorem dX7_undoable_10 : decode cX7_undoable 10 = .ok (.ifCond .le 69, 3) := by decide +kernel
theorem dX7_undoable_13 : decode cX7_undoable 13 = .ok (.aload_n 0, 1) := by decide +kernel
theorem dX7_undoable_14 : decode cX7_undoable 14 = .ok (.getfield 64, 3) := by decide +kernel
theorem dX7_undoable_17 : decode cX7_undoable 17 = .ok (.sipush 1000, 3) := by decide +kernel
theorem dX7_undoable_20 : decode cX7_undoable 20 = .ok (.aload_n 0, 1) := by decide +kernel
theorem dX7_undoable_21 : decode cX7_undoable 21 = .ok (.getfield 61, 3) := by decide +kernel
theorem dX7_undoable_24 : decode cX7_undoable 24 = .ok (.imul, 1) := by decide +kernel
theorem dX7_undoable_25 : decode cX7_undoable 25 = .ok (.iload_n 1, 1) := by decide +kernel
theorem dX7_undoable_26 : decode cX7_undoable 26 = .ok (.iadd, 1) := by decide +kernel
theorem dX7_undoable_27 : decode cX7_undoable 27 = .ok (.invokevirtual 143, 3) := by decide +kernel
theorem dX7_undoable_30 : decode cX7_undoable 30 = .ok (.astore_n 2, 1) := by decide +kernel
theorem dX7_undoable_31 : decode cX7_undoable 31 = .ok (.aload_n 2, 1) := by decide +kernel
theorem dX7_undoable_32 : decode cX7_undoable 32 = .ok (.ifnull 41, 3) := by decide +kernel
theorem dX7_undoable_35 : decode cX7_undoable 35 = .ok (.aload_n 2, 1) := by decide +kernel
theorem dX7_undoable_36 : decode cX7_undoable 36 = .ok (.getfield 147, 3) := by decide +kernel
theorem dX7_undoable_39 : decode cX7_undoable 39 = .ok (.invokestatic 214, 3) := by decide +kernel
theorem dX7_undoable_42 : decode cX7_undoable 42 = .ok (.ifCond .eq 31, 3) := by decide +kernel
theorem dX7_undoable_45 : decode cX7_undoable 45 = .ok (.aload_n 0, 1) := by decide +kernel
theorem dX7_undoable_46 : decode cX7_undoable 46 = .ok (.getfield 85, 3) := by decide +kernel
theorem dX7_undoable_49 : decode cX7_undoable 49 = .ok (.aload_n 2, 1) := by decide +kernel
theorem dX7_undoable_50 : decode cX7_undoable 50 = .ok (.invokevirtual 217, 3) := by decide +kernel
theorem dX7_undoable_53 : decode cX7_undoable 53 = .ok (.ifCond .eq 20, 3) := by decide +kernel
theorem dX7_undoable_56 : decode cX7_undoable 56 = .ok (.aload_n 0, 1) := by decide +kernel
theorem dX7_undoable_57 : decode cX7_undoable 57 = .ok (.aload_n 2, 1) := by decide +kernel
theorem dX7_undoable_58 : decode cX7_undoable 58 = .ok (.invokevirtual 221, 3) := by decide +kernel
theorem dX7_undoable_61 : decode cX7_undoable 61 = .ok (.ifCond .eq 7, 3) := by decide +kernel
theorem dX7_undoable_64 : decode cX7_undoable 64 = .ok (.iconst (-1), 1) := by decide +kernel
theorem dX7_undoable_65 : decode cX7_undoable 65 = .ok (.goto 7, 3) := by decide +kernel
theorem dX7_undoable_68 : decode cX7_undoable 68 = .ok (.aload_n 2, 1) := by decide +kernel
theorem dX7_undoable_69 : decode cX7_undoable 69 = .ok (.getfield 187, 3) := by decide +kernel
theorem dX7_undoable_72 : decode cX7_undoable 72 = .ok (.ireturn, 1) := by decide +kernel
theorem dX7_undoable_73 : decode cX7_undoable 73 = .ok (.iinc 1 (-1), 3) := by decide +kernel
theorem dX7_undoable_76 : decode cX7_undoable 76 = .ok (.goto (-67), 3) := by decide +kernel
theorem dX7_undoable_79 : decode cX7_undoable 79 = .ok (.iconst (-1), 1) := by decide +kernel
theorem dX7_undoable_80 : decode cX7_undoable 80 = .ok (.ireturn, 1) := by decide +kernel
theorem kd_7_undoable : Cond.code yX7_undoable cX7_undoable 3 (some .int) ∈ lw_g := mt_at 564 (by decide +kernel) rfl
theorem ki_7_undoable : Cond.instanceMethod yX7_undoable ∈ lw_g := mt_at 562 (by decide +kernel) rfl
theorem kl_7_undoable : Cond.selects (kRn 7) yX7_undoable yX7_undoable ∈ lw_g := mt_at 563 (by decide +kernel) rfl
theorem cw7_214 : cCw RX7 214 yX7_isUndoSort cX7_isUndoSort 1 (some .boolean) 1 := ⟨kd_7_isUndoSort, mt_at 570 (by decide +kernel) rfl, mt_at 7 (by decide +kernel) rfl, by decide +kernel⟩
theorem cw7_217 : cCw RX7 217 yX10_isGood cX10_isGood 3 (some .boolean) 1 := ⟨kd_10_isGood, mt_at 573 (by decide +kernel) rfl, mt_at 10 (by decide +kernel) rfl, by decide +kernel⟩
theorem cw7_221 : cCw RX7 221 yX7_isStable cX7_isStable 2 (some .boolean) 1 := ⟨kd_7_isStable, mt_at 574 (by decide +kernel) rfl, mt_at 7 (by decide +kernel) rfl, by decide +kernel⟩
section
variable {p : Program} {l : Launch} {e : Env} {R : Room} {s : State} {m : MethodId} {args : Array Value} {below : List Frame} {meth : Method} {c : Code} {D : cG} {S : cSt} {r : Int32}
noncomputable def fk_7_undoable_73 (g_9 : Nat → Int32 → Option (Int32)) (S : cSt) (v0 : Nat) (v1 : Int32) : Option (Int32) :=
lt (v1 + (-1 : Int32)) fun x1 =>
g_9 v0 x1
set_option maxRecDepth 100000 in
set_option maxHeartbeats 4000000 in
theorem wk_7_undoable_73 (C : cY p R s m args meth c RX7 cX7_undoable 3 4 0 0 104 (some .int)) (X : cX D s) (hW : cW D S s.heap) {g_9 : Nat → Int32 → Option (Int32)} (hg_9 : ∀ {v0 : Nat} {v1 : Int32} {ls : Array Slot}, g_9 v0 v1 = some r → lv_has ls 3 [(0, .ref v0), (1, .int v1)] → W p l e R s m args below meth c s.heap [] 0 0 (MQ below (kQ (some (.int r))) args s 0 0 mNo) (F0 m 9 ls [])) : ∀ {v0 : Nat} {v1 : Int32} {ls : Array Slot}, fk_7_undoable_73 g_9 S v0 v1 = some r → lv_has ls 3 [(0, .ref v0), (1, .int v1)] → W p l e R s m args below meth c s.heap [] 0 0 (MQ below (kQ (some (.int r))) args s 0 0 mNo) (F0 m 73 ls []) := by
  intro v0 v1 ls h hl
  unfold fk_7_undoable_73 at h
  refine lt_ok h (fun x1 e_x1 h => ?_)
  refine lv_iinc (v := x1) (lv' := [(1, .int x1), (0, .ref v0)]) C.1 C.2.1 dX7_undoable_73 hl (k := 1) rfl (by rw [← e_x1]; rfl) (by decide) rfl (fun ls hl => ?_)
  refine lv_goto (tgt := 9) C.1 C.2.1 dX7_undoable_76 (by decide) ?_
  exact hg_9 h (lv_sub hl [1, 0] rfl)
noncomputable def fk_7_undoable_72 (S : cSt) (s0 : Int32) : Option (Int32) :=
some s0
set_option maxRecDepth 100000 in
set_option maxHeartbeats 4000000 in
theorem wk_7_undoable_72 (C : cY p R s m args meth c RX7 cX7_undoable 3 4 0 0 104 (some .int)) (X : cX D s) (hW : cW D S s.heap) : ∀ {s0 : Int32} {ls : Array Slot}, fk_7_undoable_72 S s0 = some r → lv_has ls 3 [] → W p l e R s m args below meth c s.heap [] 0 0 (MQ below (kQ (some (.int r))) args s 0 0 mNo) (F0 m 72 ls [.int s0]) := by
  intro s0 ls h hl
  unfold fk_7_undoable_72 at h
  cases h
  exact c_reti C rfl rfl dX7_undoable_72
noncomputable def fk_7_undoable_9 (S : cSt) : Nat → Nat → Int32 → Option (Int32)
  | 0, _, _ => none
  | n + 1, v0, v1 =>
    if v1 ≤ 0 then (
    some (-1 : Int32))
    else (
    ckk S v0 8 (bd (kR S v0 12) fun a2 =>
    ckk S v0 8 (
    ckk S a2 1 (bd (fk_0_rowNamed S a2 (((1000 : Int32) * (kF S v0 0)) + v1)) fun o3 =>
    cs o3 (
    fk_7_undoable_73 (fk_7_undoable_9 S n) S v0 v1) (fun a4 =>
    ckk S a4 9 (
    bd (fk_7_isUndoSort (kF S a4 0)) fun r5 =>
    if r5 = 0 then (
    fk_7_undoable_73 (fk_7_undoable_9 S n) S v0 v1)
    else (
    ckk S v0 8 (bd (kR S v0 2) fun a7 =>
    ckk S a7 11 (bd (fk_10_isGood S a7 a4) fun r8 =>
    if r8 = 0 then (
    fk_7_undoable_73 (fk_7_undoable_9 S n) S v0 v1)
    else (
    ckk S v0 8 (bd (fk_7_isStable S v0 a4) fun r10 =>
    if r10 = 0 then (
    ckk S a4 9 (
    fk_7_undoable_72 S (kF S a4 11)))
    else (
    fk_7_undoable_72 S (-1 : Int32)))))))))))))
set_option maxRecDepth 100000 in
set_option maxHeartbeats 4000000 in
theorem wk_7_undoable_9 (C : cY p R s m args meth c RX7 cX7_undoable 3 4 0 0 104 (some .int)) (X : cX D s) (hW : cW D S s.heap) : ∀ (n : Nat), ∀ {v0 : Nat} {v1 : Int32} {ls : Array Slot}, fk_7_undoable_9 S n v0 v1 = some r → lv_has ls 3 [(0, .ref v0), (1, .int v1)] → W p l e R s m args below meth c s.heap [] 0 0 (MQ below (kQ (some (.int r))) args s 0 0 mNo) (F0 m 9 ls []) := by
  intro n
  induction n with
  | zero =>
    intro v0 v1 ls h hl
    exact absurd (show (none : Option (Int32)) = _ from h) (fun q => by cases q)
  | succ n ih =>
    intro v0 v1 ls h hl
    rw [fk_7_undoable_9] at h
    refine lv_iload_n C.1 C.2.1 dX7_undoable_9 rfl (lv_at hl 1 rfl) ?_
    refine lv_if_le (tgt := 79) C.1 C.2.1 dX7_undoable_10 (by decide) (fun c1 => ?_) (fun c1 => ?_)
    · have h := if_t h c1
      refine lv_iconst (v := -1) C.1 C.2.1 dX7_undoable_79 (by decide) ?_
      cases h
      exact c_reti C rfl rfl dX7_undoable_80
    · have h := if_f h c1
      refine lv_aload_n C.1 C.2.1 dX7_undoable_13 rfl (lv_at hl 0 rfl) ?_
      obtain ⟨hk, h⟩ := ckk_ok h
      obtain ⟨a2, h_a2, h⟩ := bd_ok h
      refine gk7_64 C X hW hk h_a2 dX7_undoable_14 ?_
      refine lv_sipush (v := 1000) C.1 C.2.1 dX7_undoable_17 (by decide) ?_
      refine lv_aload_n C.1 C.2.1 dX7_undoable_20 rfl (lv_at hl 0 rfl) ?_
      obtain ⟨hk, h⟩ := ckk_ok h
      refine gk7_61 C X hW hk dX7_undoable_21 ?_
      refine lv_imul C.1 C.2.1 dX7_undoable_24 ?_
      refine lv_iload_n C.1 C.2.1 dX7_undoable_25 rfl (lv_at hl 1 rfl) ?_
      refine lv_iadd C.1 C.2.1 dX7_undoable_26 ?_
      obtain ⟨hk, h⟩ := ckk_ok h
      obtain ⟨o3, h_o3, h⟩ := bd_ok h
      refine c_callR (rest := []) C X hW hl.1 0 (by decide) hk [.int (((1000 : Int32) * (kF S v0 0)) + v1)] (tk_0_rowNamed l h_o3) cw7_143 ki_0_rowNamed kl_0_rowNamed rfl ⟨by decide, by decide⟩ ⟨(by decide), (by decide)⟩ rfl (Nat.le_of_ble_eq_true rfl) dX7_undoable_27 ?_
      refine W.eq (g2 := F0 m 30 ls [va_rf o3]) rfl ?_
      refine lv_astore_nq (o := o3) (lv' := [(2, va_rf o3), (0, .ref v0), (1, .int v1)]) C.1 C.2.1 dX7_undoable_30 rfl hl (by decide) rfl (fun ls hl => ?_)
      refine lv_aload_nq (o := o3) C.1 C.2.1 dX7_undoable_31 rfl (lv_at hl 0 rfl) ?_
      rcases o3 with _ | a4
      · replace h := cs_n h
        refine lv_ifnullN (tgt := 73) C.1 C.2.1 dX7_undoable_32 (by decide) ?_
        exact wk_7_undoable_73 C X hW ih h (lv_sub hl [1, 2] rfl)
      · replace h := cs_s h
        refine lv_ifnull C.1 C.2.1 dX7_undoable_32 ?_
        refine lv_aload_n C.1 C.2.1 dX7_undoable_35 rfl (lv_at hl 0 rfl) ?_
        obtain ⟨hk, h⟩ := ckk_ok h
        refine gk7_147 C X hW hk dX7_undoable_36 ?_
        obtain ⟨r5, h_r5, h⟩ := bd_ok h
        refine c_callS (rest := []) C hl.1 [.int (kF S a4 0)] (tk_7_isUndoSort l h_r5) cw7_214 ks_7_isUndoSort rfl ⟨by decide, by decide⟩ ⟨(by decide), (by decide)⟩ rfl (Nat.le_of_ble_eq_true rfl) dX7_undoable_39 ?_
        refine W.eq (g2 := F0 m 42 ls [.int r5]) rfl ?_
        refine lv_if_eq (tgt := 73) C.1 C.2.1 dX7_undoable_42 (by decide) (fun c6 => ?_) (fun c6 => ?_)
        · have h := if_t h c6
          exact wk_7_undoable_73 C X hW ih h (lv_sub hl [1, 2] rfl)
        · have h := if_f h c6
          refine lv_aload_n C.1 C.2.1 dX7_undoable_45 rfl (lv_at hl 1 rfl) ?_
          obtain ⟨hk, h⟩ := ckk_ok h
          obtain ⟨a7, h_a7, h⟩ := bd_ok h
          refine gk7_85 C X hW hk h_a7 dX7_undoable_46 ?_
          refine lv_aload_n C.1 C.2.1 dX7_undoable_49 rfl (lv_at hl 0 rfl) ?_
          obtain ⟨hk, h⟩ := ckk_ok h
          obtain ⟨r8, h_r8, h⟩ := bd_ok h
          refine c_callR (rest := []) C X hW hl.1 10 (by decide) hk [.ref a4] (tk_10_isGood l h_r8) cw7_217 ki_10_isGood kl_10_isGood rfl ⟨by decide, by decide⟩ ⟨(by decide), (by decide)⟩ rfl (Nat.le_of_ble_eq_true rfl) dX7_undoable_50 ?_
          refine W.eq (g2 := F0 m 53 ls [.int r8]) rfl ?_
          refine lv_if_eq (tgt := 73) C.1 C.2.1 dX7_undoable_53 (by decide) (fun c9 => ?_) (fun c9 => ?_)
          · have h := if_t h c9
            exact wk_7_undoable_73 C X hW ih h (lv_sub hl [1, 2] rfl)
          · have h := if_f h c9
            refine lv_aload_n C.1 C.2.1 dX7_undoable_56 rfl (lv_at hl 1 rfl) ?_
            refine lv_aload_n C.1 C.2.1 dX7_undoable_57 rfl (lv_at hl 0 rfl) ?_
            obtain ⟨hk, h⟩ := ckk_ok h
            obtain ⟨r10, h_r10, h⟩ := bd_ok h
            refine c_callR (rest := []) C X hW hl.1 7 (by decide) hk [.ref a4] (tk_7_isStable l h_r10) cw7_221 ki_7_isStable kl_7_isStable rfl ⟨by decide, by decide⟩ ⟨(by decide), (by decide)⟩ rfl (Nat.le_of_ble_eq_true rfl) dX7_undoable_58 ?_
            refine W.eq (g2 := F0 m 61 ls [.int r10]) rfl ?_
            refine lv_if_eq (tgt := 68) C.1 C.2.1 dX7_undoable_61 (by decide) (fun c11 => ?_) (fun c11 => ?_)
            · have h := if_t h c11
              refine lv_aload_n C.1 C.2.1 dX7_undoable_68 rfl (lv_at hl 0 rfl) ?_
              obtain ⟨hk, h⟩ := ckk_ok h
              refine gk7_187 C X hW hk dX7_undoable_69 ?_
              exact wk_7_undoable_72 C X hW h (lv_sub hl [] rfl)
            · have h := if_f h c11
              refine lv_iconst (v := -1) C.1 C.2.1 dX7_undoable_64 (by decide) ?_
              refine lv_goto (tgt := 72) C.1 C.2.1 dX7_undoable_65 (by decide) ?_
              exact wk_7_undoable_72 C X hW h (lv_sub hl [] rfl)
noncomputable def fk_7_undoable (S : cSt) (v0 : Nat) : Option (Int32) :=
ckk S v0 8 (
ckk S v0 8 (bd (fk_7_knownOf S v0 (kF S v0 0)) fun r1 =>
fk_7_undoable_9 S mFU v0 r1))
set_option maxRecDepth 100000 in
set_option maxHeartbeats 4000000 in
theorem tk_7_undoable (l : Launch) {D : cG} {S : cSt} {v0 : Nat} {r : Int32}  (h : fk_7_undoable S v0 = some r) : Met l yX7_undoable (Cond.code yX7_undoable cX7_undoable 3 (some .int) :: lw_g) { frames := 4, cells := 0, slots := 0, locals := 104 } (kPi [.ref v0] D S) (kQ (some (.int r))) 0 0 (mNo) := by
  refine Met.ofW (cc := cX7_undoable) (maxL := 3) (ret := (some .int)) (by decide) rfl ?_
  intro p e s m args below meth c s₁ B hml hv
  obtain ⟨rfl, hW, X⟩ := hv
  have C : cY p (headSpec (Cond.code yX7_undoable cX7_undoable 3 (some .int) :: lw_g) { frames := 4, cells := 0, slots := 0, locals := 104 }).room s m _ meth c RX7 cX7_undoable 3 4 0 0 104 (some .int) := ⟨B.exec, B.bytes, hml, findClass_of_methodNamed B.named, fun w hw => atoms_spec (ws := Cond.code yX7_undoable cX7_undoable 3 (some .int) :: lw_g) B.pre w (List.mem_cons_of_mem _ hw), ⟨Nat.le_refl _, Nat.le_refl _, Nat.le_refl _, Nat.le_refl _⟩, B.returns, B.notSynchronized⟩
  have hl := lv_entry ([.ref v0]) (n := 3) (Nat.le_of_ble_eq_true rfl)
  rw [lg_entry_eq]
  generalize (lg_sl ([.ref v0]) ++ List.replicate (3 - (lg_sl ([.ref v0])).length) Slot.unset).toArray = ls at hl ⊢
  have hl : lv_has ls 3 [(0, .ref v0)] := hl
  unfold fk_7_undoable at h
  refine lv_aload_n C.1 C.2.1 dX7_undoable_0 rfl (lv_at hl 0 rfl) ?_
  refine lv_aload_n C.1 C.2.1 dX7_undoable_1 rfl (lv_at hl 0 rfl) ?_
  obtain ⟨hk, h⟩ := ckk_ok h
  refine gk7_61 C X hW hk dX7_undoable_2 ?_
  obtain ⟨hk, h⟩ := ckk_ok h
  obtain ⟨r1, h_r1, h⟩ := bd_ok h
  refine c_callR (rest := []) C X hW hl.1 7 (by decide) hk [.int (kF S v0 0)] (tk_7_knownOf l h_r1) cw7_123 ki_7_knownOf kl_7_knownOf rfl ⟨by decide, by decide⟩ ⟨(by decide), (by decide)⟩ rfl (Nat.le_of_ble_eq_true rfl) dX7_undoable_5 ?_
  refine W.eq (g2 := F0 m 8 ls [.int r1]) rfl ?_
  refine lv_istore_n (lv' := [(1, .int r1), (0, .ref v0)]) C.1 C.2.1 dX7_undoable_8 rfl hl (by decide) rfl (fun ls hl => ?_)
  exact wk_7_undoable_9 C X hW mFU h (lv_sub hl [1, 0] rfl)
end
