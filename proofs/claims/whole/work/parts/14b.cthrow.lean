-- made by wip/whole/gen14.py: 11_kind, 11_value, 11_bound, 11_past
theorem dX11_kind_0 : decode cX11_kind 0 = .ok (.aload_n 0, 1) := by decide +kernel
theorem dX11_kind_1 : decode cX11_kind 1 = .ok (.getfield 12, 3) := by decide +kernel
theorem dX11_kind_4 : decode cX11_kind 4 = .ok (.invokevirtual 83, 3) := by decide +kernel
theorem dX11_kind_7 : decode cX11_kind 7 = .ok (.istore_n 1, 1) := by decide +kernel
theorem dX11_kind_8 : decode cX11_kind 8 = .ok (.aload_n 0, 1) := by decide +kernel
theorem dX11_kind_9 : decode cX11_kind 9 = .ok (.getfield 12, 3) := by decide +kernel
theorem dX11_kind_12 : decode cX11_kind 12 = .ok (.aload_n 0, 1) := by decide +kernel
theorem dX11_kind_13 : decode cX11_kind 13 = .ok (.getfield 12, 3) := by decide +kernel
theorem dX11_kind_16 : decode cX11_kind 16 = .ok (.iload_n 1, 1) := by decide +kernel
theorem dX11_kind_17 : decode cX11_kind 17 = .ok (.invokevirtual 87, 3) := by decide +kernel
theorem dX11_kind_20 : decode cX11_kind 20 = .ok (.putfield 91, 3) := by decide +kernel
theorem dX11_kind_23 : decode cX11_kind 23 = .ok (.aload_n 0, 1) := by decide +kernel
theorem dX11_kind_24 : decode cX11_kind 24 = .ok (.getfield 12, 3) := by decide +kernel
theorem dX11_kind_27 : decode cX11_kind 27 = .ok (.getfield 91, 3) := by decide +kernel
theorem dX11_kind_30 : decode cX11_kind 30 = .ok (.iconst (-1), 1) := by decide +kernel
theorem dX11_kind_31 : decode cX11_kind 31 = .ok (.if_icmp .eq 13, 3) := by decide +kernel
theorem dX11_kind_34 : decode cX11_kind 34 = .ok (.new 94, 3) := by decide +kernel
theorem dX11_kind_37 : decode cX11_kind 37 = .ok (.dup, 1) := by decide +kernel
theorem dX11_kind_38 : decode cX11_kind 38 = .ok (.ldc 96, 2) := by decide +kernel
theorem dX11_kind_40 : decode cX11_kind 40 = .ok (.invokespecial 98, 3) := by decide +kernel
theorem dX11_kind_43 : decode cX11_kind 43 = .ok (.athrow, 1) := by decide +kernel
theorem dX11_kind_44 : decode cX11_kind 44 = .ok (.aload_n 0, 1) := by decide +kernel
theorem dX11_kind_45 : decode cX11_kind 45 = .ok (.getfield 12, 3) := by decide +kernel
theorem dX11_kind_48 : decode cX11_kind 48 = .ok (.getfield 101, 3) := by decide +kernel
theorem dX11_kind_51 : decode cX11_kind 51 = .ok (.bipush 8, 2) := by decide +kernel
theorem dX11_kind_53 : decode cX11_kind 53 = .ok (.if_icmp .lt 13, 3) := by decide +kernel
theorem dX11_kind_56 : decode cX11_kind 56 = .ok (.new 104, 3) := by decide +kernel
theorem dX11_kind_59 : decode cX11_kind 59 = .ok (.dup, 1) := by decide +kernel
theorem dX11_kind_60 : decode cX11_kind 60 = .ok (.ldc 106, 2) := by decide +kernel
theorem dX11_kind_62 : decode cX11_kind 62 = .ok (.invokespecial 108, 3) := by decide +kernel
theorem dX11_kind_65 : decode cX11_kind 65 = .ok (.athrow, 1) := by decide +kernel
theorem dX11_kind_66 : decode cX11_kind 66 = .ok (.aload_n 0, 1) := by decide +kernel
theorem dX11_kind_67 : decode cX11_kind 67 = .ok (.getfield 12, 3) := by decide +kernel
theorem dX11_kind_70 : decode cX11_kind 70 = .ok (.iload_n 1, 1) := by decide +kernel
theorem dX11_kind_71 : decode cX11_kind 71 = .ok (.invokevirtual 109, 3) := by decide +kernel
theorem dX11_kind_74 : decode cX11_kind 74 = .ok (.ireturn, 1) := by decide +kernel
theorem kd_11_kind : Cond.code yX11_kind cX11_kind 2 (some .int) ∈ lw_g := mt_at 1565 (by decide +kernel) rfl
theorem ki_11_kind : Cond.instanceMethod yX11_kind ∈ lw_g := mt_at 1563 (by decide +kernel) rfl
theorem kl_11_kind : Cond.selects (kRn 11) yX11_kind yX11_kind ∈ lw_g := mt_at 1564 (by decide +kernel) rfl
theorem cw11_87 : cCw RX11 87 yX3_faultIn cX3_faultIn 4 (some .int) 1 := ⟨kd_3_faultIn, mt_at 1566 (by decide +kernel) rfl, mt_at 2 (by decide +kernel) rfl, by decide +kernel⟩
theorem cw11_109 : cCw RX11 109 yX3_enter cX3_enter 3 (some .int) 1 := ⟨kd_3_enter, mt_at 1637 (by decide +kernel) rfl, mt_at 2 (by decide +kernel) rfl, by decide +kernel⟩
section
variable {p : Program} {l : Launch} {e : Env} {R : Room} {s : State} {m : MethodId} {args : Array Value} {below : List Frame} {meth : Method} {c : Code} {H : Heap} {locs : List Loc} {cells slots : Nat} {Q : State → Prop}
variable {D : cG} {S S0 : cSt} {cc : ByteArray} {nL : Nat} {pc : Nat} {ls : Array Slot} {rest : List Value} {H0 : Heap} {nF nR nC nS : Nat} {ret : Option FieldType} {a : Nat}
theorem pk11_91 {x : Int32} (C : cY p R s m args meth c RX11 cc nL nF nC nS nR ret) (X : cX D s) (hJ : cJ D S0 H0 S H locs) (hk : kK S a = 4) (hdg : decode cc pc = .ok (.putfield 91, 3)) (kk : ∀ (H1 : Heap) (locs1 : List Loc), cJ D S0 H0 (cPi S a 3 x) H1 locs1 → W p l e R s m args below meth c H1 locs1 cells slots Q (F0 m (pc + 3) ls (rest))) : W p l e R s m args below meth c H locs cells slots Q (F0 m pc ls (.int x :: .ref a :: rest)) := c_put (S1 := (cPi S a 3 x)) C X hJ 3 (by decide) ly_3 hk 3 (by decide) (by decide +kernel)  rfl rfl (by decide) rfl rfl (fun j _ => c_vI (by decide +kernel)) c_oPi (mt_at 53 (by decide +kernel) (by decide +kernel)) hdg kk
end
section
variable {p : Program} {l : Launch} {e : Env} {R : Room} {s : State} {m : MethodId} {args : Array Value} {below : List Frame} {meth : Method} {c : Code} {D : cG} {S0 S9 : cSt} {tg : Nat} {r : Int32}
noncomputable def fk_11_kind (S : cSt) (v0 : Nat) : Option (Nat × Int32 × cSt) :=
ckk S v0 12 (bd (kR S v0 0) fun a1 =>
ckk S a1 4 (bd (fk_3_takeTape S a1) fun q_r3 => lt q_r3.1 fun r3 => lt q_r3.2 fun S2 =>
ckk S2 v0 12 (bd (kR S2 v0 0) fun a4 =>
ckk S2 v0 12 (bd (kR S2 v0 0) fun a5 =>
ckk S2 a5 4 (bd (fk_3_faultIn S2 a5 r3) fun r6 =>
ckk S2 a4 4 (lt (cPi S2 a4 3 r6) fun S7 =>
ckk S7 v0 12 (bd (kR S7 v0 0) fun a8 =>
ckk S7 a8 4 (
if (kF S7 a8 3) = (-1 : Int32) then (
ckk S7 v0 12 (bd (kR S7 v0 0) fun a10 =>
ckk S7 a10 4 (
if (kF S7 a10 2) < (8 : Int32) then (
ckk S7 v0 12 (bd (kR S7 v0 0) fun a12 =>
ckk S7 a12 4 (bd (fk_3_enter S7 a12 r3) fun q_r14 => lt q_r14.1 fun r14 => lt q_r14.2 fun S13 =>
some (0, r14, S13))))
else (
some (2, (0 : Int32), S7)))))
else (
some (1, (0 : Int32), S7))))))))))
set_option maxRecDepth 100000 in
set_option maxHeartbeats 4000000 in
theorem tk_11_kind (l : Launch) (hl0 : l.stackTraces = false) {D : cG} {S : cSt} {v0 : Nat} {tg : Nat} {r : Int32} {S9 : cSt} (h : fk_11_kind S v0 = some (tg, r, S9)) : vx_Met l yX11_kind (Cond.code yX11_kind cX11_kind 2 (some .int) :: lw_g) { frames := 6, cells := 1, slots := 6, locals := 149 } (kPt [.ref v0] D S) (kWt tg r D S S9) (kXt tg D S S9) 1 6 (cA S) := by
  refine vx_ofW (cc := cX11_kind) (maxL := 2) (ret := (some .int)) (by decide) rfl ?_
  intro p e s m args below meth c s₁ B hml ht hv
  obtain ⟨rfl, hW, X, hU⟩ := hv
  have C : cY p (headSpec (Cond.code yX11_kind cX11_kind 2 (some .int) :: lw_g) { frames := 6, cells := 1, slots := 6, locals := 149 }).room s m _ meth c RX11 cX11_kind 2 6 1 6 149 (some .int) := ⟨B.exec, B.bytes, hml, findClass_of_methodNamed B.named, fun w hw => atoms_spec (ws := Cond.code yX11_kind cX11_kind 2 (some .int) :: lw_g) B.pre w (List.mem_cons_of_mem _ hw), ⟨Nat.le_refl _, Nat.le_refl _, Nat.le_refl _, Nat.le_refl _⟩, B.returns, B.notSynchronized⟩
  have hl := lv_entry ([.ref v0]) (n := 2) (Nat.le_of_ble_eq_true rfl)
  rw [lg_entry_eq]
  generalize (lg_sl ([.ref v0]) ++ List.replicate (2 - (lg_sl ([.ref v0])).length) Slot.unset).toArray = ls at hl ⊢
  have hl : lv_has ls 2 [(0, .ref v0)] := hl
  have hJ : cJ D S s.heap S s.heap [] := cJ.rf hW
  have Y : kTh l D S s c := ⟨hl0, hW, hU, ht⟩
  unfold fk_11_kind at h
  refine lv_aload_n C.1 C.2.1 dX11_kind_0 rfl (lv_at hl 0 rfl) ?_
  obtain ⟨hk, h⟩ := ckk_ok h
  obtain ⟨a1, h_a1, h⟩ := bd_ok h
  refine gk11_12 C X hJ.1 hk h_a1 dX11_kind_1 ?_
  obtain ⟨hk, h⟩ := ckk_ok h
  obtain ⟨⟨r3, S2⟩, h_S2, h⟩ := bd_ok h
  replace h := lt2_ok h
  refine c_callW (rest := []) C X hJ hl.1 3 (by decide) hk [] (tk_3_takeTape l h_S2) cw11_83 ki_3_takeTape kl_3_takeTape rfl ⟨by decide, by decide⟩ ⟨(by decide), (by decide)⟩ rfl (Nat.le_of_ble_eq_true rfl) dX11_kind_4 (fun H locs hJ => ?_)
  refine W.eq (g2 := F0 m 7 ls [.int r3]) rfl ?_
  refine lv_istore_n (lv' := [(1, .int r3), (0, .ref v0)]) C.1 C.2.1 dX11_kind_7 rfl hl (by decide) rfl (fun ls hl => ?_)
  refine lv_aload_n C.1 C.2.1 dX11_kind_8 rfl (lv_at hl 1 rfl) ?_
  obtain ⟨hk, h⟩ := ckk_ok h
  obtain ⟨a4, h_a4, h⟩ := bd_ok h
  refine gk11_12 C X hJ.1 hk h_a4 dX11_kind_9 ?_
  refine lv_aload_n C.1 C.2.1 dX11_kind_12 rfl (lv_at hl 1 rfl) ?_
  obtain ⟨hk, h⟩ := ckk_ok h
  obtain ⟨a5, h_a5, h⟩ := bd_ok h
  refine gk11_12 C X hJ.1 hk h_a5 dX11_kind_13 ?_
  refine lv_iload_n C.1 C.2.1 dX11_kind_16 rfl (lv_at hl 0 rfl) ?_
  obtain ⟨hk, h⟩ := ckk_ok h
  obtain ⟨r6, h_r6, h⟩ := bd_ok h
  refine c_callR (rest := [.ref a4]) C X hJ.1 hl.1 3 (by decide) hk [.int r3] (tk_3_faultIn l h_r6) cw11_87 ki_3_faultIn kl_3_faultIn rfl ⟨by decide, by decide⟩ ⟨(by decide), (by decide)⟩ rfl (Nat.le_of_ble_eq_true rfl) dX11_kind_17 ?_
  refine W.eq (g2 := F0 m 20 ls [.int r6, .ref a4]) rfl ?_
  obtain ⟨hk, h⟩ := ckk_ok h
  refine pk11_91 C X hJ hk dX11_kind_20 (fun H locs hJ => ?_)
  refine lt_ok h (fun S7 e_S7 h => ?_)
  rw [e_S7] at hJ
  refine lv_aload_n C.1 C.2.1 dX11_kind_23 rfl (lv_at hl 1 rfl) ?_
  obtain ⟨hk, h⟩ := ckk_ok h
  obtain ⟨a8, h_a8, h⟩ := bd_ok h
  refine gk11_12 C X hJ.1 hk h_a8 dX11_kind_24 ?_
  obtain ⟨hk, h⟩ := ckk_ok h
  refine gk11_91 C X hJ.1 hk dX11_kind_27 ?_
  refine lv_iconst (v := -1) C.1 C.2.1 dX11_kind_30 (by decide) ?_
  refine lv_icmp_eq (tgt := 44) C.1 C.2.1 dX11_kind_31 (by decide) (fun c9 => ?_) (fun c9 => ?_)
  · have h := if_t h c9
    refine lv_aload_n C.1 C.2.1 dX11_kind_44 rfl (lv_at hl 1 rfl) ?_
    obtain ⟨hk, h⟩ := ckk_ok h
    obtain ⟨a10, h_a10, h⟩ := bd_ok h
    refine gk11_12 C X hJ.1 hk h_a10 dX11_kind_45 ?_
    obtain ⟨hk, h⟩ := ckk_ok h
    refine gk11_101 C X hJ.1 hk dX11_kind_48 ?_
    refine lv_bipush (v := 8) C.1 C.2.1 dX11_kind_51 (by decide) ?_
    refine lv_icmp_lt (tgt := 66) C.1 C.2.1 dX11_kind_53 (by decide) (fun c11 => ?_) (fun c11 => ?_)
    · have h := if_t h c11
      refine lv_aload_n C.1 C.2.1 dX11_kind_66 rfl (lv_at hl 1 rfl) ?_
      obtain ⟨hk, h⟩ := ckk_ok h
      obtain ⟨a12, h_a12, h⟩ := bd_ok h
      refine gk11_12 C X hJ.1 hk h_a12 dX11_kind_67 ?_
      refine lv_iload_n C.1 C.2.1 dX11_kind_70 rfl (lv_at hl 0 rfl) ?_
      obtain ⟨hk, h⟩ := ckk_ok h
      obtain ⟨⟨r14, S13⟩, h_S13, h⟩ := bd_ok h
      replace h := lt2_ok h
      refine c_callW (rest := []) C X hJ hl.1 3 (by decide) hk [.int r3] (tk_3_enter l h_S13) cw11_109 ki_3_enter kl_3_enter rfl ⟨by decide, by decide⟩ ⟨(by decide), (by decide)⟩ rfl (Nat.le_of_ble_eq_true rfl) dX11_kind_71 (fun H locs hJ => ?_)
      refine W.eq (g2 := F0 m 74 ls [.int r14]) rfl ?_
      cases h
      refine W.widen (k := 1) (n := 6) (by decide) (by decide) ?_
      exact c_retiT C hJ dX11_kind_74
    · have h := if_f h c11
      cases h
      exact c_thrS (text := "there are eight kinds") (is := 106) (tg := 2) (names := ["java/lang/RuntimeException", "java/lang/Exception"]) C Y hJ hl.1 (by decide) xk11_104 xi_2 (by decide +kernel) xa11_108 (by decide +kernel) (by decide +kernel) dX11_kind_56 dX11_kind_59 dX11_kind_60 dX11_kind_62 dX11_kind_65 (by decide) (by decide) (by decide) (by decide)
  · have h := if_f h c9
    cases h
    exact c_thrS (text := "the tape is no kind") (is := 96) (tg := 1) (names := ["java/lang/RuntimeException", "java/lang/Exception"]) C Y hJ hl.1 (by decide) xk11_94 xi_1 (by decide +kernel) xa11_98 (by decide +kernel) (by decide +kernel) dX11_kind_34 dX11_kind_37 dX11_kind_38 dX11_kind_40 dX11_kind_43 (by decide) (by decide) (by decide) (by decide)
end
theorem dX11_value_0 : decode cX11_value 0 = .ok (.aload_n 0, 1) := by decide +kernel
theorem dX11_value_1 : decode cX11_value 1 = .ok (.iload_n 1, 1) := by decide +kernel
theorem dX11_value_2 : decode cX11_value 2 = .ok (.iload_n 2, 1) := by decide +kernel
theorem dX11_value_3 : decode cX11_value 3 = .ok (.invokevirtual 295, 3) := by decide +kernel
theorem dX11_value_6 : decode cX11_value 6 = .ok (.istore 5, 2) := by decide +kernel
theorem dX11_value_8 : decode cX11_value 8 = .ok (.aload_n 0, 1) := by decide +kernel
theorem dX11_value_9 : decode cX11_value 9 = .ok (.iload 5, 2) := by decide +kernel
theorem dX11_value_11 : decode cX11_value 11 = .ok (.iload_n 3, 1) := by decide +kernel
theorem dX11_value_12 : decode cX11_value 12 = .ok (.invokevirtual 316, 3) := by decide +kernel
theorem dX11_value_15 : decode cX11_value 15 = .ok (.istore 6, 2) := by decide +kernel
theorem dX11_value_17 : decode cX11_value 17 = .ok (.iload 6, 2) := by decide +kernel
theorem dX11_value_19 : decode cX11_value 19 = .ok (.bipush 32, 2) := by decide +kernel
theorem dX11_value_21 : decode cX11_value 21 = .ok (.if_icmp .eq 8, 3) := by decide +kernel
theorem dX11_value_24 : decode cX11_value 24 = .ok (.iload 4, 2) := by decide +kernel
theorem dX11_value_26 : decode cX11_value 26 = .ok (.ifCond .ge 14, 3) := by decide +kernel
theorem dX11_value_29 : decode cX11_value 29 = .ok (.new 323, 3) := by decide +kernel
theorem dX11_value_32 : decode cX11_value 32 = .ok (.dup, 1) := by decide +kernel
theorem dX11_value_33 : decode cX11_value 33 = .ok (.ldc_w 325, 3) := by decide +kernel
theorem dX11_value_36 : decode cX11_value 36 = .ok (.invokespecial 327, 3) := by decide +kernel
theorem dX11_value_39 : decode cX11_value 39 = .ok (.athrow, 1) := by decide +kernel
theorem dX11_value_40 : decode cX11_value 40 = .ok (.aload_n 0, 1) := by decide +kernel
theorem dX11_value_41 : decode cX11_value 41 = .ok (.getfield 25, 3) := by decide +kernel
theorem dX11_value_44 : decode cX11_value 44 = .ok (.iload_n 1, 1) := by decide +kernel
theorem dX11_value_45 : decode cX11_value 45 = .ok (.aaload, 1) := by decide +kernel
theorem dX11_value_46 : decode cX11_value 46 = .ok (.getfield 147, 3) := by decide +kernel
theorem dX11_value_49 : decode cX11_value 49 = .ok (.astore 7, 2) := by decide +kernel
theorem dX11_value_51 : decode cX11_value 51 = .ok (.iload 5, 2) := by decide +kernel
theorem dX11_value_53 : decode cX11_value 53 = .ok (.bipush 8, 2) := by decide +kernel
theorem dX11_value_55 : decode cX11_value 55 = .ok (.imul, 1) := by decide +kernel
theorem dX11_value_56 : decode cX11_value 56 = .ok (.iload_n 3, 1) := by decide +kernel
theorem dX11_value_57 : decode cX11_value 57 = .ok (.iadd, 1) := by decide +kernel
theorem dX11_value_58 : decode cX11_value 58 = .ok (.istore 8, 2) := by decide +kernel
theorem dX11_value_60 : decode cX11_value 60 = .ok (.iload 4, 2) := by decide +kernel
theorem dX11_value_62 : decode cX11_value 62 = .ok (.aload_n 0, 1) := by decide +kernel
theorem dX11_value_63 : decode cX11_value 63 = .ok (.aload 7, 2) := by decide +kernel
theorem dX11_value_65 : decode cX11_value 65 = .ok (.iload 8, 2) := by decide +kernel
theorem dX11_value_67 : decode cX11_value 67 = .ok (.iload 6, 2) := by decide +kernel
theorem dX11_value_69 : decode cX11_value 69 = .ok (.invokevirtual 319, 3) := by decide +kernel
theorem dX11_value_72 : decode cX11_value 72 = .ok (.if_icmp .lt 14, 3) := by decide +kernel
theorem dX11_value_75 : decode cX11_value 75 = .ok (.new 323, 3) := by decide +kernel
theorem dX11_value_78 : decode cX11_value 78 = .ok (.dup, 1) := by decide +kernel
theorem dX11_value_79 : decode cX11_value 79 = .ok (.ldc_w 328, 3) := by decide +kernel
theorem dX11_value_82 : decode cX11_value 82 = .ok (.invokespecial 327, 3) := by decide +kernel
theorem dX11_value_85 : decode cX11_value 85 = .ok (.athrow, 1) := by decide +kernel
theorem dX11_value_86 : decode cX11_value 86 = .ok (.iload 6, 2) := by decide +kernel
theorem dX11_value_88 : decode cX11_value 88 = .ok (.bipush 67, 2) := by decide +kernel
theorem dX11_value_90 : decode cX11_value 90 = .ok (.if_icmp .ne 11, 3) := by decide +kernel
theorem dX11_value_93 : decode cX11_value 93 = .ok (.aload 7, 2) := by decide +kernel
theorem dX11_value_95 : decode cX11_value 95 = .ok (.iload 8, 2) := by decide +kernel
theorem dX11_value_97 : decode cX11_value 97 = .ok (.invokevirtual 330, 3) := by decide +kernel
theorem dX11_value_100 : decode cX11_value 100 = .ok (.ireturn, 1) := by decide +kernel
theorem dX11_value_101 : decode cX11_value 101 = .ok (.iload 6, 2) := by decide +kernel
theorem dX11_value_103 : decode cX11_value 103 = .ok (.bipush 66, 2) := by decide +kernel
theorem dX11_value_105 : decode cX11_value 105 = .ok (.if_icmp .ne 13, 3) := by decide +kernel
theorem dX11_value_108 : decode cX11_value 108 = .ok (.aload 7, 2) := by decide +kernel
theorem dX11_value_110 : decode cX11_value 110 = .ok (.iload 8, 2) := by decide +kernel
theorem dX11_value_112 : decode cX11_value 112 = .ok (.iload 4, 2) := by decide +kernel
theorem dX11_value_114 : decode cX11_value 114 = .ok (.invokevirtual 333, 3) := by decide +kernel
theorem dX11_value_117 : decode cX11_value 117 = .ok (.ireturn, 1) := by decide +kernel
theorem dX11_value_118 : decode cX11_value 118 = .ok (.aload_n 0, 1) := by decide +kernel
theorem dX11_value_119 : decode cX11_value 119 = .ok (.aload 7, 2) := by decide +kernel
theorem dX11_value_121 : decode cX11_value 121 = .ok (.iload 8, 2) := by decide +kernel
theorem dX11_value_123 : decode cX11_value 123 = .ok (.iload 6, 2) := by decide +kernel
theorem dX11_value_125 : decode cX11_value 125 = .ok (.iload 4, 2) := by decide +kernel
theorem dX11_value_127 : decode cX11_value 127 = .ok (.invokevirtual 336, 3) := by decide +kernel
theorem dX11_value_130 : decode cX11_value 130 = .ok (.astore 9, 2) := by decide +kernel
theorem dX11_value_132 : decode cX11_value 132 = .ok (.aload 9, 2) := by decide +kernel
theorem dX11_value_134 : decode cX11_value 134 = .ok (.ifnonnull 7, 3) := by decide +kernel
theorem dX11_value_137 : decode cX11_value 137 = .ok (.iconst 0, 1) := by decide +kernel
theorem dX11_value_138 : decode cX11_value 138 = .ok (.goto 8, 3) := by decide +kernel
theorem dX11_value_141 : decode cX11_value 141 = .ok (.aload 9, 2) := by decide +kernel
theorem dX11_value_143 : decode cX11_value 143 = .ok (.getfield 340, 3) := by decide +kernel
theorem dX11_value_146 : decode cX11_value 146 = .ok (.ireturn, 1) := by decide +kernel
theorem kd_11_value : Cond.code yX11_value cX11_value 10 (some .int) ∈ lw_g := mt_at 1649 (by decide +kernel) rfl
theorem ki_11_value : Cond.instanceMethod yX11_value ∈ lw_g := mt_at 1647 (by decide +kernel) rfl
theorem kl_11_value : Cond.selects (kRn 11) yX11_value yX11_value ∈ lw_g := mt_at 1648 (by decide +kernel) rfl
theorem cw11_330 : cCw RX11 330 yX10_sumOf cX10_sumOf 4 (some .int) 1 := ⟨kd_10_sumOf, mt_at 1667 (by decide +kernel) rfl, mt_at 10 (by decide +kernel) rfl, by decide +kernel⟩
section
variable {p : Program} {l : Launch} {e : Env} {R : Room} {s : State} {m : MethodId} {args : Array Value} {below : List Frame} {meth : Method} {c : Code} {D : cG} {S0 S9 : cSt} {tg : Nat} {r : Int32}
noncomputable def fk_11_value_29 (S : cSt) : Option (Nat × Int32 × cSt) :=
some (3, (0 : Int32), S)
set_option maxRecDepth 100000 in
set_option maxHeartbeats 4000000 in
theorem wk_11_value_29 (C : cY p R s m args meth c RX11 cX11_value 10 6 1 6 92 (some .int)) (X : cX D s) (Y : kTh l D S0 s c) : ∀ {S : cSt} {H : Heap} {locs : List Loc} {ls : Array Slot}, fk_11_value_29 S = some (tg, r, S9) → cJ D S0 s.heap S H locs → lv_has ls 10 [] → W p l e R s m args below meth c H locs 0 0 (vx_MQ below (kWt tg r D S0 S9) (kXt tg D S0 S9) args s 1 6 (cA S0)) (F0 m 29 ls []) := by
  intro S H locs ls h hJ hl
  unfold fk_11_value_29 at h
  cases h
  exact c_thrN (text := "no such part or value") (is := 325) (tg := 3) (Y1 := "java/lang/RuntimeException") (r1 := ["java/lang/Exception"]) xz_0 xz_1 xz_2 xz_5 C Y hJ hl.1 (by decide) xk11_323 xi_3 (by decide +kernel) xa11_327 (by decide +kernel) (by decide +kernel) (by decide +kernel) dX11_value_29 dX11_value_32 dX11_value_33 dX11_value_36 dX11_value_39 (by decide) (by decide) (by decide) (by decide)
noncomputable def fk_11_value_146 (S : cSt) (s0 : Int32) : Option (Nat × Int32 × cSt) :=
some (0, s0, S)
set_option maxRecDepth 100000 in
set_option maxHeartbeats 4000000 in
theorem wk_11_value_146 (C : cY p R s m args meth c RX11 cX11_value 10 6 1 6 92 (some .int)) (X : cX D s) (Y : kTh l D S0 s c) : ∀ {S : cSt} {s0 : Int32} {H : Heap} {locs : List Loc} {ls : Array Slot}, fk_11_value_146 S s0 = some (tg, r, S9) → cJ D S0 s.heap S H locs → lv_has ls 10 [] → W p l e R s m args below meth c H locs 0 0 (vx_MQ below (kWt tg r D S0 S9) (kXt tg D S0 S9) args s 1 6 (cA S0)) (F0 m 146 ls [.int s0]) := by
  intro S s0 H locs ls h hJ hl
  unfold fk_11_value_146 at h
  cases h
  refine W.widen (k := 1) (n := 6) (by decide) (by decide) ?_
  exact c_retiT C hJ dX11_value_146
noncomputable def fk_11_value (S : cSt) (v0 : Nat) (v1 : Int32) (v2 : Int32) (v3 : Int32) (v4 : Int32) : Option (Nat × Int32 × cSt) :=
ckk S v0 12 (bd (fk_11_madeSlot S v0 v1 v2) fun r1 =>
ckk S v0 12 (bd (fk_11_ruleAt S v0 r1 v3) fun r2 =>
if r2 = (32 : Int32) then (
fk_11_value_29 S)
else (
if 0 ≤ v4 then (
ckk S v0 12 (bd (kR S v0 2) fun a5 =>
ckk S a5 31 (ck v1 (kL S a5) (lt (kO S a5 (Int32.toNatClampNeg v1)) fun o6 =>
bd o6 fun a7 =>
ckk S a7 8 (bd (kR S a7 2) fun a8 =>
lt ((r1 * (8 : Int32)) + v3) fun x9 =>
ckk S v0 12 (bd (fk_11_findValues S v0 a8 x9 r2) fun q_r11 => lt q_r11.1 fun r11 => lt q_r11.2 fun S10 =>
if v4 < r11 then (
if r2 = (67 : Int32) then (
ckk S10 a8 11 (bd (fk_10_sumOf S10 a8 x9) fun r19 =>
some (0, r19, S10)))
else (
if r2 = (66 : Int32) then (
ckk S10 a8 11 (bd (fk_10_shareOf S10 a8 x9 v4) fun q_r18 => lt q_r18.1 fun r18 => lt q_r18.2 fun S17 =>
some (0, r18, S17)))
else (
ckk S10 v0 12 (bd (fk_11_sourceAt S10 v0 a8 x9 r2 v4) fun o15 =>
cs o15 (
fk_11_value_146 S10 (0 : Int32)) (fun a16 =>
ckk S10 a16 9 (
fk_11_value_146 S10 (kF S10 a16 4)))))))
else (
some (3, (0 : Int32), S10))))))))
else (
fk_11_value_29 S))))
set_option maxRecDepth 100000 in
set_option maxHeartbeats 4000000 in
theorem tk_11_value (l : Launch) (hl0 : l.stackTraces = false) {D : cG} {S : cSt} {v0 : Nat} {v1 : Int32} {v2 : Int32} {v3 : Int32} {v4 : Int32} {tg : Nat} {r : Int32} {S9 : cSt} (h : fk_11_value S v0 v1 v2 v3 v4 = some (tg, r, S9)) : vx_Met l yX11_value (Cond.code yX11_value cX11_value 10 (some .int) :: lw_g) { frames := 6, cells := 1, slots := 6, locals := 92 } (kPt [.ref v0, .int v1, .int v2, .int v3, .int v4] D S) (kWt tg r D S S9) (kXt tg D S S9) 1 6 (cA S) := by
  refine vx_ofW (cc := cX11_value) (maxL := 10) (ret := (some .int)) (by decide) rfl ?_
  intro p e s m args below meth c s₁ B hml ht hv
  obtain ⟨rfl, hW, X, hU⟩ := hv
  have C : cY p (headSpec (Cond.code yX11_value cX11_value 10 (some .int) :: lw_g) { frames := 6, cells := 1, slots := 6, locals := 92 }).room s m _ meth c RX11 cX11_value 10 6 1 6 92 (some .int) := ⟨B.exec, B.bytes, hml, findClass_of_methodNamed B.named, fun w hw => atoms_spec (ws := Cond.code yX11_value cX11_value 10 (some .int) :: lw_g) B.pre w (List.mem_cons_of_mem _ hw), ⟨Nat.le_refl _, Nat.le_refl _, Nat.le_refl _, Nat.le_refl _⟩, B.returns, B.notSynchronized⟩
  have hl := lv_entry ([.ref v0, .int v1, .int v2, .int v3, .int v4]) (n := 10) (Nat.le_of_ble_eq_true rfl)
  rw [lg_entry_eq]
  generalize (lg_sl ([.ref v0, .int v1, .int v2, .int v3, .int v4]) ++ List.replicate (10 - (lg_sl ([.ref v0, .int v1, .int v2, .int v3, .int v4])).length) Slot.unset).toArray = ls at hl ⊢
  have hl : lv_has ls 10 [(0, .ref v0), (1, .int v1), (2, .int v2), (3, .int v3), (4, .int v4)] := hl
  have hJ : cJ D S s.heap S s.heap [] := cJ.rf hW
  have Y : kTh l D S s c := ⟨hl0, hW, hU, ht⟩
  unfold fk_11_value at h
  refine lv_aload_n C.1 C.2.1 dX11_value_0 rfl (lv_at hl 0 rfl) ?_
  refine lv_iload_n C.1 C.2.1 dX11_value_1 rfl (lv_at hl 1 rfl) ?_
  refine lv_iload_n C.1 C.2.1 dX11_value_2 rfl (lv_at hl 2 rfl) ?_
  obtain ⟨hk, h⟩ := ckk_ok h
  obtain ⟨r1, h_r1, h⟩ := bd_ok h
  refine c_callR (rest := []) C X hJ.1 hl.1 11 (by decide) hk [.int v1, .int v2] (tk_11_madeSlot l h_r1) cw11_295 ki_11_madeSlot kl_11_madeSlot rfl ⟨by decide, by decide⟩ ⟨(by decide), (by decide)⟩ rfl (Nat.le_of_ble_eq_true rfl) dX11_value_3 ?_
  refine W.eq (g2 := F0 m 6 ls [.int r1]) rfl ?_
  refine lv_istore (lv' := [(5, .int r1), (0, .ref v0), (1, .int v1), (2, .int v2), (3, .int v3), (4, .int v4)]) C.1 C.2.1 dX11_value_6 hl (by decide) rfl (fun ls hl => ?_)
  refine lv_aload_n C.1 C.2.1 dX11_value_8 rfl (lv_at hl 1 rfl) ?_
  refine lv_iload C.1 C.2.1 dX11_value_9 (lv_at hl 0 rfl) ?_
  refine lv_iload_n C.1 C.2.1 dX11_value_11 rfl (lv_at hl 4 rfl) ?_
  obtain ⟨hk, h⟩ := ckk_ok h
  obtain ⟨r2, h_r2, h⟩ := bd_ok h
  refine c_callR (rest := []) C X hJ.1 hl.1 11 (by decide) hk [.int r1, .int v3] (tk_11_ruleAt l h_r2) cw11_316 ki_11_ruleAt kl_11_ruleAt rfl ⟨by decide, by decide⟩ ⟨(by decide), (by decide)⟩ rfl (Nat.le_of_ble_eq_true rfl) dX11_value_12 ?_
  refine W.eq (g2 := F0 m 15 ls [.int r2]) rfl ?_
  refine lv_istore (lv' := [(6, .int r2), (5, .int r1), (0, .ref v0), (1, .int v1), (2, .int v2), (3, .int v3), (4, .int v4)]) C.1 C.2.1 dX11_value_15 hl (by decide) rfl (fun ls hl => ?_)
  refine lv_iload C.1 C.2.1 dX11_value_17 (lv_at hl 0 rfl) ?_
  refine lv_bipush (v := 32) C.1 C.2.1 dX11_value_19 (by decide) ?_
  refine lv_icmp_eq (tgt := 29) C.1 C.2.1 dX11_value_21 (by decide) (fun c3 => ?_) (fun c3 => ?_)
  · have h := if_t h c3
    exact wk_11_value_29 C X Y h hJ (lv_sub hl [] rfl)
  · have h := if_f h c3
    refine lv_iload C.1 C.2.1 dX11_value_24 (lv_at hl 6 rfl) ?_
    refine lv_if_ge (tgt := 40) C.1 C.2.1 dX11_value_26 (by decide) (fun c4 => ?_) (fun c4 => ?_)
    · have h := if_t h c4
      refine lv_aload_n C.1 C.2.1 dX11_value_40 rfl (lv_at hl 2 rfl) ?_
      obtain ⟨hk, h⟩ := ckk_ok h
      obtain ⟨a5, h_a5, h⟩ := bd_ok h
      refine gk11_25 C X hJ.1 hk h_a5 dX11_value_41 ?_
      refine lv_iload_n C.1 C.2.1 dX11_value_44 rfl (lv_at hl 3 rfl) ?_
      obtain ⟨hk, h⟩ := ckk_ok h
      obtain ⟨hin2, h⟩ := ck_ok h
      refine c_aald C 31 (by decide) X.2.2.2.2.2.1 hJ.1 hk hin2 dX11_value_45 ?_
      refine lt_ok h (fun o6 e_o6 h => ?_)
      refine lv_nmq e_o6 ?_
      obtain ⟨a7, e_a7, h⟩ := bd_ok h
      revert h; subst e_a7; intro h
      obtain ⟨hk, h⟩ := ckk_ok h
      obtain ⟨a8, h_a8, h⟩ := bd_ok h
      refine gk11_147 C X hJ.1 hk h_a8 dX11_value_46 ?_
      refine lv_astore (lv' := [(7, .ref a8), (6, .int r2), (5, .int r1), (0, .ref v0), (1, .int v1), (2, .int v2), (3, .int v3), (4, .int v4)]) C.1 C.2.1 dX11_value_49 hl (by decide) rfl (fun ls hl => ?_)
      refine lv_iload C.1 C.2.1 dX11_value_51 (lv_at hl 2 rfl) ?_
      refine lv_bipush (v := 8) C.1 C.2.1 dX11_value_53 (by decide) ?_
      refine lv_imul C.1 C.2.1 dX11_value_55 ?_
      refine lv_iload_n C.1 C.2.1 dX11_value_56 rfl (lv_at hl 6 rfl) ?_
      refine lv_iadd C.1 C.2.1 dX11_value_57 ?_
      refine lt_ok h (fun x9 e_x9 h => ?_)
      refine lv_nm e_x9 ?_
      refine lv_istore (lv' := [(8, .int x9), (7, .ref a8), (6, .int r2), (5, .int r1), (0, .ref v0), (1, .int v1), (2, .int v2), (3, .int v3), (4, .int v4)]) C.1 C.2.1 dX11_value_58 hl (by decide) rfl (fun ls hl => ?_)
      refine lv_iload C.1 C.2.1 dX11_value_60 (lv_at hl 8 rfl) ?_
      refine lv_aload_n C.1 C.2.1 dX11_value_62 rfl (lv_at hl 4 rfl) ?_
      refine lv_aload C.1 C.2.1 dX11_value_63 (lv_at hl 1 rfl) ?_
      refine lv_iload C.1 C.2.1 dX11_value_65 (lv_at hl 0 rfl) ?_
      refine lv_iload C.1 C.2.1 dX11_value_67 (lv_at hl 2 rfl) ?_
      obtain ⟨hk, h⟩ := ckk_ok h
      obtain ⟨⟨r11, S10⟩, h_S10, h⟩ := bd_ok h
      replace h := lt2_ok h
      refine c_callW (rest := [.int v4]) C X hJ hl.1 11 (by decide) hk [.ref a8, .int x9, .int r2] (tk_11_findValues l h_S10) cw11_319 ki_11_findValues kl_11_findValues rfl ⟨by decide, by decide⟩ ⟨(by decide), (by decide)⟩ rfl (Nat.le_of_ble_eq_true rfl) dX11_value_69 (fun H locs hJ => ?_)
      refine W.eq (g2 := F0 m 72 ls [.int r11, .int v4]) rfl ?_
      refine lv_icmp_lt (tgt := 86) C.1 C.2.1 dX11_value_72 (by decide) (fun c12 => ?_) (fun c12 => ?_)
      · have h := if_t h c12
        refine lv_iload C.1 C.2.1 dX11_value_86 (lv_at hl 2 rfl) ?_
        refine lv_bipush (v := 67) C.1 C.2.1 dX11_value_88 (by decide) ?_
        refine lv_icmp_ne (tgt := 101) C.1 C.2.1 dX11_value_90 (by decide) (fun c13 => ?_) (fun c13 => ?_)
        · have h := if_f h c13
          refine lv_iload C.1 C.2.1 dX11_value_101 (lv_at hl 2 rfl) ?_
          refine lv_bipush (v := 66) C.1 C.2.1 dX11_value_103 (by decide) ?_
          refine lv_icmp_ne (tgt := 118) C.1 C.2.1 dX11_value_105 (by decide) (fun c14 => ?_) (fun c14 => ?_)
          · have h := if_f h c14
            refine lv_aload_n C.1 C.2.1 dX11_value_118 rfl (lv_at hl 4 rfl) ?_
            refine lv_aload C.1 C.2.1 dX11_value_119 (lv_at hl 1 rfl) ?_
            refine lv_iload C.1 C.2.1 dX11_value_121 (lv_at hl 0 rfl) ?_
            refine lv_iload C.1 C.2.1 dX11_value_123 (lv_at hl 2 rfl) ?_
            refine lv_iload C.1 C.2.1 dX11_value_125 (lv_at hl 8 rfl) ?_
            obtain ⟨hk, h⟩ := ckk_ok h
            obtain ⟨o15, h_o15, h⟩ := bd_ok h
            refine c_callR (rest := []) C X hJ.1 hl.1 11 (by decide) hk [.ref a8, .int x9, .int r2, .int v4] (tk_11_sourceAt l h_o15) cw11_336 ki_11_sourceAt kl_11_sourceAt rfl ⟨by decide, by decide⟩ ⟨(by decide), (by decide)⟩ rfl (Nat.le_of_ble_eq_true rfl) dX11_value_127 ?_
            refine W.eq (g2 := F0 m 130 ls [va_rf o15]) rfl ?_
            refine lv_astoreq (o := o15) (lv' := [(9, va_rf o15), (8, .int x9), (7, .ref a8), (6, .int r2), (5, .int r1), (0, .ref v0), (1, .int v1), (2, .int v2), (3, .int v3), (4, .int v4)]) C.1 C.2.1 dX11_value_130 hl (by decide) rfl (fun ls hl => ?_)
            refine lv_aloadq (o := o15) C.1 C.2.1 dX11_value_132 (lv_at hl 0 rfl) ?_
            rcases o15 with _ | a16
            · replace h := cs_n h
              refine lv_ifnonnullN C.1 C.2.1 dX11_value_134 ?_
              refine lv_iconst (v := 0) C.1 C.2.1 dX11_value_137 (by decide) ?_
              refine lv_goto (tgt := 146) C.1 C.2.1 dX11_value_138 (by decide) ?_
              exact wk_11_value_146 C X Y h hJ (lv_sub hl [] rfl)
            · replace h := cs_s h
              refine lv_ifnonnull (tgt := 141) C.1 C.2.1 dX11_value_134 (by decide) ?_
              refine lv_aload C.1 C.2.1 dX11_value_141 (lv_at hl 0 rfl) ?_
              obtain ⟨hk, h⟩ := ckk_ok h
              refine gk11_340 C X hJ.1 hk dX11_value_143 ?_
              exact wk_11_value_146 C X Y h hJ (lv_sub hl [] rfl)
          · have h := if_t h c14
            refine lv_aload C.1 C.2.1 dX11_value_108 (lv_at hl 1 rfl) ?_
            refine lv_iload C.1 C.2.1 dX11_value_110 (lv_at hl 0 rfl) ?_
            refine lv_iload C.1 C.2.1 dX11_value_112 (lv_at hl 8 rfl) ?_
            obtain ⟨hk, h⟩ := ckk_ok h
            obtain ⟨⟨r18, S17⟩, h_S17, h⟩ := bd_ok h
            replace h := lt2_ok h
            refine c_callW (rest := []) C X hJ hl.1 10 (by decide) hk [.int x9, .int v4] (tk_10_shareOf l h_S17) cw11_333 ki_10_shareOf kl_10_shareOf rfl ⟨by decide, by decide⟩ ⟨(by decide), (by decide)⟩ rfl (Nat.le_of_ble_eq_true rfl) dX11_value_114 (fun H locs hJ => ?_)
            refine W.eq (g2 := F0 m 117 ls [.int r18]) rfl ?_
            cases h
            refine W.widen (k := 1) (n := 6) (by decide) (by decide) ?_
            exact c_retiT C hJ dX11_value_117
        · have h := if_t h c13
          refine lv_aload C.1 C.2.1 dX11_value_93 (lv_at hl 1 rfl) ?_
          refine lv_iload C.1 C.2.1 dX11_value_95 (lv_at hl 0 rfl) ?_
          obtain ⟨hk, h⟩ := ckk_ok h
          obtain ⟨r19, h_r19, h⟩ := bd_ok h
          refine c_callR (rest := []) C X hJ.1 hl.1 10 (by decide) hk [.int x9] (tk_10_sumOf l h_r19) cw11_330 ki_10_sumOf kl_10_sumOf rfl ⟨by decide, by decide⟩ ⟨(by decide), (by decide)⟩ rfl (Nat.le_of_ble_eq_true rfl) dX11_value_97 ?_
          refine W.eq (g2 := F0 m 100 ls [.int r19]) rfl ?_
          cases h
          refine W.widen (k := 1) (n := 6) (by decide) (by decide) ?_
          exact c_retiT C hJ dX11_value_100
      · have h := if_f h c12
        cases h
        exact c_thrN (text := "no such value") (is := 328) (tg := 3) (Y1 := "java/lang/RuntimeException") (r1 := ["java/lang/Exception"]) xz_0 xz_1 xz_2 xz_5 C Y hJ hl.1 (by decide) xk11_323 xi_3 (by decide +kernel) xa11_327 (by decide +kernel) (by decide +kernel) (by decide +kernel) dX11_value_75 dX11_value_78 dX11_value_79 dX11_value_82 dX11_value_85 (by decide) (by decide) (by decide) (by decide)
    · have h := if_f h c4
      exact wk_11_value_29 C X Y h hJ (lv_sub hl [] rfl)
end
theorem dX11_bound_0 : decode cX11_bound 0 = .ok (.aload_n 0, 1) := by decide +kernel
theorem dX11_bound_1 : decode cX11_bound 1 = .ok (.iload_n 1, 1) := by decide +kernel
theorem dX11_bound_2 : decode cX11_bound 2 = .ok (.iload_n 2, 1) := by decide +kernel
theorem dX11_bound_3 : decode cX11_bound 3 = .ok (.invokevirtual 295, 3) := by decide +kernel
theorem dX11_bound_6 : decode cX11_bound 6 = .ok (.istore 5, 2) := by decide +kernel
theorem dX11_bound_8 : decode cX11_bound 8 = .ok (.aload_n 0, 1) := by decide +kernel
theorem dX11_bound_9 : decode cX11_bound 9 = .ok (.iload 5, 2) := by decide +kernel
theorem dX11_bound_11 : decode cX11_bound 11 = .ok (.iload_n 3, 1) := by decide +kernel
theorem dX11_bound_12 : decode cX11_bound 12 = .ok (.invokevirtual 316, 3) := by decide +kernel
theorem dX11_bound_15 : decode cX11_bound 15 = .ok (.bipush 77, 2) := by decide +kernel
theorem dX11_bound_17 : decode cX11_bound 17 = .ok (.if_icmp .eq 14, 3) := by decide +kernel
theorem dX11_bound_20 : decode cX11_bound 20 = .ok (.new 323, 3) := by decide +kernel
theorem dX11_bound_23 : decode cX11_bound 23 = .ok (.dup, 1) := by decide +kernel
theorem dX11_bound_24 : decode cX11_bound 24 = .ok (.ldc_w 343, 3) := by decide +kernel
theorem dX11_bound_27 : decode cX11_bound 27 = .ok (.invokespecial 327, 3) := by decide +kernel
theorem dX11_bound_30 : decode cX11_bound 30 = .ok (.athrow, 1) := by decide +kernel
theorem dX11_bound_31 : decode cX11_bound 31 = .ok (.aload_n 0, 1) := by decide +kernel
theorem dX11_bound_32 : decode cX11_bound 32 = .ok (.getfield 25, 3) := by decide +kernel
theorem dX11_bound_35 : decode cX11_bound 35 = .ok (.iload_n 1, 1) := by decide +kernel
theorem dX11_bound_36 : decode cX11_bound 36 = .ok (.aaload, 1) := by decide +kernel
theorem dX11_bound_37 : decode cX11_bound 37 = .ok (.getfield 147, 3) := by decide +kernel
theorem dX11_bound_40 : decode cX11_bound 40 = .ok (.iload 5, 2) := by decide +kernel
theorem dX11_bound_42 : decode cX11_bound 42 = .ok (.bipush 8, 2) := by decide +kernel
theorem dX11_bound_44 : decode cX11_bound 44 = .ok (.imul, 1) := by decide +kernel
theorem dX11_bound_45 : decode cX11_bound 45 = .ok (.iload_n 3, 1) := by decide +kernel
theorem dX11_bound_46 : decode cX11_bound 46 = .ok (.iadd, 1) := by decide +kernel
theorem dX11_bound_47 : decode cX11_bound 47 = .ok (.iload 4, 2) := by decide +kernel
theorem dX11_bound_49 : decode cX11_bound 49 = .ok (.invokevirtual 345, 3) := by decide +kernel
theorem dX11_bound_52 : decode cX11_bound 52 = .ok (.astore 6, 2) := by decide +kernel
theorem dX11_bound_54 : decode cX11_bound 54 = .ok (.aload 6, 2) := by decide +kernel
theorem dX11_bound_56 : decode cX11_bound 56 = .ok (.ifnonnull 14, 3) := by decide +kernel
theorem dX11_bound_59 : decode cX11_bound 59 = .ok (.new 323, 3) := by decide +kernel
theorem dX11_bound_62 : decode cX11_bound 62 = .ok (.dup, 1) := by decide +kernel
theorem dX11_bound_63 : decode cX11_bound 63 = .ok (.ldc_w 349, 3) := by decide +kernel
theorem dX11_bound_66 : decode cX11_bound 66 = .ok (.invokespecial 327, 3) := by decide +kernel
theorem dX11_bound_69 : decode cX11_bound 69 = .ok (.athrow, 1) := by decide +kernel
theorem dX11_bound_70 : decode cX11_bound 70 = .ok (.aload 6, 2) := by decide +kernel
theorem dX11_bound_72 : decode cX11_bound 72 = .ok (.getfield 351, 3) := by decide +kernel
theorem dX11_bound_75 : decode cX11_bound 75 = .ok (.ireturn, 1) := by decide +kernel
theorem kd_11_bound : Cond.code yX11_bound cX11_bound 7 (some .int) ∈ lw_g := mt_at 1674 (by decide +kernel) rfl
theorem ki_11_bound : Cond.instanceMethod yX11_bound ∈ lw_g := mt_at 1672 (by decide +kernel) rfl
theorem kl_11_bound : Cond.selects (kRn 11) yX11_bound yX11_bound ∈ lw_g := mt_at 1673 (by decide +kernel) rfl
section
variable {p : Program} {l : Launch} {e : Env} {R : Room} {s : State} {m : MethodId} {args : Array Value} {below : List Frame} {meth : Method} {c : Code} {D : cG} {S0 S9 : cSt} {tg : Nat} {r : Int32}
noncomputable def fk_11_bound (S : cSt) (v0 : Nat) (v1 : Int32) (v2 : Int32) (v3 : Int32) (v4 : Int32) : Option (Nat × Int32 × cSt) :=
ckk S v0 12 (bd (fk_11_madeSlot S v0 v1 v2) fun r1 =>
ckk S v0 12 (bd (fk_11_ruleAt S v0 r1 v3) fun r2 =>
if r2 = (77 : Int32) then (
ckk S v0 12 (bd (kR S v0 2) fun a4 =>
ckk S a4 31 (ck v1 (kL S a4) (lt (kO S a4 (Int32.toNatClampNeg v1)) fun o5 =>
bd o5 fun a6 =>
ckk S a6 8 (bd (kR S a6 2) fun a7 =>
ckk S a7 11 (bd (fk_10_bindOf S a7 ((r1 * (8 : Int32)) + v3) v4) fun o8 =>
cs o8 (
some (3, (0 : Int32), S)) (fun a9 =>
ckk S a9 9 (
some (0, kF S a9 5, S)))))))))
else (
some (3, (0 : Int32), S))))
set_option maxRecDepth 100000 in
set_option maxHeartbeats 4000000 in
theorem tk_11_bound (l : Launch) (hl0 : l.stackTraces = false) {D : cG} {S : cSt} {v0 : Nat} {v1 : Int32} {v2 : Int32} {v3 : Int32} {v4 : Int32} {tg : Nat} {r : Int32} {S9 : cSt} (h : fk_11_bound S v0 v1 v2 v3 v4 = some (tg, r, S9)) : vx_Met l yX11_bound (Cond.code yX11_bound cX11_bound 7 (some .int) :: lw_g) { frames := 6, cells := 1, slots := 6, locals := 90 } (kPt [.ref v0, .int v1, .int v2, .int v3, .int v4] D S) (kWt tg r D S S9) (kXt tg D S S9) 1 6 (cA S) := by
  refine vx_ofW (cc := cX11_bound) (maxL := 7) (ret := (some .int)) (by decide) rfl ?_
  intro p e s m args below meth c s₁ B hml ht hv
  obtain ⟨rfl, hW, X, hU⟩ := hv
  have C : cY p (headSpec (Cond.code yX11_bound cX11_bound 7 (some .int) :: lw_g) { frames := 6, cells := 1, slots := 6, locals := 90 }).room s m _ meth c RX11 cX11_bound 7 6 1 6 90 (some .int) := ⟨B.exec, B.bytes, hml, findClass_of_methodNamed B.named, fun w hw => atoms_spec (ws := Cond.code yX11_bound cX11_bound 7 (some .int) :: lw_g) B.pre w (List.mem_cons_of_mem _ hw), ⟨Nat.le_refl _, Nat.le_refl _, Nat.le_refl _, Nat.le_refl _⟩, B.returns, B.notSynchronized⟩
  have hl := lv_entry ([.ref v0, .int v1, .int v2, .int v3, .int v4]) (n := 7) (Nat.le_of_ble_eq_true rfl)
  rw [lg_entry_eq]
  generalize (lg_sl ([.ref v0, .int v1, .int v2, .int v3, .int v4]) ++ List.replicate (7 - (lg_sl ([.ref v0, .int v1, .int v2, .int v3, .int v4])).length) Slot.unset).toArray = ls at hl ⊢
  have hl : lv_has ls 7 [(0, .ref v0), (1, .int v1), (2, .int v2), (3, .int v3), (4, .int v4)] := hl
  have hJ : cJ D S s.heap S s.heap [] := cJ.rf hW
  have Y : kTh l D S s c := ⟨hl0, hW, hU, ht⟩
  unfold fk_11_bound at h
  refine lv_aload_n C.1 C.2.1 dX11_bound_0 rfl (lv_at hl 0 rfl) ?_
  refine lv_iload_n C.1 C.2.1 dX11_bound_1 rfl (lv_at hl 1 rfl) ?_
  refine lv_iload_n C.1 C.2.1 dX11_bound_2 rfl (lv_at hl 2 rfl) ?_
  obtain ⟨hk, h⟩ := ckk_ok h
  obtain ⟨r1, h_r1, h⟩ := bd_ok h
  refine c_callR (rest := []) C X hJ.1 hl.1 11 (by decide) hk [.int v1, .int v2] (tk_11_madeSlot l h_r1) cw11_295 ki_11_madeSlot kl_11_madeSlot rfl ⟨by decide, by decide⟩ ⟨(by decide), (by decide)⟩ rfl (Nat.le_of_ble_eq_true rfl) dX11_bound_3 ?_
  refine W.eq (g2 := F0 m 6 ls [.int r1]) rfl ?_
  refine lv_istore (lv' := [(5, .int r1), (0, .ref v0), (1, .int v1), (2, .int v2), (3, .int v3), (4, .int v4)]) C.1 C.2.1 dX11_bound_6 hl (by decide) rfl (fun ls hl => ?_)
  refine lv_aload_n C.1 C.2.1 dX11_bound_8 rfl (lv_at hl 1 rfl) ?_
  refine lv_iload C.1 C.2.1 dX11_bound_9 (lv_at hl 0 rfl) ?_
  refine lv_iload_n C.1 C.2.1 dX11_bound_11 rfl (lv_at hl 4 rfl) ?_
  obtain ⟨hk, h⟩ := ckk_ok h
  obtain ⟨r2, h_r2, h⟩ := bd_ok h
  refine c_callR (rest := []) C X hJ.1 hl.1 11 (by decide) hk [.int r1, .int v3] (tk_11_ruleAt l h_r2) cw11_316 ki_11_ruleAt kl_11_ruleAt rfl ⟨by decide, by decide⟩ ⟨(by decide), (by decide)⟩ rfl (Nat.le_of_ble_eq_true rfl) dX11_bound_12 ?_
  refine W.eq (g2 := F0 m 15 ls [.int r2]) rfl ?_
  refine lv_bipush (v := 77) C.1 C.2.1 dX11_bound_15 (by decide) ?_
  refine lv_icmp_eq (tgt := 31) C.1 C.2.1 dX11_bound_17 (by decide) (fun c3 => ?_) (fun c3 => ?_)
  · have h := if_t h c3
    refine lv_aload_n C.1 C.2.1 dX11_bound_31 rfl (lv_at hl 1 rfl) ?_
    obtain ⟨hk, h⟩ := ckk_ok h
    obtain ⟨a4, h_a4, h⟩ := bd_ok h
    refine gk11_25 C X hJ.1 hk h_a4 dX11_bound_32 ?_
    refine lv_iload_n C.1 C.2.1 dX11_bound_35 rfl (lv_at hl 2 rfl) ?_
    obtain ⟨hk, h⟩ := ckk_ok h
    obtain ⟨hin2, h⟩ := ck_ok h
    refine c_aald C 31 (by decide) X.2.2.2.2.2.1 hJ.1 hk hin2 dX11_bound_36 ?_
    refine lt_ok h (fun o5 e_o5 h => ?_)
    refine lv_nmq e_o5 ?_
    obtain ⟨a6, e_a6, h⟩ := bd_ok h
    revert h; subst e_a6; intro h
    obtain ⟨hk, h⟩ := ckk_ok h
    obtain ⟨a7, h_a7, h⟩ := bd_ok h
    refine gk11_147 C X hJ.1 hk h_a7 dX11_bound_37 ?_
    refine lv_iload C.1 C.2.1 dX11_bound_40 (lv_at hl 0 rfl) ?_
    refine lv_bipush (v := 8) C.1 C.2.1 dX11_bound_42 (by decide) ?_
    refine lv_imul C.1 C.2.1 dX11_bound_44 ?_
    refine lv_iload_n C.1 C.2.1 dX11_bound_45 rfl (lv_at hl 4 rfl) ?_
    refine lv_iadd C.1 C.2.1 dX11_bound_46 ?_
    refine lv_iload C.1 C.2.1 dX11_bound_47 (lv_at hl 5 rfl) ?_
    obtain ⟨hk, h⟩ := ckk_ok h
    obtain ⟨o8, h_o8, h⟩ := bd_ok h
    refine c_callR (rest := []) C X hJ.1 hl.1 10 (by decide) hk [.int ((r1 * (8 : Int32)) + v3), .int v4] (tk_10_bindOf l h_o8) cw11_345 ki_10_bindOf kl_10_bindOf rfl ⟨by decide, by decide⟩ ⟨(by decide), (by decide)⟩ rfl (Nat.le_of_ble_eq_true rfl) dX11_bound_49 ?_
    refine W.eq (g2 := F0 m 52 ls [va_rf o8]) rfl ?_
    refine lv_astoreq (o := o8) (lv' := [(6, va_rf o8), (5, .int r1), (0, .ref v0), (1, .int v1), (2, .int v2), (3, .int v3), (4, .int v4)]) C.1 C.2.1 dX11_bound_52 hl (by decide) rfl (fun ls hl => ?_)
    refine lv_aloadq (o := o8) C.1 C.2.1 dX11_bound_54 (lv_at hl 0 rfl) ?_
    rcases o8 with _ | a9
    · replace h := cs_n h
      refine lv_ifnonnullN C.1 C.2.1 dX11_bound_56 ?_
      cases h
      exact c_thrN (text := "no such key") (is := 349) (tg := 3) (Y1 := "java/lang/RuntimeException") (r1 := ["java/lang/Exception"]) xz_0 xz_1 xz_2 xz_5 C Y hJ hl.1 (by decide) xk11_323 xi_3 (by decide +kernel) xa11_327 (by decide +kernel) (by decide +kernel) (by decide +kernel) dX11_bound_59 dX11_bound_62 dX11_bound_63 dX11_bound_66 dX11_bound_69 (by decide) (by decide) (by decide) (by decide)
    · replace h := cs_s h
      refine lv_ifnonnull (tgt := 70) C.1 C.2.1 dX11_bound_56 (by decide) ?_
      refine lv_aload C.1 C.2.1 dX11_bound_70 (lv_at hl 0 rfl) ?_
      obtain ⟨hk, h⟩ := ckk_ok h
      refine gk11_351 C X hJ.1 hk dX11_bound_72 ?_
      cases h
      refine W.widen (k := 1) (n := 6) (by decide) (by decide) ?_
      exact c_retiT C hJ dX11_bound_75
  · have h := if_f h c3
    cases h
    exact c_thrN (text := "no such map") (is := 343) (tg := 3) (Y1 := "java/lang/RuntimeException") (r1 := ["java/lang/Exception"]) xz_0 xz_1 xz_2 xz_5 C Y hJ hl.1 (by decide) xk11_323 xi_3 (by decide +kernel) xa11_327 (by decide +kernel) (by decide +kernel) (by decide +kernel) dX11_bound_20 dX11_bound_23 dX11_bound_24 dX11_bound_27 dX11_bound_30 (by decide) (by decide) (by decide) (by decide)
end
theorem dX11_past_0 : decode cX11_past 0 = .ok (.aload_n 0, 1) := by decide +kernel
theorem dX11_past_1 : decode cX11_past 1 = .ok (.iload_n 1, 1) := by decide +kernel
theorem dX11_past_2 : decode cX11_past 2 = .ok (.iload_n 3, 1) := by decide +kernel
theorem dX11_past_3 : decode cX11_past 3 = .ok (.invokevirtual 295, 3) := by decide +kernel
theorem dX11_past_6 : decode cX11_past 6 = .ok (.istore 5, 2) := by decide +kernel
theorem dX11_past_8 : decode cX11_past 8 = .ok (.aload_n 0, 1) := by decide +kernel
theorem dX11_past_9 : decode cX11_past 9 = .ok (.iload 5, 2) := by decide +kernel
theorem dX11_past_11 : decode cX11_past 11 = .ok (.iload 4, 2) := by decide +kernel
theorem dX11_past_13 : decode cX11_past 13 = .ok (.invokevirtual 316, 3) := by decide +kernel
theorem dX11_past_16 : decode cX11_past 16 = .ok (.istore 6, 2) := by decide +kernel
theorem dX11_past_18 : decode cX11_past 18 = .ok (.iload 6, 2) := by decide +kernel
theorem dX11_past_20 : decode cX11_past 20 = .ok (.bipush 76, 2) := by decide +kernel
theorem dX11_past_22 : decode cX11_past 22 = .ok (.if_icmp .eq 21, 3) := by decide +kernel
theorem dX11_past_25 : decode cX11_past 25 = .ok (.iload 6, 2) := by decide +kernel
theorem dX11_past_27 : decode cX11_past 27 = .ok (.bipush 67, 2) := by decide +kernel
theorem dX11_past_29 : decode cX11_past 29 = .ok (.if_icmp .eq 14, 3) := by decide +kernel
theorem dX11_past_32 : decode cX11_past 32 = .ok (.new 323, 3) := by decide +kernel
theorem dX11_past_35 : decode cX11_past 35 = .ok (.dup, 1) := by decide +kernel
theorem dX11_past_36 : decode cX11_past 36 = .ok (.ldc_w 364, 3) := by decide +kernel
theorem dX11_past_39 : decode cX11_past 39 = .ok (.invokespecial 327, 3) := by decide +kernel
theorem dX11_past_42 : decode cX11_past 42 = .ok (.athrow, 1) := by decide +kernel
theorem dX11_past_43 : decode cX11_past 43 = .ok (.aload_n 0, 1) := by decide +kernel
theorem dX11_past_44 : decode cX11_past 44 = .ok (.getfield 25, 3) := by decide +kernel
theorem dX11_past_47 : decode cX11_past 47 = .ok (.iload_n 1, 1) := by decide +kernel
theorem dX11_past_48 : decode cX11_past 48 = .ok (.aaload, 1) := by decide +kernel
theorem dX11_past_49 : decode cX11_past 49 = .ok (.getfield 68, 3) := by decide +kernel
theorem dX11_past_52 : decode cX11_past 52 = .ok (.astore 7, 2) := by decide +kernel
theorem dX11_past_54 : decode cX11_past 54 = .ok (.iload_n 2, 1) := by decide +kernel
theorem dX11_past_55 : decode cX11_past 55 = .ok (.ifCond .lt 12, 3) := by decide +kernel
theorem dX11_past_58 : decode cX11_past 58 = .ok (.iload_n 2, 1) := by decide +kernel
theorem dX11_past_59 : decode cX11_past 59 = .ok (.aload 7, 2) := by decide +kernel
theorem dX11_past_61 : decode cX11_past 61 = .ok (.getfield 366, 3) := by decide +kernel
theorem dX11_past_64 : decode cX11_past 64 = .ok (.if_icmp .le 14, 3) := by decide +kernel
theorem dX11_past_67 : decode cX11_past 67 = .ok (.new 323, 3) := by decide +kernel
theorem dX11_past_70 : decode cX11_past 70 = .ok (.dup, 1) := by decide +kernel
theorem dX11_past_71 : decode cX11_past 71 = .ok (.ldc_w 371, 3) := by decide +kernel
theorem dX11_past_74 : decode cX11_past 74 = .ok (.invokespecial 327, 3) := by decide +kernel
theorem dX11_past_77 : decode cX11_past 77 = .ok (.athrow, 1) := by decide +kernel
theorem dX11_past_78 : decode cX11_past 78 = .ok (.aload_n 0, 1) := by decide +kernel
theorem dX11_past_79 : decode cX11_past 79 = .ok (.getfield 75, 3) := by decide +kernel
theorem dX11_past_82 : decode cX11_past 82 = .ok (.aload 7, 2) := by decide +kernel
theorem dX11_past_84 : decode cX11_past 84 = .ok (.iload_n 2, 1) := by decide +kernel
theorem dX11_past_85 : decode cX11_past 85 = .ok (.invokevirtual 373, 3) := by decide +kernel
theorem dX11_past_88 : decode cX11_past 88 = .ok (.iload 5, 2) := by decide +kernel
theorem dX11_past_90 : decode cX11_past 90 = .ok (.bipush 8, 2) := by decide +kernel
theorem dX11_past_92 : decode cX11_past 92 = .ok (.imul, 1) := by decide +kernel
theorem dX11_past_93 : decode cX11_past 93 = .ok (.iload 4, 2) := by decide +kernel
theorem dX11_past_95 : decode cX11_past 95 = .ok (.iadd, 1) := by decide +kernel
theorem dX11_past_96 : decode cX11_past 96 = .ok (.istore 8, 2) := by decide +kernel
theorem dX11_past_98 : decode cX11_past 98 = .ok (.iload 6, 2) := by decide +kernel
theorem dX11_past_100 : decode cX11_past 100 = .ok (.bipush 76, 2) := by decide +kernel
theorem dX11_past_102 : decode cX11_past 102 = .ok (.if_icmp .ne 15, 3) := by decide +kernel
theorem dX11_past_105 : decode cX11_past 105 = .ok (.aload_n 0, 1) := by decide +kernel
theorem dX11_past_106 : decode cX11_past 106 = .ok (.getfield 75, 3) := by decide +kernel
theorem dX11_past_109 : decode cX11_past 109 = .ok (.iload 8, 2) := by decide +kernel
theorem dX11_past_111 : decode cX11_past 111 = .ok (.invokevirtual 357, 3) := by decide +kernel
theorem dX11_past_114 : decode cX11_past 114 = .ok (.goto 12, 3) := by decide +kernel
theorem dX11_past_117 : decode cX11_past 117 = .ok (.aload_n 0, 1) := by decide +kernel
theorem dX11_past_118 : decode cX11_past 118 = .ok (.getfield 75, 3) := by decide +kernel
theorem dX11_past_121 : decode cX11_past 121 = .ok (.iload 8, 2) := by decide +kernel
theorem dX11_past_123 : decode cX11_past 123 = .ok (.invokevirtual 330, 3) := by decide +kernel
theorem dX11_past_126 : decode cX11_past 126 = .ok (.ireturn, 1) := by decide +kernel
theorem kd_11_past : Cond.code yX11_past cX11_past 9 (some .int) ∈ lw_g := mt_at 1683 (by decide +kernel) rfl
theorem ki_11_past : Cond.instanceMethod yX11_past ∈ lw_g := mt_at 1681 (by decide +kernel) rfl
theorem kl_11_past : Cond.selects (kRn 11) yX11_past yX11_past ∈ lw_g := mt_at 1682 (by decide +kernel) rfl
section
variable {p : Program} {l : Launch} {e : Env} {R : Room} {s : State} {m : MethodId} {args : Array Value} {below : List Frame} {meth : Method} {c : Code} {D : cG} {S0 S9 : cSt} {tg : Nat} {r : Int32}
noncomputable def fk_11_past_67 (S : cSt) : Option (Nat × Int32 × cSt) :=
some (3, (0 : Int32), S)
set_option maxRecDepth 100000 in
set_option maxHeartbeats 4000000 in
theorem wk_11_past_67 (C : cY p R s m args meth c RX11 cX11_past 9 6 1 6 90 (some .int)) (X : cX D s) (Y : kTh l D S0 s c) : ∀ {S : cSt} {H : Heap} {locs : List Loc} {ls : Array Slot}, fk_11_past_67 S = some (tg, r, S9) → cJ D S0 s.heap S H locs → lv_has ls 9 [] → W p l e R s m args below meth c H locs 0 0 (vx_MQ below (kWt tg r D S0 S9) (kXt tg D S0 S9) args s 1 6 (cA S0)) (F0 m 67 ls []) := by
  intro S H locs ls h hJ hl
  unfold fk_11_past_67 at h
  cases h
  exact c_thrN (text := "no such number of rows") (is := 371) (tg := 3) (Y1 := "java/lang/RuntimeException") (r1 := ["java/lang/Exception"]) xz_0 xz_1 xz_2 xz_5 C Y hJ hl.1 (by decide) xk11_323 xi_3 (by decide +kernel) xa11_327 (by decide +kernel) (by decide +kernel) (by decide +kernel) dX11_past_67 dX11_past_70 dX11_past_71 dX11_past_74 dX11_past_77 (by decide) (by decide) (by decide) (by decide)
noncomputable def fk_11_past_126 (S : cSt) (s0 : Int32) : Option (Nat × Int32 × cSt) :=
some (0, s0, S)
set_option maxRecDepth 100000 in
set_option maxHeartbeats 4000000 in
theorem wk_11_past_126 (C : cY p R s m args meth c RX11 cX11_past 9 6 1 6 90 (some .int)) (X : cX D s) (Y : kTh l D S0 s c) : ∀ {S : cSt} {s0 : Int32} {H : Heap} {locs : List Loc} {ls : Array Slot}, fk_11_past_126 S s0 = some (tg, r, S9) → cJ D S0 s.heap S H locs → lv_has ls 9 [] → W p l e R s m args below meth c H locs 0 0 (vx_MQ below (kWt tg r D S0 S9) (kXt tg D S0 S9) args s 1 6 (cA S0)) (F0 m 126 ls [.int s0]) := by
  intro S s0 H locs ls h hJ hl
  unfold fk_11_past_126 at h
  cases h
  refine W.widen (k := 1) (n := 6) (by decide) (by decide) ?_
  exact c_retiT C hJ dX11_past_126
noncomputable def fk_11_past_43 (S : cSt) (v0 : Nat) (v1 : Int32) (v2 : Int32) (v4 : Int32) (v5 : Int32) (v6 : Int32) : Option (Nat × Int32 × cSt) :=
ckk S v0 12 (bd (kR S v0 2) fun a1 =>
ckk S a1 31 (ck v1 (kL S a1) (lt (kO S a1 (Int32.toNatClampNeg v1)) fun o2 =>
bd o2 fun a3 =>
ckk S a3 8 (bd (kR S a3 1) fun a4 =>
if v2 < 0 then (
fk_11_past_67 S)
else (
ckk S a4 5 (
if v2 ≤ (kF S a4 7) then (
ckk S v0 12 (bd (kR S v0 4) fun a7 =>
ckk S a7 11 (bd (fk_10_lookBack S a7 a4 v2) fun S8 =>
lt ((v5 * (8 : Int32)) + v4) fun x9 =>
if v6 = (76 : Int32) then (
ckk S8 v0 12 (bd (kR S8 v0 4) fun a13 =>
ckk S8 a13 11 (bd (fk_10_latestOf S8 a13 x9) fun r14 =>
fk_11_past_126 S8 r14)))
else (
ckk S8 v0 12 (bd (kR S8 v0 4) fun a11 =>
ckk S8 a11 11 (bd (fk_10_sumOf S8 a11 x9) fun r12 =>
fk_11_past_126 S8 r12))))))
else (
fk_11_past_67 S)))))))
set_option maxRecDepth 100000 in
set_option maxHeartbeats 4000000 in
theorem wk_11_past_43 (C : cY p R s m args meth c RX11 cX11_past 9 6 1 6 90 (some .int)) (X : cX D s) (Y : kTh l D S0 s c) : ∀ {S : cSt} {v0 : Nat} {v1 : Int32} {v2 : Int32} {v4 : Int32} {v5 : Int32} {v6 : Int32} {H : Heap} {locs : List Loc} {ls : Array Slot}, fk_11_past_43 S v0 v1 v2 v4 v5 v6 = some (tg, r, S9) → cJ D S0 s.heap S H locs → lv_has ls 9 [(0, .ref v0), (1, .int v1), (2, .int v2), (4, .int v4), (5, .int v5), (6, .int v6)] → W p l e R s m args below meth c H locs 0 0 (vx_MQ below (kWt tg r D S0 S9) (kXt tg D S0 S9) args s 1 6 (cA S0)) (F0 m 43 ls []) := by
  intro S v0 v1 v2 v4 v5 v6 H locs ls h hJ hl
  unfold fk_11_past_43 at h
  refine lv_aload_n C.1 C.2.1 dX11_past_43 rfl (lv_at hl 0 rfl) ?_
  obtain ⟨hk, h⟩ := ckk_ok h
  obtain ⟨a1, h_a1, h⟩ := bd_ok h
  refine gk11_25 C X hJ.1 hk h_a1 dX11_past_44 ?_
  refine lv_iload_n C.1 C.2.1 dX11_past_47 rfl (lv_at hl 1 rfl) ?_
  obtain ⟨hk, h⟩ := ckk_ok h
  obtain ⟨hin2, h⟩ := ck_ok h
  refine c_aald C 31 (by decide) X.2.2.2.2.2.1 hJ.1 hk hin2 dX11_past_48 ?_
  refine lt_ok h (fun o2 e_o2 h => ?_)
  refine lv_nmq e_o2 ?_
  obtain ⟨a3, e_a3, h⟩ := bd_ok h
  revert h; subst e_a3; intro h
  obtain ⟨hk, h⟩ := ckk_ok h
  obtain ⟨a4, h_a4, h⟩ := bd_ok h
  refine gk11_68 C X hJ.1 hk h_a4 dX11_past_49 ?_
  refine lv_astore (lv' := [(7, .ref a4), (0, .ref v0), (1, .int v1), (2, .int v2), (4, .int v4), (5, .int v5), (6, .int v6)]) C.1 C.2.1 dX11_past_52 hl (by decide) rfl (fun ls hl => ?_)
  refine lv_iload_n C.1 C.2.1 dX11_past_54 rfl (lv_at hl 3 rfl) ?_
  refine lv_if_lt (tgt := 67) C.1 C.2.1 dX11_past_55 (by decide) (fun c5 => ?_) (fun c5 => ?_)
  · have h := if_t h c5
    exact wk_11_past_67 C X Y h hJ (lv_sub hl [] rfl)
  · have h := if_f h c5
    refine lv_iload_n C.1 C.2.1 dX11_past_58 rfl (lv_at hl 3 rfl) ?_
    refine lv_aload C.1 C.2.1 dX11_past_59 (lv_at hl 0 rfl) ?_
    obtain ⟨hk, h⟩ := ckk_ok h
    refine gk11_366 C X hJ.1 hk dX11_past_61 ?_
    refine lv_icmp_le (tgt := 78) C.1 C.2.1 dX11_past_64 (by decide) (fun c6 => ?_) (fun c6 => ?_)
    · have h := if_t h c6
      refine lv_aload_n C.1 C.2.1 dX11_past_78 rfl (lv_at hl 1 rfl) ?_
      obtain ⟨hk, h⟩ := ckk_ok h
      obtain ⟨a7, h_a7, h⟩ := bd_ok h
      refine gk11_75 C X hJ.1 hk h_a7 dX11_past_79 ?_
      refine lv_aload C.1 C.2.1 dX11_past_82 (lv_at hl 0 rfl) ?_
      refine lv_iload_n C.1 C.2.1 dX11_past_84 rfl (lv_at hl 3 rfl) ?_
      obtain ⟨hk, h⟩ := ckk_ok h
      obtain ⟨S8, h_S8, h⟩ := bd_ok h
      refine c_callW (rest := []) C X hJ hl.1 10 (by decide) hk [.ref a4, .int v2] (tk_10_lookBack l h_S8) cw11_373 ki_10_lookBack kl_10_lookBack rfl ⟨by decide, by decide⟩ ⟨(by decide), (by decide)⟩ rfl (Nat.le_of_ble_eq_true rfl) dX11_past_85 (fun H locs hJ => ?_)
      refine W.eq (g2 := F0 m 88 ls []) rfl ?_
      refine lv_iload C.1 C.2.1 dX11_past_88 (lv_at hl 5 rfl) ?_
      refine lv_bipush (v := 8) C.1 C.2.1 dX11_past_90 (by decide) ?_
      refine lv_imul C.1 C.2.1 dX11_past_92 ?_
      refine lv_iload C.1 C.2.1 dX11_past_93 (lv_at hl 4 rfl) ?_
      refine lv_iadd C.1 C.2.1 dX11_past_95 ?_
      refine lt_ok h (fun x9 e_x9 h => ?_)
      refine lv_nm e_x9 ?_
      refine lv_istore (lv' := [(8, .int x9), (7, .ref a4), (0, .ref v0), (1, .int v1), (2, .int v2), (4, .int v4), (5, .int v5), (6, .int v6)]) C.1 C.2.1 dX11_past_96 hl (by decide) rfl (fun ls hl => ?_)
      refine lv_iload C.1 C.2.1 dX11_past_98 (lv_at hl 7 rfl) ?_
      refine lv_bipush (v := 76) C.1 C.2.1 dX11_past_100 (by decide) ?_
      refine lv_icmp_ne (tgt := 117) C.1 C.2.1 dX11_past_102 (by decide) (fun c10 => ?_) (fun c10 => ?_)
      · have h := if_f h c10
        refine lv_aload_n C.1 C.2.1 dX11_past_117 rfl (lv_at hl 2 rfl) ?_
        obtain ⟨hk, h⟩ := ckk_ok h
        obtain ⟨a11, h_a11, h⟩ := bd_ok h
        refine gk11_75 C X hJ.1 hk h_a11 dX11_past_118 ?_
        refine lv_iload C.1 C.2.1 dX11_past_121 (lv_at hl 0 rfl) ?_
        obtain ⟨hk, h⟩ := ckk_ok h
        obtain ⟨r12, h_r12, h⟩ := bd_ok h
        refine c_callR (rest := []) C X hJ.1 hl.1 10 (by decide) hk [.int x9] (tk_10_sumOf l h_r12) cw11_330 ki_10_sumOf kl_10_sumOf rfl ⟨by decide, by decide⟩ ⟨(by decide), (by decide)⟩ rfl (Nat.le_of_ble_eq_true rfl) dX11_past_123 ?_
        refine W.eq (g2 := F0 m 126 ls [.int r12]) rfl ?_
        exact wk_11_past_126 C X Y h hJ (lv_sub hl [] rfl)
      · have h := if_t h c10
        refine lv_aload_n C.1 C.2.1 dX11_past_105 rfl (lv_at hl 2 rfl) ?_
        obtain ⟨hk, h⟩ := ckk_ok h
        obtain ⟨a13, h_a13, h⟩ := bd_ok h
        refine gk11_75 C X hJ.1 hk h_a13 dX11_past_106 ?_
        refine lv_iload C.1 C.2.1 dX11_past_109 (lv_at hl 0 rfl) ?_
        obtain ⟨hk, h⟩ := ckk_ok h
        obtain ⟨r14, h_r14, h⟩ := bd_ok h
        refine c_callR (rest := []) C X hJ.1 hl.1 10 (by decide) hk [.int x9] (tk_10_latestOf l h_r14) cw11_357 ki_10_latestOf kl_10_latestOf rfl ⟨by decide, by decide⟩ ⟨(by decide), (by decide)⟩ rfl (Nat.le_of_ble_eq_true rfl) dX11_past_111 ?_
        refine W.eq (g2 := F0 m 114 ls [.int r14]) rfl ?_
        refine lv_goto (tgt := 126) C.1 C.2.1 dX11_past_114 (by decide) ?_
        exact wk_11_past_126 C X Y h hJ (lv_sub hl [] rfl)
    · have h := if_f h c6
      exact wk_11_past_67 C X Y h hJ (lv_sub hl [] rfl)
noncomputable def fk_11_past (S : cSt) (v0 : Nat) (v1 : Int32) (v2 : Int32) (v3 : Int32) (v4 : Int32) : Option (Nat × Int32 × cSt) :=
ckk S v0 12 (bd (fk_11_madeSlot S v0 v1 v3) fun r1 =>
ckk S v0 12 (bd (fk_11_ruleAt S v0 r1 v4) fun r2 =>
if r2 = (76 : Int32) then (
fk_11_past_43 S v0 v1 v2 v4 r1 r2)
else (
if r2 = (67 : Int32) then (
fk_11_past_43 S v0 v1 v2 v4 r1 r2)
else (
some (3, (0 : Int32), S)))))
set_option maxRecDepth 100000 in
set_option maxHeartbeats 4000000 in
theorem tk_11_past (l : Launch) (hl0 : l.stackTraces = false) {D : cG} {S : cSt} {v0 : Nat} {v1 : Int32} {v2 : Int32} {v3 : Int32} {v4 : Int32} {tg : Nat} {r : Int32} {S9 : cSt} (h : fk_11_past S v0 v1 v2 v3 v4 = some (tg, r, S9)) : vx_Met l yX11_past (Cond.code yX11_past cX11_past 9 (some .int) :: lw_g) { frames := 6, cells := 1, slots := 6, locals := 90 } (kPt [.ref v0, .int v1, .int v2, .int v3, .int v4] D S) (kWt tg r D S S9) (kXt tg D S S9) 1 6 (cA S) := by
  refine vx_ofW (cc := cX11_past) (maxL := 9) (ret := (some .int)) (by decide) rfl ?_
  intro p e s m args below meth c s₁ B hml ht hv
  obtain ⟨rfl, hW, X, hU⟩ := hv
  have C : cY p (headSpec (Cond.code yX11_past cX11_past 9 (some .int) :: lw_g) { frames := 6, cells := 1, slots := 6, locals := 90 }).room s m _ meth c RX11 cX11_past 9 6 1 6 90 (some .int) := ⟨B.exec, B.bytes, hml, findClass_of_methodNamed B.named, fun w hw => atoms_spec (ws := Cond.code yX11_past cX11_past 9 (some .int) :: lw_g) B.pre w (List.mem_cons_of_mem _ hw), ⟨Nat.le_refl _, Nat.le_refl _, Nat.le_refl _, Nat.le_refl _⟩, B.returns, B.notSynchronized⟩
  have hl := lv_entry ([.ref v0, .int v1, .int v2, .int v3, .int v4]) (n := 9) (Nat.le_of_ble_eq_true rfl)
  rw [lg_entry_eq]
  generalize (lg_sl ([.ref v0, .int v1, .int v2, .int v3, .int v4]) ++ List.replicate (9 - (lg_sl ([.ref v0, .int v1, .int v2, .int v3, .int v4])).length) Slot.unset).toArray = ls at hl ⊢
  have hl : lv_has ls 9 [(0, .ref v0), (1, .int v1), (2, .int v2), (3, .int v3), (4, .int v4)] := hl
  have hJ : cJ D S s.heap S s.heap [] := cJ.rf hW
  have Y : kTh l D S s c := ⟨hl0, hW, hU, ht⟩
  unfold fk_11_past at h
  refine lv_aload_n C.1 C.2.1 dX11_past_0 rfl (lv_at hl 0 rfl) ?_
  refine lv_iload_n C.1 C.2.1 dX11_past_1 rfl (lv_at hl 1 rfl) ?_
  refine lv_iload_n C.1 C.2.1 dX11_past_2 rfl (lv_at hl 3 rfl) ?_
  obtain ⟨hk, h⟩ := ckk_ok h
  obtain ⟨r1, h_r1, h⟩ := bd_ok h
  refine c_callR (rest := []) C X hJ.1 hl.1 11 (by decide) hk [.int v1, .int v3] (tk_11_madeSlot l h_r1) cw11_295 ki_11_madeSlot kl_11_madeSlot rfl ⟨by decide, by decide⟩ ⟨(by decide), (by decide)⟩ rfl (Nat.le_of_ble_eq_true rfl) dX11_past_3 ?_
  refine W.eq (g2 := F0 m 6 ls [.int r1]) rfl ?_
  refine lv_istore (lv' := [(5, .int r1), (0, .ref v0), (1, .int v1), (2, .int v2), (3, .int v3), (4, .int v4)]) C.1 C.2.1 dX11_past_6 hl (by decide) rfl (fun ls hl => ?_)
  refine lv_aload_n C.1 C.2.1 dX11_past_8 rfl (lv_at hl 1 rfl) ?_
  refine lv_iload C.1 C.2.1 dX11_past_9 (lv_at hl 0 rfl) ?_
  refine lv_iload C.1 C.2.1 dX11_past_11 (lv_at hl 5 rfl) ?_
  obtain ⟨hk, h⟩ := ckk_ok h
  obtain ⟨r2, h_r2, h⟩ := bd_ok h
  refine c_callR (rest := []) C X hJ.1 hl.1 11 (by decide) hk [.int r1, .int v4] (tk_11_ruleAt l h_r2) cw11_316 ki_11_ruleAt kl_11_ruleAt rfl ⟨by decide, by decide⟩ ⟨(by decide), (by decide)⟩ rfl (Nat.le_of_ble_eq_true rfl) dX11_past_13 ?_
  refine W.eq (g2 := F0 m 16 ls [.int r2]) rfl ?_
  refine lv_istore (lv' := [(6, .int r2), (5, .int r1), (0, .ref v0), (1, .int v1), (2, .int v2), (3, .int v3), (4, .int v4)]) C.1 C.2.1 dX11_past_16 hl (by decide) rfl (fun ls hl => ?_)
  refine lv_iload C.1 C.2.1 dX11_past_18 (lv_at hl 0 rfl) ?_
  refine lv_bipush (v := 76) C.1 C.2.1 dX11_past_20 (by decide) ?_
  refine lv_icmp_eq (tgt := 43) C.1 C.2.1 dX11_past_22 (by decide) (fun c3 => ?_) (fun c3 => ?_)
  · have h := if_t h c3
    exact wk_11_past_43 C X Y h hJ (lv_sub hl [2, 3, 4, 6, 1, 0] rfl)
  · have h := if_f h c3
    refine lv_iload C.1 C.2.1 dX11_past_25 (lv_at hl 0 rfl) ?_
    refine lv_bipush (v := 67) C.1 C.2.1 dX11_past_27 (by decide) ?_
    refine lv_icmp_eq (tgt := 43) C.1 C.2.1 dX11_past_29 (by decide) (fun c4 => ?_) (fun c4 => ?_)
    · have h := if_t h c4
      exact wk_11_past_43 C X Y h hJ (lv_sub hl [2, 3, 4, 6, 1, 0] rfl)
    · have h := if_f h c4
      cases h
      exact c_thrN (text := "no such part to look back at") (is := 364) (tg := 3) (Y1 := "java/lang/RuntimeException") (r1 := ["java/lang/Exception"]) xz_0 xz_1 xz_2 xz_5 C Y hJ hl.1 (by decide) xk11_323 xi_3 (by decide +kernel) xa11_327 (by decide +kernel) (by decide +kernel) (by decide +kernel) dX11_past_32 dX11_past_35 dX11_past_36 dX11_past_39 dX11_past_42 (by decide) (by decide) (by decide) (by decide)
end
