-- made by wip/whole/gen12.py: 11_commit, 11_cursor, 11_placeOfCursor, 11_where, 11_stand, 11_listed, 11_turned, 11_dispatch, 11_send, 11_deliver
theorem dX11_commit_0 : decode cX11_commit 0 = .ok (.aload_n 0, 1) := by decide +kernel
theorem dX11_commit_1 : decode cX11_commit 1 = .ok (.getfield 12, 3) := by decide +kernel
theorem dX11_commit_4 : decode cX11_commit 4 = .ok (.invokevirtual 83, 3) := by decide +kernel
theorem dX11_commit_7 : decode cX11_commit 7 = .ok (.istore 4, 2) := by decide +kernel
theorem dX11_commit_9 : decode cX11_commit 9 = .ok (.aload_n 0, 1) := by decide +kernel
theorem dX11_commit_10 : decode cX11_commit 10 = .ok (.iload_n 1, 1) := by decide +kernel
theorem dX11_commit_11 : decode cX11_commit 11 = .ok (.bipush 9, 2) := by decide +kernel
theorem dX11_commit_13 : decode cX11_commit 13 = .ok (.iload_n 2, 1) := by decide +kernel
theorem dX11_commit_14 : decode cX11_commit 14 = .ok (.iload_n 3, 1) := by decide +kernel
theorem dX11_commit_15 : decode cX11_commit 15 = .ok (.iconst 0, 1) := by decide +kernel
theorem dX11_commit_16 : decode cX11_commit 16 = .ok (.invokevirtual 119, 3) := by decide +kernel
theorem dX11_commit_19 : decode cX11_commit 19 = .ok (.istore 5, 2) := by decide +kernel
theorem dX11_commit_21 : decode cX11_commit 21 = .ok (.iload 5, 2) := by decide +kernel
theorem dX11_commit_23 : decode cX11_commit 23 = .ok (.ifCond .eq 6, 3) := by decide +kernel
theorem dX11_commit_26 : decode cX11_commit 26 = .ok (.iload 5, 2) := by decide +kernel
theorem dX11_commit_28 : decode cX11_commit 28 = .ok (.ireturn, 1) := by decide +kernel
theorem dX11_commit_29 : decode cX11_commit 29 = .ok (.aload_n 0, 1) := by decide +kernel
theorem dX11_commit_30 : decode cX11_commit 30 = .ok (.getfield 25, 3) := by decide +kernel
theorem dX11_commit_33 : decode cX11_commit 33 = .ok (.iload_n 1, 1) := by decide +kernel
theorem dX11_commit_34 : decode cX11_commit 34 = .ok (.aaload, 1) := by decide +kernel
theorem dX11_commit_35 : decode cX11_commit 35 = .ok (.astore 6, 2) := by decide +kernel
theorem dX11_commit_37 : decode cX11_commit 37 = .ok (.aload_n 0, 1) := by decide +kernel
theorem dX11_commit_38 : decode cX11_commit 38 = .ok (.getfield 48, 3) := by decide +kernel
theorem dX11_commit_41 : decode cX11_commit 41 = .ok (.bipush 9, 2) := by decide +kernel
theorem dX11_commit_43 : decode cX11_commit 43 = .ok (.aload_n 0, 1) := by decide +kernel
theorem dX11_commit_44 : decode cX11_commit 44 = .ok (.getfield 19, 3) := by decide +kernel
theorem dX11_commit_47 : decode cX11_commit 47 = .ok (.iload_n 2, 1) := by decide +kernel
theorem dX11_commit_48 : decode cX11_commit 48 = .ok (.invokevirtual 123, 3) := by decide +kernel
theorem dX11_commit_51 : decode cX11_commit 51 = .ok (.iload_n 2, 1) := by decide +kernel
theorem dX11_commit_52 : decode cX11_commit 52 = .ok (.iload_n 3, 1) := by decide +kernel
theorem dX11_commit_53 : decode cX11_commit 53 = .ok (.invokevirtual 126, 3) := by decide +kernel
theorem dX11_commit_56 : decode cX11_commit 56 = .ok (.aload_n 0, 1) := by decide +kernel
theorem dX11_commit_57 : decode cX11_commit 57 = .ok (.getfield 41, 3) := by decide +kernel
theorem dX11_commit_60 : decode cX11_commit 60 = .ok (.aload 6, 2) := by decide +kernel
theorem dX11_commit_62 : decode cX11_commit 62 = .ok (.getfield 147, 3) := by decide +kernel
theorem dX11_commit_65 : decode cX11_commit 65 = .ok (.aload_n 0, 1) := by decide +kernel
theorem dX11_commit_66 : decode cX11_commit 66 = .ok (.getfield 48, 3) := by decide +kernel
theorem dX11_commit_69 : decode cX11_commit 69 = .ok (.getfield 150, 3) := by decide +kernel
theorem dX11_commit_72 : decode cX11_commit 72 = .ok (.bipush 8, 2) := by decide +kernel
theorem dX11_commit_74 : decode cX11_commit 74 = .ok (.imul, 1) := by decide +kernel
theorem dX11_commit_75 : decode cX11_commit 75 = .ok (.iload_n 3, 1) := by decide +kernel
theorem dX11_commit_76 : decode cX11_commit 76 = .ok (.iadd, 1) := by decide +kernel
theorem dX11_commit_77 : decode cX11_commit 77 = .ok (.invokevirtual 153, 3) := by decide +kernel
theorem dX11_commit_80 : decode cX11_commit 80 = .ok (.aload_n 0, 1) := by decide +kernel
theorem dX11_commit_81 : decode cX11_commit 81 = .ok (.getfield 41, 3) := by decide +kernel
theorem dX11_commit_84 : decode cX11_commit 84 = .ok (.aload_n 0, 1) := by decide +kernel
theorem dX11_commit_85 : decode cX11_commit 85 = .ok (.getfield 12, 3) := by decide +kernel
theorem dX11_commit_88 : decode cX11_commit 88 = .ok (.getfield 157, 3) := by decide +kernel
theorem dX11_commit_91 : decode cX11_commit 91 = .ok (.iload 4, 2) := by decide +kernel
theorem dX11_commit_93 : decode cX11_commit 93 = .ok (.invokevirtual 161, 3) := by decide +kernel
theorem dX11_commit_96 : decode cX11_commit 96 = .ok (.aload_n 0, 1) := by decide +kernel
theorem dX11_commit_97 : decode cX11_commit 97 = .ok (.getfield 41, 3) := by decide +kernel
theorem dX11_commit_100 : decode cX11_commit 100 = .ok (.getfield 165, 3) := by decide +kernel
theorem dX11_commit_103 : decode cX11_commit 103 = .ok (.iload 4, 2) := by decide +kernel
theorem dX11_commit_105 : decode cX11_commit 105 = .ok (.iadd, 1) := by decide +kernel
theorem dX11_commit_106 : decode cX11_commit 106 = .ok (.iconst 2, 1) := by decide +kernel
theorem dX11_commit_107 : decode cX11_commit 107 = .ok (.aload_n 0, 1) := by decide +kernel
theorem dX11_commit_108 : decode cX11_commit 108 = .ok (.getfield 41, 3) := by decide +kernel
theorem dX11_commit_111 : decode cX11_commit 111 = .ok (.iconst 0, 1) := by decide +kernel
theorem dX11_commit_112 : decode cX11_commit 112 = .ok (.iconst 0, 1) := by decide +kernel
theorem dX11_commit_113 : decode cX11_commit 113 = .ok (.invokevirtual 168, 3) := by decide +kernel
theorem dX11_commit_116 : decode cX11_commit 116 = .ok (.imul, 1) := by decide +kernel
theorem dX11_commit_117 : decode cX11_commit 117 = .ok (.isub, 1) := by decide +kernel
theorem dX11_commit_118 : decode cX11_commit 118 = .ok (.istore 7, 2) := by decide +kernel
theorem dX11_commit_120 : decode cX11_commit 120 = .ok (.aload 6, 2) := by decide +kernel
theorem dX11_commit_122 : decode cX11_commit 122 = .ok (.bipush 9, 2) := by decide +kernel
theorem dX11_commit_124 : decode cX11_commit 124 = .ok (.iload 7, 2) := by decide +kernel
theorem dX11_commit_126 : decode cX11_commit 126 = .ok (.invokevirtual 134, 3) := by decide +kernel
theorem dX11_commit_129 : decode cX11_commit 129 = .ok (.ifCond .ne 6, 3) := by decide +kernel
theorem dX11_commit_132 : decode cX11_commit 132 = .ok (.bipush (-4), 2) := by decide +kernel
theorem dX11_commit_134 : decode cX11_commit 134 = .ok (.ireturn, 1) := by decide +kernel
theorem dX11_commit_135 : decode cX11_commit 135 = .ok (.aload_n 0, 1) := by decide +kernel
theorem dX11_commit_136 : decode cX11_commit 136 = .ok (.aload 6, 2) := by decide +kernel
theorem dX11_commit_138 : decode cX11_commit 138 = .ok (.iload 4, 2) := by decide +kernel
theorem dX11_commit_140 : decode cX11_commit 140 = .ok (.invokevirtual 172, 3) := by decide +kernel
theorem dX11_commit_143 : decode cX11_commit 143 = .ok (.iload 7, 2) := by decide +kernel
theorem dX11_commit_145 : decode cX11_commit 145 = .ok (.ireturn, 1) := by decide +kernel
theorem kd_11_commit : Cond.code yX11_commit cX11_commit 8 (some .int) ∈ lw_g := mt_at 1175 (by decide +kernel) rfl
theorem ki_11_commit : Cond.instanceMethod yX11_commit ∈ lw_g := mt_at 1173 (by decide +kernel) rfl
theorem kl_11_commit : Cond.selects (kRn 11) yX11_commit yX11_commit ∈ lw_g := mt_at 1174 (by decide +kernel) rfl
theorem cw11_83 : cCw RX11 83 yX3_takeTape cX3_takeTape 2 (some .int) 0 := ⟨kd_3_takeTape, mt_at 1176 (by decide +kernel) rfl, mt_at 2 (by decide +kernel) rfl, by decide +kernel⟩
theorem cw11_161 : cCw RX11 161 yX9_compare cX9_compare 6 none 2 := ⟨kd_9_compare, mt_at 1180 (by decide +kernel) rfl, mt_at 5 (by decide +kernel) rfl, by decide +kernel⟩
theorem cw11_172 : cCw RX11 172 yX11_carryOver cX11_carryOver 8 none 2 := ⟨kd_11_carryOver, mt_at 1198 (by decide +kernel) rfl, mt_at 1 (by decide +kernel) rfl, by decide +kernel⟩
section
variable {p : Program} {l : Launch} {e : Env} {R : Room} {s : State} {m : MethodId} {args : Array Value} {below : List Frame} {meth : Method} {c : Code} {D : cG} {S0 S9 : cSt} {r : Int32}
noncomputable def fk_11_commit (S : cSt) (v0 : Nat) (v1 : Int32) (v2 : Int32) (v3 : Int32) : Option (Int32 × cSt) :=
ckk S v0 12 (bd (kR S v0 0) fun a1 =>
ckk S a1 4 (bd (fk_3_takeTape S a1) fun q_r3 => lt q_r3.1 fun r3 => lt q_r3.2 fun S2 =>
ckk S2 v0 12 (bd (fk_11_refusalOf S2 v0 v1 (9 : Int32) v2 v3 (0 : Int32)) fun r4 =>
if r4 = 0 then (
ckk S2 v0 12 (bd (kR S2 v0 2) fun a6 =>
ckk S2 a6 31 (ck v1 (kL S2 a6) (lt (kO S2 a6 (Int32.toNatClampNeg v1)) fun o7 =>
ckk S2 v0 12 (bd (kR S2 v0 6) fun a8 =>
ckk S2 v0 12 (bd (kR S2 v0 1) fun a9 =>
ckk S2 a9 1 (bd (fk_0_slotOf S2 a9 v2) fun r10 =>
ckk S2 a8 2 (bd (fk_1_begin S2 a8 (9 : Int32) r10 v2 v3) fun S11 =>
ckk S11 v0 12 (bd (kR S11 v0 5) fun a12 =>
bd o7 fun a13 =>
ckk S11 a13 8 (bd (kR S11 a13 2) fun a14 =>
ckk S11 v0 12 (bd (kR S11 v0 6) fun a15 =>
ckk S11 a15 2 (
ckk S11 a12 10 (bd (fk_9_read S11 a12 a14 (((kF S11 a15 1) * (8 : Int32)) + v3)) fun S16 =>
ckk S16 v0 12 (bd (kR S16 v0 5) fun a17 =>
ckk S16 v0 12 (bd (kR S16 v0 0) fun a18 =>
ckk S16 a18 4 (bd (kR S16 a18 0) fun a19 =>
ckk S16 a17 10 (bd (fk_9_compare S16 a17 a19 r3) fun S20 =>
ckk S20 v0 12 (bd (kR S20 v0 5) fun a21 =>
ckk S20 a21 10 (
ckk S20 v0 12 (bd (kR S20 v0 5) fun a22 =>
ckk S20 a22 10 (bd (fk_9_common S20 a22 (0 : Int32) (0 : Int32)) fun r23 =>
lt (((kF S20 a21 1) + r3) - ((2 : Int32) * r23)) fun x24 =>
ckk S20 a13 8 (bd (fk_7_hasRoomFor S20 a13 (9 : Int32) x24) fun r25 =>
if r25 = 0 then (
some ((-4 : Int32), S20))
else (
ckk S20 v0 12 (bd (fk_11_carryOver S20 v0 a13 r3) fun S27 =>
some (x24, S27)))))))))))))))))))))))))
else (
some (r4, S2)))))
set_option maxRecDepth 100000 in
set_option maxHeartbeats 4000000 in
theorem tk_11_commit (l : Launch) {D : cG} {S : cSt} {v0 : Nat} {v1 : Int32} {v2 : Int32} {v3 : Int32} {r : Int32} {S9 : cSt} (h : fk_11_commit S v0 v1 v2 v3 = some (r, S9)) : Met l yX11_commit (Cond.code yX11_commit cX11_commit 8 (some .int) :: lw_g) { frames := 7, cells := 2201, slots := 101882, locals := 169 } (kPi [.ref v0, .int v1, .int v2, .int v3] D S) (kW (some (.int r)) D S S9) 2201 101882 (cA S) := by
  refine Met.ofW (cc := cX11_commit) (maxL := 8) (ret := (some .int)) (by decide) rfl ?_
  intro p e s m args below meth c s₁ B hml hv
  obtain ⟨rfl, hW, X⟩ := hv
  have C : cY p (headSpec (Cond.code yX11_commit cX11_commit 8 (some .int) :: lw_g) { frames := 7, cells := 2201, slots := 101882, locals := 169 }).room s m _ meth c RX11 cX11_commit 8 7 2201 101882 169 (some .int) := ⟨B.exec, B.bytes, hml, findClass_of_methodNamed B.named, fun w hw => atoms_spec (ws := Cond.code yX11_commit cX11_commit 8 (some .int) :: lw_g) B.pre w (List.mem_cons_of_mem _ hw), ⟨Nat.le_refl _, Nat.le_refl _, Nat.le_refl _, Nat.le_refl _⟩, B.returns, B.notSynchronized⟩
  have hl := lv_entry ([.ref v0, .int v1, .int v2, .int v3]) (n := 8) (Nat.le_of_ble_eq_true rfl)
  rw [lg_entry_eq]
  generalize (lg_sl ([.ref v0, .int v1, .int v2, .int v3]) ++ List.replicate (8 - (lg_sl ([.ref v0, .int v1, .int v2, .int v3])).length) Slot.unset).toArray = ls at hl ⊢
  have hl : lv_has ls 8 [(0, .ref v0), (1, .int v1), (2, .int v2), (3, .int v3)] := hl
  have hJ : cJ D S s.heap S s.heap [] := cJ.rf hW
  unfold fk_11_commit at h
  refine lv_aload_n C.1 C.2.1 dX11_commit_0 rfl (lv_at hl 0 rfl) ?_
  obtain ⟨hk, h⟩ := ckk_ok h
  obtain ⟨a1, h_a1, h⟩ := bd_ok h
  refine gk11_12 C X hJ.1 hk h_a1 dX11_commit_1 ?_
  obtain ⟨hk, h⟩ := ckk_ok h
  obtain ⟨⟨r3, S2⟩, h_S2, h⟩ := bd_ok h
  replace h := lt2_ok h
  refine c_callW (rest := []) C X hJ hl.1 3 (by decide) hk [] (tk_3_takeTape l h_S2) cw11_83 ki_3_takeTape kl_3_takeTape rfl ⟨by decide, by decide⟩ ⟨(by decide), (by decide)⟩ rfl (Nat.le_of_ble_eq_true rfl) dX11_commit_4 (fun H locs hJ => ?_)
  refine W.eq (g2 := F0 m 7 ls [.int r3]) rfl ?_
  refine lv_istore (lv' := [(4, .int r3), (0, .ref v0), (1, .int v1), (2, .int v2), (3, .int v3)]) C.1 C.2.1 dX11_commit_7 hl (by decide) rfl (fun ls hl => ?_)
  refine lv_aload_n C.1 C.2.1 dX11_commit_9 rfl (lv_at hl 1 rfl) ?_
  refine lv_iload_n C.1 C.2.1 dX11_commit_10 rfl (lv_at hl 2 rfl) ?_
  refine lv_bipush (v := 9) C.1 C.2.1 dX11_commit_11 (by decide) ?_
  refine lv_iload_n C.1 C.2.1 dX11_commit_13 rfl (lv_at hl 3 rfl) ?_
  refine lv_iload_n C.1 C.2.1 dX11_commit_14 rfl (lv_at hl 4 rfl) ?_
  refine lv_iconst (v := 0) C.1 C.2.1 dX11_commit_15 (by decide) ?_
  obtain ⟨hk, h⟩ := ckk_ok h
  obtain ⟨r4, h_r4, h⟩ := bd_ok h
  refine c_callR (rest := []) C X hJ.1 hl.1 11 (by decide) hk [.int v1, .int (9 : Int32), .int v2, .int v3, .int (0 : Int32)] (tk_11_refusalOf l h_r4) cw11_119 ki_11_refusalOf kl_11_refusalOf rfl ⟨by decide, by decide⟩ ⟨(by decide), (by decide)⟩ rfl (Nat.le_of_ble_eq_true rfl) dX11_commit_16 ?_
  refine W.eq (g2 := F0 m 19 ls [.int r4]) rfl ?_
  refine lv_istore (lv' := [(5, .int r4), (4, .int r3), (0, .ref v0), (1, .int v1), (2, .int v2), (3, .int v3)]) C.1 C.2.1 dX11_commit_19 hl (by decide) rfl (fun ls hl => ?_)
  refine lv_iload C.1 C.2.1 dX11_commit_21 (lv_at hl 0 rfl) ?_
  refine lv_if_eq (tgt := 29) C.1 C.2.1 dX11_commit_23 (by decide) (fun c5 => ?_) (fun c5 => ?_)
  · have h := if_t h c5
    refine lv_aload_n C.1 C.2.1 dX11_commit_29 rfl (lv_at hl 2 rfl) ?_
    obtain ⟨hk, h⟩ := ckk_ok h
    obtain ⟨a6, h_a6, h⟩ := bd_ok h
    refine gk11_25 C X hJ.1 hk h_a6 dX11_commit_30 ?_
    refine lv_iload_n C.1 C.2.1 dX11_commit_33 rfl (lv_at hl 3 rfl) ?_
    obtain ⟨hk, h⟩ := ckk_ok h
    obtain ⟨hin2, h⟩ := ck_ok h
    refine c_aald C 31 (by decide) X.2.2.2.2.2.1 hJ.1 hk hin2 dX11_commit_34 ?_
    refine lt_ok h (fun o7 e_o7 h => ?_)
    refine lv_nmq e_o7 ?_
    refine lv_astoreq (o := o7) (lv' := [(6, va_rf o7), (5, .int r4), (4, .int r3), (0, .ref v0), (1, .int v1), (2, .int v2), (3, .int v3)]) C.1 C.2.1 dX11_commit_35 hl (by decide) rfl (fun ls hl => ?_)
    refine lv_aload_n C.1 C.2.1 dX11_commit_37 rfl (lv_at hl 3 rfl) ?_
    obtain ⟨hk, h⟩ := ckk_ok h
    obtain ⟨a8, h_a8, h⟩ := bd_ok h
    refine gk11_48 C X hJ.1 hk h_a8 dX11_commit_38 ?_
    refine lv_bipush (v := 9) C.1 C.2.1 dX11_commit_41 (by decide) ?_
    refine lv_aload_n C.1 C.2.1 dX11_commit_43 rfl (lv_at hl 3 rfl) ?_
    obtain ⟨hk, h⟩ := ckk_ok h
    obtain ⟨a9, h_a9, h⟩ := bd_ok h
    refine gk11_19 C X hJ.1 hk h_a9 dX11_commit_44 ?_
    refine lv_iload_n C.1 C.2.1 dX11_commit_47 rfl (lv_at hl 5 rfl) ?_
    obtain ⟨hk, h⟩ := ckk_ok h
    obtain ⟨r10, h_r10, h⟩ := bd_ok h
    refine c_callR (rest := [.int (9 : Int32), .ref a8]) C X hJ.1 hl.1 0 (by decide) hk [.int v2] (tk_0_slotOf l h_r10) cw11_123 ki_0_slotOf kl_0_slotOf rfl ⟨by decide, by decide⟩ ⟨(by decide), (by decide)⟩ rfl (Nat.le_of_ble_eq_true rfl) dX11_commit_48 ?_
    refine W.eq (g2 := F0 m 51 ls [.int r10, .int (9 : Int32), .ref a8]) rfl ?_
    refine lv_iload_n C.1 C.2.1 dX11_commit_51 rfl (lv_at hl 5 rfl) ?_
    refine lv_iload_n C.1 C.2.1 dX11_commit_52 rfl (lv_at hl 6 rfl) ?_
    obtain ⟨hk, h⟩ := ckk_ok h
    obtain ⟨S11, h_S11, h⟩ := bd_ok h
    refine c_callW (rest := []) C X hJ hl.1 1 (by decide) hk [.int (9 : Int32), .int r10, .int v2, .int v3] (tk_1_begin l h_S11) cw11_126 ki_1_begin kl_1_begin rfl ⟨by decide, by decide⟩ ⟨(by decide), (by decide)⟩ rfl (Nat.le_of_ble_eq_true rfl) dX11_commit_53 (fun H locs hJ => ?_)
    refine W.eq (g2 := F0 m 56 ls []) rfl ?_
    refine lv_aload_n C.1 C.2.1 dX11_commit_56 rfl (lv_at hl 3 rfl) ?_
    obtain ⟨hk, h⟩ := ckk_ok h
    obtain ⟨a12, h_a12, h⟩ := bd_ok h
    refine gk11_41 C X hJ.1 hk h_a12 dX11_commit_57 ?_
    refine lv_aloadq (o := o7) C.1 C.2.1 dX11_commit_60 (lv_at hl 0 rfl) ?_
    obtain ⟨a13, e_a13, h⟩ := bd_ok h
    revert h; subst e_a13; intro h
    obtain ⟨hk, h⟩ := ckk_ok h
    obtain ⟨a14, h_a14, h⟩ := bd_ok h
    refine gk11_147 C X hJ.1 hk h_a14 dX11_commit_62 ?_
    refine lv_aload_n C.1 C.2.1 dX11_commit_65 rfl (lv_at hl 3 rfl) ?_
    obtain ⟨hk, h⟩ := ckk_ok h
    obtain ⟨a15, h_a15, h⟩ := bd_ok h
    refine gk11_48 C X hJ.1 hk h_a15 dX11_commit_66 ?_
    obtain ⟨hk, h⟩ := ckk_ok h
    refine gk11_150 C X hJ.1 hk dX11_commit_69 ?_
    refine lv_bipush (v := 8) C.1 C.2.1 dX11_commit_72 (by decide) ?_
    refine lv_imul C.1 C.2.1 dX11_commit_74 ?_
    refine lv_iload_n C.1 C.2.1 dX11_commit_75 rfl (lv_at hl 6 rfl) ?_
    refine lv_iadd C.1 C.2.1 dX11_commit_76 ?_
    obtain ⟨hk, h⟩ := ckk_ok h
    obtain ⟨S16, h_S16, h⟩ := bd_ok h
    refine c_callW (rest := []) C X hJ hl.1 9 (by decide) hk [.ref a14, .int (((kF S11 a15 1) * (8 : Int32)) + v3)] (tk_9_read l h_S16) cw11_153 ki_9_read kl_9_read rfl ⟨by decide, by decide⟩ ⟨(by decide), (by decide)⟩ rfl (Nat.le_of_ble_eq_true rfl) dX11_commit_77 (fun H locs hJ => ?_)
    refine W.eq (g2 := F0 m 80 ls []) rfl ?_
    refine lv_aload_n C.1 C.2.1 dX11_commit_80 rfl (lv_at hl 3 rfl) ?_
    obtain ⟨hk, h⟩ := ckk_ok h
    obtain ⟨a17, h_a17, h⟩ := bd_ok h
    refine gk11_41 C X hJ.1 hk h_a17 dX11_commit_81 ?_
    refine lv_aload_n C.1 C.2.1 dX11_commit_84 rfl (lv_at hl 3 rfl) ?_
    obtain ⟨hk, h⟩ := ckk_ok h
    obtain ⟨a18, h_a18, h⟩ := bd_ok h
    refine gk11_12 C X hJ.1 hk h_a18 dX11_commit_85 ?_
    obtain ⟨hk, h⟩ := ckk_ok h
    obtain ⟨a19, h_a19, h⟩ := bd_ok h
    refine gk11_157 C X hJ.1 hk h_a19 dX11_commit_88 ?_
    refine lv_iload C.1 C.2.1 dX11_commit_91 (lv_at hl 2 rfl) ?_
    obtain ⟨hk, h⟩ := ckk_ok h
    obtain ⟨S20, h_S20, h⟩ := bd_ok h
    refine c_callW (rest := []) C X hJ hl.1 9 (by decide) hk [.ref a19, .int r3] (tk_9_compare l h_S20) cw11_161 ki_9_compare kl_9_compare rfl ⟨by decide, by decide⟩ ⟨(by decide), (by decide)⟩ rfl (Nat.le_of_ble_eq_true rfl) dX11_commit_93 (fun H locs hJ => ?_)
    refine W.eq (g2 := F0 m 96 ls []) rfl ?_
    refine lv_aload_n C.1 C.2.1 dX11_commit_96 rfl (lv_at hl 3 rfl) ?_
    obtain ⟨hk, h⟩ := ckk_ok h
    obtain ⟨a21, h_a21, h⟩ := bd_ok h
    refine gk11_41 C X hJ.1 hk h_a21 dX11_commit_97 ?_
    obtain ⟨hk, h⟩ := ckk_ok h
    refine gk11_165 C X hJ.1 hk dX11_commit_100 ?_
    refine lv_iload C.1 C.2.1 dX11_commit_103 (lv_at hl 2 rfl) ?_
    refine lv_iadd C.1 C.2.1 dX11_commit_105 ?_
    refine lv_iconst (v := 2) C.1 C.2.1 dX11_commit_106 (by decide) ?_
    refine lv_aload_n C.1 C.2.1 dX11_commit_107 rfl (lv_at hl 3 rfl) ?_
    obtain ⟨hk, h⟩ := ckk_ok h
    obtain ⟨a22, h_a22, h⟩ := bd_ok h
    refine gk11_41 C X hJ.1 hk h_a22 dX11_commit_108 ?_
    refine lv_iconst (v := 0) C.1 C.2.1 dX11_commit_111 (by decide) ?_
    refine lv_iconst (v := 0) C.1 C.2.1 dX11_commit_112 (by decide) ?_
    obtain ⟨hk, h⟩ := ckk_ok h
    obtain ⟨r23, h_r23, h⟩ := bd_ok h
    refine c_callR (rest := [.int (2 : Int32), .int ((kF S20 a21 1) + r3)]) C X hJ.1 hl.1 9 (by decide) hk [.int (0 : Int32), .int (0 : Int32)] (tk_9_common l h_r23) cw11_168 ki_9_common kl_9_common rfl ⟨by decide, by decide⟩ ⟨(by decide), (by decide)⟩ rfl (Nat.le_of_ble_eq_true rfl) dX11_commit_113 ?_
    refine W.eq (g2 := F0 m 116 ls [.int r23, .int (2 : Int32), .int ((kF S20 a21 1) + r3)]) rfl ?_
    refine lv_imul C.1 C.2.1 dX11_commit_116 ?_
    refine lv_isub C.1 C.2.1 dX11_commit_117 ?_
    refine lt_ok h (fun x24 e_x24 h => ?_)
    refine lv_nm e_x24 ?_
    refine lv_istore (lv' := [(7, .int x24), (6, .ref a13), (5, .int r4), (4, .int r3), (0, .ref v0), (1, .int v1), (2, .int v2), (3, .int v3)]) C.1 C.2.1 dX11_commit_118 hl (by decide) rfl (fun ls hl => ?_)
    refine lv_aload C.1 C.2.1 dX11_commit_120 (lv_at hl 1 rfl) ?_
    refine lv_bipush (v := 9) C.1 C.2.1 dX11_commit_122 (by decide) ?_
    refine lv_iload C.1 C.2.1 dX11_commit_124 (lv_at hl 0 rfl) ?_
    obtain ⟨hk, h⟩ := ckk_ok h
    obtain ⟨r25, h_r25, h⟩ := bd_ok h
    refine c_callR (rest := []) C X hJ.1 hl.1 7 (by decide) hk [.int (9 : Int32), .int x24] (tk_7_hasRoomFor l h_r25) cw11_134 ki_7_hasRoomFor kl_7_hasRoomFor rfl ⟨by decide, by decide⟩ ⟨(by decide), (by decide)⟩ rfl (Nat.le_of_ble_eq_true rfl) dX11_commit_126 ?_
    refine W.eq (g2 := F0 m 129 ls [.int r25]) rfl ?_
    refine lv_if_ne (tgt := 135) C.1 C.2.1 dX11_commit_129 (by decide) (fun c26 => ?_) (fun c26 => ?_)
    · have h := if_f h c26
      refine lv_aload_n C.1 C.2.1 dX11_commit_135 rfl (lv_at hl 4 rfl) ?_
      refine lv_aload C.1 C.2.1 dX11_commit_136 (lv_at hl 1 rfl) ?_
      refine lv_iload C.1 C.2.1 dX11_commit_138 (lv_at hl 3 rfl) ?_
      obtain ⟨hk, h⟩ := ckk_ok h
      obtain ⟨S27, h_S27, h⟩ := bd_ok h
      refine c_callW (rest := []) C X hJ hl.1 11 (by decide) hk [.ref a13, .int r3] (tk_11_carryOver l h_S27) cw11_172 ki_11_carryOver kl_11_carryOver rfl ⟨by decide, by decide⟩ ⟨(by decide), (by decide)⟩ rfl (Nat.le_of_ble_eq_true rfl) dX11_commit_140 (fun H locs hJ => ?_)
      refine W.eq (g2 := F0 m 143 ls []) rfl ?_
      refine lv_iload C.1 C.2.1 dX11_commit_143 (lv_at hl 0 rfl) ?_
      cases h
      exact c_retiW C hJ dX11_commit_145
    · have h := if_t h c26
      refine lv_bipush (v := -4) C.1 C.2.1 dX11_commit_132 (by decide) ?_
      cases h
      refine W.widen (k := 2201) (n := 101882) (by decide) (by decide) ?_
      exact c_retiW C hJ dX11_commit_134
  · have h := if_f h c5
    refine lv_iload C.1 C.2.1 dX11_commit_26 (lv_at hl 0 rfl) ?_
    cases h
    refine W.widen (k := 2201) (n := 101882) (by decide) (by decide) ?_
    exact c_retiW C hJ dX11_commit_28
end
theorem dX11_cursor_0 : decode cX11_cursor 0 = .ok (.aload_n 0, 1) := by decide +kernel
theorem dX11_cursor_1 : decode cX11_cursor 1 = .ok (.iload_n 1, 1) := by decide +kernel
theorem dX11_cursor_2 : decode cX11_cursor 2 = .ok (.bipush 9, 2) := by decide +kernel
theorem dX11_cursor_4 : decode cX11_cursor 4 = .ok (.iload_n 2, 1) := by decide +kernel
theorem dX11_cursor_5 : decode cX11_cursor 5 = .ok (.iload_n 3, 1) := by decide +kernel
theorem dX11_cursor_6 : decode cX11_cursor 6 = .ok (.iconst 0, 1) := by decide +kernel
theorem dX11_cursor_7 : decode cX11_cursor 7 = .ok (.invokevirtual 119, 3) := by decide +kernel
theorem dX11_cursor_10 : decode cX11_cursor 10 = .ok (.ifCond .eq 5, 3) := by decide +kernel
theorem dX11_cursor_13 : decode cX11_cursor 13 = .ok (.iconst 0, 1) := by decide +kernel
theorem dX11_cursor_14 : decode cX11_cursor 14 = .ok (.ireturn, 1) := by decide +kernel
theorem dX11_cursor_15 : decode cX11_cursor 15 = .ok (.aload_n 0, 1) := by decide +kernel
theorem dX11_cursor_16 : decode cX11_cursor 16 = .ok (.getfield 25, 3) := by decide +kernel
theorem dX11_cursor_19 : decode cX11_cursor 19 = .ok (.iload_n 1, 1) := by decide +kernel
theorem dX11_cursor_20 : decode cX11_cursor 20 = .ok (.aaload, 1) := by decide +kernel
theorem dX11_cursor_21 : decode cX11_cursor 21 = .ok (.astore 5, 2) := by decide +kernel
theorem dX11_cursor_23 : decode cX11_cursor 23 = .ok (.aload_n 0, 1) := by decide +kernel
theorem dX11_cursor_24 : decode cX11_cursor 24 = .ok (.getfield 41, 3) := by decide +kernel
theorem dX11_cursor_27 : decode cX11_cursor 27 = .ok (.aload 5, 2) := by decide +kernel
theorem dX11_cursor_29 : decode cX11_cursor 29 = .ok (.getfield 147, 3) := by decide +kernel
theorem dX11_cursor_32 : decode cX11_cursor 32 = .ok (.aload_n 0, 1) := by decide +kernel
theorem dX11_cursor_33 : decode cX11_cursor 33 = .ok (.getfield 19, 3) := by decide +kernel
theorem dX11_cursor_36 : decode cX11_cursor 36 = .ok (.iload_n 2, 1) := by decide +kernel
theorem dX11_cursor_37 : decode cX11_cursor 37 = .ok (.invokevirtual 123, 3) := by decide +kernel
theorem dX11_cursor_40 : decode cX11_cursor 40 = .ok (.bipush 8, 2) := by decide +kernel
theorem dX11_cursor_42 : decode cX11_cursor 42 = .ok (.imul, 1) := by decide +kernel
theorem dX11_cursor_43 : decode cX11_cursor 43 = .ok (.iload_n 3, 1) := by decide +kernel
theorem dX11_cursor_44 : decode cX11_cursor 44 = .ok (.iadd, 1) := by decide +kernel
theorem dX11_cursor_45 : decode cX11_cursor 45 = .ok (.invokevirtual 153, 3) := by decide +kernel
theorem dX11_cursor_48 : decode cX11_cursor 48 = .ok (.iload 4, 2) := by decide +kernel
theorem dX11_cursor_50 : decode cX11_cursor 50 = .ok (.ifCond .lt 15, 3) := by decide +kernel
theorem dX11_cursor_53 : decode cX11_cursor 53 = .ok (.iload 4, 2) := by decide +kernel
theorem dX11_cursor_55 : decode cX11_cursor 55 = .ok (.aload_n 0, 1) := by decide +kernel
theorem dX11_cursor_56 : decode cX11_cursor 56 = .ok (.getfield 41, 3) := by decide +kernel
theorem dX11_cursor_59 : decode cX11_cursor 59 = .ok (.getfield 165, 3) := by decide +kernel
theorem dX11_cursor_62 : decode cX11_cursor 62 = .ok (.if_icmp .le 5, 3) := by decide +kernel
theorem dX11_cursor_65 : decode cX11_cursor 65 = .ok (.iconst 0, 1) := by decide +kernel
theorem dX11_cursor_66 : decode cX11_cursor 66 = .ok (.ireturn, 1) := by decide +kernel
theorem dX11_cursor_67 : decode cX11_cursor 67 = .ok (.aload 5, 2) := by decide +kernel
theorem dX11_cursor_69 : decode cX11_cursor 69 = .ok (.iload_n 2, 1) := by decide +kernel
theorem dX11_cursor_70 : decode cX11_cursor 70 = .ok (.iload_n 3, 1) := by decide +kernel
theorem dX11_cursor_71 : decode cX11_cursor 71 = .ok (.aload_n 0, 1) := by decide +kernel
theorem dX11_cursor_72 : decode cX11_cursor 72 = .ok (.getfield 41, 3) := by decide +kernel
theorem dX11_cursor_75 : decode cX11_cursor 75 = .ok (.iload 4, 2) := by decide +kernel
theorem dX11_cursor_77 : decode cX11_cursor 77 = .ok (.invokevirtual 176, 3) := by decide +kernel
theorem dX11_cursor_80 : decode cX11_cursor 80 = .ok (.invokevirtual 179, 3) := by decide +kernel
theorem dX11_cursor_83 : decode cX11_cursor 83 = .ok (.iconst 1, 1) := by decide +kernel
theorem dX11_cursor_84 : decode cX11_cursor 84 = .ok (.ireturn, 1) := by decide +kernel
theorem kd_11_cursor : Cond.code yX11_cursor cX11_cursor 6 (some .boolean) ∈ lw_g := mt_at 1206 (by decide +kernel) rfl
theorem ki_11_cursor : Cond.instanceMethod yX11_cursor ∈ lw_g := mt_at 1204 (by decide +kernel) rfl
theorem kl_11_cursor : Cond.selects (kRn 11) yX11_cursor yX11_cursor ∈ lw_g := mt_at 1205 (by decide +kernel) rfl
theorem cw11_179 : cCw RX11 179 yX7_setCursor cX7_setCursor 4 none 3 := ⟨kd_7_setCursor, mt_at 1207 (by decide +kernel) rfl, mt_at 7 (by decide +kernel) rfl, by decide +kernel⟩
section
variable {p : Program} {l : Launch} {e : Env} {R : Room} {s : State} {m : MethodId} {args : Array Value} {below : List Frame} {meth : Method} {c : Code} {D : cG} {S0 S9 : cSt} {r : Int32}
noncomputable def fk_11_cursor_65 (S : cSt) : Option (Int32 × cSt) :=
ckz (0 : Int32) (some ((0 : Int32), S))
set_option maxRecDepth 100000 in
set_option maxHeartbeats 4000000 in
theorem wk_11_cursor_65 (C : cY p R s m args meth c RX11 cX11_cursor 6 5 0 0 113 (some .boolean)) (X : cX D s) : ∀ {S : cSt} {H : Heap} {locs : List Loc} {ls : Array Slot}, fk_11_cursor_65 S = some (r, S9) → cJ D S0 s.heap S H locs → lv_has ls 6 [] → W p l e R s m args below meth c H locs 0 0 (MQ below (kW (some (.int r)) D S0 S9) args s 0 0 (cA S0)) (F0 m 65 ls []) := by
  intro S H locs ls h hJ hl
  unfold fk_11_cursor_65 at h
  refine lv_iconst (v := 0) C.1 C.2.1 dX11_cursor_65 (by decide) ?_
  obtain ⟨hzo, h⟩ := ckz_ok h
  cases h
  exact c_retnW C (by rcases hzo with h9 | h9 <;> (rw [h9]; rfl)) hJ dX11_cursor_66
noncomputable def fk_11_cursor (S : cSt) (v0 : Nat) (v1 : Int32) (v2 : Int32) (v3 : Int32) (v4 : Int32) : Option (Int32 × cSt) :=
ckk S v0 12 (bd (fk_11_refusalOf S v0 v1 (9 : Int32) v2 v3 (0 : Int32)) fun r1 =>
if r1 = 0 then (
ckk S v0 12 (bd (kR S v0 2) fun a3 =>
ckk S a3 31 (ck v1 (kL S a3) (lt (kO S a3 (Int32.toNatClampNeg v1)) fun o4 =>
ckk S v0 12 (bd (kR S v0 5) fun a5 =>
bd o4 fun a6 =>
ckk S a6 8 (bd (kR S a6 2) fun a7 =>
ckk S v0 12 (bd (kR S v0 1) fun a8 =>
ckk S a8 1 (bd (fk_0_slotOf S a8 v2) fun r9 =>
ckk S a5 10 (bd (fk_9_read S a5 a7 ((r9 * (8 : Int32)) + v3)) fun S10 =>
if v4 < 0 then (
fk_11_cursor_65 S10)
else (
ckk S10 v0 12 (bd (kR S10 v0 5) fun a12 =>
ckk S10 a12 10 (
if v4 ≤ (kF S10 a12 1) then (
ckk S10 v0 12 (bd (kR S10 v0 5) fun a14 =>
ckk S10 a14 10 (bd (fk_9_nameAhead S10 a14 v4) fun r15 =>
ckk S10 a6 8 (bd (fk_7_setCursor S10 a6 v2 v3 r15) fun S16 =>
ckz (1 : Int32) (some ((1 : Int32), S16))))))
else (
fk_11_cursor_65 S10)))))))))))))
else (
ckz (0 : Int32) (some ((0 : Int32), S))))
set_option maxRecDepth 100000 in
set_option maxHeartbeats 4000000 in
theorem tk_11_cursor (l : Launch) {D : cG} {S : cSt} {v0 : Nat} {v1 : Int32} {v2 : Int32} {v3 : Int32} {v4 : Int32} {r : Int32} {S9 : cSt} (h : fk_11_cursor S v0 v1 v2 v3 v4 = some (r, S9)) : Met l yX11_cursor (Cond.code yX11_cursor cX11_cursor 6 (some .boolean) :: lw_g) { frames := 5, cells := 0, slots := 0, locals := 113 } (kPi [.ref v0, .int v1, .int v2, .int v3, .int v4] D S) (kW (some (.int r)) D S S9) 0 0 (cA S) := by
  refine Met.ofW (cc := cX11_cursor) (maxL := 6) (ret := (some .boolean)) (by decide) rfl ?_
  intro p e s m args below meth c s₁ B hml hv
  obtain ⟨rfl, hW, X⟩ := hv
  have C : cY p (headSpec (Cond.code yX11_cursor cX11_cursor 6 (some .boolean) :: lw_g) { frames := 5, cells := 0, slots := 0, locals := 113 }).room s m _ meth c RX11 cX11_cursor 6 5 0 0 113 (some .boolean) := ⟨B.exec, B.bytes, hml, findClass_of_methodNamed B.named, fun w hw => atoms_spec (ws := Cond.code yX11_cursor cX11_cursor 6 (some .boolean) :: lw_g) B.pre w (List.mem_cons_of_mem _ hw), ⟨Nat.le_refl _, Nat.le_refl _, Nat.le_refl _, Nat.le_refl _⟩, B.returns, B.notSynchronized⟩
  have hl := lv_entry ([.ref v0, .int v1, .int v2, .int v3, .int v4]) (n := 6) (Nat.le_of_ble_eq_true rfl)
  rw [lg_entry_eq]
  generalize (lg_sl ([.ref v0, .int v1, .int v2, .int v3, .int v4]) ++ List.replicate (6 - (lg_sl ([.ref v0, .int v1, .int v2, .int v3, .int v4])).length) Slot.unset).toArray = ls at hl ⊢
  have hl : lv_has ls 6 [(0, .ref v0), (1, .int v1), (2, .int v2), (3, .int v3), (4, .int v4)] := hl
  have hJ : cJ D S s.heap S s.heap [] := cJ.rf hW
  unfold fk_11_cursor at h
  refine lv_aload_n C.1 C.2.1 dX11_cursor_0 rfl (lv_at hl 0 rfl) ?_
  refine lv_iload_n C.1 C.2.1 dX11_cursor_1 rfl (lv_at hl 1 rfl) ?_
  refine lv_bipush (v := 9) C.1 C.2.1 dX11_cursor_2 (by decide) ?_
  refine lv_iload_n C.1 C.2.1 dX11_cursor_4 rfl (lv_at hl 2 rfl) ?_
  refine lv_iload_n C.1 C.2.1 dX11_cursor_5 rfl (lv_at hl 3 rfl) ?_
  refine lv_iconst (v := 0) C.1 C.2.1 dX11_cursor_6 (by decide) ?_
  obtain ⟨hk, h⟩ := ckk_ok h
  obtain ⟨r1, h_r1, h⟩ := bd_ok h
  refine c_callR (rest := []) C X hJ.1 hl.1 11 (by decide) hk [.int v1, .int (9 : Int32), .int v2, .int v3, .int (0 : Int32)] (tk_11_refusalOf l h_r1) cw11_119 ki_11_refusalOf kl_11_refusalOf rfl ⟨by decide, by decide⟩ ⟨(by decide), (by decide)⟩ rfl (Nat.le_of_ble_eq_true rfl) dX11_cursor_7 ?_
  refine W.eq (g2 := F0 m 10 ls [.int r1]) rfl ?_
  refine lv_if_eq (tgt := 15) C.1 C.2.1 dX11_cursor_10 (by decide) (fun c2 => ?_) (fun c2 => ?_)
  · have h := if_t h c2
    refine lv_aload_n C.1 C.2.1 dX11_cursor_15 rfl (lv_at hl 0 rfl) ?_
    obtain ⟨hk, h⟩ := ckk_ok h
    obtain ⟨a3, h_a3, h⟩ := bd_ok h
    refine gk11_25 C X hJ.1 hk h_a3 dX11_cursor_16 ?_
    refine lv_iload_n C.1 C.2.1 dX11_cursor_19 rfl (lv_at hl 1 rfl) ?_
    obtain ⟨hk, h⟩ := ckk_ok h
    obtain ⟨hin2, h⟩ := ck_ok h
    refine c_aald C 31 (by decide) X.2.2.2.2.2.1 hJ.1 hk hin2 dX11_cursor_20 ?_
    refine lt_ok h (fun o4 e_o4 h => ?_)
    refine lv_nmq e_o4 ?_
    refine lv_astoreq (o := o4) (lv' := [(5, va_rf o4), (0, .ref v0), (1, .int v1), (2, .int v2), (3, .int v3), (4, .int v4)]) C.1 C.2.1 dX11_cursor_21 hl (by decide) rfl (fun ls hl => ?_)
    refine lv_aload_n C.1 C.2.1 dX11_cursor_23 rfl (lv_at hl 1 rfl) ?_
    obtain ⟨hk, h⟩ := ckk_ok h
    obtain ⟨a5, h_a5, h⟩ := bd_ok h
    refine gk11_41 C X hJ.1 hk h_a5 dX11_cursor_24 ?_
    refine lv_aloadq (o := o4) C.1 C.2.1 dX11_cursor_27 (lv_at hl 0 rfl) ?_
    obtain ⟨a6, e_a6, h⟩ := bd_ok h
    revert h; subst e_a6; intro h
    obtain ⟨hk, h⟩ := ckk_ok h
    obtain ⟨a7, h_a7, h⟩ := bd_ok h
    refine gk11_147 C X hJ.1 hk h_a7 dX11_cursor_29 ?_
    refine lv_aload_n C.1 C.2.1 dX11_cursor_32 rfl (lv_at hl 1 rfl) ?_
    obtain ⟨hk, h⟩ := ckk_ok h
    obtain ⟨a8, h_a8, h⟩ := bd_ok h
    refine gk11_19 C X hJ.1 hk h_a8 dX11_cursor_33 ?_
    refine lv_iload_n C.1 C.2.1 dX11_cursor_36 rfl (lv_at hl 3 rfl) ?_
    obtain ⟨hk, h⟩ := ckk_ok h
    obtain ⟨r9, h_r9, h⟩ := bd_ok h
    refine c_callR (rest := [.ref a7, .ref a5]) C X hJ.1 hl.1 0 (by decide) hk [.int v2] (tk_0_slotOf l h_r9) cw11_123 ki_0_slotOf kl_0_slotOf rfl ⟨by decide, by decide⟩ ⟨(by decide), (by decide)⟩ rfl (Nat.le_of_ble_eq_true rfl) dX11_cursor_37 ?_
    refine W.eq (g2 := F0 m 40 ls [.int r9, .ref a7, .ref a5]) rfl ?_
    refine lv_bipush (v := 8) C.1 C.2.1 dX11_cursor_40 (by decide) ?_
    refine lv_imul C.1 C.2.1 dX11_cursor_42 ?_
    refine lv_iload_n C.1 C.2.1 dX11_cursor_43 rfl (lv_at hl 4 rfl) ?_
    refine lv_iadd C.1 C.2.1 dX11_cursor_44 ?_
    obtain ⟨hk, h⟩ := ckk_ok h
    obtain ⟨S10, h_S10, h⟩ := bd_ok h
    refine c_callW (rest := []) C X hJ hl.1 9 (by decide) hk [.ref a7, .int ((r9 * (8 : Int32)) + v3)] (tk_9_read l h_S10) cw11_153 ki_9_read kl_9_read rfl ⟨by decide, by decide⟩ ⟨(by decide), (by decide)⟩ rfl (Nat.le_of_ble_eq_true rfl) dX11_cursor_45 (fun H locs hJ => ?_)
    refine W.eq (g2 := F0 m 48 ls []) rfl ?_
    refine lv_iload C.1 C.2.1 dX11_cursor_48 (lv_at hl 5 rfl) ?_
    refine lv_if_lt (tgt := 65) C.1 C.2.1 dX11_cursor_50 (by decide) (fun c11 => ?_) (fun c11 => ?_)
    · have h := if_t h c11
      exact wk_11_cursor_65 C X h hJ (lv_sub hl [] rfl)
    · have h := if_f h c11
      refine lv_iload C.1 C.2.1 dX11_cursor_53 (lv_at hl 5 rfl) ?_
      refine lv_aload_n C.1 C.2.1 dX11_cursor_55 rfl (lv_at hl 1 rfl) ?_
      obtain ⟨hk, h⟩ := ckk_ok h
      obtain ⟨a12, h_a12, h⟩ := bd_ok h
      refine gk11_41 C X hJ.1 hk h_a12 dX11_cursor_56 ?_
      obtain ⟨hk, h⟩ := ckk_ok h
      refine gk11_165 C X hJ.1 hk dX11_cursor_59 ?_
      refine lv_icmp_le (tgt := 67) C.1 C.2.1 dX11_cursor_62 (by decide) (fun c13 => ?_) (fun c13 => ?_)
      · have h := if_t h c13
        refine lv_aload C.1 C.2.1 dX11_cursor_67 (lv_at hl 0 rfl) ?_
        refine lv_iload_n C.1 C.2.1 dX11_cursor_69 rfl (lv_at hl 3 rfl) ?_
        refine lv_iload_n C.1 C.2.1 dX11_cursor_70 rfl (lv_at hl 4 rfl) ?_
        refine lv_aload_n C.1 C.2.1 dX11_cursor_71 rfl (lv_at hl 1 rfl) ?_
        obtain ⟨hk, h⟩ := ckk_ok h
        obtain ⟨a14, h_a14, h⟩ := bd_ok h
        refine gk11_41 C X hJ.1 hk h_a14 dX11_cursor_72 ?_
        refine lv_iload C.1 C.2.1 dX11_cursor_75 (lv_at hl 5 rfl) ?_
        obtain ⟨hk, h⟩ := ckk_ok h
        obtain ⟨r15, h_r15, h⟩ := bd_ok h
        refine c_callR (rest := [.int v3, .int v2, .ref a6]) C X hJ.1 hl.1 9 (by decide) hk [.int v4] (tk_9_nameAhead l h_r15) cw11_176 ki_9_nameAhead kl_9_nameAhead rfl ⟨by decide, by decide⟩ ⟨(by decide), (by decide)⟩ rfl (Nat.le_of_ble_eq_true rfl) dX11_cursor_77 ?_
        refine W.eq (g2 := F0 m 80 ls [.int r15, .int v3, .int v2, .ref a6]) rfl ?_
        obtain ⟨hk, h⟩ := ckk_ok h
        obtain ⟨S16, h_S16, h⟩ := bd_ok h
        refine c_callW (rest := []) C X hJ hl.1 7 (by decide) hk [.int v2, .int v3, .int r15] (tk_7_setCursor l h_S16) cw11_179 ki_7_setCursor kl_7_setCursor rfl ⟨by decide, by decide⟩ ⟨(by decide), (by decide)⟩ rfl (Nat.le_of_ble_eq_true rfl) dX11_cursor_80 (fun H locs hJ => ?_)
        refine W.eq (g2 := F0 m 83 ls []) rfl ?_
        refine lv_iconst (v := 1) C.1 C.2.1 dX11_cursor_83 (by decide) ?_
        obtain ⟨hzo, h⟩ := ckz_ok h
        cases h
        exact c_retnW C (by rcases hzo with h9 | h9 <;> (rw [h9]; rfl)) hJ dX11_cursor_84
      · have h := if_f h c13
        exact wk_11_cursor_65 C X h hJ (lv_sub hl [] rfl)
  · have h := if_f h c2
    refine lv_iconst (v := 0) C.1 C.2.1 dX11_cursor_13 (by decide) ?_
    obtain ⟨hzo, h⟩ := ckz_ok h
    cases h
    exact c_retnW C (by rcases hzo with h9 | h9 <;> (rw [h9]; rfl)) hJ dX11_cursor_14
end
theorem dX11_placeOfCursor_0 : decode cX11_placeOfCursor 0 = .ok (.aload_n 0, 1) := by decide +kernel
theorem dX11_placeOfCursor_1 : decode cX11_placeOfCursor 1 = .ok (.getfield 19, 3) := by decide +kernel
theorem dX11_placeOfCursor_4 : decode cX11_placeOfCursor 4 = .ok (.aload_n 1, 1) := by decide +kernel
theorem dX11_placeOfCursor_5 : decode cX11_placeOfCursor 5 = .ok (.getfield 183, 3) := by decide +kernel
theorem dX11_placeOfCursor_8 : decode cX11_placeOfCursor 8 = .ok (.iload_n 2, 1) := by decide +kernel
theorem dX11_placeOfCursor_9 : decode cX11_placeOfCursor 9 = .ok (.iconst 1, 1) := by decide +kernel
theorem dX11_placeOfCursor_10 : decode cX11_placeOfCursor 10 = .ok (.iadd, 1) := by decide +kernel
theorem dX11_placeOfCursor_11 : decode cX11_placeOfCursor 11 = .ok (.iaload, 1) := by decide +kernel
theorem dX11_placeOfCursor_12 : decode cX11_placeOfCursor 12 = .ok (.invokevirtual 123, 3) := by decide +kernel
theorem dX11_placeOfCursor_15 : decode cX11_placeOfCursor 15 = .ok (.istore_n 3, 1) := by decide +kernel
theorem dX11_placeOfCursor_16 : decode cX11_placeOfCursor 16 = .ok (.aload_n 1, 1) := by decide +kernel
theorem dX11_placeOfCursor_17 : decode cX11_placeOfCursor 17 = .ok (.getfield 147, 3) := by decide +kernel
theorem dX11_placeOfCursor_20 : decode cX11_placeOfCursor 20 = .ok (.iload_n 3, 1) := by decide +kernel
theorem dX11_placeOfCursor_21 : decode cX11_placeOfCursor 21 = .ok (.invokevirtual 458, 3) := by decide +kernel
theorem dX11_placeOfCursor_24 : decode cX11_placeOfCursor 24 = .ok (.ifCond .ne 5, 3) := by decide +kernel
theorem dX11_placeOfCursor_27 : decode cX11_placeOfCursor 27 = .ok (.iconst (-1), 1) := by decide +kernel
theorem dX11_placeOfCursor_28 : decode cX11_placeOfCursor 28 = .ok (.ireturn, 1) := by decide +kernel
theorem dX11_placeOfCursor_29 : decode cX11_placeOfCursor 29 = .ok (.aload_n 1, 1) := by decide +kernel
theorem dX11_placeOfCursor_30 : decode cX11_placeOfCursor 30 = .ok (.getfield 183, 3) := by decide +kernel
theorem dX11_placeOfCursor_33 : decode cX11_placeOfCursor 33 = .ok (.iload_n 2, 1) := by decide +kernel
theorem dX11_placeOfCursor_34 : decode cX11_placeOfCursor 34 = .ok (.iconst 3, 1) := by decide +kernel
theorem dX11_placeOfCursor_35 : decode cX11_placeOfCursor 35 = .ok (.iadd, 1) := by decide +kernel
theorem dX11_placeOfCursor_36 : decode cX11_placeOfCursor 36 = .ok (.iaload, 1) := by decide +kernel
theorem dX11_placeOfCursor_37 : decode cX11_placeOfCursor 37 = .ok (.istore 4, 2) := by decide +kernel
theorem dX11_placeOfCursor_39 : decode cX11_placeOfCursor 39 = .ok (.iload 4, 2) := by decide +kernel
theorem dX11_placeOfCursor_41 : decode cX11_placeOfCursor 41 = .ok (.ifCond .ne 5, 3) := by decide +kernel
theorem dX11_placeOfCursor_44 : decode cX11_placeOfCursor 44 = .ok (.iconst 0, 1) := by decide +kernel
theorem dX11_placeOfCursor_45 : decode cX11_placeOfCursor 45 = .ok (.ireturn, 1) := by decide +kernel
theorem dX11_placeOfCursor_46 : decode cX11_placeOfCursor 46 = .ok (.aload_n 0, 1) := by decide +kernel
theorem dX11_placeOfCursor_47 : decode cX11_placeOfCursor 47 = .ok (.getfield 19, 3) := by decide +kernel
theorem dX11_placeOfCursor_50 : decode cX11_placeOfCursor 50 = .ok (.iload 4, 2) := by decide +kernel
theorem dX11_placeOfCursor_52 : decode cX11_placeOfCursor 52 = .ok (.invokevirtual 381, 3) := by decide +kernel
theorem dX11_placeOfCursor_55 : decode cX11_placeOfCursor 55 = .ok (.astore 5, 2) := by decide +kernel
theorem dX11_placeOfCursor_57 : decode cX11_placeOfCursor 57 = .ok (.aload 5, 2) := by decide +kernel
theorem dX11_placeOfCursor_59 : decode cX11_placeOfCursor 59 = .ok (.ifnull 15, 3) := by decide +kernel
theorem dX11_placeOfCursor_62 : decode cX11_placeOfCursor 62 = .ok (.aload_n 1, 1) := by decide +kernel
theorem dX11_placeOfCursor_63 : decode cX11_placeOfCursor 63 = .ok (.getfield 68, 3) := by decide +kernel
theorem dX11_placeOfCursor_66 : decode cX11_placeOfCursor 66 = .ok (.aload 5, 2) := by decide +kernel
theorem dX11_placeOfCursor_68 : decode cX11_placeOfCursor 68 = .ok (.invokevirtual 385, 3) := by decide +kernel
theorem dX11_placeOfCursor_71 : decode cX11_placeOfCursor 71 = .ok (.ifCond .ne 5, 3) := by decide +kernel
theorem dX11_placeOfCursor_74 : decode cX11_placeOfCursor 74 = .ok (.iconst (-1), 1) := by decide +kernel
theorem dX11_placeOfCursor_75 : decode cX11_placeOfCursor 75 = .ok (.ireturn, 1) := by decide +kernel
theorem dX11_placeOfCursor_76 : decode cX11_placeOfCursor 76 = .ok (.aload_n 0, 1) := by decide +kernel
theorem dX11_placeOfCursor_77 : decode cX11_placeOfCursor 77 = .ok (.getfield 41, 3) := by decide +kernel
theorem dX11_placeOfCursor_80 : decode cX11_placeOfCursor 80 = .ok (.aload_n 1, 1) := by decide +kernel
theorem dX11_placeOfCursor_81 : decode cX11_placeOfCursor 81 = .ok (.getfield 147, 3) := by decide +kernel
theorem dX11_placeOfCursor_84 : decode cX11_placeOfCursor 84 = .ok (.aload 5, 2) := by decide +kernel
theorem dX11_placeOfCursor_86 : decode cX11_placeOfCursor 86 = .ok (.getfield 503, 3) := by decide +kernel
theorem dX11_placeOfCursor_89 : decode cX11_placeOfCursor 89 = .ok (.invokevirtual 153, 3) := by decide +kernel
theorem dX11_placeOfCursor_92 : decode cX11_placeOfCursor 92 = .ok (.aload_n 0, 1) := by decide +kernel
theorem dX11_placeOfCursor_93 : decode cX11_placeOfCursor 93 = .ok (.getfield 41, 3) := by decide +kernel
theorem dX11_placeOfCursor_96 : decode cX11_placeOfCursor 96 = .ok (.aload 5, 2) := by decide +kernel
theorem dX11_placeOfCursor_98 : decode cX11_placeOfCursor 98 = .ok (.invokevirtual 506, 3) := by decide +kernel
theorem dX11_placeOfCursor_101 : decode cX11_placeOfCursor 101 = .ok (.ireturn, 1) := by decide +kernel
theorem kd_11_placeOfCursor : Cond.code yX11_placeOfCursor cX11_placeOfCursor 6 (some .int) ∈ lw_g := mt_at 1218 (by decide +kernel) rfl
theorem ki_11_placeOfCursor : Cond.instanceMethod yX11_placeOfCursor ∈ lw_g := mt_at 1217 (by decide +kernel) rfl
theorem kl_11_placeOfCursor : Cond.selects (kRn 11) yX11_placeOfCursor yX11_placeOfCursor ∈ lw_g := mt_sel 24 (by decide +kernel) rfl
theorem cw11_381 : cCw RX11 381 yX0_rowNamed cX0_rowNamed 3 (some (.object "AccordHouse$Row")) 1 := ⟨kd_0_rowNamed, mt_at 1219 (by decide +kernel) rfl, mt_at 3 (by decide +kernel) rfl, by decide +kernel⟩
theorem cw11_385 : cCw RX11 385 yX4_has cX4_has 2 (some .boolean) 1 := ⟨kd_4_has, mt_at 1220 (by decide +kernel) rfl, mt_at 9 (by decide +kernel) rfl, by decide +kernel⟩
theorem cw11_506 : cCw RX11 506 yX9_standingUpTo cX9_standingUpTo 5 (some .int) 1 := ⟨kd_9_standingUpTo, mt_at 1221 (by decide +kernel) rfl, mt_at 5 (by decide +kernel) rfl, by decide +kernel⟩
section
variable {p : Program} {l : Launch} {e : Env} {R : Room} {s : State} {m : MethodId} {args : Array Value} {below : List Frame} {meth : Method} {c : Code} {H : Heap} {locs : List Loc} {cells slots : Nat} {Q : State → Prop}
variable {D : cG} {S S0 : cSt} {cc : ByteArray} {nL : Nat} {pc : Nat} {ls : Array Slot} {rest : List Value} {H0 : Heap} {nF nR nC nS : Nat} {ret : Option FieldType} {a : Nat}
theorem gk11_183 (C : cY p R s m args meth c RX11 cc nL nF nC nS nR ret) (X : cX D s) (hW : cW D S H) (hk : kK S a = 8) {x : Nat} (hx : kR S a 7 = some x) (hdg : decode cc pc = .ok (.getfield 183, 3)) (kk : W p l e R s m args below meth c H locs cells slots Q (F0 m (pc + 3) ls (.ref x :: rest))) : W p l e R s m args below meth c H locs cells slots Q (F0 m pc ls (.ref a :: rest)) := c_get C X hW 7 (by decide) ly_7 hk 7 (by decide) (mt_at 320 (by decide +kernel) (by decide +kernel)) hdg (by rw [cV_R (by decide +kernel) hx]; exact kk)
theorem gk11_503 (C : cY p R s m args meth c RX11 cc nL nF nC nS nR ret) (X : cX D s) (hW : cW D S H) (hk : kK S a = 9) (hdg : decode cc pc = .ok (.getfield 503, 3)) (kk : W p l e R s m args below meth c H locs cells slots Q (F0 m (pc + 3) ls (.int (kF S a 13) :: rest))) : W p l e R s m args below meth c H locs cells slots Q (F0 m pc ls (.ref a :: rest)) := c_get C X hW 8 (by decide) ly_8 hk 13 (by decide) (mt_at 1033 (by decide +kernel) (by decide +kernel)) hdg (by rw [cV_I (by decide +kernel)]; exact kk)
end
section
variable {p : Program} {l : Launch} {e : Env} {R : Room} {s : State} {m : MethodId} {args : Array Value} {below : List Frame} {meth : Method} {c : Code} {D : cG} {S0 S9 : cSt} {r : Int32}
noncomputable def fk_11_placeOfCursor_74 (S : cSt) : Option (Int32 × cSt) :=
some ((-1 : Int32), S)
set_option maxRecDepth 100000 in
set_option maxHeartbeats 4000000 in
theorem wk_11_placeOfCursor_74 (C : cY p R s m args meth c RX11 cX11_placeOfCursor 6 2 0 0 47 (some .int)) (X : cX D s) : ∀ {S : cSt} {H : Heap} {locs : List Loc} {ls : Array Slot}, fk_11_placeOfCursor_74 S = some (r, S9) → cJ D S0 s.heap S H locs → lv_has ls 6 [] → W p l e R s m args below meth c H locs 0 0 (MQ below (kW (some (.int r)) D S0 S9) args s 0 0 (cA S0)) (F0 m 74 ls []) := by
  intro S H locs ls h hJ hl
  unfold fk_11_placeOfCursor_74 at h
  refine lv_iconst (v := -1) C.1 C.2.1 dX11_placeOfCursor_74 (by decide) ?_
  cases h
  exact c_retiW C hJ dX11_placeOfCursor_75
noncomputable def fk_11_placeOfCursor (S : cSt) (v0 : Nat) (v1 : Nat) (v2 : Int32) : Option (Int32 × cSt) :=
ckk S v0 12 (bd (kR S v0 1) fun a1 =>
ckk S v1 8 (bd (kR S v1 7) fun a2 =>
ckk S a2 20 (ck (v2 + (1 : Int32)) (kL S a2) (
ckk S a1 1 (bd (fk_0_slotOf S a1 (kI S a2 (Int32.toNatClampNeg (v2 + (1 : Int32))))) fun r3 =>
ckk S v1 8 (bd (kR S v1 2) fun a4 =>
ckk S a4 11 (bd (fk_10_isMade S a4 r3) fun r5 =>
if r5 = 0 then (
some ((-1 : Int32), S))
else (
ckk S v1 8 (bd (kR S v1 7) fun a7 =>
ckk S a7 20 (ck (v2 + (3 : Int32)) (kL S a7) (
lt (kI S a7 (Int32.toNatClampNeg (v2 + (3 : Int32)))) fun x8 =>
if x8 = 0 then (
some ((0 : Int32), S))
else (
ckk S v0 12 (bd (kR S v0 1) fun a10 =>
ckk S a10 1 (bd (fk_0_rowNamed S a10 x8) fun o11 =>
cs o11 (
fk_11_placeOfCursor_74 S) (fun a12 =>
ckk S v1 8 (bd (kR S v1 1) fun a13 =>
ckk S a13 5 (bd (fk_4_has S a13 a12) fun r14 =>
if r14 = 0 then (
fk_11_placeOfCursor_74 S)
else (
ckk S v0 12 (bd (kR S v0 5) fun a16 =>
ckk S v1 8 (bd (kR S v1 2) fun a17 =>
ckk S a12 9 (
ckk S a16 10 (bd (fk_9_read S a16 a17 (kF S a12 13)) fun S18 =>
ckk S18 v0 12 (bd (kR S18 v0 5) fun a19 =>
ckk S18 a19 10 (bd (fk_9_standingUpTo S18 a19 a12) fun r20 =>
some (r20, S18)))))))))))))))))))))))))
set_option maxRecDepth 100000 in
set_option maxHeartbeats 4000000 in
theorem tk_11_placeOfCursor (l : Launch) {D : cG} {S : cSt} {v0 : Nat} {v1 : Nat} {v2 : Int32} {r : Int32} {S9 : cSt} (h : fk_11_placeOfCursor S v0 v1 v2 = some (r, S9)) : Met l yX11_placeOfCursor (Cond.code yX11_placeOfCursor cX11_placeOfCursor 6 (some .int) :: lw_g) { frames := 2, cells := 0, slots := 0, locals := 47 } (kPi [.ref v0, .ref v1, .int v2] D S) (kW (some (.int r)) D S S9) 0 0 (cA S) := by
  refine Met.ofW (cc := cX11_placeOfCursor) (maxL := 6) (ret := (some .int)) (by decide) rfl ?_
  intro p e s m args below meth c s₁ B hml hv
  obtain ⟨rfl, hW, X⟩ := hv
  have C : cY p (headSpec (Cond.code yX11_placeOfCursor cX11_placeOfCursor 6 (some .int) :: lw_g) { frames := 2, cells := 0, slots := 0, locals := 47 }).room s m _ meth c RX11 cX11_placeOfCursor 6 2 0 0 47 (some .int) := ⟨B.exec, B.bytes, hml, findClass_of_methodNamed B.named, fun w hw => atoms_spec (ws := Cond.code yX11_placeOfCursor cX11_placeOfCursor 6 (some .int) :: lw_g) B.pre w (List.mem_cons_of_mem _ hw), ⟨Nat.le_refl _, Nat.le_refl _, Nat.le_refl _, Nat.le_refl _⟩, B.returns, B.notSynchronized⟩
  have hl := lv_entry ([.ref v0, .ref v1, .int v2]) (n := 6) (Nat.le_of_ble_eq_true rfl)
  rw [lg_entry_eq]
  generalize (lg_sl ([.ref v0, .ref v1, .int v2]) ++ List.replicate (6 - (lg_sl ([.ref v0, .ref v1, .int v2])).length) Slot.unset).toArray = ls at hl ⊢
  have hl : lv_has ls 6 [(0, .ref v0), (1, .ref v1), (2, .int v2)] := hl
  have hJ : cJ D S s.heap S s.heap [] := cJ.rf hW
  unfold fk_11_placeOfCursor at h
  refine lv_aload_n C.1 C.2.1 dX11_placeOfCursor_0 rfl (lv_at hl 0 rfl) ?_
  obtain ⟨hk, h⟩ := ckk_ok h
  obtain ⟨a1, h_a1, h⟩ := bd_ok h
  refine gk11_19 C X hJ.1 hk h_a1 dX11_placeOfCursor_1 ?_
  refine lv_aload_n C.1 C.2.1 dX11_placeOfCursor_4 rfl (lv_at hl 1 rfl) ?_
  obtain ⟨hk, h⟩ := ckk_ok h
  obtain ⟨a2, h_a2, h⟩ := bd_ok h
  refine gk11_183 C X hJ.1 hk h_a2 dX11_placeOfCursor_5 ?_
  refine lv_iload_n C.1 C.2.1 dX11_placeOfCursor_8 rfl (lv_at hl 2 rfl) ?_
  refine lv_iconst (v := 1) C.1 C.2.1 dX11_placeOfCursor_9 (by decide) ?_
  refine lv_iadd C.1 C.2.1 dX11_placeOfCursor_10 ?_
  obtain ⟨hk, h⟩ := ckk_ok h
  obtain ⟨hin2, h⟩ := ck_ok h
  refine c_iald C X hJ.1 hk hin2 dX11_placeOfCursor_11 ?_
  obtain ⟨hk, h⟩ := ckk_ok h
  obtain ⟨r3, h_r3, h⟩ := bd_ok h
  refine c_callR (rest := []) C X hJ.1 hl.1 0 (by decide) hk [.int (kI S a2 (Int32.toNatClampNeg (v2 + (1 : Int32))))] (tk_0_slotOf l h_r3) cw11_123 ki_0_slotOf kl_0_slotOf rfl ⟨by decide, by decide⟩ ⟨(by decide), (by decide)⟩ rfl (Nat.le_of_ble_eq_true rfl) dX11_placeOfCursor_12 ?_
  refine W.eq (g2 := F0 m 15 ls [.int r3]) rfl ?_
  refine lv_istore_n (lv' := [(3, .int r3), (0, .ref v0), (1, .ref v1), (2, .int v2)]) C.1 C.2.1 dX11_placeOfCursor_15 rfl hl (by decide) rfl (fun ls hl => ?_)
  refine lv_aload_n C.1 C.2.1 dX11_placeOfCursor_16 rfl (lv_at hl 2 rfl) ?_
  obtain ⟨hk, h⟩ := ckk_ok h
  obtain ⟨a4, h_a4, h⟩ := bd_ok h
  refine gk11_147 C X hJ.1 hk h_a4 dX11_placeOfCursor_17 ?_
  refine lv_iload_n C.1 C.2.1 dX11_placeOfCursor_20 rfl (lv_at hl 0 rfl) ?_
  obtain ⟨hk, h⟩ := ckk_ok h
  obtain ⟨r5, h_r5, h⟩ := bd_ok h
  refine c_callR (rest := []) C X hJ.1 hl.1 10 (by decide) hk [.int r3] (tk_10_isMade l h_r5) cw11_458 ki_10_isMade kl_10_isMade rfl ⟨by decide, by decide⟩ ⟨(by decide), (by decide)⟩ rfl (Nat.le_of_ble_eq_true rfl) dX11_placeOfCursor_21 ?_
  refine W.eq (g2 := F0 m 24 ls [.int r5]) rfl ?_
  refine lv_if_ne (tgt := 29) C.1 C.2.1 dX11_placeOfCursor_24 (by decide) (fun c6 => ?_) (fun c6 => ?_)
  · have h := if_f h c6
    refine lv_aload_n C.1 C.2.1 dX11_placeOfCursor_29 rfl (lv_at hl 2 rfl) ?_
    obtain ⟨hk, h⟩ := ckk_ok h
    obtain ⟨a7, h_a7, h⟩ := bd_ok h
    refine gk11_183 C X hJ.1 hk h_a7 dX11_placeOfCursor_30 ?_
    refine lv_iload_n C.1 C.2.1 dX11_placeOfCursor_33 rfl (lv_at hl 3 rfl) ?_
    refine lv_iconst (v := 3) C.1 C.2.1 dX11_placeOfCursor_34 (by decide) ?_
    refine lv_iadd C.1 C.2.1 dX11_placeOfCursor_35 ?_
    obtain ⟨hk, h⟩ := ckk_ok h
    obtain ⟨hin2, h⟩ := ck_ok h
    refine c_iald C X hJ.1 hk hin2 dX11_placeOfCursor_36 ?_
    refine lt_ok h (fun x8 e_x8 h => ?_)
    refine lv_nm e_x8 ?_
    refine lv_istore (lv' := [(4, .int x8), (3, .int r3), (0, .ref v0), (1, .ref v1), (2, .int v2)]) C.1 C.2.1 dX11_placeOfCursor_37 hl (by decide) rfl (fun ls hl => ?_)
    refine lv_iload C.1 C.2.1 dX11_placeOfCursor_39 (lv_at hl 0 rfl) ?_
    refine lv_if_ne (tgt := 46) C.1 C.2.1 dX11_placeOfCursor_41 (by decide) (fun c9 => ?_) (fun c9 => ?_)
    · have h := if_f h c9
      refine lv_aload_n C.1 C.2.1 dX11_placeOfCursor_46 rfl (lv_at hl 2 rfl) ?_
      obtain ⟨hk, h⟩ := ckk_ok h
      obtain ⟨a10, h_a10, h⟩ := bd_ok h
      refine gk11_19 C X hJ.1 hk h_a10 dX11_placeOfCursor_47 ?_
      refine lv_iload C.1 C.2.1 dX11_placeOfCursor_50 (lv_at hl 0 rfl) ?_
      obtain ⟨hk, h⟩ := ckk_ok h
      obtain ⟨o11, h_o11, h⟩ := bd_ok h
      refine c_callR (rest := []) C X hJ.1 hl.1 0 (by decide) hk [.int x8] (tk_0_rowNamed l h_o11) cw11_381 ki_0_rowNamed kl_0_rowNamed rfl ⟨by decide, by decide⟩ ⟨(by decide), (by decide)⟩ rfl (Nat.le_of_ble_eq_true rfl) dX11_placeOfCursor_52 ?_
      refine W.eq (g2 := F0 m 55 ls [va_rf o11]) rfl ?_
      refine lv_astoreq (o := o11) (lv' := [(5, va_rf o11), (4, .int x8), (3, .int r3), (0, .ref v0), (1, .ref v1), (2, .int v2)]) C.1 C.2.1 dX11_placeOfCursor_55 hl (by decide) rfl (fun ls hl => ?_)
      refine lv_aloadq (o := o11) C.1 C.2.1 dX11_placeOfCursor_57 (lv_at hl 0 rfl) ?_
      rcases o11 with _ | a12
      · replace h := cs_n h
        refine lv_ifnullN (tgt := 74) C.1 C.2.1 dX11_placeOfCursor_59 (by decide) ?_
        exact wk_11_placeOfCursor_74 C X h hJ (lv_sub hl [] rfl)
      · replace h := cs_s h
        refine lv_ifnull C.1 C.2.1 dX11_placeOfCursor_59 ?_
        refine lv_aload_n C.1 C.2.1 dX11_placeOfCursor_62 rfl (lv_at hl 4 rfl) ?_
        obtain ⟨hk, h⟩ := ckk_ok h
        obtain ⟨a13, h_a13, h⟩ := bd_ok h
        refine gk11_68 C X hJ.1 hk h_a13 dX11_placeOfCursor_63 ?_
        refine lv_aload C.1 C.2.1 dX11_placeOfCursor_66 (lv_at hl 0 rfl) ?_
        obtain ⟨hk, h⟩ := ckk_ok h
        obtain ⟨r14, h_r14, h⟩ := bd_ok h
        refine c_callR (rest := []) C X hJ.1 hl.1 4 (by decide) hk [.ref a12] (tk_4_has l h_r14) cw11_385 ki_4_has kl_4_has rfl ⟨by decide, by decide⟩ ⟨(by decide), (by decide)⟩ rfl (Nat.le_of_ble_eq_true rfl) dX11_placeOfCursor_68 ?_
        refine W.eq (g2 := F0 m 71 ls [.int r14]) rfl ?_
        refine lv_if_ne (tgt := 76) C.1 C.2.1 dX11_placeOfCursor_71 (by decide) (fun c15 => ?_) (fun c15 => ?_)
        · have h := if_f h c15
          refine lv_aload_n C.1 C.2.1 dX11_placeOfCursor_76 rfl (lv_at hl 3 rfl) ?_
          obtain ⟨hk, h⟩ := ckk_ok h
          obtain ⟨a16, h_a16, h⟩ := bd_ok h
          refine gk11_41 C X hJ.1 hk h_a16 dX11_placeOfCursor_77 ?_
          refine lv_aload_n C.1 C.2.1 dX11_placeOfCursor_80 rfl (lv_at hl 4 rfl) ?_
          obtain ⟨hk, h⟩ := ckk_ok h
          obtain ⟨a17, h_a17, h⟩ := bd_ok h
          refine gk11_147 C X hJ.1 hk h_a17 dX11_placeOfCursor_81 ?_
          refine lv_aload C.1 C.2.1 dX11_placeOfCursor_84 (lv_at hl 0 rfl) ?_
          obtain ⟨hk, h⟩ := ckk_ok h
          refine gk11_503 C X hJ.1 hk dX11_placeOfCursor_86 ?_
          obtain ⟨hk, h⟩ := ckk_ok h
          obtain ⟨S18, h_S18, h⟩ := bd_ok h
          refine c_callW (rest := []) C X hJ hl.1 9 (by decide) hk [.ref a17, .int (kF S a12 13)] (tk_9_read l h_S18) cw11_153 ki_9_read kl_9_read rfl ⟨by decide, by decide⟩ ⟨(by decide), (by decide)⟩ rfl (Nat.le_of_ble_eq_true rfl) dX11_placeOfCursor_89 (fun H locs hJ => ?_)
          refine W.eq (g2 := F0 m 92 ls []) rfl ?_
          refine lv_aload_n C.1 C.2.1 dX11_placeOfCursor_92 rfl (lv_at hl 3 rfl) ?_
          obtain ⟨hk, h⟩ := ckk_ok h
          obtain ⟨a19, h_a19, h⟩ := bd_ok h
          refine gk11_41 C X hJ.1 hk h_a19 dX11_placeOfCursor_93 ?_
          refine lv_aload C.1 C.2.1 dX11_placeOfCursor_96 (lv_at hl 0 rfl) ?_
          obtain ⟨hk, h⟩ := ckk_ok h
          obtain ⟨r20, h_r20, h⟩ := bd_ok h
          refine c_callR (rest := []) C X hJ.1 hl.1 9 (by decide) hk [.ref a12] (tk_9_standingUpTo l h_r20) cw11_506 ki_9_standingUpTo kl_9_standingUpTo rfl ⟨by decide, by decide⟩ ⟨(by decide), (by decide)⟩ rfl (Nat.le_of_ble_eq_true rfl) dX11_placeOfCursor_98 ?_
          refine W.eq (g2 := F0 m 101 ls [.int r20]) rfl ?_
          cases h
          exact c_retiW C hJ dX11_placeOfCursor_101
        · have h := if_t h c15
          exact wk_11_placeOfCursor_74 C X h hJ (lv_sub hl [] rfl)
    · have h := if_t h c9
      refine lv_iconst (v := 0) C.1 C.2.1 dX11_placeOfCursor_44 (by decide) ?_
      cases h
      exact c_retiW C hJ dX11_placeOfCursor_45
  · have h := if_t h c6
    refine lv_iconst (v := -1) C.1 C.2.1 dX11_placeOfCursor_27 (by decide) ?_
    cases h
    exact c_retiW C hJ dX11_placeOfCursor_28
end
theorem dX11_where_0 : decode cX11_where 0 = .ok (.iload_n 1, 1) := by decide +kernel
theorem dX11_where_1 : decode cX11_where 1 = .ok (.invokestatic 112, 3) := by decide +kernel
theorem dX11_where_4 : decode cX11_where 4 = .ok (.ifCond .eq 19, 3) := by decide +kernel
theorem dX11_where_7 : decode cX11_where 7 = .ok (.iload_n 2, 1) := by decide +kernel
theorem dX11_where_8 : decode cX11_where 8 = .ok (.invokestatic 112, 3) := by decide +kernel
theorem dX11_where_11 : decode cX11_where 11 = .ok (.ifCond .eq 12, 3) := by decide +kernel
theorem dX11_where_14 : decode cX11_where 14 = .ok (.iload_n 3, 1) := by decide +kernel
theorem dX11_where_15 : decode cX11_where 15 = .ok (.ifCond .lt 8, 3) := by decide +kernel
theorem dX11_where_18 : decode cX11_where 18 = .ok (.iload_n 3, 1) := by decide +kernel
theorem dX11_where_19 : decode cX11_where 19 = .ok (.iconst 3, 1) := by decide +kernel
theorem dX11_where_20 : decode cX11_where 20 = .ok (.if_icmp .le 5, 3) := by decide +kernel
theorem dX11_where_23 : decode cX11_where 23 = .ok (.iconst (-1), 1) := by decide +kernel
theorem dX11_where_24 : decode cX11_where 24 = .ok (.ireturn, 1) := by decide +kernel
theorem dX11_where_25 : decode cX11_where 25 = .ok (.aload_n 0, 1) := by decide +kernel
theorem dX11_where_26 : decode cX11_where 26 = .ok (.getfield 25, 3) := by decide +kernel
theorem dX11_where_29 : decode cX11_where 29 = .ok (.iload_n 1, 1) := by decide +kernel
theorem dX11_where_30 : decode cX11_where 30 = .ok (.aaload, 1) := by decide +kernel
theorem dX11_where_31 : decode cX11_where 31 = .ok (.getfield 183, 3) := by decide +kernel
theorem dX11_where_34 : decode cX11_where 34 = .ok (.astore 4, 2) := by decide +kernel
theorem dX11_where_36 : decode cX11_where 36 = .ok (.aload 4, 2) := by decide +kernel
theorem dX11_where_38 : decode cX11_where 38 = .ok (.iconst 4, 1) := by decide +kernel
theorem dX11_where_39 : decode cX11_where 39 = .ok (.iload_n 2, 1) := by decide +kernel
theorem dX11_where_40 : decode cX11_where 40 = .ok (.imul, 1) := by decide +kernel
theorem dX11_where_41 : decode cX11_where 41 = .ok (.iaload, 1) := by decide +kernel
theorem dX11_where_42 : decode cX11_where 42 = .ok (.istore 5, 2) := by decide +kernel
theorem dX11_where_44 : decode cX11_where 44 = .ok (.iload_n 3, 1) := by decide +kernel
theorem dX11_where_45 : decode cX11_where 45 = .ok (.ifCond .ne 6, 3) := by decide +kernel
theorem dX11_where_48 : decode cX11_where 48 = .ok (.iload 5, 2) := by decide +kernel
theorem dX11_where_50 : decode cX11_where 50 = .ok (.ireturn, 1) := by decide +kernel
theorem dX11_where_51 : decode cX11_where 51 = .ok (.iload 5, 2) := by decide +kernel
theorem dX11_where_53 : decode cX11_where 53 = .ok (.ifCond .ne 5, 3) := by decide +kernel
theorem dX11_where_56 : decode cX11_where 56 = .ok (.iconst (-1), 1) := by decide +kernel
theorem dX11_where_57 : decode cX11_where 57 = .ok (.ireturn, 1) := by decide +kernel
theorem dX11_where_58 : decode cX11_where 58 = .ok (.iload_n 3, 1) := by decide +kernel
theorem dX11_where_59 : decode cX11_where 59 = .ok (.iconst 3, 1) := by decide +kernel
theorem dX11_where_60 : decode cX11_where 60 = .ok (.if_icmp .ne 19, 3) := by decide +kernel
theorem dX11_where_63 : decode cX11_where 63 = .ok (.aload_n 0, 1) := by decide +kernel
theorem dX11_where_64 : decode cX11_where 64 = .ok (.aload_n 0, 1) := by decide +kernel
theorem dX11_where_65 : decode cX11_where 65 = .ok (.getfield 25, 3) := by decide +kernel
theorem dX11_where_68 : decode cX11_where 68 = .ok (.iload_n 1, 1) := by decide +kernel
theorem dX11_where_69 : decode cX11_where 69 = .ok (.aaload, 1) := by decide +kernel
theorem dX11_where_70 : decode cX11_where 70 = .ok (.iconst 4, 1) := by decide +kernel
theorem dX11_where_71 : decode cX11_where 71 = .ok (.iload_n 2, 1) := by decide +kernel
theorem dX11_where_72 : decode cX11_where 72 = .ok (.imul, 1) := by decide +kernel
theorem dX11_where_73 : decode cX11_where 73 = .ok (.invokevirtual 186, 3) := by decide +kernel
theorem dX11_where_76 : decode cX11_where 76 = .ok (.goto 11, 3) := by decide +kernel
theorem dX11_where_79 : decode cX11_where 79 = .ok (.aload 4, 2) := by decide +kernel
theorem dX11_where_81 : decode cX11_where 81 = .ok (.iconst 4, 1) := by decide +kernel
theorem dX11_where_82 : decode cX11_where 82 = .ok (.iload_n 2, 1) := by decide +kernel
theorem dX11_where_83 : decode cX11_where 83 = .ok (.imul, 1) := by decide +kernel
theorem dX11_where_84 : decode cX11_where 84 = .ok (.iload_n 3, 1) := by decide +kernel
theorem dX11_where_85 : decode cX11_where 85 = .ok (.iadd, 1) := by decide +kernel
theorem dX11_where_86 : decode cX11_where 86 = .ok (.iaload, 1) := by decide +kernel
theorem dX11_where_87 : decode cX11_where 87 = .ok (.ireturn, 1) := by decide +kernel
theorem kd_11_where : Cond.code yX11_where cX11_where 6 (some .int) ∈ lw_g := mt_at 1214 (by decide +kernel) rfl
theorem ki_11_where : Cond.instanceMethod yX11_where ∈ lw_g := mt_at 1212 (by decide +kernel) rfl
theorem kl_11_where : Cond.selects (kRn 11) yX11_where yX11_where ∈ lw_g := mt_at 1213 (by decide +kernel) rfl
theorem cw11_186 : cCw RX11 186 yX11_placeOfCursor cX11_placeOfCursor 6 (some .int) 2 := ⟨kd_11_placeOfCursor, mt_at 1215 (by decide +kernel) rfl, mt_at 1 (by decide +kernel) rfl, by decide +kernel⟩
section
variable {p : Program} {l : Launch} {e : Env} {R : Room} {s : State} {m : MethodId} {args : Array Value} {below : List Frame} {meth : Method} {c : Code} {D : cG} {S0 S9 : cSt} {r : Int32}
noncomputable def fk_11_where_23 (S : cSt) : Option (Int32 × cSt) :=
some ((-1 : Int32), S)
set_option maxRecDepth 100000 in
set_option maxHeartbeats 4000000 in
theorem wk_11_where_23 (C : cY p R s m args meth c RX11 cX11_where 6 3 0 0 72 (some .int)) (X : cX D s) : ∀ {S : cSt} {H : Heap} {locs : List Loc} {ls : Array Slot}, fk_11_where_23 S = some (r, S9) → cJ D S0 s.heap S H locs → lv_has ls 6 [] → W p l e R s m args below meth c H locs 0 0 (MQ below (kW (some (.int r)) D S0 S9) args s 0 0 (cA S0)) (F0 m 23 ls []) := by
  intro S H locs ls h hJ hl
  unfold fk_11_where_23 at h
  refine lv_iconst (v := -1) C.1 C.2.1 dX11_where_23 (by decide) ?_
  cases h
  exact c_retiW C hJ dX11_where_24
noncomputable def fk_11_where_87 (S : cSt) (s0 : Int32) : Option (Int32 × cSt) :=
some (s0, S)
set_option maxRecDepth 100000 in
set_option maxHeartbeats 4000000 in
theorem wk_11_where_87 (C : cY p R s m args meth c RX11 cX11_where 6 3 0 0 72 (some .int)) (X : cX D s) : ∀ {S : cSt} {s0 : Int32} {H : Heap} {locs : List Loc} {ls : Array Slot}, fk_11_where_87 S s0 = some (r, S9) → cJ D S0 s.heap S H locs → lv_has ls 6 [] → W p l e R s m args below meth c H locs 0 0 (MQ below (kW (some (.int r)) D S0 S9) args s 0 0 (cA S0)) (F0 m 87 ls [.int s0]) := by
  intro S s0 H locs ls h hJ hl
  unfold fk_11_where_87 at h
  cases h
  exact c_retiW C hJ dX11_where_87
noncomputable def fk_11_where (S : cSt) (v0 : Nat) (v1 : Int32) (v2 : Int32) (v3 : Int32) : Option (Int32 × cSt) :=
bd (fk_11_isNode v1) fun r1 =>
if r1 = 0 then (
fk_11_where_23 S)
else (
bd (fk_11_isNode v2) fun r3 =>
if r3 = 0 then (
fk_11_where_23 S)
else (
if v3 < 0 then (
fk_11_where_23 S)
else (
if v3 ≤ (3 : Int32) then (
ckk S v0 12 (bd (kR S v0 2) fun a7 =>
ckk S a7 31 (ck v1 (kL S a7) (lt (kO S a7 (Int32.toNatClampNeg v1)) fun o8 =>
bd o8 fun a9 =>
ckk S a9 8 (bd (kR S a9 7) fun a10 =>
ckk S a10 20 (ck ((4 : Int32) * v2) (kL S a10) (
lt (kI S a10 (Int32.toNatClampNeg ((4 : Int32) * v2))) fun x11 =>
if v3 = 0 then (
some (x11, S))
else (
if x11 = 0 then (
some ((-1 : Int32), S))
else (
if v3 = (3 : Int32) then (
ckk S v0 12 (bd (kR S v0 2) fun a15 =>
ckk S a15 31 (ck v1 (kL S a15) (lt (kO S a15 (Int32.toNatClampNeg v1)) fun o16 =>
bd o16 fun a17 =>
ckk S v0 12 (bd (fk_11_placeOfCursor S v0 a17 ((4 : Int32) * v2)) fun q_r19 => lt q_r19.1 fun r19 => lt q_r19.2 fun S18 =>
fk_11_where_87 S18 r19)))))
else (
ckk S a10 20 (ck (((4 : Int32) * v2) + v3) (kL S a10) (
fk_11_where_87 S (kI S a10 (Int32.toNatClampNeg (((4 : Int32) * v2) + v3)))))))))))))))
else (
fk_11_where_23 S))))
set_option maxRecDepth 100000 in
set_option maxHeartbeats 4000000 in
theorem tk_11_where (l : Launch) {D : cG} {S : cSt} {v0 : Nat} {v1 : Int32} {v2 : Int32} {v3 : Int32} {r : Int32} {S9 : cSt} (h : fk_11_where S v0 v1 v2 v3 = some (r, S9)) : Met l yX11_where (Cond.code yX11_where cX11_where 6 (some .int) :: lw_g) { frames := 3, cells := 0, slots := 0, locals := 72 } (kPi [.ref v0, .int v1, .int v2, .int v3] D S) (kW (some (.int r)) D S S9) 0 0 (cA S) := by
  refine Met.ofW (cc := cX11_where) (maxL := 6) (ret := (some .int)) (by decide) rfl ?_
  intro p e s m args below meth c s₁ B hml hv
  obtain ⟨rfl, hW, X⟩ := hv
  have C : cY p (headSpec (Cond.code yX11_where cX11_where 6 (some .int) :: lw_g) { frames := 3, cells := 0, slots := 0, locals := 72 }).room s m _ meth c RX11 cX11_where 6 3 0 0 72 (some .int) := ⟨B.exec, B.bytes, hml, findClass_of_methodNamed B.named, fun w hw => atoms_spec (ws := Cond.code yX11_where cX11_where 6 (some .int) :: lw_g) B.pre w (List.mem_cons_of_mem _ hw), ⟨Nat.le_refl _, Nat.le_refl _, Nat.le_refl _, Nat.le_refl _⟩, B.returns, B.notSynchronized⟩
  have hl := lv_entry ([.ref v0, .int v1, .int v2, .int v3]) (n := 6) (Nat.le_of_ble_eq_true rfl)
  rw [lg_entry_eq]
  generalize (lg_sl ([.ref v0, .int v1, .int v2, .int v3]) ++ List.replicate (6 - (lg_sl ([.ref v0, .int v1, .int v2, .int v3])).length) Slot.unset).toArray = ls at hl ⊢
  have hl : lv_has ls 6 [(0, .ref v0), (1, .int v1), (2, .int v2), (3, .int v3)] := hl
  have hJ : cJ D S s.heap S s.heap [] := cJ.rf hW
  unfold fk_11_where at h
  refine lv_iload_n C.1 C.2.1 dX11_where_0 rfl (lv_at hl 1 rfl) ?_
  obtain ⟨r1, h_r1, h⟩ := bd_ok h
  refine c_callS (rest := []) C hl.1 [.int v1] (tk_11_isNode l h_r1) cw11_112 ks_11_isNode rfl ⟨by decide, by decide⟩ ⟨(by decide), (by decide)⟩ rfl (Nat.le_of_ble_eq_true rfl) dX11_where_1 ?_
  refine W.eq (g2 := F0 m 4 ls [.int r1]) rfl ?_
  refine lv_if_eq (tgt := 23) C.1 C.2.1 dX11_where_4 (by decide) (fun c2 => ?_) (fun c2 => ?_)
  · have h := if_t h c2
    exact wk_11_where_23 C X h hJ (lv_sub hl [] rfl)
  · have h := if_f h c2
    refine lv_iload_n C.1 C.2.1 dX11_where_7 rfl (lv_at hl 2 rfl) ?_
    obtain ⟨r3, h_r3, h⟩ := bd_ok h
    refine c_callS (rest := []) C hl.1 [.int v2] (tk_11_isNode l h_r3) cw11_112 ks_11_isNode rfl ⟨by decide, by decide⟩ ⟨(by decide), (by decide)⟩ rfl (Nat.le_of_ble_eq_true rfl) dX11_where_8 ?_
    refine W.eq (g2 := F0 m 11 ls [.int r3]) rfl ?_
    refine lv_if_eq (tgt := 23) C.1 C.2.1 dX11_where_11 (by decide) (fun c4 => ?_) (fun c4 => ?_)
    · have h := if_t h c4
      exact wk_11_where_23 C X h hJ (lv_sub hl [] rfl)
    · have h := if_f h c4
      refine lv_iload_n C.1 C.2.1 dX11_where_14 rfl (lv_at hl 3 rfl) ?_
      refine lv_if_lt (tgt := 23) C.1 C.2.1 dX11_where_15 (by decide) (fun c5 => ?_) (fun c5 => ?_)
      · have h := if_t h c5
        exact wk_11_where_23 C X h hJ (lv_sub hl [] rfl)
      · have h := if_f h c5
        refine lv_iload_n C.1 C.2.1 dX11_where_18 rfl (lv_at hl 3 rfl) ?_
        refine lv_iconst (v := 3) C.1 C.2.1 dX11_where_19 (by decide) ?_
        refine lv_icmp_le (tgt := 25) C.1 C.2.1 dX11_where_20 (by decide) (fun c6 => ?_) (fun c6 => ?_)
        · have h := if_t h c6
          refine lv_aload_n C.1 C.2.1 dX11_where_25 rfl (lv_at hl 0 rfl) ?_
          obtain ⟨hk, h⟩ := ckk_ok h
          obtain ⟨a7, h_a7, h⟩ := bd_ok h
          refine gk11_25 C X hJ.1 hk h_a7 dX11_where_26 ?_
          refine lv_iload_n C.1 C.2.1 dX11_where_29 rfl (lv_at hl 1 rfl) ?_
          obtain ⟨hk, h⟩ := ckk_ok h
          obtain ⟨hin2, h⟩ := ck_ok h
          refine c_aald C 31 (by decide) X.2.2.2.2.2.1 hJ.1 hk hin2 dX11_where_30 ?_
          refine lt_ok h (fun o8 e_o8 h => ?_)
          refine lv_nmq e_o8 ?_
          obtain ⟨a9, e_a9, h⟩ := bd_ok h
          revert h; subst e_a9; intro h
          obtain ⟨hk, h⟩ := ckk_ok h
          obtain ⟨a10, h_a10, h⟩ := bd_ok h
          refine gk11_183 C X hJ.1 hk h_a10 dX11_where_31 ?_
          refine lv_astore (lv' := [(4, .ref a10), (0, .ref v0), (1, .int v1), (2, .int v2), (3, .int v3)]) C.1 C.2.1 dX11_where_34 hl (by decide) rfl (fun ls hl => ?_)
          refine lv_aload C.1 C.2.1 dX11_where_36 (lv_at hl 0 rfl) ?_
          refine lv_iconst (v := 4) C.1 C.2.1 dX11_where_38 (by decide) ?_
          refine lv_iload_n C.1 C.2.1 dX11_where_39 rfl (lv_at hl 3 rfl) ?_
          refine lv_imul C.1 C.2.1 dX11_where_40 ?_
          obtain ⟨hk, h⟩ := ckk_ok h
          obtain ⟨hin2, h⟩ := ck_ok h
          refine c_iald C X hJ.1 hk hin2 dX11_where_41 ?_
          refine lt_ok h (fun x11 e_x11 h => ?_)
          refine lv_nm e_x11 ?_
          refine lv_istore (lv' := [(5, .int x11), (4, .ref a10), (0, .ref v0), (1, .int v1), (2, .int v2), (3, .int v3)]) C.1 C.2.1 dX11_where_42 hl (by decide) rfl (fun ls hl => ?_)
          refine lv_iload_n C.1 C.2.1 dX11_where_44 rfl (lv_at hl 5 rfl) ?_
          refine lv_if_ne (tgt := 51) C.1 C.2.1 dX11_where_45 (by decide) (fun c12 => ?_) (fun c12 => ?_)
          · have h := if_f h c12
            refine lv_iload C.1 C.2.1 dX11_where_51 (lv_at hl 0 rfl) ?_
            refine lv_if_ne (tgt := 58) C.1 C.2.1 dX11_where_53 (by decide) (fun c13 => ?_) (fun c13 => ?_)
            · have h := if_f h c13
              refine lv_iload_n C.1 C.2.1 dX11_where_58 rfl (lv_at hl 5 rfl) ?_
              refine lv_iconst (v := 3) C.1 C.2.1 dX11_where_59 (by decide) ?_
              refine lv_icmp_ne (tgt := 79) C.1 C.2.1 dX11_where_60 (by decide) (fun c14 => ?_) (fun c14 => ?_)
              · have h := if_f h c14
                refine lv_aload C.1 C.2.1 dX11_where_79 (lv_at hl 1 rfl) ?_
                refine lv_iconst (v := 4) C.1 C.2.1 dX11_where_81 (by decide) ?_
                refine lv_iload_n C.1 C.2.1 dX11_where_82 rfl (lv_at hl 4 rfl) ?_
                refine lv_imul C.1 C.2.1 dX11_where_83 ?_
                refine lv_iload_n C.1 C.2.1 dX11_where_84 rfl (lv_at hl 5 rfl) ?_
                refine lv_iadd C.1 C.2.1 dX11_where_85 ?_
                obtain ⟨hk, h⟩ := ckk_ok h
                obtain ⟨hin2, h⟩ := ck_ok h
                refine c_iald C X hJ.1 hk hin2 dX11_where_86 ?_
                exact wk_11_where_87 C X h hJ (lv_sub hl [] rfl)
              · have h := if_t h c14
                refine lv_aload_n C.1 C.2.1 dX11_where_63 rfl (lv_at hl 2 rfl) ?_
                refine lv_aload_n C.1 C.2.1 dX11_where_64 rfl (lv_at hl 2 rfl) ?_
                obtain ⟨hk, h⟩ := ckk_ok h
                obtain ⟨a15, h_a15, h⟩ := bd_ok h
                refine gk11_25 C X hJ.1 hk h_a15 dX11_where_65 ?_
                refine lv_iload_n C.1 C.2.1 dX11_where_68 rfl (lv_at hl 3 rfl) ?_
                obtain ⟨hk, h⟩ := ckk_ok h
                obtain ⟨hin2, h⟩ := ck_ok h
                refine c_aald C 31 (by decide) X.2.2.2.2.2.1 hJ.1 hk hin2 dX11_where_69 ?_
                refine lt_ok h (fun o16 e_o16 h => ?_)
                refine lv_nmq e_o16 ?_
                refine lv_iconst (v := 4) C.1 C.2.1 dX11_where_70 (by decide) ?_
                refine lv_iload_n C.1 C.2.1 dX11_where_71 rfl (lv_at hl 4 rfl) ?_
                refine lv_imul C.1 C.2.1 dX11_where_72 ?_
                obtain ⟨a17, e_a17, h⟩ := bd_ok h
                revert h; subst e_a17; intro h
                obtain ⟨hk, h⟩ := ckk_ok h
                obtain ⟨⟨r19, S18⟩, h_S18, h⟩ := bd_ok h
                replace h := lt2_ok h
                refine c_callW (rest := []) C X hJ hl.1 11 (by decide) hk [.ref a17, .int ((4 : Int32) * v2)] (tk_11_placeOfCursor l h_S18) cw11_186 ki_11_placeOfCursor kl_11_placeOfCursor rfl ⟨by decide, by decide⟩ ⟨(by decide), (by decide)⟩ rfl (Nat.le_of_ble_eq_true rfl) dX11_where_73 (fun H locs hJ => ?_)
                refine W.eq (g2 := F0 m 76 ls [.int r19]) rfl ?_
                refine lv_goto (tgt := 87) C.1 C.2.1 dX11_where_76 (by decide) ?_
                exact wk_11_where_87 C X h hJ (lv_sub hl [] rfl)
            · have h := if_t h c13
              refine lv_iconst (v := -1) C.1 C.2.1 dX11_where_56 (by decide) ?_
              cases h
              exact c_retiW C hJ dX11_where_57
          · have h := if_t h c12
            refine lv_iload C.1 C.2.1 dX11_where_48 (lv_at hl 0 rfl) ?_
            cases h
            exact c_retiW C hJ dX11_where_50
        · have h := if_f h c6
          exact wk_11_where_23 C X h hJ (lv_sub hl [] rfl)
end
theorem dX11_stand_0 : decode cX11_stand 0 = .ok (.iload_n 1, 1) := by decide +kernel
theorem dX11_stand_1 : decode cX11_stand 1 = .ok (.invokestatic 112, 3) := by decide +kernel
theorem dX11_stand_4 : decode cX11_stand 4 = .ok (.ifCond .eq 27, 3) := by decide +kernel
theorem dX11_stand_7 : decode cX11_stand 7 = .ok (.iload_n 2, 1) := by decide +kernel
theorem dX11_stand_8 : decode cX11_stand 8 = .ok (.ifCond .lt 23, 3) := by decide +kernel
theorem dX11_stand_11 : decode cX11_stand 11 = .ok (.iload_n 2, 1) := by decide +kernel
theorem dX11_stand_12 : decode cX11_stand 12 = .ok (.iconst 3, 1) := by decide +kernel
theorem dX11_stand_13 : decode cX11_stand 13 = .ok (.if_icmp .gt 18, 3) := by decide +kernel
theorem dX11_stand_16 : decode cX11_stand 16 = .ok (.aload_n 0, 1) := by decide +kernel
theorem dX11_stand_17 : decode cX11_stand 17 = .ok (.getfield 12, 3) := by decide +kernel
theorem dX11_stand_20 : decode cX11_stand 20 = .ok (.iload_n 3, 1) := by decide +kernel
theorem dX11_stand_21 : decode cX11_stand 21 = .ok (.iload 4, 2) := by decide +kernel
theorem dX11_stand_23 : decode cX11_stand 23 = .ok (.invokevirtual 190, 3) := by decide +kernel
theorem dX11_stand_26 : decode cX11_stand 26 = .ok (.bipush 76, 2) := by decide +kernel
theorem dX11_stand_28 : decode cX11_stand 28 = .ok (.if_icmp .eq 5, 3) := by decide +kernel
theorem dX11_stand_31 : decode cX11_stand 31 = .ok (.iconst 0, 1) := by decide +kernel
theorem dX11_stand_32 : decode cX11_stand 32 = .ok (.ireturn, 1) := by decide +kernel
theorem dX11_stand_33 : decode cX11_stand 33 = .ok (.aload_n 0, 1) := by decide +kernel
theorem dX11_stand_34 : decode cX11_stand 34 = .ok (.getfield 25, 3) := by decide +kernel
theorem dX11_stand_37 : decode cX11_stand 37 = .ok (.iload_n 1, 1) := by decide +kernel
theorem dX11_stand_38 : decode cX11_stand 38 = .ok (.aaload, 1) := by decide +kernel
theorem dX11_stand_39 : decode cX11_stand 39 = .ok (.iload_n 2, 1) := by decide +kernel
theorem dX11_stand_40 : decode cX11_stand 40 = .ok (.iload_n 3, 1) := by decide +kernel
theorem dX11_stand_41 : decode cX11_stand 41 = .ok (.iload 4, 2) := by decide +kernel
theorem dX11_stand_43 : decode cX11_stand 43 = .ok (.iload 5, 2) := by decide +kernel
theorem dX11_stand_45 : decode cX11_stand 45 = .ok (.iload 6, 2) := by decide +kernel
theorem dX11_stand_47 : decode cX11_stand 47 = .ok (.invokevirtual 194, 3) := by decide +kernel
theorem dX11_stand_50 : decode cX11_stand 50 = .ok (.iconst 1, 1) := by decide +kernel
theorem dX11_stand_51 : decode cX11_stand 51 = .ok (.ireturn, 1) := by decide +kernel
theorem kd_11_stand : Cond.code yX11_stand cX11_stand 7 (some .boolean) ∈ lw_g := mt_at 1228 (by decide +kernel) rfl
theorem ki_11_stand : Cond.instanceMethod yX11_stand ∈ lw_g := mt_at 1226 (by decide +kernel) rfl
theorem kl_11_stand : Cond.selects (kRn 11) yX11_stand yX11_stand ∈ lw_g := mt_at 1227 (by decide +kernel) rfl
theorem cw11_194 : cCw RX11 194 yX7_putList cX7_putList 6 none 5 := ⟨kd_7_putList, mt_at 1229 (by decide +kernel) rfl, mt_at 7 (by decide +kernel) rfl, by decide +kernel⟩
section
variable {p : Program} {l : Launch} {e : Env} {R : Room} {s : State} {m : MethodId} {args : Array Value} {below : List Frame} {meth : Method} {c : Code} {D : cG} {S0 S9 : cSt} {r : Int32}
noncomputable def fk_11_stand_31 (S : cSt) : Option (Int32 × cSt) :=
ckz (0 : Int32) (some ((0 : Int32), S))
set_option maxRecDepth 100000 in
set_option maxHeartbeats 4000000 in
theorem wk_11_stand_31 (C : cY p R s m args meth c RX11 cX11_stand 7 2 0 0 43 (some .boolean)) (X : cX D s) : ∀ {S : cSt} {H : Heap} {locs : List Loc} {ls : Array Slot}, fk_11_stand_31 S = some (r, S9) → cJ D S0 s.heap S H locs → lv_has ls 7 [] → W p l e R s m args below meth c H locs 0 0 (MQ below (kW (some (.int r)) D S0 S9) args s 0 0 (cA S0)) (F0 m 31 ls []) := by
  intro S H locs ls h hJ hl
  unfold fk_11_stand_31 at h
  refine lv_iconst (v := 0) C.1 C.2.1 dX11_stand_31 (by decide) ?_
  obtain ⟨hzo, h⟩ := ckz_ok h
  cases h
  exact c_retnW C (by rcases hzo with h9 | h9 <;> (rw [h9]; rfl)) hJ dX11_stand_32
noncomputable def fk_11_stand (S : cSt) (v0 : Nat) (v1 : Int32) (v2 : Int32) (v3 : Int32) (v4 : Int32) (v5 : Int32) (v6 : Int32) : Option (Int32 × cSt) :=
bd (fk_11_isNode v1) fun r1 =>
if r1 = 0 then (
fk_11_stand_31 S)
else (
if v2 < 0 then (
fk_11_stand_31 S)
else (
if (3 : Int32) < v2 then (
fk_11_stand_31 S)
else (
ckk S v0 12 (bd (kR S v0 0) fun a5 =>
ckk S a5 4 (bd (fk_3_ruleOf S a5 v3 v4) fun r6 =>
if r6 = (76 : Int32) then (
ckk S v0 12 (bd (kR S v0 2) fun a8 =>
ckk S a8 31 (ck v1 (kL S a8) (lt (kO S a8 (Int32.toNatClampNeg v1)) fun o9 =>
bd o9 fun a10 =>
ckk S a10 8 (bd (fk_7_putList S a10 v2 v3 v4 v5 v6) fun S11 =>
ckz (1 : Int32) (some ((1 : Int32), S11)))))))
else (
fk_11_stand_31 S))))))
set_option maxRecDepth 100000 in
set_option maxHeartbeats 4000000 in
theorem tk_11_stand (l : Launch) {D : cG} {S : cSt} {v0 : Nat} {v1 : Int32} {v2 : Int32} {v3 : Int32} {v4 : Int32} {v5 : Int32} {v6 : Int32} {r : Int32} {S9 : cSt} (h : fk_11_stand S v0 v1 v2 v3 v4 v5 v6 = some (r, S9)) : Met l yX11_stand (Cond.code yX11_stand cX11_stand 7 (some .boolean) :: lw_g) { frames := 2, cells := 0, slots := 0, locals := 43 } (kPi [.ref v0, .int v1, .int v2, .int v3, .int v4, .int v5, .int v6] D S) (kW (some (.int r)) D S S9) 0 0 (cA S) := by
  refine Met.ofW (cc := cX11_stand) (maxL := 7) (ret := (some .boolean)) (by decide) rfl ?_
  intro p e s m args below meth c s₁ B hml hv
  obtain ⟨rfl, hW, X⟩ := hv
  have C : cY p (headSpec (Cond.code yX11_stand cX11_stand 7 (some .boolean) :: lw_g) { frames := 2, cells := 0, slots := 0, locals := 43 }).room s m _ meth c RX11 cX11_stand 7 2 0 0 43 (some .boolean) := ⟨B.exec, B.bytes, hml, findClass_of_methodNamed B.named, fun w hw => atoms_spec (ws := Cond.code yX11_stand cX11_stand 7 (some .boolean) :: lw_g) B.pre w (List.mem_cons_of_mem _ hw), ⟨Nat.le_refl _, Nat.le_refl _, Nat.le_refl _, Nat.le_refl _⟩, B.returns, B.notSynchronized⟩
  have hl := lv_entry ([.ref v0, .int v1, .int v2, .int v3, .int v4, .int v5, .int v6]) (n := 7) (Nat.le_of_ble_eq_true rfl)
  rw [lg_entry_eq]
  generalize (lg_sl ([.ref v0, .int v1, .int v2, .int v3, .int v4, .int v5, .int v6]) ++ List.replicate (7 - (lg_sl ([.ref v0, .int v1, .int v2, .int v3, .int v4, .int v5, .int v6])).length) Slot.unset).toArray = ls at hl ⊢
  have hl : lv_has ls 7 [(0, .ref v0), (1, .int v1), (2, .int v2), (3, .int v3), (4, .int v4), (5, .int v5), (6, .int v6)] := hl
  have hJ : cJ D S s.heap S s.heap [] := cJ.rf hW
  unfold fk_11_stand at h
  refine lv_iload_n C.1 C.2.1 dX11_stand_0 rfl (lv_at hl 1 rfl) ?_
  obtain ⟨r1, h_r1, h⟩ := bd_ok h
  refine c_callS (rest := []) C hl.1 [.int v1] (tk_11_isNode l h_r1) cw11_112 ks_11_isNode rfl ⟨by decide, by decide⟩ ⟨(by decide), (by decide)⟩ rfl (Nat.le_of_ble_eq_true rfl) dX11_stand_1 ?_
  refine W.eq (g2 := F0 m 4 ls [.int r1]) rfl ?_
  refine lv_if_eq (tgt := 31) C.1 C.2.1 dX11_stand_4 (by decide) (fun c2 => ?_) (fun c2 => ?_)
  · have h := if_t h c2
    exact wk_11_stand_31 C X h hJ (lv_sub hl [] rfl)
  · have h := if_f h c2
    refine lv_iload_n C.1 C.2.1 dX11_stand_7 rfl (lv_at hl 2 rfl) ?_
    refine lv_if_lt (tgt := 31) C.1 C.2.1 dX11_stand_8 (by decide) (fun c3 => ?_) (fun c3 => ?_)
    · have h := if_t h c3
      exact wk_11_stand_31 C X h hJ (lv_sub hl [] rfl)
    · have h := if_f h c3
      refine lv_iload_n C.1 C.2.1 dX11_stand_11 rfl (lv_at hl 2 rfl) ?_
      refine lv_iconst (v := 3) C.1 C.2.1 dX11_stand_12 (by decide) ?_
      refine lv_icmp_gt (tgt := 31) C.1 C.2.1 dX11_stand_13 (by decide) (fun c4 => ?_) (fun c4 => ?_)
      · have h := if_t h c4
        exact wk_11_stand_31 C X h hJ (lv_sub hl [] rfl)
      · have h := if_f h c4
        refine lv_aload_n C.1 C.2.1 dX11_stand_16 rfl (lv_at hl 0 rfl) ?_
        obtain ⟨hk, h⟩ := ckk_ok h
        obtain ⟨a5, h_a5, h⟩ := bd_ok h
        refine gk11_12 C X hJ.1 hk h_a5 dX11_stand_17 ?_
        refine lv_iload_n C.1 C.2.1 dX11_stand_20 rfl (lv_at hl 3 rfl) ?_
        refine lv_iload C.1 C.2.1 dX11_stand_21 (lv_at hl 4 rfl) ?_
        obtain ⟨hk, h⟩ := ckk_ok h
        obtain ⟨r6, h_r6, h⟩ := bd_ok h
        refine c_callR (rest := []) C X hJ.1 hl.1 3 (by decide) hk [.int v3, .int v4] (tk_3_ruleOf l h_r6) cw11_190 ki_3_ruleOf kl_3_ruleOf rfl ⟨by decide, by decide⟩ ⟨(by decide), (by decide)⟩ rfl (Nat.le_of_ble_eq_true rfl) dX11_stand_23 ?_
        refine W.eq (g2 := F0 m 26 ls [.int r6]) rfl ?_
        refine lv_bipush (v := 76) C.1 C.2.1 dX11_stand_26 (by decide) ?_
        refine lv_icmp_eq (tgt := 33) C.1 C.2.1 dX11_stand_28 (by decide) (fun c7 => ?_) (fun c7 => ?_)
        · have h := if_t h c7
          refine lv_aload_n C.1 C.2.1 dX11_stand_33 rfl (lv_at hl 0 rfl) ?_
          obtain ⟨hk, h⟩ := ckk_ok h
          obtain ⟨a8, h_a8, h⟩ := bd_ok h
          refine gk11_25 C X hJ.1 hk h_a8 dX11_stand_34 ?_
          refine lv_iload_n C.1 C.2.1 dX11_stand_37 rfl (lv_at hl 1 rfl) ?_
          obtain ⟨hk, h⟩ := ckk_ok h
          obtain ⟨hin2, h⟩ := ck_ok h
          refine c_aald C 31 (by decide) X.2.2.2.2.2.1 hJ.1 hk hin2 dX11_stand_38 ?_
          refine lt_ok h (fun o9 e_o9 h => ?_)
          refine lv_nmq e_o9 ?_
          refine lv_iload_n C.1 C.2.1 dX11_stand_39 rfl (lv_at hl 2 rfl) ?_
          refine lv_iload_n C.1 C.2.1 dX11_stand_40 rfl (lv_at hl 3 rfl) ?_
          refine lv_iload C.1 C.2.1 dX11_stand_41 (lv_at hl 4 rfl) ?_
          refine lv_iload C.1 C.2.1 dX11_stand_43 (lv_at hl 5 rfl) ?_
          refine lv_iload C.1 C.2.1 dX11_stand_45 (lv_at hl 6 rfl) ?_
          obtain ⟨a10, e_a10, h⟩ := bd_ok h
          revert h; subst e_a10; intro h
          obtain ⟨hk, h⟩ := ckk_ok h
          obtain ⟨S11, h_S11, h⟩ := bd_ok h
          refine c_callW (rest := []) C X hJ hl.1 7 (by decide) hk [.int v2, .int v3, .int v4, .int v5, .int v6] (tk_7_putList l h_S11) cw11_194 ki_7_putList kl_7_putList rfl ⟨by decide, by decide⟩ ⟨(by decide), (by decide)⟩ rfl (Nat.le_of_ble_eq_true rfl) dX11_stand_47 (fun H locs hJ => ?_)
          refine W.eq (g2 := F0 m 50 ls []) rfl ?_
          refine lv_iconst (v := 1) C.1 C.2.1 dX11_stand_50 (by decide) ?_
          obtain ⟨hzo, h⟩ := ckz_ok h
          cases h
          exact c_retnW C (by rcases hzo with h9 | h9 <;> (rw [h9]; rfl)) hJ dX11_stand_51
        · have h := if_f h c7
          exact wk_11_stand_31 C X h hJ (lv_sub hl [] rfl)
end
theorem dX11_listed_0 : decode cX11_listed 0 = .ok (.iload_n 1, 1) := by decide +kernel
theorem dX11_listed_1 : decode cX11_listed 1 = .ok (.invokestatic 112, 3) := by decide +kernel
theorem dX11_listed_4 : decode cX11_listed 4 = .ok (.ifCond .eq 17, 3) := by decide +kernel
theorem dX11_listed_7 : decode cX11_listed 7 = .ok (.iload_n 2, 1) := by decide +kernel
theorem dX11_listed_8 : decode cX11_listed 8 = .ok (.ifCond .lt 13, 3) := by decide +kernel
theorem dX11_listed_11 : decode cX11_listed 11 = .ok (.iload_n 2, 1) := by decide +kernel
theorem dX11_listed_12 : decode cX11_listed 12 = .ok (.iconst 3, 1) := by decide +kernel
theorem dX11_listed_13 : decode cX11_listed 13 = .ok (.if_icmp .gt 8, 3) := by decide +kernel
theorem dX11_listed_16 : decode cX11_listed 16 = .ok (.iload_n 3, 1) := by decide +kernel
theorem dX11_listed_17 : decode cX11_listed 17 = .ok (.iconst (-1), 1) := by decide +kernel
theorem dX11_listed_18 : decode cX11_listed 18 = .ok (.if_icmp .ge 5, 3) := by decide +kernel
theorem dX11_listed_21 : decode cX11_listed 21 = .ok (.iconst (-1), 1) := by decide +kernel
theorem dX11_listed_22 : decode cX11_listed 22 = .ok (.ireturn, 1) := by decide +kernel
theorem dX11_listed_23 : decode cX11_listed 23 = .ok (.aload_n 0, 1) := by decide +kernel
theorem dX11_listed_24 : decode cX11_listed 24 = .ok (.getfield 25, 3) := by decide +kernel
theorem dX11_listed_27 : decode cX11_listed 27 = .ok (.iload_n 1, 1) := by decide +kernel
theorem dX11_listed_28 : decode cX11_listed 28 = .ok (.aaload, 1) := by decide +kernel
theorem dX11_listed_29 : decode cX11_listed 29 = .ok (.astore 4, 2) := by decide +kernel
theorem dX11_listed_31 : decode cX11_listed 31 = .ok (.iconst 0, 1) := by decide +kernel
theorem dX11_listed_32 : decode cX11_listed 32 = .ok (.istore 5, 2) := by decide +kernel
theorem dX11_listed_34 : decode cX11_listed 34 = .ok (.iconst 0, 1) := by decide +kernel
theorem dX11_listed_35 : decode cX11_listed 35 = .ok (.istore 6, 2) := by decide +kernel
theorem dX11_listed_37 : decode cX11_listed 37 = .ok (.iload 6, 2) := by decide +kernel
theorem dX11_listed_39 : decode cX11_listed 39 = .ok (.bipush 48, 2) := by decide +kernel
theorem dX11_listed_41 : decode cX11_listed 41 = .ok (.if_icmp .ge 43, 3) := by decide +kernel
theorem dX11_listed_44 : decode cX11_listed 44 = .ok (.aload 4, 2) := by decide +kernel
theorem dX11_listed_46 : decode cX11_listed 46 = .ok (.iload 6, 2) := by decide +kernel
theorem dX11_listed_48 : decode cX11_listed 48 = .ok (.invokevirtual 198, 3) := by decide +kernel
theorem dX11_listed_51 : decode cX11_listed 51 = .ok (.iload_n 2, 1) := by decide +kernel
theorem dX11_listed_52 : decode cX11_listed 52 = .ok (.ishr, 1) := by decide +kernel
theorem dX11_listed_53 : decode cX11_listed 53 = .ok (.iconst 1, 1) := by decide +kernel
theorem dX11_listed_54 : decode cX11_listed 54 = .ok (.iand, 1) := by decide +kernel
theorem dX11_listed_55 : decode cX11_listed 55 = .ok (.iconst 1, 1) := by decide +kernel
theorem dX11_listed_56 : decode cX11_listed 56 = .ok (.if_icmp .ne 22, 3) := by decide +kernel
theorem dX11_listed_59 : decode cX11_listed 59 = .ok (.iload 5, 2) := by decide +kernel
theorem dX11_listed_61 : decode cX11_listed 61 = .ok (.iload_n 3, 1) := by decide +kernel
theorem dX11_listed_62 : decode cX11_listed 62 = .ok (.if_icmp .ne 13, 3) := by decide +kernel
theorem dX11_listed_65 : decode cX11_listed 65 = .ok (.aload_n 0, 1) := by decide +kernel
theorem dX11_listed_66 : decode cX11_listed 66 = .ok (.getfield 19, 3) := by decide +kernel
theorem dX11_listed_69 : decode cX11_listed 69 = .ok (.iload 6, 2) := by decide +kernel
theorem dX11_listed_71 : decode cX11_listed 71 = .ok (.invokevirtual 201, 3) := by decide +kernel
theorem dX11_listed_74 : decode cX11_listed 74 = .ok (.ireturn, 1) := by decide +kernel
theorem dX11_listed_75 : decode cX11_listed 75 = .ok (.iinc 5 1, 3) := by decide +kernel
theorem dX11_listed_78 : decode cX11_listed 78 = .ok (.iinc 6 1, 3) := by decide +kernel
theorem dX11_listed_81 : decode cX11_listed 81 = .ok (.goto (-44), 3) := by decide +kernel
theorem dX11_listed_84 : decode cX11_listed 84 = .ok (.iload_n 3, 1) := by decide +kernel
theorem dX11_listed_85 : decode cX11_listed 85 = .ok (.iconst (-1), 1) := by decide +kernel
theorem dX11_listed_86 : decode cX11_listed 86 = .ok (.if_icmp .ne 8, 3) := by decide +kernel
theorem dX11_listed_89 : decode cX11_listed 89 = .ok (.iload 5, 2) := by decide +kernel
theorem dX11_listed_91 : decode cX11_listed 91 = .ok (.goto 4, 3) := by decide +kernel
theorem dX11_listed_94 : decode cX11_listed 94 = .ok (.iconst (-1), 1) := by decide +kernel
theorem dX11_listed_95 : decode cX11_listed 95 = .ok (.ireturn, 1) := by decide +kernel
theorem kd_11_listed : Cond.code yX11_listed cX11_listed 7 (some .int) ∈ lw_g := mt_at 1236 (by decide +kernel) rfl
theorem ki_11_listed : Cond.instanceMethod yX11_listed ∈ lw_g := mt_at 1234 (by decide +kernel) rfl
theorem kl_11_listed : Cond.selects (kRn 11) yX11_listed yX11_listed ∈ lw_g := mt_at 1235 (by decide +kernel) rfl
theorem cw11_198 : cCw RX11 198 yX7_listsWith cX7_listsWith 6 (some .int) 1 := ⟨kd_7_listsWith, mt_at 1237 (by decide +kernel) rfl, mt_at 7 (by decide +kernel) rfl, by decide +kernel⟩
theorem cw11_201 : cCw RX11 201 yX0_nameOf cX0_nameOf 3 (some .int) 1 := ⟨kd_0_nameOf, mt_at 1238 (by decide +kernel) rfl, mt_at 3 (by decide +kernel) rfl, by decide +kernel⟩
section
variable {p : Program} {l : Launch} {e : Env} {R : Room} {s : State} {m : MethodId} {args : Array Value} {below : List Frame} {meth : Method} {c : Code} {D : cG} {S : cSt} {r : Int32}
noncomputable def fk_11_listed_21 (S : cSt) : Option (Int32) :=
some (-1 : Int32)
set_option maxRecDepth 100000 in
set_option maxHeartbeats 4000000 in
theorem wk_11_listed_21 (C : cY p R s m args meth c RX11 cX11_listed 7 4 0 0 91 (some .int)) (X : cX D s) (hW : cW D S s.heap) : ∀ {ls : Array Slot}, fk_11_listed_21 S = some r → lv_has ls 7 [] → W p l e R s m args below meth c s.heap [] 0 0 (MQ below (kQ (some (.int r))) args s 0 0 mNo) (F0 m 21 ls []) := by
  intro ls h hl
  unfold fk_11_listed_21 at h
  refine lv_iconst (v := -1) C.1 C.2.1 dX11_listed_21 (by decide) ?_
  cases h
  exact c_reti C rfl rfl dX11_listed_22
noncomputable def fk_11_listed_95 (S : cSt) (s0 : Int32) : Option (Int32) :=
some s0
set_option maxRecDepth 100000 in
set_option maxHeartbeats 4000000 in
theorem wk_11_listed_95 (C : cY p R s m args meth c RX11 cX11_listed 7 4 0 0 91 (some .int)) (X : cX D s) (hW : cW D S s.heap) : ∀ {s0 : Int32} {ls : Array Slot}, fk_11_listed_95 S s0 = some r → lv_has ls 7 [] → W p l e R s m args below meth c s.heap [] 0 0 (MQ below (kQ (some (.int r))) args s 0 0 mNo) (F0 m 95 ls [.int s0]) := by
  intro s0 ls h hl
  unfold fk_11_listed_95 at h
  cases h
  exact c_reti C rfl rfl dX11_listed_95
noncomputable def fk_11_listed_78 (g_37 : Nat → Int32 → Int32 → Option Nat → Int32 → Int32 → Option (Int32)) (S : cSt) (v0 : Nat) (v2 : Int32) (v3 : Int32) (v4 : Option Nat) (v5 : Int32) (v6 : Int32) : Option (Int32) :=
lt (v6 + (1 : Int32)) fun x1 =>
g_37 v0 v2 v3 v4 v5 x1
set_option maxRecDepth 100000 in
set_option maxHeartbeats 4000000 in
theorem wk_11_listed_78 (C : cY p R s m args meth c RX11 cX11_listed 7 4 0 0 91 (some .int)) (X : cX D s) (hW : cW D S s.heap) {g_37 : Nat → Int32 → Int32 → Option Nat → Int32 → Int32 → Option (Int32)} (hg_37 : ∀ {v0 : Nat} {v2 : Int32} {v3 : Int32} {v4 : Option Nat} {v5 : Int32} {v6 : Int32} {ls : Array Slot}, g_37 v0 v2 v3 v4 v5 v6 = some r → lv_has ls 7 [(0, .ref v0), (2, .int v2), (3, .int v3), (4, va_rf v4), (5, .int v5), (6, .int v6)] → W p l e R s m args below meth c s.heap [] 0 0 (MQ below (kQ (some (.int r))) args s 0 0 mNo) (F0 m 37 ls [])) : ∀ {v0 : Nat} {v2 : Int32} {v3 : Int32} {v4 : Option Nat} {v5 : Int32} {v6 : Int32} {ls : Array Slot}, fk_11_listed_78 g_37 S v0 v2 v3 v4 v5 v6 = some r → lv_has ls 7 [(0, .ref v0), (2, .int v2), (3, .int v3), (4, va_rf v4), (5, .int v5), (6, .int v6)] → W p l e R s m args below meth c s.heap [] 0 0 (MQ below (kQ (some (.int r))) args s 0 0 mNo) (F0 m 78 ls []) := by
  intro v0 v2 v3 v4 v5 v6 ls h hl
  unfold fk_11_listed_78 at h
  refine lt_ok h (fun x1 e_x1 h => ?_)
  refine lv_iinc (v := x1) (lv' := [(6, .int x1), (0, .ref v0), (2, .int v2), (3, .int v3), (4, va_rf v4), (5, .int v5)]) C.1 C.2.1 dX11_listed_78 hl (k := 5) rfl (by rw [← e_x1]; rfl) (by decide) rfl (fun ls hl => ?_)
  refine lv_goto (tgt := 37) C.1 C.2.1 dX11_listed_81 (by decide) ?_
  exact hg_37 h (lv_sub hl [1, 2, 3, 4, 5, 0] rfl)
noncomputable def fk_11_listed_37 (S : cSt) : Nat → Nat → Int32 → Int32 → Option Nat → Int32 → Int32 → Option (Int32)
  | 0, _, _, _, _, _, _ => none
  | n + 1, v0, v2, v3, v4, v5, v6 =>
    if (48 : Int32) ≤ v6 then (
    if v3 = (-1 : Int32) then (
    fk_11_listed_95 S v5)
    else (
    fk_11_listed_95 S (-1 : Int32)))
    else (
    bd v4 fun a3 =>
    ckk S a3 8 (bd (fk_7_listsWith S a3 v6) fun r4 =>
    if ((r4 >>> (v2 &&& 31)) &&& (1 : Int32)) = (1 : Int32) then (
    if v5 = v3 then (
    ckk S v0 12 (bd (kR S v0 1) fun a8 =>
    ckk S a8 1 (bd (fk_0_nameOf S a8 v6) fun r9 =>
    some r9)))
    else (
    lt (v5 + (1 : Int32)) fun x7 =>
    fk_11_listed_78 (fk_11_listed_37 S n) S v0 v2 v3 (some a3) x7 v6))
    else (
    fk_11_listed_78 (fk_11_listed_37 S n) S v0 v2 v3 (some a3) v5 v6)))
set_option maxRecDepth 100000 in
set_option maxHeartbeats 4000000 in
theorem wk_11_listed_37 (C : cY p R s m args meth c RX11 cX11_listed 7 4 0 0 91 (some .int)) (X : cX D s) (hW : cW D S s.heap) : ∀ (n : Nat), ∀ {v0 : Nat} {v2 : Int32} {v3 : Int32} {v4 : Option Nat} {v5 : Int32} {v6 : Int32} {ls : Array Slot}, fk_11_listed_37 S n v0 v2 v3 v4 v5 v6 = some r → lv_has ls 7 [(0, .ref v0), (2, .int v2), (3, .int v3), (4, va_rf v4), (5, .int v5), (6, .int v6)] → W p l e R s m args below meth c s.heap [] 0 0 (MQ below (kQ (some (.int r))) args s 0 0 mNo) (F0 m 37 ls []) := by
  intro n
  induction n with
  | zero =>
    intro v0 v2 v3 v4 v5 v6 ls h hl
    exact absurd (show (none : Option (Int32)) = _ from h) (fun q => by cases q)
  | succ n ih =>
    intro v0 v2 v3 v4 v5 v6 ls h hl
    rw [fk_11_listed_37] at h
    refine lv_iload C.1 C.2.1 dX11_listed_37 (lv_at hl 5 rfl) ?_
    refine lv_bipush (v := 48) C.1 C.2.1 dX11_listed_39 (by decide) ?_
    refine lv_icmp_ge (tgt := 84) C.1 C.2.1 dX11_listed_41 (by decide) (fun c1 => ?_) (fun c1 => ?_)
    · have h := if_t h c1
      refine lv_iload_n C.1 C.2.1 dX11_listed_84 rfl (lv_at hl 2 rfl) ?_
      refine lv_iconst (v := -1) C.1 C.2.1 dX11_listed_85 (by decide) ?_
      refine lv_icmp_ne (tgt := 94) C.1 C.2.1 dX11_listed_86 (by decide) (fun c2 => ?_) (fun c2 => ?_)
      · have h := if_f h c2
        refine lv_iconst (v := -1) C.1 C.2.1 dX11_listed_94 (by decide) ?_
        exact wk_11_listed_95 C X hW h (lv_sub hl [] rfl)
      · have h := if_t h c2
        refine lv_iload C.1 C.2.1 dX11_listed_89 (lv_at hl 4 rfl) ?_
        refine lv_goto (tgt := 95) C.1 C.2.1 dX11_listed_91 (by decide) ?_
        exact wk_11_listed_95 C X hW h (lv_sub hl [] rfl)
    · have h := if_f h c1
      refine lv_aloadq (o := v4) C.1 C.2.1 dX11_listed_44 (lv_at hl 3 rfl) ?_
      refine lv_iload C.1 C.2.1 dX11_listed_46 (lv_at hl 5 rfl) ?_
      obtain ⟨a3, e_a3, h⟩ := bd_ok h
      revert h; subst e_a3; intro h
      obtain ⟨hk, h⟩ := ckk_ok h
      obtain ⟨r4, h_r4, h⟩ := bd_ok h
      refine c_callR (rest := []) C X hW hl.1 7 (by decide) hk [.int v6] (tk_7_listsWith l h_r4) cw11_198 ki_7_listsWith kl_7_listsWith rfl ⟨by decide, by decide⟩ ⟨(by decide), (by decide)⟩ rfl (Nat.le_of_ble_eq_true rfl) dX11_listed_48 ?_
      refine W.eq (g2 := F0 m 51 ls [.int r4]) rfl ?_
      refine lv_iload_n C.1 C.2.1 dX11_listed_51 rfl (lv_at hl 1 rfl) ?_
      refine lv_ishr C.1 C.2.1 dX11_listed_52 ?_
      refine lv_iconst (v := 1) C.1 C.2.1 dX11_listed_53 (by decide) ?_
      refine lv_iand C.1 C.2.1 dX11_listed_54 ?_
      refine lv_iconst (v := 1) C.1 C.2.1 dX11_listed_55 (by decide) ?_
      refine lv_icmp_ne (tgt := 78) C.1 C.2.1 dX11_listed_56 (by decide) (fun c5 => ?_) (fun c5 => ?_)
      · have h := if_f h c5
        exact wk_11_listed_78 C X hW ih h (lv_sub hl [0, 1, 2, 3, 4, 5] rfl)
      · have h := if_t h c5
        refine lv_iload C.1 C.2.1 dX11_listed_59 (lv_at hl 4 rfl) ?_
        refine lv_iload_n C.1 C.2.1 dX11_listed_61 rfl (lv_at hl 2 rfl) ?_
        refine lv_icmp_ne (tgt := 75) C.1 C.2.1 dX11_listed_62 (by decide) (fun c6 => ?_) (fun c6 => ?_)
        · have h := if_f h c6
          refine lt_ok h (fun x7 e_x7 h => ?_)
          refine lv_iinc (v := x7) (lv' := [(5, .int x7), (0, .ref v0), (2, .int v2), (3, .int v3), (4, .ref a3), (6, .int v6)]) C.1 C.2.1 dX11_listed_75 hl (k := 4) rfl (by rw [← e_x7]; rfl) (by decide) rfl (fun ls hl => ?_)
          exact wk_11_listed_78 C X hW ih h (lv_sub hl [1, 2, 3, 4, 0, 5] rfl)
        · have h := if_t h c6
          refine lv_aload_n C.1 C.2.1 dX11_listed_65 rfl (lv_at hl 0 rfl) ?_
          obtain ⟨hk, h⟩ := ckk_ok h
          obtain ⟨a8, h_a8, h⟩ := bd_ok h
          refine gk11_19 C X hW hk h_a8 dX11_listed_66 ?_
          refine lv_iload C.1 C.2.1 dX11_listed_69 (lv_at hl 5 rfl) ?_
          obtain ⟨hk, h⟩ := ckk_ok h
          obtain ⟨r9, h_r9, h⟩ := bd_ok h
          refine c_callR (rest := []) C X hW hl.1 0 (by decide) hk [.int v6] (tk_0_nameOf l h_r9) cw11_201 ki_0_nameOf kl_0_nameOf rfl ⟨by decide, by decide⟩ ⟨(by decide), (by decide)⟩ rfl (Nat.le_of_ble_eq_true rfl) dX11_listed_71 ?_
          refine W.eq (g2 := F0 m 74 ls [.int r9]) rfl ?_
          cases h
          exact c_reti C rfl rfl dX11_listed_74
noncomputable def fk_11_listed (S : cSt) (v0 : Nat) (v1 : Int32) (v2 : Int32) (v3 : Int32) : Option (Int32) :=
bd (fk_11_isNode v1) fun r1 =>
if r1 = 0 then (
fk_11_listed_21 S)
else (
if v2 < 0 then (
fk_11_listed_21 S)
else (
if (3 : Int32) < v2 then (
fk_11_listed_21 S)
else (
if (-1 : Int32) ≤ v3 then (
ckk S v0 12 (bd (kR S v0 2) fun a6 =>
ckk S a6 31 (ck v1 (kL S a6) (lt (kO S a6 (Int32.toNatClampNeg v1)) fun o7 =>
fk_11_listed_37 S mFU v0 v2 v3 o7 (0 : Int32) (0 : Int32)))))
else (
fk_11_listed_21 S))))
set_option maxRecDepth 100000 in
set_option maxHeartbeats 4000000 in
theorem tk_11_listed (l : Launch) {D : cG} {S : cSt} {v0 : Nat} {v1 : Int32} {v2 : Int32} {v3 : Int32} {r : Int32}  (h : fk_11_listed S v0 v1 v2 v3 = some r) : Met l yX11_listed (Cond.code yX11_listed cX11_listed 7 (some .int) :: lw_g) { frames := 4, cells := 0, slots := 0, locals := 91 } (kPi [.ref v0, .int v1, .int v2, .int v3] D S) (kQ (some (.int r))) 0 0 (mNo) := by
  refine Met.ofW (cc := cX11_listed) (maxL := 7) (ret := (some .int)) (by decide) rfl ?_
  intro p e s m args below meth c s₁ B hml hv
  obtain ⟨rfl, hW, X⟩ := hv
  have C : cY p (headSpec (Cond.code yX11_listed cX11_listed 7 (some .int) :: lw_g) { frames := 4, cells := 0, slots := 0, locals := 91 }).room s m _ meth c RX11 cX11_listed 7 4 0 0 91 (some .int) := ⟨B.exec, B.bytes, hml, findClass_of_methodNamed B.named, fun w hw => atoms_spec (ws := Cond.code yX11_listed cX11_listed 7 (some .int) :: lw_g) B.pre w (List.mem_cons_of_mem _ hw), ⟨Nat.le_refl _, Nat.le_refl _, Nat.le_refl _, Nat.le_refl _⟩, B.returns, B.notSynchronized⟩
  have hl := lv_entry ([.ref v0, .int v1, .int v2, .int v3]) (n := 7) (Nat.le_of_ble_eq_true rfl)
  rw [lg_entry_eq]
  generalize (lg_sl ([.ref v0, .int v1, .int v2, .int v3]) ++ List.replicate (7 - (lg_sl ([.ref v0, .int v1, .int v2, .int v3])).length) Slot.unset).toArray = ls at hl ⊢
  have hl : lv_has ls 7 [(0, .ref v0), (1, .int v1), (2, .int v2), (3, .int v3)] := hl
  unfold fk_11_listed at h
  refine lv_iload_n C.1 C.2.1 dX11_listed_0 rfl (lv_at hl 1 rfl) ?_
  obtain ⟨r1, h_r1, h⟩ := bd_ok h
  refine c_callS (rest := []) C hl.1 [.int v1] (tk_11_isNode l h_r1) cw11_112 ks_11_isNode rfl ⟨by decide, by decide⟩ ⟨(by decide), (by decide)⟩ rfl (Nat.le_of_ble_eq_true rfl) dX11_listed_1 ?_
  refine W.eq (g2 := F0 m 4 ls [.int r1]) rfl ?_
  refine lv_if_eq (tgt := 21) C.1 C.2.1 dX11_listed_4 (by decide) (fun c2 => ?_) (fun c2 => ?_)
  · have h := if_t h c2
    exact wk_11_listed_21 C X hW h (lv_sub hl [] rfl)
  · have h := if_f h c2
    refine lv_iload_n C.1 C.2.1 dX11_listed_7 rfl (lv_at hl 2 rfl) ?_
    refine lv_if_lt (tgt := 21) C.1 C.2.1 dX11_listed_8 (by decide) (fun c3 => ?_) (fun c3 => ?_)
    · have h := if_t h c3
      exact wk_11_listed_21 C X hW h (lv_sub hl [] rfl)
    · have h := if_f h c3
      refine lv_iload_n C.1 C.2.1 dX11_listed_11 rfl (lv_at hl 2 rfl) ?_
      refine lv_iconst (v := 3) C.1 C.2.1 dX11_listed_12 (by decide) ?_
      refine lv_icmp_gt (tgt := 21) C.1 C.2.1 dX11_listed_13 (by decide) (fun c4 => ?_) (fun c4 => ?_)
      · have h := if_t h c4
        exact wk_11_listed_21 C X hW h (lv_sub hl [] rfl)
      · have h := if_f h c4
        refine lv_iload_n C.1 C.2.1 dX11_listed_16 rfl (lv_at hl 3 rfl) ?_
        refine lv_iconst (v := -1) C.1 C.2.1 dX11_listed_17 (by decide) ?_
        refine lv_icmp_ge (tgt := 23) C.1 C.2.1 dX11_listed_18 (by decide) (fun c5 => ?_) (fun c5 => ?_)
        · have h := if_t h c5
          refine lv_aload_n C.1 C.2.1 dX11_listed_23 rfl (lv_at hl 0 rfl) ?_
          obtain ⟨hk, h⟩ := ckk_ok h
          obtain ⟨a6, h_a6, h⟩ := bd_ok h
          refine gk11_25 C X hW hk h_a6 dX11_listed_24 ?_
          refine lv_iload_n C.1 C.2.1 dX11_listed_27 rfl (lv_at hl 1 rfl) ?_
          obtain ⟨hk, h⟩ := ckk_ok h
          obtain ⟨hin2, h⟩ := ck_ok h
          refine c_aald C 31 (by decide) X.2.2.2.2.2.1 hW hk hin2 dX11_listed_28 ?_
          refine lt_ok h (fun o7 e_o7 h => ?_)
          refine lv_nmq e_o7 ?_
          refine lv_astoreq (o := o7) (lv' := [(4, va_rf o7), (0, .ref v0), (1, .int v1), (2, .int v2), (3, .int v3)]) C.1 C.2.1 dX11_listed_29 hl (by decide) rfl (fun ls hl => ?_)
          refine lv_iconst (v := 0) C.1 C.2.1 dX11_listed_31 (by decide) ?_
          refine lv_istore (lv' := [(5, .int (0 : Int32)), (4, va_rf o7), (0, .ref v0), (1, .int v1), (2, .int v2), (3, .int v3)]) C.1 C.2.1 dX11_listed_32 hl (by decide) (by cases o7 <;> rfl) (fun ls hl => ?_)
          refine lv_iconst (v := 0) C.1 C.2.1 dX11_listed_34 (by decide) ?_
          refine lv_istore (lv' := [(6, .int (0 : Int32)), (5, .int (0 : Int32)), (4, va_rf o7), (0, .ref v0), (1, .int v1), (2, .int v2), (3, .int v3)]) C.1 C.2.1 dX11_listed_35 hl (by decide) rfl (fun ls hl => ?_)
          exact wk_11_listed_37 C X hW mFU h (lv_sub hl [3, 5, 6, 2, 1, 0] rfl)
        · have h := if_f h c5
          exact wk_11_listed_21 C X hW h (lv_sub hl [] rfl)
end
theorem dX11_turned_0 : decode cX11_turned 0 = .ok (.iload_n 1, 1) := by decide +kernel
theorem dX11_turned_1 : decode cX11_turned 1 = .ok (.invokestatic 112, 3) := by decide +kernel
theorem dX11_turned_4 : decode cX11_turned 4 = .ok (.ifCond .eq 20, 3) := by decide +kernel
theorem dX11_turned_7 : decode cX11_turned 7 = .ok (.aload_n 0, 1) := by decide +kernel
theorem dX11_turned_8 : decode cX11_turned 8 = .ok (.getfield 25, 3) := by decide +kernel
theorem dX11_turned_11 : decode cX11_turned 11 = .ok (.iload_n 1, 1) := by decide +kernel
theorem dX11_turned_12 : decode cX11_turned 12 = .ok (.aaload, 1) := by decide +kernel
theorem dX11_turned_13 : decode cX11_turned 13 = .ok (.getfield 204, 3) := by decide +kernel
theorem dX11_turned_16 : decode cX11_turned 16 = .ok (.iload_n 2, 1) := by decide +kernel
theorem dX11_turned_17 : decode cX11_turned 17 = .ok (.iload_n 3, 1) := by decide +kernel
theorem dX11_turned_18 : decode cX11_turned 18 = .ok (.invokevirtual 208, 3) := by decide +kernel
theorem dX11_turned_21 : decode cX11_turned 21 = .ok (.goto 4, 3) := by decide +kernel
theorem dX11_turned_24 : decode cX11_turned 24 = .ok (.iconst (-1), 1) := by decide +kernel
theorem dX11_turned_25 : decode cX11_turned 25 = .ok (.ireturn, 1) := by decide +kernel
theorem kd_11_turned : Cond.code yX11_turned cX11_turned 4 (some .int) ∈ lw_g := mt_at 1242 (by decide +kernel) rfl
theorem ki_11_turned : Cond.instanceMethod yX11_turned ∈ lw_g := mt_at 1240 (by decide +kernel) rfl
theorem kl_11_turned : Cond.selects (kRn 11) yX11_turned yX11_turned ∈ lw_g := mt_at 1241 (by decide +kernel) rfl
theorem cw11_208 : cCw RX11 208 yX6_read cX6_read 4 (some .int) 2 := ⟨kd_6_read, mt_at 1243 (by decide +kernel) rfl, mt_at 8 (by decide +kernel) rfl, by decide +kernel⟩
section
variable {p : Program} {l : Launch} {e : Env} {R : Room} {s : State} {m : MethodId} {args : Array Value} {below : List Frame} {meth : Method} {c : Code} {H : Heap} {locs : List Loc} {cells slots : Nat} {Q : State → Prop}
variable {D : cG} {S S0 : cSt} {cc : ByteArray} {nL : Nat} {pc : Nat} {ls : Array Slot} {rest : List Value} {H0 : Heap} {nF nR nC nS : Nat} {ret : Option FieldType} {a : Nat}
theorem gk11_204 (C : cY p R s m args meth c RX11 cc nL nF nC nS nR ret) (X : cX D s) (hW : cW D S H) (hk : kK S a = 8) {x : Nat} (hx : kR S a 4 = some x) (hdg : decode cc pc = .ok (.getfield 204, 3)) (kk : W p l e R s m args below meth c H locs cells slots Q (F0 m (pc + 3) ls (.ref x :: rest))) : W p l e R s m args below meth c H locs cells slots Q (F0 m pc ls (.ref a :: rest)) := c_get C X hW 7 (by decide) ly_7 hk 4 (by decide) (mt_at 312 (by decide +kernel) (by decide +kernel)) hdg (by rw [cV_R (by decide +kernel) hx]; exact kk)
end
section
variable {p : Program} {l : Launch} {e : Env} {R : Room} {s : State} {m : MethodId} {args : Array Value} {below : List Frame} {meth : Method} {c : Code} {D : cG} {S : cSt} {r : Int32}
noncomputable def fk_11_turned_25 (S : cSt) (s0 : Int32) : Option (Int32) :=
some s0
set_option maxRecDepth 100000 in
set_option maxHeartbeats 4000000 in
theorem wk_11_turned_25 (C : cY p R s m args meth c RX11 cX11_turned 4 1 0 0 23 (some .int)) (X : cX D s) (hW : cW D S s.heap) : ∀ {s0 : Int32} {ls : Array Slot}, fk_11_turned_25 S s0 = some r → lv_has ls 4 [] → W p l e R s m args below meth c s.heap [] 0 0 (MQ below (kQ (some (.int r))) args s 0 0 mNo) (F0 m 25 ls [.int s0]) := by
  intro s0 ls h hl
  unfold fk_11_turned_25 at h
  cases h
  exact c_reti C rfl rfl dX11_turned_25
noncomputable def fk_11_turned (S : cSt) (v0 : Nat) (v1 : Int32) (v2 : Int32) (v3 : Int32) : Option (Int32) :=
bd (fk_11_isNode v1) fun r1 =>
if r1 = 0 then (
fk_11_turned_25 S (-1 : Int32))
else (
ckk S v0 12 (bd (kR S v0 2) fun a3 =>
ckk S a3 31 (ck v1 (kL S a3) (lt (kO S a3 (Int32.toNatClampNeg v1)) fun o4 =>
bd o4 fun a5 =>
ckk S a5 8 (bd (kR S a5 4) fun a6 =>
ckk S a6 7 (bd (fk_6_read S a6 v2 v3) fun r7 =>
fk_11_turned_25 S r7))))))
set_option maxRecDepth 100000 in
set_option maxHeartbeats 4000000 in
theorem tk_11_turned (l : Launch) {D : cG} {S : cSt} {v0 : Nat} {v1 : Int32} {v2 : Int32} {v3 : Int32} {r : Int32}  (h : fk_11_turned S v0 v1 v2 v3 = some r) : Met l yX11_turned (Cond.code yX11_turned cX11_turned 4 (some .int) :: lw_g) { frames := 1, cells := 0, slots := 0, locals := 23 } (kPi [.ref v0, .int v1, .int v2, .int v3] D S) (kQ (some (.int r))) 0 0 (mNo) := by
  refine Met.ofW (cc := cX11_turned) (maxL := 4) (ret := (some .int)) (by decide) rfl ?_
  intro p e s m args below meth c s₁ B hml hv
  obtain ⟨rfl, hW, X⟩ := hv
  have C : cY p (headSpec (Cond.code yX11_turned cX11_turned 4 (some .int) :: lw_g) { frames := 1, cells := 0, slots := 0, locals := 23 }).room s m _ meth c RX11 cX11_turned 4 1 0 0 23 (some .int) := ⟨B.exec, B.bytes, hml, findClass_of_methodNamed B.named, fun w hw => atoms_spec (ws := Cond.code yX11_turned cX11_turned 4 (some .int) :: lw_g) B.pre w (List.mem_cons_of_mem _ hw), ⟨Nat.le_refl _, Nat.le_refl _, Nat.le_refl _, Nat.le_refl _⟩, B.returns, B.notSynchronized⟩
  have hl := lv_entry ([.ref v0, .int v1, .int v2, .int v3]) (n := 4) (Nat.le_of_ble_eq_true rfl)
  rw [lg_entry_eq]
  generalize (lg_sl ([.ref v0, .int v1, .int v2, .int v3]) ++ List.replicate (4 - (lg_sl ([.ref v0, .int v1, .int v2, .int v3])).length) Slot.unset).toArray = ls at hl ⊢
  have hl : lv_has ls 4 [(0, .ref v0), (1, .int v1), (2, .int v2), (3, .int v3)] := hl
  unfold fk_11_turned at h
  refine lv_iload_n C.1 C.2.1 dX11_turned_0 rfl (lv_at hl 1 rfl) ?_
  obtain ⟨r1, h_r1, h⟩ := bd_ok h
  refine c_callS (rest := []) C hl.1 [.int v1] (tk_11_isNode l h_r1) cw11_112 ks_11_isNode rfl ⟨by decide, by decide⟩ ⟨(by decide), (by decide)⟩ rfl (Nat.le_of_ble_eq_true rfl) dX11_turned_1 ?_
  refine W.eq (g2 := F0 m 4 ls [.int r1]) rfl ?_
  refine lv_if_eq (tgt := 24) C.1 C.2.1 dX11_turned_4 (by decide) (fun c2 => ?_) (fun c2 => ?_)
  · have h := if_t h c2
    refine lv_iconst (v := -1) C.1 C.2.1 dX11_turned_24 (by decide) ?_
    exact wk_11_turned_25 C X hW h (lv_sub hl [] rfl)
  · have h := if_f h c2
    refine lv_aload_n C.1 C.2.1 dX11_turned_7 rfl (lv_at hl 0 rfl) ?_
    obtain ⟨hk, h⟩ := ckk_ok h
    obtain ⟨a3, h_a3, h⟩ := bd_ok h
    refine gk11_25 C X hW hk h_a3 dX11_turned_8 ?_
    refine lv_iload_n C.1 C.2.1 dX11_turned_11 rfl (lv_at hl 1 rfl) ?_
    obtain ⟨hk, h⟩ := ckk_ok h
    obtain ⟨hin2, h⟩ := ck_ok h
    refine c_aald C 31 (by decide) X.2.2.2.2.2.1 hW hk hin2 dX11_turned_12 ?_
    refine lt_ok h (fun o4 e_o4 h => ?_)
    refine lv_nmq e_o4 ?_
    obtain ⟨a5, e_a5, h⟩ := bd_ok h
    revert h; subst e_a5; intro h
    obtain ⟨hk, h⟩ := ckk_ok h
    obtain ⟨a6, h_a6, h⟩ := bd_ok h
    refine gk11_204 C X hW hk h_a6 dX11_turned_13 ?_
    refine lv_iload_n C.1 C.2.1 dX11_turned_16 rfl (lv_at hl 2 rfl) ?_
    refine lv_iload_n C.1 C.2.1 dX11_turned_17 rfl (lv_at hl 3 rfl) ?_
    obtain ⟨hk, h⟩ := ckk_ok h
    obtain ⟨r7, h_r7, h⟩ := bd_ok h
    refine c_callR (rest := []) C X hW hl.1 6 (by decide) hk [.int v2, .int v3] (tk_6_read l h_r7) cw11_208 ki_6_read kl_6_read rfl ⟨by decide, by decide⟩ ⟨(by decide), (by decide)⟩ rfl (Nat.le_of_ble_eq_true rfl) dX11_turned_18 ?_
    refine W.eq (g2 := F0 m 21 ls [.int r7]) rfl ?_
    refine lv_goto (tgt := 25) C.1 C.2.1 dX11_turned_21 (by decide) ?_
    exact wk_11_turned_25 C X hW h (lv_sub hl [] rfl)
end
theorem dX11_dispatch_0 : decode cX11_dispatch 0 = .ok (.aload_n 0, 1) := by decide +kernel
theorem dX11_dispatch_1 : decode cX11_dispatch 1 = .ok (.getfield 32, 3) := by decide +kernel
theorem dX11_dispatch_4 : decode cX11_dispatch 4 = .ok (.invokevirtual 268, 3) := by decide +kernel
theorem dX11_dispatch_7 : decode cX11_dispatch 7 = .ok (.astore 4, 2) := by decide +kernel
theorem dX11_dispatch_9 : decode cX11_dispatch 9 = .ok (.aload 4, 2) := by decide +kernel
theorem dX11_dispatch_11 : decode cX11_dispatch 11 = .ok (.aload_n 0, 1) := by decide +kernel
theorem dX11_dispatch_12 : decode cX11_dispatch 12 = .ok (.getfield 25, 3) := by decide +kernel
theorem dX11_dispatch_15 : decode cX11_dispatch 15 = .ok (.iload_n 1, 1) := by decide +kernel
theorem dX11_dispatch_16 : decode cX11_dispatch 16 = .ok (.aaload, 1) := by decide +kernel
theorem dX11_dispatch_17 : decode cX11_dispatch 17 = .ok (.iload_n 2, 1) := by decide +kernel
theorem dX11_dispatch_18 : decode cX11_dispatch 18 = .ok (.iload_n 3, 1) := by decide +kernel
theorem dX11_dispatch_19 : decode cX11_dispatch 19 = .ok (.invokevirtual 510, 3) := by decide +kernel
theorem dX11_dispatch_22 : decode cX11_dispatch 22 = .ok (.iload_n 3, 1) := by decide +kernel
theorem dX11_dispatch_23 : decode cX11_dispatch 23 = .ok (.ifCond .ne 14, 3) := by decide +kernel
theorem dX11_dispatch_26 : decode cX11_dispatch 26 = .ok (.aload_n 0, 1) := by decide +kernel
theorem dX11_dispatch_27 : decode cX11_dispatch 27 = .ok (.getfield 25, 3) := by decide +kernel
theorem dX11_dispatch_30 : decode cX11_dispatch 30 = .ok (.iload_n 1, 1) := by decide +kernel
theorem dX11_dispatch_31 : decode cX11_dispatch 31 = .ok (.aaload, 1) := by decide +kernel
theorem dX11_dispatch_32 : decode cX11_dispatch 32 = .ok (.aload 4, 2) := by decide +kernel
theorem dX11_dispatch_34 : decode cX11_dispatch 34 = .ok (.invokevirtual 513, 3) := by decide +kernel
theorem dX11_dispatch_37 : decode cX11_dispatch 37 = .ok (.return_, 1) := by decide +kernel
theorem kd_11_dispatch : Cond.code yX11_dispatch cX11_dispatch 5 none ∈ lw_g := mt_at 1258 (by decide +kernel) rfl
theorem ki_11_dispatch : Cond.instanceMethod yX11_dispatch ∈ lw_g := mt_at 1257 (by decide +kernel) rfl
theorem kl_11_dispatch : Cond.selects (kRn 11) yX11_dispatch yX11_dispatch ∈ lw_g := mt_sel 25 (by decide +kernel) rfl
theorem cw11_268 : cCw RX11 268 yX5_open cX5_open 1 (some (.object "AccordHouse$Frame")) 0 := ⟨kd_5_open, mt_at 1259 (by decide +kernel) rfl, mt_at 4 (by decide +kernel) rfl, by decide +kernel⟩
theorem cw11_510 : cCw RX11 510 yX2_begin cX2_begin 4 none 3 := ⟨kd_2_begin, mt_at 1317 (by decide +kernel) rfl, mt_at 30 (by decide +kernel) rfl, by decide +kernel⟩
theorem cw11_513 : cCw RX11 513 yX7_load cX7_load 4 none 1 := ⟨kd_7_load, mt_at 1322 (by decide +kernel) rfl, mt_at 7 (by decide +kernel) rfl, by decide +kernel⟩
section
variable {p : Program} {l : Launch} {e : Env} {R : Room} {s : State} {m : MethodId} {args : Array Value} {below : List Frame} {meth : Method} {c : Code} {H : Heap} {locs : List Loc} {cells slots : Nat} {Q : State → Prop}
variable {D : cG} {S S0 : cSt} {cc : ByteArray} {nL : Nat} {pc : Nat} {ls : Array Slot} {rest : List Value} {H0 : Heap} {nF nR nC nS : Nat} {ret : Option FieldType} {a : Nat}
theorem gk11_32 (C : cY p R s m args meth c RX11 cc nL nF nC nS nR ret) (X : cX D s) (hW : cW D S H) (hk : kK S a = 12) {x : Nat} (hx : kR S a 3 = some x) (hdg : decode cc pc = .ok (.getfield 32, 3)) (kk : W p l e R s m args below meth c H locs cells slots Q (F0 m (pc + 3) ls (.ref x :: rest))) : W p l e R s m args below meth c H locs cells slots Q (F0 m pc ls (.ref a :: rest)) := c_get C X hW 11 (by decide) ly_11 hk 3 (by decide) (mt_at 374 (by decide +kernel) (by decide +kernel)) hdg (by rw [cV_R (by decide +kernel) hx]; exact kk)
end
section
variable {p : Program} {l : Launch} {e : Env} {R : Room} {s : State} {m : MethodId} {args : Array Value} {below : List Frame} {meth : Method} {c : Code} {D : cG} {S0 S9 : cSt}
noncomputable def fk_11_dispatch_37 (S : cSt) : Option (cSt) :=
some S
set_option maxRecDepth 100000 in
set_option maxHeartbeats 4000000 in
theorem wk_11_dispatch_37 (C : cY p R s m args meth c RX11 cX11_dispatch 5 4 6 39 108 none) (X : cX D s) : ∀ {S : cSt} {H : Heap} {locs : List Loc} {ls : Array Slot}, fk_11_dispatch_37 S = some S9 → cJ D S0 s.heap S H locs → lv_has ls 5 [] → W p l e R s m args below meth c H locs 6 39 (MQ below (kW none D S0 S9) args s 6 39 (cA S0)) (F0 m 37 ls []) := by
  intro S H locs ls h hJ hl
  unfold fk_11_dispatch_37 at h
  cases h
  exact c_retvW C hJ dX11_dispatch_37
noncomputable def fk_11_dispatch (S : cSt) (v0 : Nat) (v1 : Int32) (v2 : Int32) (v3 : Int32) : Option (cSt) :=
ckk S v0 12 (bd (kR S v0 3) fun a1 =>
ckk S a1 6 (bd (fk_5_open S a1) fun q_o3 => lt q_o3.1 fun o3 => lt q_o3.2 fun S2 =>
ckk S2 v0 12 (bd (kR S2 v0 2) fun a4 =>
ckk S2 a4 31 (ck v1 (kL S2 a4) (lt (kO S2 a4 (Int32.toNatClampNeg v1)) fun o5 =>
bd o5 fun a6 =>
bd o3 fun a7 =>
ckk S2 a7 3 (bd (fk_2_begin S2 a7 a6 v2 v3) fun S8 =>
if v3 = 0 then (
ckk S8 v0 12 (bd (kR S8 v0 2) fun a10 =>
ckk S8 a10 31 (ck v1 (kL S8 a10) (lt (kO S8 a10 (Int32.toNatClampNeg v1)) fun o11 =>
bd o11 fun a12 =>
ckk S8 a12 8 (bd (fk_7_load S8 a12 a7) fun S13 =>
fk_11_dispatch_37 S13)))))
else (
fk_11_dispatch_37 S8)))))))
set_option maxRecDepth 100000 in
set_option maxHeartbeats 4000000 in
theorem tk_11_dispatch (l : Launch) {D : cG} {S : cSt} {v0 : Nat} {v1 : Int32} {v2 : Int32} {v3 : Int32} {S9 : cSt} (h : fk_11_dispatch S v0 v1 v2 v3 = some S9) : Met l yX11_dispatch (Cond.code yX11_dispatch cX11_dispatch 5 none :: lw_g) { frames := 4, cells := 6, slots := 39, locals := 108 } (kPi [.ref v0, .int v1, .int v2, .int v3] D S) (kW none D S S9) 6 39 (cA S) := by
  refine Met.ofW (cc := cX11_dispatch) (maxL := 5) (ret := none) (by decide) rfl ?_
  intro p e s m args below meth c s₁ B hml hv
  obtain ⟨rfl, hW, X⟩ := hv
  have C : cY p (headSpec (Cond.code yX11_dispatch cX11_dispatch 5 none :: lw_g) { frames := 4, cells := 6, slots := 39, locals := 108 }).room s m _ meth c RX11 cX11_dispatch 5 4 6 39 108 none := ⟨B.exec, B.bytes, hml, findClass_of_methodNamed B.named, fun w hw => atoms_spec (ws := Cond.code yX11_dispatch cX11_dispatch 5 none :: lw_g) B.pre w (List.mem_cons_of_mem _ hw), ⟨Nat.le_refl _, Nat.le_refl _, Nat.le_refl _, Nat.le_refl _⟩, B.returns, B.notSynchronized⟩
  have hl := lv_entry ([.ref v0, .int v1, .int v2, .int v3]) (n := 5) (Nat.le_of_ble_eq_true rfl)
  rw [lg_entry_eq]
  generalize (lg_sl ([.ref v0, .int v1, .int v2, .int v3]) ++ List.replicate (5 - (lg_sl ([.ref v0, .int v1, .int v2, .int v3])).length) Slot.unset).toArray = ls at hl ⊢
  have hl : lv_has ls 5 [(0, .ref v0), (1, .int v1), (2, .int v2), (3, .int v3)] := hl
  have hJ : cJ D S s.heap S s.heap [] := cJ.rf hW
  unfold fk_11_dispatch at h
  refine lv_aload_n C.1 C.2.1 dX11_dispatch_0 rfl (lv_at hl 0 rfl) ?_
  obtain ⟨hk, h⟩ := ckk_ok h
  obtain ⟨a1, h_a1, h⟩ := bd_ok h
  refine gk11_32 C X hJ.1 hk h_a1 dX11_dispatch_1 ?_
  obtain ⟨hk, h⟩ := ckk_ok h
  obtain ⟨⟨o3, S2⟩, h_S2, h⟩ := bd_ok h
  replace h := lt2_ok h
  refine c_callW (rest := []) C X hJ hl.1 5 (by decide) hk [] (tk_5_open l h_S2) cw11_268 ki_5_open kl_5_open rfl ⟨by decide, by decide⟩ ⟨(by decide), (by decide)⟩ rfl (Nat.le_of_ble_eq_true rfl) dX11_dispatch_4 (fun H locs hJ => ?_)
  refine W.eq (g2 := F0 m 7 ls [va_rf o3]) rfl ?_
  refine lv_astoreq (o := o3) (lv' := [(4, va_rf o3), (0, .ref v0), (1, .int v1), (2, .int v2), (3, .int v3)]) C.1 C.2.1 dX11_dispatch_7 hl (by decide) rfl (fun ls hl => ?_)
  refine lv_aloadq (o := o3) C.1 C.2.1 dX11_dispatch_9 (lv_at hl 0 rfl) ?_
  refine lv_aload_n C.1 C.2.1 dX11_dispatch_11 rfl (lv_at hl 1 rfl) ?_
  obtain ⟨hk, h⟩ := ckk_ok h
  obtain ⟨a4, h_a4, h⟩ := bd_ok h
  refine gk11_25 C X hJ.1 hk h_a4 dX11_dispatch_12 ?_
  refine lv_iload_n C.1 C.2.1 dX11_dispatch_15 rfl (lv_at hl 2 rfl) ?_
  obtain ⟨hk, h⟩ := ckk_ok h
  obtain ⟨hin2, h⟩ := ck_ok h
  refine c_aald C 31 (by decide) X.2.2.2.2.2.1 hJ.1 hk hin2 dX11_dispatch_16 ?_
  refine lt_ok h (fun o5 e_o5 h => ?_)
  refine lv_nmq e_o5 ?_
  refine lv_iload_n C.1 C.2.1 dX11_dispatch_17 rfl (lv_at hl 3 rfl) ?_
  refine lv_iload_n C.1 C.2.1 dX11_dispatch_18 rfl (lv_at hl 4 rfl) ?_
  obtain ⟨a6, e_a6, h⟩ := bd_ok h
  revert h; subst e_a6; intro h
  obtain ⟨a7, e_a7, h⟩ := bd_ok h
  revert h; subst e_a7; intro h
  obtain ⟨hk, h⟩ := ckk_ok h
  obtain ⟨S8, h_S8, h⟩ := bd_ok h
  refine c_callW (rest := []) C X hJ hl.1 2 (by decide) hk [.ref a6, .int v2, .int v3] (tk_2_begin l h_S8) cw11_510 ki_2_begin kl_2_begin rfl ⟨by decide, by decide⟩ ⟨(by decide), (by decide)⟩ rfl (Nat.le_of_ble_eq_true rfl) dX11_dispatch_19 (fun H locs hJ => ?_)
  refine W.eq (g2 := F0 m 22 ls []) rfl ?_
  refine lv_iload_n C.1 C.2.1 dX11_dispatch_22 rfl (lv_at hl 4 rfl) ?_
  refine lv_if_ne (tgt := 37) C.1 C.2.1 dX11_dispatch_23 (by decide) (fun c9 => ?_) (fun c9 => ?_)
  · have h := if_f h c9
    exact wk_11_dispatch_37 C X h hJ (lv_sub hl [] rfl)
  · have h := if_t h c9
    refine lv_aload_n C.1 C.2.1 dX11_dispatch_26 rfl (lv_at hl 1 rfl) ?_
    obtain ⟨hk, h⟩ := ckk_ok h
    obtain ⟨a10, h_a10, h⟩ := bd_ok h
    refine gk11_25 C X hJ.1 hk h_a10 dX11_dispatch_27 ?_
    refine lv_iload_n C.1 C.2.1 dX11_dispatch_30 rfl (lv_at hl 2 rfl) ?_
    obtain ⟨hk, h⟩ := ckk_ok h
    obtain ⟨hin2, h⟩ := ck_ok h
    refine c_aald C 31 (by decide) X.2.2.2.2.2.1 hJ.1 hk hin2 dX11_dispatch_31 ?_
    refine lt_ok h (fun o11 e_o11 h => ?_)
    refine lv_nmq e_o11 ?_
    refine lv_aload C.1 C.2.1 dX11_dispatch_32 (lv_at hl 0 rfl) ?_
    obtain ⟨a12, e_a12, h⟩ := bd_ok h
    revert h; subst e_a12; intro h
    obtain ⟨hk, h⟩ := ckk_ok h
    obtain ⟨S13, h_S13, h⟩ := bd_ok h
    refine c_callW (rest := []) C X hJ hl.1 7 (by decide) hk [.ref a7] (tk_7_load l h_S13) cw11_513 ki_7_load kl_7_load rfl ⟨by decide, by decide⟩ ⟨(by decide), (by decide)⟩ rfl (Nat.le_of_ble_eq_true rfl) dX11_dispatch_34 (fun H locs hJ => ?_)
    refine W.eq (g2 := F0 m 37 ls []) rfl ?_
    exact wk_11_dispatch_37 C X h hJ (lv_sub hl [] rfl)
end
theorem dX11_send_0 : decode cX11_send 0 = .ok (.iload_n 1, 1) := by decide +kernel
theorem dX11_send_1 : decode cX11_send 1 = .ok (.invokestatic 112, 3) := by decide +kernel
theorem dX11_send_4 : decode cX11_send 4 = .ok (.ifCond .eq 25, 3) := by decide +kernel
theorem dX11_send_7 : decode cX11_send 7 = .ok (.iload_n 2, 1) := by decide +kernel
theorem dX11_send_8 : decode cX11_send 8 = .ok (.invokestatic 112, 3) := by decide +kernel
theorem dX11_send_11 : decode cX11_send 11 = .ok (.ifCond .eq 18, 3) := by decide +kernel
theorem dX11_send_14 : decode cX11_send 14 = .ok (.iload_n 1, 1) := by decide +kernel
theorem dX11_send_15 : decode cX11_send 15 = .ok (.iload_n 2, 1) := by decide +kernel
theorem dX11_send_16 : decode cX11_send 16 = .ok (.if_icmp .eq 13, 3) := by decide +kernel
theorem dX11_send_19 : decode cX11_send 19 = .ok (.aload_n 0, 1) := by decide +kernel
theorem dX11_send_20 : decode cX11_send 20 = .ok (.getfield 32, 3) := by decide +kernel
theorem dX11_send_23 : decode cX11_send 23 = .ok (.invokevirtual 212, 3) := by decide +kernel
theorem dX11_send_26 : decode cX11_send 26 = .ok (.ifCond .eq 5, 3) := by decide +kernel
theorem dX11_send_29 : decode cX11_send 29 = .ok (.iconst 0, 1) := by decide +kernel
theorem dX11_send_30 : decode cX11_send 30 = .ok (.ireturn, 1) := by decide +kernel
theorem dX11_send_31 : decode cX11_send 31 = .ok (.aload_n 0, 1) := by decide +kernel
theorem dX11_send_32 : decode cX11_send 32 = .ok (.iload_n 1, 1) := by decide +kernel
theorem dX11_send_33 : decode cX11_send 33 = .ok (.iload_n 2, 1) := by decide +kernel
theorem dX11_send_34 : decode cX11_send 34 = .ok (.iload_n 3, 1) := by decide +kernel
theorem dX11_send_35 : decode cX11_send 35 = .ok (.invokevirtual 216, 3) := by decide +kernel
theorem dX11_send_38 : decode cX11_send 38 = .ok (.iconst 1, 1) := by decide +kernel
theorem dX11_send_39 : decode cX11_send 39 = .ok (.ireturn, 1) := by decide +kernel
theorem kd_11_send : Cond.code yX11_send cX11_send 4 (some .boolean) ∈ lw_g := mt_at 1250 (by decide +kernel) rfl
theorem ki_11_send : Cond.instanceMethod yX11_send ∈ lw_g := mt_at 1248 (by decide +kernel) rfl
theorem kl_11_send : Cond.selects (kRn 11) yX11_send yX11_send ∈ lw_g := mt_at 1249 (by decide +kernel) rfl
theorem cw11_212 : cCw RX11 212 yX5_isFull cX5_isFull 1 (some .boolean) 0 := ⟨kd_5_isFull, mt_at 1251 (by decide +kernel) rfl, mt_at 4 (by decide +kernel) rfl, by decide +kernel⟩
theorem cw11_216 : cCw RX11 216 yX11_dispatch cX11_dispatch 5 none 3 := ⟨kd_11_dispatch, mt_at 1255 (by decide +kernel) rfl, mt_at 1 (by decide +kernel) rfl, by decide +kernel⟩
section
variable {p : Program} {l : Launch} {e : Env} {R : Room} {s : State} {m : MethodId} {args : Array Value} {below : List Frame} {meth : Method} {c : Code} {D : cG} {S0 S9 : cSt} {r : Int32}
noncomputable def fk_11_send_29 (S : cSt) : Option (Int32 × cSt) :=
ckz (0 : Int32) (some ((0 : Int32), S))
set_option maxRecDepth 100000 in
set_option maxHeartbeats 4000000 in
theorem wk_11_send_29 (C : cY p R s m args meth c RX11 cX11_send 4 5 6 39 132 (some .boolean)) (X : cX D s) : ∀ {S : cSt} {H : Heap} {locs : List Loc} {ls : Array Slot}, fk_11_send_29 S = some (r, S9) → cJ D S0 s.heap S H locs → lv_has ls 4 [] → W p l e R s m args below meth c H locs 0 0 (MQ below (kW (some (.int r)) D S0 S9) args s 6 39 (cA S0)) (F0 m 29 ls []) := by
  intro S H locs ls h hJ hl
  unfold fk_11_send_29 at h
  refine lv_iconst (v := 0) C.1 C.2.1 dX11_send_29 (by decide) ?_
  obtain ⟨hzo, h⟩ := ckz_ok h
  cases h
  refine W.widen (k := 6) (n := 39) (by decide) (by decide) ?_
  exact c_retnW C (by rcases hzo with h9 | h9 <;> (rw [h9]; rfl)) hJ dX11_send_30
noncomputable def fk_11_send (S : cSt) (v0 : Nat) (v1 : Int32) (v2 : Int32) (v3 : Int32) : Option (Int32 × cSt) :=
bd (fk_11_isNode v1) fun r1 =>
if r1 = 0 then (
fk_11_send_29 S)
else (
bd (fk_11_isNode v2) fun r3 =>
if r3 = 0 then (
fk_11_send_29 S)
else (
if v1 = v2 then (
fk_11_send_29 S)
else (
ckk S v0 12 (bd (kR S v0 3) fun a6 =>
ckk S a6 6 (bd (fk_5_isFull S a6) fun r7 =>
if r7 = 0 then (
ckk S v0 12 (bd (fk_11_dispatch S v0 v1 v2 v3) fun S10 =>
ckz (1 : Int32) (some ((1 : Int32), S10))))
else (
fk_11_send_29 S))))))
set_option maxRecDepth 100000 in
set_option maxHeartbeats 4000000 in
theorem tk_11_send (l : Launch) {D : cG} {S : cSt} {v0 : Nat} {v1 : Int32} {v2 : Int32} {v3 : Int32} {r : Int32} {S9 : cSt} (h : fk_11_send S v0 v1 v2 v3 = some (r, S9)) : Met l yX11_send (Cond.code yX11_send cX11_send 4 (some .boolean) :: lw_g) { frames := 5, cells := 6, slots := 39, locals := 132 } (kPi [.ref v0, .int v1, .int v2, .int v3] D S) (kW (some (.int r)) D S S9) 6 39 (cA S) := by
  refine Met.ofW (cc := cX11_send) (maxL := 4) (ret := (some .boolean)) (by decide) rfl ?_
  intro p e s m args below meth c s₁ B hml hv
  obtain ⟨rfl, hW, X⟩ := hv
  have C : cY p (headSpec (Cond.code yX11_send cX11_send 4 (some .boolean) :: lw_g) { frames := 5, cells := 6, slots := 39, locals := 132 }).room s m _ meth c RX11 cX11_send 4 5 6 39 132 (some .boolean) := ⟨B.exec, B.bytes, hml, findClass_of_methodNamed B.named, fun w hw => atoms_spec (ws := Cond.code yX11_send cX11_send 4 (some .boolean) :: lw_g) B.pre w (List.mem_cons_of_mem _ hw), ⟨Nat.le_refl _, Nat.le_refl _, Nat.le_refl _, Nat.le_refl _⟩, B.returns, B.notSynchronized⟩
  have hl := lv_entry ([.ref v0, .int v1, .int v2, .int v3]) (n := 4) (Nat.le_of_ble_eq_true rfl)
  rw [lg_entry_eq]
  generalize (lg_sl ([.ref v0, .int v1, .int v2, .int v3]) ++ List.replicate (4 - (lg_sl ([.ref v0, .int v1, .int v2, .int v3])).length) Slot.unset).toArray = ls at hl ⊢
  have hl : lv_has ls 4 [(0, .ref v0), (1, .int v1), (2, .int v2), (3, .int v3)] := hl
  have hJ : cJ D S s.heap S s.heap [] := cJ.rf hW
  unfold fk_11_send at h
  refine lv_iload_n C.1 C.2.1 dX11_send_0 rfl (lv_at hl 1 rfl) ?_
  obtain ⟨r1, h_r1, h⟩ := bd_ok h
  refine c_callS (rest := []) C hl.1 [.int v1] (tk_11_isNode l h_r1) cw11_112 ks_11_isNode rfl ⟨by decide, by decide⟩ ⟨(by decide), (by decide)⟩ rfl (Nat.le_of_ble_eq_true rfl) dX11_send_1 ?_
  refine W.eq (g2 := F0 m 4 ls [.int r1]) rfl ?_
  refine lv_if_eq (tgt := 29) C.1 C.2.1 dX11_send_4 (by decide) (fun c2 => ?_) (fun c2 => ?_)
  · have h := if_t h c2
    exact wk_11_send_29 C X h hJ (lv_sub hl [] rfl)
  · have h := if_f h c2
    refine lv_iload_n C.1 C.2.1 dX11_send_7 rfl (lv_at hl 2 rfl) ?_
    obtain ⟨r3, h_r3, h⟩ := bd_ok h
    refine c_callS (rest := []) C hl.1 [.int v2] (tk_11_isNode l h_r3) cw11_112 ks_11_isNode rfl ⟨by decide, by decide⟩ ⟨(by decide), (by decide)⟩ rfl (Nat.le_of_ble_eq_true rfl) dX11_send_8 ?_
    refine W.eq (g2 := F0 m 11 ls [.int r3]) rfl ?_
    refine lv_if_eq (tgt := 29) C.1 C.2.1 dX11_send_11 (by decide) (fun c4 => ?_) (fun c4 => ?_)
    · have h := if_t h c4
      exact wk_11_send_29 C X h hJ (lv_sub hl [] rfl)
    · have h := if_f h c4
      refine lv_iload_n C.1 C.2.1 dX11_send_14 rfl (lv_at hl 1 rfl) ?_
      refine lv_iload_n C.1 C.2.1 dX11_send_15 rfl (lv_at hl 2 rfl) ?_
      refine lv_icmp_eq (tgt := 29) C.1 C.2.1 dX11_send_16 (by decide) (fun c5 => ?_) (fun c5 => ?_)
      · have h := if_t h c5
        exact wk_11_send_29 C X h hJ (lv_sub hl [] rfl)
      · have h := if_f h c5
        refine lv_aload_n C.1 C.2.1 dX11_send_19 rfl (lv_at hl 0 rfl) ?_
        obtain ⟨hk, h⟩ := ckk_ok h
        obtain ⟨a6, h_a6, h⟩ := bd_ok h
        refine gk11_32 C X hJ.1 hk h_a6 dX11_send_20 ?_
        obtain ⟨hk, h⟩ := ckk_ok h
        obtain ⟨r7, h_r7, h⟩ := bd_ok h
        refine c_callR (rest := []) C X hJ.1 hl.1 5 (by decide) hk [] (tk_5_isFull l h_r7) cw11_212 ki_5_isFull kl_5_isFull rfl ⟨by decide, by decide⟩ ⟨(by decide), (by decide)⟩ rfl (Nat.le_of_ble_eq_true rfl) dX11_send_23 ?_
        refine W.eq (g2 := F0 m 26 ls [.int r7]) rfl ?_
        refine lv_if_eq (tgt := 31) C.1 C.2.1 dX11_send_26 (by decide) (fun c8 => ?_) (fun c8 => ?_)
        · have h := if_t h c8
          refine lv_aload_n C.1 C.2.1 dX11_send_31 rfl (lv_at hl 0 rfl) ?_
          refine lv_iload_n C.1 C.2.1 dX11_send_32 rfl (lv_at hl 1 rfl) ?_
          refine lv_iload_n C.1 C.2.1 dX11_send_33 rfl (lv_at hl 2 rfl) ?_
          refine lv_iload_n C.1 C.2.1 dX11_send_34 rfl (lv_at hl 3 rfl) ?_
          obtain ⟨hk, h⟩ := ckk_ok h
          obtain ⟨S10, h_S10, h⟩ := bd_ok h
          refine c_callW (rest := []) C X hJ hl.1 11 (by decide) hk [.int v1, .int v2, .int v3] (tk_11_dispatch l h_S10) cw11_216 ki_11_dispatch kl_11_dispatch rfl ⟨by decide, by decide⟩ ⟨(by decide), (by decide)⟩ rfl (Nat.le_of_ble_eq_true rfl) dX11_send_35 (fun H locs hJ => ?_)
          refine W.eq (g2 := F0 m 38 ls []) rfl ?_
          refine lv_iconst (v := 1) C.1 C.2.1 dX11_send_38 (by decide) ?_
          obtain ⟨hzo, h⟩ := ckz_ok h
          cases h
          exact c_retnW C (by rcases hzo with h9 | h9 <;> (rw [h9]; rfl)) hJ dX11_send_39
        · have h := if_f h c8
          exact wk_11_send_29 C X h hJ (lv_sub hl [] rfl)
end
theorem dX11_deliver_0 : decode cX11_deliver 0 = .ok (.aload_n 0, 1) := by decide +kernel
theorem dX11_deliver_1 : decode cX11_deliver 1 = .ok (.getfield 32, 3) := by decide +kernel
theorem dX11_deliver_4 : decode cX11_deliver 4 = .ok (.iload_n 1, 1) := by decide +kernel
theorem dX11_deliver_5 : decode cX11_deliver 5 = .ok (.invokevirtual 220, 3) := by decide +kernel
theorem dX11_deliver_8 : decode cX11_deliver 8 = .ok (.astore_n 2, 1) := by decide +kernel
theorem dX11_deliver_9 : decode cX11_deliver 9 = .ok (.aload_n 2, 1) := by decide +kernel
theorem dX11_deliver_10 : decode cX11_deliver 10 = .ok (.ifnonnull 5, 3) := by decide +kernel
theorem dX11_deliver_13 : decode cX11_deliver 13 = .ok (.iconst (-1), 1) := by decide +kernel
theorem dX11_deliver_14 : decode cX11_deliver 14 = .ok (.ireturn, 1) := by decide +kernel
theorem dX11_deliver_15 : decode cX11_deliver 15 = .ok (.aload_n 0, 1) := by decide +kernel
theorem dX11_deliver_16 : decode cX11_deliver 16 = .ok (.getfield 32, 3) := by decide +kernel
theorem dX11_deliver_19 : decode cX11_deliver 19 = .ok (.iload_n 1, 1) := by decide +kernel
theorem dX11_deliver_20 : decode cX11_deliver 20 = .ok (.invokevirtual 224, 3) := by decide +kernel
theorem dX11_deliver_23 : decode cX11_deliver 23 = .ok (.aload_n 2, 1) := by decide +kernel
theorem dX11_deliver_24 : decode cX11_deliver 24 = .ok (.getfield 228, 3) := by decide +kernel
theorem dX11_deliver_27 : decode cX11_deliver 27 = .ok (.ifCond .le 19, 3) := by decide +kernel
theorem dX11_deliver_30 : decode cX11_deliver 30 = .ok (.aload_n 0, 1) := by decide +kernel
theorem dX11_deliver_31 : decode cX11_deliver 31 = .ok (.getfield 32, 3) := by decide +kernel
theorem dX11_deliver_34 : decode cX11_deliver 34 = .ok (.dup, 1) := by decide +kernel
theorem dX11_deliver_35 : decode cX11_deliver 35 = .ok (.getfield 233, 3) := by decide +kernel
theorem dX11_deliver_38 : decode cX11_deliver 38 = .ok (.iconst 1, 1) := by decide +kernel
theorem dX11_deliver_39 : decode cX11_deliver 39 = .ok (.iadd, 1) := by decide +kernel
theorem dX11_deliver_40 : decode cX11_deliver 40 = .ok (.putfield 233, 3) := by decide +kernel
theorem dX11_deliver_43 : decode cX11_deliver 43 = .ok (.bipush (-2), 2) := by decide +kernel
theorem dX11_deliver_45 : decode cX11_deliver 45 = .ok (.ireturn, 1) := by decide +kernel
theorem dX11_deliver_46 : decode cX11_deliver 46 = .ok (.aload_n 2, 1) := by decide +kernel
theorem dX11_deliver_47 : decode cX11_deliver 47 = .ok (.getfield 236, 3) := by decide +kernel
theorem dX11_deliver_50 : decode cX11_deliver 50 = .ok (.istore_n 3, 1) := by decide +kernel
theorem dX11_deliver_51 : decode cX11_deliver 51 = .ok (.aload_n 0, 1) := by decide +kernel
theorem dX11_deliver_52 : decode cX11_deliver 52 = .ok (.getfield 25, 3) := by decide +kernel
theorem dX11_deliver_55 : decode cX11_deliver 55 = .ok (.aload_n 2, 1) := by decide +kernel
theorem dX11_deliver_56 : decode cX11_deliver 56 = .ok (.getfield 239, 3) := by decide +kernel
theorem dX11_deliver_59 : decode cX11_deliver 59 = .ok (.aaload, 1) := by decide +kernel
theorem dX11_deliver_60 : decode cX11_deliver 60 = .ok (.astore 4, 2) := by decide +kernel
theorem dX11_deliver_62 : decode cX11_deliver 62 = .ok (.aload 4, 2) := by decide +kernel
theorem dX11_deliver_64 : decode cX11_deliver 64 = .ok (.aload_n 2, 1) := by decide +kernel
theorem dX11_deliver_65 : decode cX11_deliver 65 = .ok (.invokevirtual 242, 3) := by decide +kernel
theorem dX11_deliver_68 : decode cX11_deliver 68 = .ok (.istore 5, 2) := by decide +kernel
theorem dX11_deliver_70 : decode cX11_deliver 70 = .ok (.aload_n 2, 1) := by decide +kernel
theorem dX11_deliver_71 : decode cX11_deliver 71 = .ok (.getfield 246, 3) := by decide +kernel
theorem dX11_deliver_74 : decode cX11_deliver 74 = .ok (.ifCond .eq 31, 3) := by decide +kernel
theorem dX11_deliver_77 : decode cX11_deliver 77 = .ok (.aload_n 2, 1) := by decide +kernel
theorem dX11_deliver_78 : decode cX11_deliver 78 = .ok (.getfield 250, 3) := by decide +kernel
theorem dX11_deliver_81 : decode cX11_deliver 81 = .ok (.iconst 0, 1) := by decide +kernel
theorem dX11_deliver_82 : decode cX11_deliver 82 = .ok (.aload 4, 2) := by decide +kernel
theorem dX11_deliver_84 : decode cX11_deliver 84 = .ok (.getfield 253, 3) := by decide +kernel
theorem dX11_deliver_87 : decode cX11_deliver 87 = .ok (.iconst 4, 1) := by decide +kernel
theorem dX11_deliver_88 : decode cX11_deliver 88 = .ok (.iload_n 3, 1) := by decide +kernel
theorem dX11_deliver_89 : decode cX11_deliver 89 = .ok (.imul, 1) := by decide +kernel
theorem dX11_deliver_90 : decode cX11_deliver 90 = .ok (.iconst 4, 1) := by decide +kernel
theorem dX11_deliver_91 : decode cX11_deliver 91 = .ok (.invokestatic 256, 3) := by decide +kernel
theorem dX11_deliver_94 : decode cX11_deliver 94 = .ok (.aload_n 0, 1) := by decide +kernel
theorem dX11_deliver_95 : decode cX11_deliver 95 = .ok (.aload 4, 2) := by decide +kernel
theorem dX11_deliver_97 : decode cX11_deliver 97 = .ok (.getfield 262, 3) := by decide +kernel
theorem dX11_deliver_100 : decode cX11_deliver 100 = .ok (.iload_n 3, 1) := by decide +kernel
theorem dX11_deliver_101 : decode cX11_deliver 101 = .ok (.iconst 0, 1) := by decide +kernel
theorem dX11_deliver_102 : decode cX11_deliver 102 = .ok (.invokevirtual 216, 3) := by decide +kernel
theorem dX11_deliver_105 : decode cX11_deliver 105 = .ok (.iload 5, 2) := by decide +kernel
theorem dX11_deliver_107 : decode cX11_deliver 107 = .ok (.ireturn, 1) := by decide +kernel
theorem kd_11_deliver : Cond.code yX11_deliver cX11_deliver 6 (some .int) ∈ lw_g := mt_at 1334 (by decide +kernel) rfl
theorem ki_11_deliver : Cond.instanceMethod yX11_deliver ∈ lw_g := mt_at 1332 (by decide +kernel) rfl
theorem kl_11_deliver : Cond.selects (kRn 11) yX11_deliver yX11_deliver ∈ lw_g := mt_at 1333 (by decide +kernel) rfl
theorem mm11_256 : Cond.methodLink RX11 256 arraycopyName ∈ lw_g := mt_at 1369 (by decide +kernel) rfl
theorem cw11_220 : cCw RX11 220 yX5_at cX5_at 2 (some (.object "AccordHouse$Frame")) 1 := ⟨kd_5_at, mt_at 1335 (by decide +kernel) rfl, mt_at 4 (by decide +kernel) rfl, by decide +kernel⟩
theorem cw11_224 : cCw RX11 224 yX5_remove cX5_remove 4 none 1 := ⟨kd_5_remove, mt_at 1339 (by decide +kernel) rfl, mt_at 4 (by decide +kernel) rfl, by decide +kernel⟩
theorem cw11_242 : cCw RX11 242 yX7_receive cX7_receive 6 (some .int) 1 := ⟨kd_7_receive, mt_at 1343 (by decide +kernel) rfl, mt_at 7 (by decide +kernel) rfl, by decide +kernel⟩
section
variable {p : Program} {l : Launch} {e : Env} {R : Room} {s : State} {m : MethodId} {args : Array Value} {below : List Frame} {meth : Method} {c : Code} {H : Heap} {locs : List Loc} {cells slots : Nat} {Q : State → Prop}
variable {D : cG} {S S0 : cSt} {cc : ByteArray} {nL : Nat} {pc : Nat} {ls : Array Slot} {rest : List Value} {H0 : Heap} {nF nR nC nS : Nat} {ret : Option FieldType} {a : Nat}
theorem gk11_228 (C : cY p R s m args meth c RX11 cc nL nF nC nS nR ret) (X : cX D s) (hW : cW D S H) (hk : kK S a = 3) (hdg : decode cc pc = .ok (.getfield 228, 3)) (kk : W p l e R s m args below meth c H locs cells slots Q (F0 m (pc + 3) ls (.int (kF S a 8) :: rest))) : W p l e R s m args below meth c H locs cells slots Q (F0 m pc ls (.ref a :: rest)) := c_get C X hW 2 (by decide) ly_2 hk 8 (by decide) (mt_at 1291 (by decide +kernel) (by decide +kernel)) hdg (by rw [cV_I (by decide +kernel)]; exact kk)
theorem gk11_233 (C : cY p R s m args meth c RX11 cc nL nF nC nS nR ret) (X : cX D s) (hW : cW D S H) (hk : kK S a = 6) (hdg : decode cc pc = .ok (.getfield 233, 3)) (kk : W p l e R s m args below meth c H locs cells slots Q (F0 m (pc + 3) ls (.int (kF S a 2) :: rest))) : W p l e R s m args below meth c H locs cells slots Q (F0 m pc ls (.ref a :: rest)) := c_get C X hW 5 (by decide) ly_5 hk 2 (by decide) (mt_at 109 (by decide +kernel) (by decide +kernel)) hdg (by rw [cV_I (by decide +kernel)]; exact kk)
theorem gk11_236 (C : cY p R s m args meth c RX11 cc nL nF nC nS nR ret) (X : cX D s) (hW : cW D S H) (hk : kK S a = 3) (hdg : decode cc pc = .ok (.getfield 236, 3)) (kk : W p l e R s m args below meth c H locs cells slots Q (F0 m (pc + 3) ls (.int (kF S a 3) :: rest))) : W p l e R s m args below meth c H locs cells slots Q (F0 m pc ls (.ref a :: rest)) := c_get C X hW 2 (by decide) ly_2 hk 3 (by decide) (mt_at 1278 (by decide +kernel) (by decide +kernel)) hdg (by rw [cV_I (by decide +kernel)]; exact kk)
theorem gk11_239 (C : cY p R s m args meth c RX11 cc nL nF nC nS nR ret) (X : cX D s) (hW : cW D S H) (hk : kK S a = 3) (hdg : decode cc pc = .ok (.getfield 239, 3)) (kk : W p l e R s m args below meth c H locs cells slots Q (F0 m (pc + 3) ls (.int (kF S a 4) :: rest))) : W p l e R s m args below meth c H locs cells slots Q (F0 m pc ls (.ref a :: rest)) := c_get C X hW 2 (by decide) ly_2 hk 4 (by decide) (mt_at 1281 (by decide +kernel) (by decide +kernel)) hdg (by rw [cV_I (by decide +kernel)]; exact kk)
theorem gk11_246 (C : cY p R s m args meth c RX11 cc nL nF nC nS nR ret) (X : cX D s) (hW : cW D S H) (hk : kK S a = 3) (hdg : decode cc pc = .ok (.getfield 246, 3)) (kk : W p l e R s m args below meth c H locs cells slots Q (F0 m (pc + 3) ls (.int (kF S a 5) :: rest))) : W p l e R s m args below meth c H locs cells slots Q (F0 m pc ls (.ref a :: rest)) := c_get C X hW 2 (by decide) ly_2 hk 5 (by decide) (mt_at 1284 (by decide +kernel) (by decide +kernel)) hdg (by rw [cV_I (by decide +kernel)]; exact kk)
theorem gk11_250 (C : cY p R s m args meth c RX11 cc nL nF nC nS nR ret) (X : cX D s) (hW : cW D S H) (hk : kK S a = 3) {x : Nat} (hx : kR S a 0 = some x) (hdg : decode cc pc = .ok (.getfield 250, 3)) (kk : W p l e R s m args below meth c H locs cells slots Q (F0 m (pc + 3) ls (.ref x :: rest))) : W p l e R s m args below meth c H locs cells slots Q (F0 m pc ls (.ref a :: rest)) := c_get C X hW 2 (by decide) ly_2 hk 0 (by decide) (mt_at 1270 (by decide +kernel) (by decide +kernel)) hdg (by rw [cV_R (by decide +kernel) hx]; exact kk)
theorem gk11_253 (C : cY p R s m args meth c RX11 cc nL nF nC nS nR ret) (X : cX D s) (hW : cW D S H) (hk : kK S a = 8) {x : Nat} (hx : kR S a 6 = some x) (hdg : decode cc pc = .ok (.getfield 253, 3)) (kk : W p l e R s m args below meth c H locs cells slots Q (F0 m (pc + 3) ls (.ref x :: rest))) : W p l e R s m args below meth c H locs cells slots Q (F0 m pc ls (.ref a :: rest)) := c_get C X hW 7 (by decide) ly_7 hk 6 (by decide) (mt_at 317 (by decide +kernel) (by decide +kernel)) hdg (by rw [cV_R (by decide +kernel) hx]; exact kk)
theorem pk11_233 {x : Int32} (C : cY p R s m args meth c RX11 cc nL nF nC nS nR ret) (X : cX D s) (hJ : cJ D S0 H0 S H locs) (hk : kK S a = 6) (hdg : decode cc pc = .ok (.putfield 233, 3)) (kk : ∀ (H1 : Heap) (locs1 : List Loc), cJ D S0 H0 (cPi S a 2 x) H1 locs1 → W p l e R s m args below meth c H1 locs1 cells slots Q (F0 m (pc + 3) ls (rest))) : W p l e R s m args below meth c H locs cells slots Q (F0 m pc ls (.int x :: .ref a :: rest)) := c_put (S1 := (cPi S a 2 x)) C X hJ 5 (by decide) ly_5 hk 2 (by decide) (by decide +kernel)  rfl rfl (by decide) rfl rfl (fun j _ => c_vI (by decide +kernel)) c_oPi (mt_at 109 (by decide +kernel) (by decide +kernel)) hdg kk
end
section
variable {p : Program} {l : Launch} {e : Env} {R : Room} {s : State} {m : MethodId} {args : Array Value} {below : List Frame} {meth : Method} {c : Code} {D : cG} {S0 S9 : cSt} {r : Int32}
noncomputable def fk_11_deliver_105 (S : cSt) (v5 : Int32) : Option (Int32 × cSt) :=
some (v5, S)
set_option maxRecDepth 100000 in
set_option maxHeartbeats 4000000 in
theorem wk_11_deliver_105 (C : cY p R s m args meth c RX11 cX11_deliver 6 6 6 39 142 (some .int)) (X : cX D s) : ∀ {S : cSt} {v5 : Int32} {H : Heap} {locs : List Loc} {ls : Array Slot}, fk_11_deliver_105 S v5 = some (r, S9) → cJ D S0 s.heap S H locs → lv_has ls 6 [(5, .int v5)] → W p l e R s m args below meth c H locs 6 39 (MQ below (kW (some (.int r)) D S0 S9) args s 6 39 (cA S0)) (F0 m 105 ls []) := by
  intro S v5 H locs ls h hJ hl
  unfold fk_11_deliver_105 at h
  refine lv_iload C.1 C.2.1 dX11_deliver_105 (lv_at hl 0 rfl) ?_
  cases h
  exact c_retiW C hJ dX11_deliver_107
noncomputable def fk_11_deliver (S : cSt) (v0 : Nat) (v1 : Int32) : Option (Int32 × cSt) :=
ckk S v0 12 (bd (kR S v0 3) fun a1 =>
ckk S a1 6 (bd (fk_5_at S a1 v1) fun o2 =>
cs o2 (
some ((-1 : Int32), S)) (fun a3 =>
ckk S v0 12 (bd (kR S v0 3) fun a4 =>
ckk S a4 6 (bd (fk_5_remove S a4 v1) fun S5 =>
ckk S5 a3 3 (
if (kF S5 a3 8) ≤ 0 then (
ckk S5 a3 3 (
lt (kF S5 a3 3) fun x7 =>
ckk S5 v0 12 (bd (kR S5 v0 2) fun a8 =>
ckk S5 a3 3 (
ckk S5 a8 31 (ck (kF S5 a3 4) (kL S5 a8) (lt (kO S5 a8 (Int32.toNatClampNeg (kF S5 a3 4))) fun o9 =>
bd o9 fun a10 =>
ckk S5 a10 8 (bd (fk_7_receive S5 a10 a3) fun q_r12 => lt q_r12.1 fun r12 => lt q_r12.2 fun S11 =>
ckk S11 a3 3 (
if (kF S11 a3 5) = 0 then (
fk_11_deliver_105 S11 r12)
else (
ckk S11 a3 3 (bd (kR S11 a3 0) fun a14 =>
ckk S11 a10 8 (bd (kR S11 a10 6) fun a15 =>
ckk S11 a14 20 (ckk S11 a15 20 (ckp ((¬ (0 : Int32) < 0 ∧ ¬ ((4 : Int32) * x7) < 0 ∧ ¬ (4 : Int32) < 0) ∧ (Int32.toNatClampNeg (0 : Int32)) + (Int32.toNatClampNeg (4 : Int32)) ≤ kL S11 a14 ∧ (Int32.toNatClampNeg ((4 : Int32) * x7)) + (Int32.toNatClampNeg (4 : Int32)) ≤ kL S11 a15) (lt (cCp S11 a14 (Int32.toNatClampNeg (0 : Int32)) a15 (Int32.toNatClampNeg ((4 : Int32) * x7)) (Int32.toNatClampNeg (4 : Int32))) fun S16 =>
ckk S16 a10 8 (
ckk S16 v0 12 (bd (fk_11_dispatch S16 v0 (kF S16 a10 0) x7 (0 : Int32)) fun S17 =>
fk_11_deliver_105 S17 r12))))))))))))))))
else (
ckk S5 v0 12 (bd (kR S5 v0 3) fun a18 =>
ckk S5 a18 6 (
ckk S5 a18 6 (lt (cPi S5 a18 2 ((kF S5 a18 2) + (1 : Int32))) fun S19 =>
some ((-2 : Int32), S19)))))))))))
set_option maxRecDepth 100000 in
set_option maxHeartbeats 4000000 in
theorem tk_11_deliver (l : Launch) {D : cG} {S : cSt} {v0 : Nat} {v1 : Int32} {r : Int32} {S9 : cSt} (h : fk_11_deliver S v0 v1 = some (r, S9)) : Met l yX11_deliver (Cond.code yX11_deliver cX11_deliver 6 (some .int) :: lw_g) { frames := 6, cells := 6, slots := 39, locals := 142 } (kPi [.ref v0, .int v1] D S) (kW (some (.int r)) D S S9) 6 39 (cA S) := by
  refine Met.ofW (cc := cX11_deliver) (maxL := 6) (ret := (some .int)) (by decide) rfl ?_
  intro p e s m args below meth c s₁ B hml hv
  obtain ⟨rfl, hW, X⟩ := hv
  have C : cY p (headSpec (Cond.code yX11_deliver cX11_deliver 6 (some .int) :: lw_g) { frames := 6, cells := 6, slots := 39, locals := 142 }).room s m _ meth c RX11 cX11_deliver 6 6 6 39 142 (some .int) := ⟨B.exec, B.bytes, hml, findClass_of_methodNamed B.named, fun w hw => atoms_spec (ws := Cond.code yX11_deliver cX11_deliver 6 (some .int) :: lw_g) B.pre w (List.mem_cons_of_mem _ hw), ⟨Nat.le_refl _, Nat.le_refl _, Nat.le_refl _, Nat.le_refl _⟩, B.returns, B.notSynchronized⟩
  have hl := lv_entry ([.ref v0, .int v1]) (n := 6) (Nat.le_of_ble_eq_true rfl)
  rw [lg_entry_eq]
  generalize (lg_sl ([.ref v0, .int v1]) ++ List.replicate (6 - (lg_sl ([.ref v0, .int v1])).length) Slot.unset).toArray = ls at hl ⊢
  have hl : lv_has ls 6 [(0, .ref v0), (1, .int v1)] := hl
  have hJ : cJ D S s.heap S s.heap [] := cJ.rf hW
  unfold fk_11_deliver at h
  refine lv_aload_n C.1 C.2.1 dX11_deliver_0 rfl (lv_at hl 0 rfl) ?_
  obtain ⟨hk, h⟩ := ckk_ok h
  obtain ⟨a1, h_a1, h⟩ := bd_ok h
  refine gk11_32 C X hJ.1 hk h_a1 dX11_deliver_1 ?_
  refine lv_iload_n C.1 C.2.1 dX11_deliver_4 rfl (lv_at hl 1 rfl) ?_
  obtain ⟨hk, h⟩ := ckk_ok h
  obtain ⟨o2, h_o2, h⟩ := bd_ok h
  refine c_callR (rest := []) C X hJ.1 hl.1 5 (by decide) hk [.int v1] (tk_5_at l h_o2) cw11_220 ki_5_at kl_5_at rfl ⟨by decide, by decide⟩ ⟨(by decide), (by decide)⟩ rfl (Nat.le_of_ble_eq_true rfl) dX11_deliver_5 ?_
  refine W.eq (g2 := F0 m 8 ls [va_rf o2]) rfl ?_
  refine lv_astore_nq (o := o2) (lv' := [(2, va_rf o2), (0, .ref v0), (1, .int v1)]) C.1 C.2.1 dX11_deliver_8 rfl hl (by decide) rfl (fun ls hl => ?_)
  refine lv_aload_nq (o := o2) C.1 C.2.1 dX11_deliver_9 rfl (lv_at hl 0 rfl) ?_
  rcases o2 with _ | a3
  · replace h := cs_n h
    refine lv_ifnonnullN C.1 C.2.1 dX11_deliver_10 ?_
    refine lv_iconst (v := -1) C.1 C.2.1 dX11_deliver_13 (by decide) ?_
    cases h
    refine W.widen (k := 6) (n := 39) (by decide) (by decide) ?_
    exact c_retiW C hJ dX11_deliver_14
  · replace h := cs_s h
    refine lv_ifnonnull (tgt := 15) C.1 C.2.1 dX11_deliver_10 (by decide) ?_
    refine lv_aload_n C.1 C.2.1 dX11_deliver_15 rfl (lv_at hl 1 rfl) ?_
    obtain ⟨hk, h⟩ := ckk_ok h
    obtain ⟨a4, h_a4, h⟩ := bd_ok h
    refine gk11_32 C X hJ.1 hk h_a4 dX11_deliver_16 ?_
    refine lv_iload_n C.1 C.2.1 dX11_deliver_19 rfl (lv_at hl 2 rfl) ?_
    obtain ⟨hk, h⟩ := ckk_ok h
    obtain ⟨S5, h_S5, h⟩ := bd_ok h
    refine c_callW (rest := []) C X hJ hl.1 5 (by decide) hk [.int v1] (tk_5_remove l h_S5) cw11_224 ki_5_remove kl_5_remove rfl ⟨by decide, by decide⟩ ⟨(by decide), (by decide)⟩ rfl (Nat.le_of_ble_eq_true rfl) dX11_deliver_20 (fun H locs hJ => ?_)
    refine W.eq (g2 := F0 m 23 ls []) rfl ?_
    refine lv_aload_n C.1 C.2.1 dX11_deliver_23 rfl (lv_at hl 0 rfl) ?_
    obtain ⟨hk, h⟩ := ckk_ok h
    refine gk11_228 C X hJ.1 hk dX11_deliver_24 ?_
    refine lv_if_le (tgt := 46) C.1 C.2.1 dX11_deliver_27 (by decide) (fun c6 => ?_) (fun c6 => ?_)
    · have h := if_t h c6
      refine lv_aload_n C.1 C.2.1 dX11_deliver_46 rfl (lv_at hl 0 rfl) ?_
      obtain ⟨hk, h⟩ := ckk_ok h
      refine gk11_236 C X hJ.1 hk dX11_deliver_47 ?_
      refine lt_ok h (fun x7 e_x7 h => ?_)
      refine lv_nm e_x7 ?_
      refine lv_istore_n (lv' := [(3, .int x7), (2, .ref a3), (0, .ref v0), (1, .int v1)]) C.1 C.2.1 dX11_deliver_50 rfl hl (by decide) rfl (fun ls hl => ?_)
      refine lv_aload_n C.1 C.2.1 dX11_deliver_51 rfl (lv_at hl 2 rfl) ?_
      obtain ⟨hk, h⟩ := ckk_ok h
      obtain ⟨a8, h_a8, h⟩ := bd_ok h
      refine gk11_25 C X hJ.1 hk h_a8 dX11_deliver_52 ?_
      refine lv_aload_n C.1 C.2.1 dX11_deliver_55 rfl (lv_at hl 1 rfl) ?_
      obtain ⟨hk, h⟩ := ckk_ok h
      refine gk11_239 C X hJ.1 hk dX11_deliver_56 ?_
      obtain ⟨hk, h⟩ := ckk_ok h
      obtain ⟨hin2, h⟩ := ck_ok h
      refine c_aald C 31 (by decide) X.2.2.2.2.2.1 hJ.1 hk hin2 dX11_deliver_59 ?_
      refine lt_ok h (fun o9 e_o9 h => ?_)
      refine lv_nmq e_o9 ?_
      refine lv_astoreq (o := o9) (lv' := [(4, va_rf o9), (3, .int x7), (2, .ref a3), (0, .ref v0), (1, .int v1)]) C.1 C.2.1 dX11_deliver_60 hl (by decide) rfl (fun ls hl => ?_)
      refine lv_aloadq (o := o9) C.1 C.2.1 dX11_deliver_62 (lv_at hl 0 rfl) ?_
      refine lv_aload_n C.1 C.2.1 dX11_deliver_64 rfl (lv_at hl 2 rfl) ?_
      obtain ⟨a10, e_a10, h⟩ := bd_ok h
      revert h; subst e_a10; intro h
      obtain ⟨hk, h⟩ := ckk_ok h
      obtain ⟨⟨r12, S11⟩, h_S11, h⟩ := bd_ok h
      replace h := lt2_ok h
      refine c_callW (rest := []) C X hJ hl.1 7 (by decide) hk [.ref a3] (tk_7_receive l h_S11) cw11_242 ki_7_receive kl_7_receive rfl ⟨by decide, by decide⟩ ⟨(by decide), (by decide)⟩ rfl (Nat.le_of_ble_eq_true rfl) dX11_deliver_65 (fun H locs hJ => ?_)
      refine W.eq (g2 := F0 m 68 ls [.int r12]) rfl ?_
      refine lv_istore (lv' := [(5, .int r12), (4, .ref a10), (3, .int x7), (2, .ref a3), (0, .ref v0), (1, .int v1)]) C.1 C.2.1 dX11_deliver_68 hl (by decide) rfl (fun ls hl => ?_)
      refine lv_aload_n C.1 C.2.1 dX11_deliver_70 rfl (lv_at hl 3 rfl) ?_
      obtain ⟨hk, h⟩ := ckk_ok h
      refine gk11_246 C X hJ.1 hk dX11_deliver_71 ?_
      refine lv_if_eq (tgt := 105) C.1 C.2.1 dX11_deliver_74 (by decide) (fun c13 => ?_) (fun c13 => ?_)
      · have h := if_t h c13
        refine W.widen (k := 6) (n := 39) (by decide) (by decide) ?_
        exact wk_11_deliver_105 C X h hJ (lv_sub hl [0] rfl)
      · have h := if_f h c13
        refine lv_aload_n C.1 C.2.1 dX11_deliver_77 rfl (lv_at hl 3 rfl) ?_
        obtain ⟨hk, h⟩ := ckk_ok h
        obtain ⟨a14, h_a14, h⟩ := bd_ok h
        refine gk11_250 C X hJ.1 hk h_a14 dX11_deliver_78 ?_
        refine lv_iconst (v := 0) C.1 C.2.1 dX11_deliver_81 (by decide) ?_
        refine lv_aload C.1 C.2.1 dX11_deliver_82 (lv_at hl 1 rfl) ?_
        obtain ⟨hk, h⟩ := ckk_ok h
        obtain ⟨a15, h_a15, h⟩ := bd_ok h
        refine gk11_253 C X hJ.1 hk h_a15 dX11_deliver_84 ?_
        refine lv_iconst (v := 4) C.1 C.2.1 dX11_deliver_87 (by decide) ?_
        refine lv_iload_n C.1 C.2.1 dX11_deliver_88 rfl (lv_at hl 2 rfl) ?_
        refine lv_imul C.1 C.2.1 dX11_deliver_89 ?_
        refine lv_iconst (v := 4) C.1 C.2.1 dX11_deliver_90 (by decide) ?_
        obtain ⟨hk0, h⟩ := ckk_ok h
        obtain ⟨hk1, h⟩ := ckk_ok h
        obtain ⟨hcp, h⟩ := ckp_ok h
        refine c_copy (rest := []) C hl.1 mm11_256 ac_n ac_s ac_i 20 (by decide) (by decide) X.2.1 rfl hJ hk0 hk1 hcp (fun _ _ => rfl) (by decide) (Nat.le_of_ble_eq_true rfl) dX11_deliver_91 (fun H locs hJ => ?_)
        refine lt_ok h (fun S16 e_S16 h => ?_)
        rw [e_S16] at hJ
        refine lv_aload_n C.1 C.2.1 dX11_deliver_94 rfl (lv_at hl 4 rfl) ?_
        refine lv_aload C.1 C.2.1 dX11_deliver_95 (lv_at hl 1 rfl) ?_
        obtain ⟨hk, h⟩ := ckk_ok h
        refine gk11_262 C X hJ.1 hk dX11_deliver_97 ?_
        refine lv_iload_n C.1 C.2.1 dX11_deliver_100 rfl (lv_at hl 2 rfl) ?_
        refine lv_iconst (v := 0) C.1 C.2.1 dX11_deliver_101 (by decide) ?_
        obtain ⟨hk, h⟩ := ckk_ok h
        obtain ⟨S17, h_S17, h⟩ := bd_ok h
        refine c_callW (rest := []) C X hJ hl.1 11 (by decide) hk [.int (kF S16 a10 0), .int x7, .int (0 : Int32)] (tk_11_dispatch l h_S17) cw11_216 ki_11_dispatch kl_11_dispatch rfl ⟨by decide, by decide⟩ ⟨(by decide), (by decide)⟩ rfl (Nat.le_of_ble_eq_true rfl) dX11_deliver_102 (fun H locs hJ => ?_)
        refine W.eq (g2 := F0 m 105 ls []) rfl ?_
        exact wk_11_deliver_105 C X h hJ (lv_sub hl [0] rfl)
    · have h := if_f h c6
      refine lv_aload_n C.1 C.2.1 dX11_deliver_30 rfl (lv_at hl 1 rfl) ?_
      obtain ⟨hk, h⟩ := ckk_ok h
      obtain ⟨a18, h_a18, h⟩ := bd_ok h
      refine gk11_32 C X hJ.1 hk h_a18 dX11_deliver_31 ?_
      refine lv_dup C.1 C.2.1 dX11_deliver_34 rfl ?_
      obtain ⟨hk, h⟩ := ckk_ok h
      refine gk11_233 C X hJ.1 hk dX11_deliver_35 ?_
      refine lv_iconst (v := 1) C.1 C.2.1 dX11_deliver_38 (by decide) ?_
      refine lv_iadd C.1 C.2.1 dX11_deliver_39 ?_
      obtain ⟨hk, h⟩ := ckk_ok h
      refine pk11_233 C X hJ hk dX11_deliver_40 (fun H locs hJ => ?_)
      refine lt_ok h (fun S19 e_S19 h => ?_)
      rw [e_S19] at hJ
      refine lv_bipush (v := -2) C.1 C.2.1 dX11_deliver_43 (by decide) ?_
      cases h
      refine W.widen (k := 6) (n := 39) (by decide) (by decide) ?_
      exact c_retiW C hJ dX11_deliver_45
end
