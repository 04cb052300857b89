-- made by wip/whole/gen12.py: 0_init, 0_rowNamed, 0_slotOf, 0_makeOf, 0_nameOf, 0_kindOf, 0_rowsInAll, 0_hasRoom, 0_nextSlot, 0_add, 1_init, 100_isLatin1_aae02, 103_checkIndex_8e157, 100_checkIndex_df160, 101_charAt_3b067, 100_charAt_5068e, 1_begin, 2_init, 2_begin, 2_putByte, 2_putNumber, 2_putNumbers, 2_putRow
theorem dX0_init_0 : decode cX0_init 0 = .ok (.aload_n 0, 1) := by decide +kernel
theorem dX0_init_1 : decode cX0_init 1 = .ok (.invokespecial 3, 3) := by decide +kernel
theorem dX0_init_4 : decode cX0_init 4 = .ok (.aload_n 0, 1) := by decide +kernel
theorem dX0_init_5 : decode cX0_init 5 = .ok (.sipush 1000, 3) := by decide +kernel
theorem dX0_init_8 : decode cX0_init 8 = .ok (.anewarray 9, 3) := by decide +kernel
theorem dX0_init_11 : decode cX0_init 11 = .ok (.putfield 11, 3) := by decide +kernel
theorem dX0_init_14 : decode cX0_init 14 = .ok (.aload_n 0, 1) := by decide +kernel
theorem dX0_init_15 : decode cX0_init 15 = .ok (.bipush 48, 2) := by decide +kernel
theorem dX0_init_17 : decode cX0_init 17 = .ok (.anewarray 9, 3) := by decide +kernel
theorem dX0_init_20 : decode cX0_init 20 = .ok (.putfield 17, 3) := by decide +kernel
theorem dX0_init_23 : decode cX0_init 23 = .ok (.aload_n 0, 1) := by decide +kernel
theorem dX0_init_24 : decode cX0_init 24 = .ok (.iconst 4, 1) := by decide +kernel
theorem dX0_init_25 : decode cX0_init 25 = .ok (.newarray .int, 2) := by decide +kernel
theorem dX0_init_27 : decode cX0_init 27 = .ok (.putfield 20, 3) := by decide +kernel
theorem dX0_init_30 : decode cX0_init 30 = .ok (.aload_n 0, 1) := by decide +kernel
theorem dX0_init_31 : decode cX0_init 31 = .ok (.iconst 4, 1) := by decide +kernel
theorem dX0_init_32 : decode cX0_init 32 = .ok (.newarray .int, 2) := by decide +kernel
theorem dX0_init_34 : decode cX0_init 34 = .ok (.putfield 24, 3) := by decide +kernel
theorem dX0_init_37 : decode cX0_init 37 = .ok (.return_, 1) := by decide +kernel
theorem kd_0_init : Cond.code yX0_init cX0_init 1 none ∈ lw_g := mt_at 75 (by decide +kernel) rfl
theorem ki_0_init : Cond.instanceMethod yX0_init ∈ lw_g := mt_at 74 (by decide +kernel) rfl
theorem oi0 : Cond.methodLink RX0 3 objectInit ∈ lw_g := mt_at 76 (by decide +kernel) rfl
theorem cl0_9 : Cond.classLink RX0 9 RX8 ∈ lw_g := mt_at 77 (by decide +kernel) rfl
section
variable {p : Program} {l : Launch} {e : Env} {R : Room} {s : State} {m : MethodId} {args : Array Value} {below : List Frame} {meth : Method} {c : Code} {H : Heap} {locs : List Loc} {cells slots : Nat} {Q : State → Prop}
variable {D : cG} {S S0 : cSt} {cc : ByteArray} {nL : Nat} {pc : Nat} {ls : Array Slot} {rest : List Value} {H0 : Heap} {nF nR nC nS : Nat} {ret : Option FieldType} {a : Nat}
theorem pk0_11 {o : Option Nat} (C : cY p R s m args meth c RX0 cc nL nF nC nS nR ret) (hin : meth.name = "<init>") (X : cX D s) (hJ : cJ D S0 H0 S H locs) (hk : kK S a = 1) (hdg : decode cc pc = .ok (.putfield 11, 3)) (kk : ∀ (H1 : Heap) (locs1 : List Loc), cJ D S0 H0 (cPr S a 0 o) H1 locs1 → W p l e R s m args below meth c H1 locs1 cells slots Q (F0 m (pc + 3) ls (rest))) : W p l e R s m args below meth c H locs cells slots Q (F0 m pc ls (va_rf o :: .ref a :: rest)) := c_putF (S1 := (cPr S a 0 o)) C X hJ 0 (by decide) ly_0 hk 0 (by decide) (by decide +kernel) hin rfl nar_ra fit_ra (by decide) rfl rfl (fun j _ => c_vR (by decide +kernel)) c_oPr (mt_at 79 (by decide +kernel) (by decide +kernel)) hdg kk
theorem pk0_17 {o : Option Nat} (C : cY p R s m args meth c RX0 cc nL nF nC nS nR ret) (hin : meth.name = "<init>") (X : cX D s) (hJ : cJ D S0 H0 S H locs) (hk : kK S a = 1) (hdg : decode cc pc = .ok (.putfield 17, 3)) (kk : ∀ (H1 : Heap) (locs1 : List Loc), cJ D S0 H0 (cPr S a 1 o) H1 locs1 → W p l e R s m args below meth c H1 locs1 cells slots Q (F0 m (pc + 3) ls (rest))) : W p l e R s m args below meth c H locs cells slots Q (F0 m pc ls (va_rf o :: .ref a :: rest)) := c_putF (S1 := (cPr S a 1 o)) C X hJ 0 (by decide) ly_0 hk 1 (by decide) (by decide +kernel) hin rfl nar_ra fit_ra (by decide) rfl rfl (fun j _ => c_vR (by decide +kernel)) c_oPr (mt_at 82 (by decide +kernel) (by decide +kernel)) hdg kk
theorem pk0_20 {o : Option Nat} (C : cY p R s m args meth c RX0 cc nL nF nC nS nR ret) (hin : meth.name = "<init>") (X : cX D s) (hJ : cJ D S0 H0 S H locs) (hk : kK S a = 1) (hdg : decode cc pc = .ok (.putfield 20, 3)) (kk : ∀ (H1 : Heap) (locs1 : List Loc), cJ D S0 H0 (cPr S a 2 o) H1 locs1 → W p l e R s m args below meth c H1 locs1 cells slots Q (F0 m (pc + 3) ls (rest))) : W p l e R s m args below meth c H locs cells slots Q (F0 m pc ls (va_rf o :: .ref a :: rest)) := c_putF (S1 := (cPr S a 2 o)) C X hJ 0 (by decide) ly_0 hk 2 (by decide) (by decide +kernel) hin rfl nar_ra fit_ra (by decide) rfl rfl (fun j _ => c_vR (by decide +kernel)) c_oPr (mt_at 83 (by decide +kernel) (by decide +kernel)) hdg kk
theorem pk0_24 {o : Option Nat} (C : cY p R s m args meth c RX0 cc nL nF nC nS nR ret) (hin : meth.name = "<init>") (X : cX D s) (hJ : cJ D S0 H0 S H locs) (hk : kK S a = 1) (hdg : decode cc pc = .ok (.putfield 24, 3)) (kk : ∀ (H1 : Heap) (locs1 : List Loc), cJ D S0 H0 (cPr S a 3 o) H1 locs1 → W p l e R s m args below meth c H1 locs1 cells slots Q (F0 m (pc + 3) ls (rest))) : W p l e R s m args below meth c H locs cells slots Q (F0 m pc ls (va_rf o :: .ref a :: rest)) := c_putF (S1 := (cPr S a 3 o)) C X hJ 0 (by decide) ly_0 hk 3 (by decide) (by decide +kernel) hin rfl nar_ra fit_ra (by decide) rfl rfl (fun j _ => c_vR (by decide +kernel)) c_oPr (mt_at 84 (by decide +kernel) (by decide +kernel)) hdg kk
end
section
variable {p : Program} {l : Launch} {e : Env} {R : Room} {s : State} {m : MethodId} {args : Array Value} {below : List Frame} {meth : Method} {c : Code} {D : cG} {S0 S9 : cSt}
noncomputable def fk_0_init (S : cSt) (v0 : Nat) : Option (cSt) :=
lt (kZ S) fun a2 => lt (cNw S 30 1000) fun S1 =>
ckk S1 v0 1 (lt (cPr S1 v0 0 (some a2)) fun S3 =>
lt (kZ S3) fun a5 => lt (cNw S3 30 48) fun S4 =>
ckk S4 v0 1 (lt (cPr S4 v0 1 (some a5)) fun S6 =>
lt (kZ S6) fun a8 => lt (cNw S6 20 4) fun S7 =>
ckk S7 v0 1 (lt (cPr S7 v0 2 (some a8)) fun S10 =>
lt (kZ S10) fun a12 => lt (cNw S10 20 4) fun S11 =>
ckk S11 v0 1 (lt (cPr S11 v0 3 (some a12)) fun S13 =>
some S13))))
set_option maxRecDepth 100000 in
set_option maxHeartbeats 4000000 in
theorem tk_0_init (l : Launch) {D : cG} {S : cSt} {v0 : Nat} {S9 : cSt} (h : fk_0_init S v0 = some S9) : Met l yX0_init (Cond.code yX0_init cX0_init 1 none :: lw_g) { frames := 2, cells := 4, slots := 1056, locals := 60 } (kPi [.ref v0] D S) (kW none D S S9) 4 1056 (cA S) := by
  refine Met.ofW (cc := cX0_init) (maxL := 1) (ret := none) (by decide) rfl ?_
  intro p e s m args below meth c s₁ B hml hv
  obtain ⟨rfl, hW, X⟩ := hv
  have C : cY p (headSpec (Cond.code yX0_init cX0_init 1 none :: lw_g) { frames := 2, cells := 4, slots := 1056, locals := 60 }).room s m _ meth c RX0 cX0_init 1 2 4 1056 60 none := ⟨B.exec, B.bytes, hml, findClass_of_methodNamed B.named, fun w hw => atoms_spec (ws := Cond.code yX0_init cX0_init 1 none :: lw_g) B.pre w (List.mem_cons_of_mem _ hw), ⟨Nat.le_refl _, Nat.le_refl _, Nat.le_refl _, Nat.le_refl _⟩, B.returns, B.notSynchronized⟩
  have hin : meth.name = "<init>" := (name_of_methodNamed B.named B.method).1
  have hl := lv_entry ([.ref v0]) (n := 1) (Nat.le_of_ble_eq_true rfl)
  rw [lg_entry_eq]
  generalize (lg_sl ([.ref v0]) ++ List.replicate (1 - (lg_sl ([.ref v0])).length) Slot.unset).toArray = ls at hl ⊢
  have hl : lv_has ls 1 [(0, .ref v0)] := hl
  have hJ : cJ D S s.heap S s.heap [] := cJ.rf hW
  unfold fk_0_init at h
  refine lv_aload_n C.1 C.2.1 dX0_init_0 rfl (lv_at hl 0 rfl) ?_
  refine W.objInit C.1 C.2.1 C.2.2.2.1 (C.2.2.2.2.1 _ oi0) (C.2.2.2.2.1 _ oi_i) (C.2.2.2.2.1 _ oi_c) rfl (by rw [C.2.2.1]; exact hl.1) rfl dX0_init_1 (Nat.le_trans (by decide) C.2.2.2.2.2.1.1) (Nat.le_trans (Nat.le_of_ble_eq_true rfl) C.2.2.2.2.2.1.2.2.2) ?_
  refine W.eq (g2 := F0 m 4 ls []) rfl ?_
  refine lv_aload_n C.1 C.2.1 dX0_init_4 rfl (lv_at hl 0 rfl) ?_
  refine lv_sipush (v := 1000) C.1 C.2.1 dX0_init_5 (by decide) ?_
  refine c_anew (N := 1000) C hJ 30 (by decide) X.2.2.2.2.1 cl0_9 X.2.2.2.2.2.2.2.1.1 (by decide) (by decide) (by decide) (by decide) (by decide) dX0_init_8 (fun H hJ => ?_)
  refine lt_ok h (fun a2 e_a2 h => ?_)
  refine lt_ok h (fun S1 e_S1 h => ?_)
  rw [e_S1] at hJ
  rw [e_a2]
  obtain ⟨hk, h⟩ := ckk_ok h
  refine pk0_11 (o := (some a2)) C hin X hJ hk dX0_init_11 (fun H locs hJ => ?_)
  refine lt_ok h (fun S3 e_S3 h => ?_)
  rw [e_S3] at hJ
  refine lv_aload_n C.1 C.2.1 dX0_init_14 rfl (lv_at hl 0 rfl) ?_
  refine lv_bipush (v := 48) C.1 C.2.1 dX0_init_15 (by decide) ?_
  refine c_anew (N := 48) C hJ 30 (by decide) X.2.2.2.2.1 cl0_9 X.2.2.2.2.2.2.2.1.1 (by decide) (by decide) (by decide) (by decide) (by decide) dX0_init_17 (fun H hJ => ?_)
  refine lt_ok h (fun a5 e_a5 h => ?_)
  refine lt_ok h (fun S4 e_S4 h => ?_)
  rw [e_S4] at hJ
  rw [e_a5]
  obtain ⟨hk, h⟩ := ckk_ok h
  refine pk0_17 (o := (some a5)) C hin X hJ hk dX0_init_20 (fun H locs hJ => ?_)
  refine lt_ok h (fun S6 e_S6 h => ?_)
  rw [e_S6] at hJ
  refine lv_aload_n C.1 C.2.1 dX0_init_23 rfl (lv_at hl 0 rfl) ?_
  refine lv_iconst (v := 4) C.1 C.2.1 dX0_init_24 (by decide) ?_
  refine c_newa (N := 4) C hJ 20 (by decide) (by decide) X.2.1 rfl id rfl ar_20 (by decide) (by decide) (by decide) (by decide) (by decide) dX0_init_25 (fun H hJ => ?_)
  refine lt_ok h (fun a8 e_a8 h => ?_)
  refine lt_ok h (fun S7 e_S7 h => ?_)
  rw [e_S7] at hJ
  rw [e_a8]
  obtain ⟨hk, h⟩ := ckk_ok h
  refine pk0_20 (o := (some a8)) C hin X hJ hk dX0_init_27 (fun H locs hJ => ?_)
  refine lt_ok h (fun S10 e_S10 h => ?_)
  rw [e_S10] at hJ
  refine lv_aload_n C.1 C.2.1 dX0_init_30 rfl (lv_at hl 0 rfl) ?_
  refine lv_iconst (v := 4) C.1 C.2.1 dX0_init_31 (by decide) ?_
  refine c_newa (N := 4) C hJ 20 (by decide) (by decide) X.2.1 rfl id rfl ar_20 (by decide) (by decide) (by decide) (by decide) (by decide) dX0_init_32 (fun H hJ => ?_)
  refine lt_ok h (fun a12 e_a12 h => ?_)
  refine lt_ok h (fun S11 e_S11 h => ?_)
  rw [e_S11] at hJ
  rw [e_a12]
  obtain ⟨hk, h⟩ := ckk_ok h
  refine pk0_24 (o := (some a12)) C hin X hJ hk dX0_init_34 (fun H locs hJ => ?_)
  refine lt_ok h (fun S13 e_S13 h => ?_)
  rw [e_S13] at hJ
  cases h
  exact c_retvW C hJ dX0_init_37
end
theorem dX0_rowNamed_0 : decode cX0_rowNamed 0 = .ok (.iload_n 1, 1) := by decide +kernel
theorem dX0_rowNamed_1 : decode cX0_rowNamed 1 = .ok (.iconst 1, 1) := by decide +kernel
theorem dX0_rowNamed_2 : decode cX0_rowNamed 2 = .ok (.if_icmp .lt 10, 3) := by decide +kernel
theorem dX0_rowNamed_5 : decode cX0_rowNamed 5 = .ok (.iload_n 1, 1) := by decide +kernel
theorem dX0_rowNamed_6 : decode cX0_rowNamed 6 = .ok (.sipush 3250, 3) := by decide +kernel
theorem dX0_rowNamed_9 : decode cX0_rowNamed 9 = .ok (.if_icmp .le 5, 3) := by decide +kernel
theorem dX0_rowNamed_12 : decode cX0_rowNamed 12 = .ok (.aconst_null, 1) := by decide +kernel
theorem dX0_rowNamed_13 : decode cX0_rowNamed 13 = .ok (.areturn, 1) := by decide +kernel
theorem dX0_rowNamed_14 : decode cX0_rowNamed 14 = .ok (.iload_n 1, 1) := by decide +kernel
theorem dX0_rowNamed_15 : decode cX0_rowNamed 15 = .ok (.sipush 1000, 3) := by decide +kernel
theorem dX0_rowNamed_18 : decode cX0_rowNamed 18 = .ok (.irem, 1) := by decide +kernel
theorem dX0_rowNamed_19 : decode cX0_rowNamed 19 = .ok (.istore_n 2, 1) := by decide +kernel
theorem dX0_rowNamed_20 : decode cX0_rowNamed 20 = .ok (.iload_n 2, 1) := by decide +kernel
theorem dX0_rowNamed_21 : decode cX0_rowNamed 21 = .ok (.iconst 1, 1) := by decide +kernel
theorem dX0_rowNamed_22 : decode cX0_rowNamed 22 = .ok (.if_icmp .lt 10, 3) := by decide +kernel
theorem dX0_rowNamed_25 : decode cX0_rowNamed 25 = .ok (.iload_n 2, 1) := by decide +kernel
theorem dX0_rowNamed_26 : decode cX0_rowNamed 26 = .ok (.sipush 250, 3) := by decide +kernel
theorem dX0_rowNamed_29 : decode cX0_rowNamed 29 = .ok (.if_icmp .le 5, 3) := by decide +kernel
theorem dX0_rowNamed_32 : decode cX0_rowNamed 32 = .ok (.aconst_null, 1) := by decide +kernel
theorem dX0_rowNamed_33 : decode cX0_rowNamed 33 = .ok (.areturn, 1) := by decide +kernel
theorem dX0_rowNamed_34 : decode cX0_rowNamed 34 = .ok (.aload_n 0, 1) := by decide +kernel
theorem dX0_rowNamed_35 : decode cX0_rowNamed 35 = .ok (.getfield 11, 3) := by decide +kernel
theorem dX0_rowNamed_38 : decode cX0_rowNamed 38 = .ok (.iload_n 1, 1) := by decide +kernel
theorem dX0_rowNamed_39 : decode cX0_rowNamed 39 = .ok (.sipush 1000, 3) := by decide +kernel
theorem dX0_rowNamed_42 : decode cX0_rowNamed 42 = .ok (.idiv, 1) := by decide +kernel
theorem dX0_rowNamed_43 : decode cX0_rowNamed 43 = .ok (.sipush 250, 3) := by decide +kernel
theorem dX0_rowNamed_46 : decode cX0_rowNamed 46 = .ok (.imul, 1) := by decide +kernel
theorem dX0_rowNamed_47 : decode cX0_rowNamed 47 = .ok (.iload_n 2, 1) := by decide +kernel
theorem dX0_rowNamed_48 : decode cX0_rowNamed 48 = .ok (.iadd, 1) := by decide +kernel
theorem dX0_rowNamed_49 : decode cX0_rowNamed 49 = .ok (.iconst 1, 1) := by decide +kernel
theorem dX0_rowNamed_50 : decode cX0_rowNamed 50 = .ok (.isub, 1) := by decide +kernel
theorem dX0_rowNamed_51 : decode cX0_rowNamed 51 = .ok (.aaload, 1) := by decide +kernel
theorem dX0_rowNamed_52 : decode cX0_rowNamed 52 = .ok (.areturn, 1) := by decide +kernel
theorem kd_0_rowNamed : Cond.code yX0_rowNamed cX0_rowNamed 3 (some (.object "AccordHouse$Row")) ∈ lw_g := mt_at 447 (by decide +kernel) rfl
theorem ki_0_rowNamed : Cond.instanceMethod yX0_rowNamed ∈ lw_g := mt_at 445 (by decide +kernel) rfl
theorem kl_0_rowNamed : Cond.selects (kRn 0) yX0_rowNamed yX0_rowNamed ∈ lw_g := mt_at 446 (by decide +kernel) rfl
section
variable {p : Program} {l : Launch} {e : Env} {R : Room} {s : State} {m : MethodId} {args : Array Value} {below : List Frame} {meth : Method} {c : Code} {H : Heap} {locs : List Loc} {cells slots : Nat} {Q : State → Prop}
variable {D : cG} {S S0 : cSt} {cc : ByteArray} {nL : Nat} {pc : Nat} {ls : Array Slot} {rest : List Value} {H0 : Heap} {nF nR nC nS : Nat} {ret : Option FieldType} {a : Nat}
theorem gk0_11 (C : cY p R s m args meth c RX0 cc nL nF nC nS nR ret) (X : cX D s) (hW : cW D S H) (hk : kK S a = 1) {x : Nat} (hx : kR S a 0 = some x) (hdg : decode cc pc = .ok (.getfield 11, 3)) (kk : W p l e R s m args below meth c H locs cells slots Q (F0 m (pc + 3) ls (.ref x :: rest))) : W p l e R s m args below meth c H locs cells slots Q (F0 m pc ls (.ref a :: rest)) := c_get C X hW 0 (by decide) ly_0 hk 0 (by decide) (mt_at 79 (by decide +kernel) (by decide +kernel)) hdg (by rw [cV_R (by decide +kernel) hx]; exact kk)
end
section
variable {p : Program} {l : Launch} {e : Env} {R : Room} {s : State} {m : MethodId} {args : Array Value} {below : List Frame} {meth : Method} {c : Code} {D : cG} {S : cSt} {r : Option Nat}
noncomputable def fk_0_rowNamed_12 (S : cSt) : Option (Option Nat) :=
some none
set_option maxRecDepth 100000 in
set_option maxHeartbeats 4000000 in
theorem wk_0_rowNamed_12 (C : cY p R s m args meth c RX0 cX0_rowNamed 3 0 0 0 0 (some (.object "AccordHouse$Row"))) (X : cX D s) (hW : cW D S s.heap) : ∀ {ls : Array Slot}, fk_0_rowNamed_12 S = some r → lv_has ls 3 [] → W p l e R s m args below meth c s.heap [] 0 0 (MQ below (kQ (some (va_rf r))) args s 0 0 mNo) (F0 m 12 ls []) := by
  intro ls h hl
  unfold fk_0_rowNamed_12 at h
  refine lv_null C.1 C.2.1 dX0_rowNamed_12 ?_
  cases h
  exact c_reta (o := none) C rfl rfl dX0_rowNamed_13
noncomputable def fk_0_rowNamed_32 (S : cSt) : Option (Option Nat) :=
some none
set_option maxRecDepth 100000 in
set_option maxHeartbeats 4000000 in
theorem wk_0_rowNamed_32 (C : cY p R s m args meth c RX0 cX0_rowNamed 3 0 0 0 0 (some (.object "AccordHouse$Row"))) (X : cX D s) (hW : cW D S s.heap) : ∀ {ls : Array Slot}, fk_0_rowNamed_32 S = some r → lv_has ls 3 [] → W p l e R s m args below meth c s.heap [] 0 0 (MQ below (kQ (some (va_rf r))) args s 0 0 mNo) (F0 m 32 ls []) := by
  intro ls h hl
  unfold fk_0_rowNamed_32 at h
  refine lv_null C.1 C.2.1 dX0_rowNamed_32 ?_
  cases h
  exact c_reta (o := none) C rfl rfl dX0_rowNamed_33
noncomputable def fk_0_rowNamed (S : cSt) (v0 : Nat) (v1 : Int32) : Option (Option Nat) :=
if v1 < (1 : Int32) then (
fk_0_rowNamed_12 S)
else (
if v1 ≤ (3250 : Int32) then (
lt (v1 - v1 / (1000 : Int32) * (1000 : Int32)) fun x3 =>
if x3 < (1 : Int32) then (
fk_0_rowNamed_32 S)
else (
if x3 ≤ (250 : Int32) then (
ckk S v0 1 (bd (kR S v0 0) fun a6 =>
ckk S a6 30 (ck ((((v1 / (1000 : Int32)) * (250 : Int32)) + x3) - (1 : Int32)) (kL S a6) (lt (kO S a6 (Int32.toNatClampNeg ((((v1 / (1000 : Int32)) * (250 : Int32)) + x3) - (1 : Int32)))) fun o7 =>
some o7))))
else (
fk_0_rowNamed_32 S)))
else (
fk_0_rowNamed_12 S))
set_option maxRecDepth 100000 in
set_option maxHeartbeats 4000000 in
theorem tk_0_rowNamed (l : Launch) {D : cG} {S : cSt} {v0 : Nat} {v1 : Int32} {r : Option Nat}  (h : fk_0_rowNamed S v0 v1 = some r) : Met l yX0_rowNamed (Cond.code yX0_rowNamed cX0_rowNamed 3 (some (.object "AccordHouse$Row")) :: lw_g) { frames := 0, cells := 0, slots := 0, locals := 0 } (kPi [.ref v0, .int v1] D S) (kQ (some (va_rf r))) 0 0 (mNo) := by
  refine Met.ofW (cc := cX0_rowNamed) (maxL := 3) (ret := (some (.object "AccordHouse$Row"))) (by decide) rfl ?_
  intro p e s m args below meth c s₁ B hml hv
  obtain ⟨rfl, hW, X⟩ := hv
  have C : cY p (headSpec (Cond.code yX0_rowNamed cX0_rowNamed 3 (some (.object "AccordHouse$Row")) :: lw_g) { frames := 0, cells := 0, slots := 0, locals := 0 }).room s m _ meth c RX0 cX0_rowNamed 3 0 0 0 0 (some (.object "AccordHouse$Row")) := ⟨B.exec, B.bytes, hml, findClass_of_methodNamed B.named, fun w hw => atoms_spec (ws := Cond.code yX0_rowNamed cX0_rowNamed 3 (some (.object "AccordHouse$Row")) :: lw_g) B.pre w (List.mem_cons_of_mem _ hw), ⟨Nat.le_refl _, Nat.le_refl _, Nat.le_refl _, Nat.le_refl _⟩, B.returns, B.notSynchronized⟩
  have hl := lv_entry ([.ref v0, .int v1]) (n := 3) (Nat.le_of_ble_eq_true rfl)
  rw [lg_entry_eq]
  generalize (lg_sl ([.ref v0, .int v1]) ++ List.replicate (3 - (lg_sl ([.ref v0, .int v1])).length) Slot.unset).toArray = ls at hl ⊢
  have hl : lv_has ls 3 [(0, .ref v0), (1, .int v1)] := hl
  unfold fk_0_rowNamed at h
  refine lv_iload_n C.1 C.2.1 dX0_rowNamed_0 rfl (lv_at hl 1 rfl) ?_
  refine lv_iconst (v := 1) C.1 C.2.1 dX0_rowNamed_1 (by decide) ?_
  refine lv_icmp_lt (tgt := 12) C.1 C.2.1 dX0_rowNamed_2 (by decide) (fun c1 => ?_) (fun c1 => ?_)
  · have h := if_t h c1
    exact wk_0_rowNamed_12 C X hW h (lv_sub hl [] rfl)
  · have h := if_f h c1
    refine lv_iload_n C.1 C.2.1 dX0_rowNamed_5 rfl (lv_at hl 1 rfl) ?_
    refine lv_sipush (v := 3250) C.1 C.2.1 dX0_rowNamed_6 (by decide) ?_
    refine lv_icmp_le (tgt := 14) C.1 C.2.1 dX0_rowNamed_9 (by decide) (fun c2 => ?_) (fun c2 => ?_)
    · have h := if_t h c2
      refine lv_iload_n C.1 C.2.1 dX0_rowNamed_14 rfl (lv_at hl 1 rfl) ?_
      refine lv_sipush (v := 1000) C.1 C.2.1 dX0_rowNamed_15 (by decide) ?_
      refine lv_irem C.1 C.2.1 dX0_rowNamed_18 (by decide) ?_
      refine lt_ok h (fun x3 e_x3 h => ?_)
      refine lv_nm e_x3 ?_
      refine lv_istore_n (lv' := [(2, .int x3), (0, .ref v0), (1, .int v1)]) C.1 C.2.1 dX0_rowNamed_19 rfl hl (by decide) rfl (fun ls hl => ?_)
      refine lv_iload_n C.1 C.2.1 dX0_rowNamed_20 rfl (lv_at hl 0 rfl) ?_
      refine lv_iconst (v := 1) C.1 C.2.1 dX0_rowNamed_21 (by decide) ?_
      refine lv_icmp_lt (tgt := 32) C.1 C.2.1 dX0_rowNamed_22 (by decide) (fun c4 => ?_) (fun c4 => ?_)
      · have h := if_t h c4
        exact wk_0_rowNamed_32 C X hW h (lv_sub hl [] rfl)
      · have h := if_f h c4
        refine lv_iload_n C.1 C.2.1 dX0_rowNamed_25 rfl (lv_at hl 0 rfl) ?_
        refine lv_sipush (v := 250) C.1 C.2.1 dX0_rowNamed_26 (by decide) ?_
        refine lv_icmp_le (tgt := 34) C.1 C.2.1 dX0_rowNamed_29 (by decide) (fun c5 => ?_) (fun c5 => ?_)
        · have h := if_t h c5
          refine lv_aload_n C.1 C.2.1 dX0_rowNamed_34 rfl (lv_at hl 1 rfl) ?_
          obtain ⟨hk, h⟩ := ckk_ok h
          obtain ⟨a6, h_a6, h⟩ := bd_ok h
          refine gk0_11 C X hW hk h_a6 dX0_rowNamed_35 ?_
          refine lv_iload_n C.1 C.2.1 dX0_rowNamed_38 rfl (lv_at hl 2 rfl) ?_
          refine lv_sipush (v := 1000) C.1 C.2.1 dX0_rowNamed_39 (by decide) ?_
          refine lv_idiv C.1 C.2.1 dX0_rowNamed_42 (by decide) ?_
          refine lv_sipush (v := 250) C.1 C.2.1 dX0_rowNamed_43 (by decide) ?_
          refine lv_imul C.1 C.2.1 dX0_rowNamed_46 ?_
          refine lv_iload_n C.1 C.2.1 dX0_rowNamed_47 rfl (lv_at hl 0 rfl) ?_
          refine lv_iadd C.1 C.2.1 dX0_rowNamed_48 ?_
          refine lv_iconst (v := 1) C.1 C.2.1 dX0_rowNamed_49 (by decide) ?_
          refine lv_isub C.1 C.2.1 dX0_rowNamed_50 ?_
          obtain ⟨hk, h⟩ := ckk_ok h
          obtain ⟨hin2, h⟩ := ck_ok h
          refine c_aald C 30 (by decide) X.2.2.2.2.1 hW hk hin2 dX0_rowNamed_51 ?_
          refine lt_ok h (fun o7 e_o7 h => ?_)
          refine lv_nmq e_o7 ?_
          cases h
          exact c_reta C rfl rfl dX0_rowNamed_52
        · have h := if_f h c5
          exact wk_0_rowNamed_32 C X hW h (lv_sub hl [] rfl)
    · have h := if_f h c2
      exact wk_0_rowNamed_12 C X hW h (lv_sub hl [] rfl)
end
theorem dX0_slotOf_0 : decode cX0_slotOf 0 = .ok (.aload_n 0, 1) := by decide +kernel
theorem dX0_slotOf_1 : decode cX0_slotOf 1 = .ok (.iload_n 1, 1) := by decide +kernel
theorem dX0_slotOf_2 : decode cX0_slotOf 2 = .ok (.invokevirtual 27, 3) := by decide +kernel
theorem dX0_slotOf_5 : decode cX0_slotOf 5 = .ok (.astore_n 2, 1) := by decide +kernel
theorem dX0_slotOf_6 : decode cX0_slotOf 6 = .ok (.aload_n 2, 1) := by decide +kernel
theorem dX0_slotOf_7 : decode cX0_slotOf 7 = .ok (.ifnull 17, 3) := by decide +kernel
theorem dX0_slotOf_10 : decode cX0_slotOf 10 = .ok (.aload_n 2, 1) := by decide +kernel
theorem dX0_slotOf_11 : decode cX0_slotOf 11 = .ok (.getfield 31, 3) := by decide +kernel
theorem dX0_slotOf_14 : decode cX0_slotOf 14 = .ok (.ifCond .ne 10, 3) := by decide +kernel
theorem dX0_slotOf_17 : decode cX0_slotOf 17 = .ok (.aload_n 2, 1) := by decide +kernel
theorem dX0_slotOf_18 : decode cX0_slotOf 18 = .ok (.getfield 35, 3) := by decide +kernel
theorem dX0_slotOf_21 : decode cX0_slotOf 21 = .ok (.goto 4, 3) := by decide +kernel
theorem dX0_slotOf_24 : decode cX0_slotOf 24 = .ok (.iconst (-1), 1) := by decide +kernel
theorem dX0_slotOf_25 : decode cX0_slotOf 25 = .ok (.ireturn, 1) := by decide +kernel
theorem kd_0_slotOf : Cond.code yX0_slotOf cX0_slotOf 3 (some .int) ∈ lw_g := mt_at 443 (by decide +kernel) rfl
theorem ki_0_slotOf : Cond.instanceMethod yX0_slotOf ∈ lw_g := mt_at 441 (by decide +kernel) rfl
theorem kl_0_slotOf : Cond.selects (kRn 0) yX0_slotOf yX0_slotOf ∈ lw_g := mt_at 442 (by decide +kernel) rfl
theorem cw0_27 : cCw RX0 27 yX0_rowNamed cX0_rowNamed 3 (some (.object "AccordHouse$Row")) 1 := ⟨kd_0_rowNamed, mt_at 444 (by decide +kernel) rfl, mt_at 3 (by decide +kernel) rfl, by decide +kernel⟩
section
variable {p : Program} {l : Launch} {e : Env} {R : Room} {s : State} {m : MethodId} {args : Array Value} {below : List Frame} {meth : Method} {c : Code} {H : Heap} {locs : List Loc} {cells slots : Nat} {Q : State → Prop}
variable {D : cG} {S S0 : cSt} {cc : ByteArray} {nL : Nat} {pc : Nat} {ls : Array Slot} {rest : List Value} {H0 : Heap} {nF nR nC nS : Nat} {ret : Option FieldType} {a : Nat}
theorem gk0_31 (C : cY p R s m args meth c RX0 cc nL nF nC nS nR ret) (X : cX D s) (hW : cW D S H) (hk : kK S a = 9) (hdg : decode cc pc = .ok (.getfield 31, 3)) (kk : W p l e R s m args below meth c H locs cells slots Q (F0 m (pc + 3) ls (.int (kF S a 0) :: rest))) : W p l e R s m args below meth c H locs cells slots Q (F0 m pc ls (.ref a :: rest)) := c_get C X hW 8 (by decide) ly_8 hk 0 (by decide) (mt_at 964 (by decide +kernel) (by decide +kernel)) hdg (by rw [cV_I (by decide +kernel)]; exact kk)
theorem gk0_35 (C : cY p R s m args meth c RX0 cc nL nF nC nS nR ret) (X : cX D s) (hW : cW D S H) (hk : kK S a = 9) (hdg : decode cc pc = .ok (.getfield 35, 3)) (kk : W p l e R s m args below meth c H locs cells slots Q (F0 m (pc + 3) ls (.int (kF S a 1) :: rest))) : W p l e R s m args below meth c H locs cells slots Q (F0 m pc ls (.ref a :: rest)) := c_get C X hW 8 (by decide) ly_8 hk 1 (by decide) (mt_at 971 (by decide +kernel) (by decide +kernel)) hdg (by rw [cV_I (by decide +kernel)]; exact kk)
end
section
variable {p : Program} {l : Launch} {e : Env} {R : Room} {s : State} {m : MethodId} {args : Array Value} {below : List Frame} {meth : Method} {c : Code} {D : cG} {S : cSt} {r : Int32}
noncomputable def fk_0_slotOf_25 (S : cSt) (s0 : Int32) : Option (Int32) :=
some s0
set_option maxRecDepth 100000 in
set_option maxHeartbeats 4000000 in
theorem wk_0_slotOf_25 (C : cY p R s m args meth c RX0 cX0_slotOf 3 1 0 0 22 (some .int)) (X : cX D s) (hW : cW D S s.heap) : ∀ {s0 : Int32} {ls : Array Slot}, fk_0_slotOf_25 S s0 = some r → lv_has ls 3 [] → W p l e R s m args below meth c s.heap [] 0 0 (MQ below (kQ (some (.int r))) args s 0 0 mNo) (F0 m 25 ls [.int s0]) := by
  intro s0 ls h hl
  unfold fk_0_slotOf_25 at h
  cases h
  exact c_reti C rfl rfl dX0_slotOf_25
noncomputable def fk_0_slotOf_24 (S : cSt) : Option (Int32) :=
fk_0_slotOf_25 S (-1 : Int32)
set_option maxRecDepth 100000 in
set_option maxHeartbeats 4000000 in
theorem wk_0_slotOf_24 (C : cY p R s m args meth c RX0 cX0_slotOf 3 1 0 0 22 (some .int)) (X : cX D s) (hW : cW D S s.heap) : ∀ {ls : Array Slot}, fk_0_slotOf_24 S = some r → lv_has ls 3 [] → W p l e R s m args below meth c s.heap [] 0 0 (MQ below (kQ (some (.int r))) args s 0 0 mNo) (F0 m 24 ls []) := by
  intro ls h hl
  unfold fk_0_slotOf_24 at h
  refine lv_iconst (v := -1) C.1 C.2.1 dX0_slotOf_24 (by decide) ?_
  exact wk_0_slotOf_25 C X hW h (lv_sub hl [] rfl)
noncomputable def fk_0_slotOf (S : cSt) (v0 : Nat) (v1 : Int32) : Option (Int32) :=
ckk S v0 1 (bd (fk_0_rowNamed S v0 v1) fun o1 =>
cs o1 (
fk_0_slotOf_24 S) (fun a2 =>
ckk S a2 9 (
if (kF S a2 0) = 0 then (
ckk S a2 9 (
fk_0_slotOf_25 S (kF S a2 1)))
else (
fk_0_slotOf_24 S))))
set_option maxRecDepth 100000 in
set_option maxHeartbeats 4000000 in
theorem tk_0_slotOf (l : Launch) {D : cG} {S : cSt} {v0 : Nat} {v1 : Int32} {r : Int32}  (h : fk_0_slotOf S v0 v1 = some r) : Met l yX0_slotOf (Cond.code yX0_slotOf cX0_slotOf 3 (some .int) :: lw_g) { frames := 1, cells := 0, slots := 0, locals := 22 } (kPi [.ref v0, .int v1] D S) (kQ (some (.int r))) 0 0 (mNo) := by
  refine Met.ofW (cc := cX0_slotOf) (maxL := 3) (ret := (some .int)) (by decide) rfl ?_
  intro p e s m args below meth c s₁ B hml hv
  obtain ⟨rfl, hW, X⟩ := hv
  have C : cY p (headSpec (Cond.code yX0_slotOf cX0_slotOf 3 (some .int) :: lw_g) { frames := 1, cells := 0, slots := 0, locals := 22 }).room s m _ meth c RX0 cX0_slotOf 3 1 0 0 22 (some .int) := ⟨B.exec, B.bytes, hml, findClass_of_methodNamed B.named, fun w hw => atoms_spec (ws := Cond.code yX0_slotOf cX0_slotOf 3 (some .int) :: lw_g) B.pre w (List.mem_cons_of_mem _ hw), ⟨Nat.le_refl _, Nat.le_refl _, Nat.le_refl _, Nat.le_refl _⟩, B.returns, B.notSynchronized⟩
  have hl := lv_entry ([.ref v0, .int v1]) (n := 3) (Nat.le_of_ble_eq_true rfl)
  rw [lg_entry_eq]
  generalize (lg_sl ([.ref v0, .int v1]) ++ List.replicate (3 - (lg_sl ([.ref v0, .int v1])).length) Slot.unset).toArray = ls at hl ⊢
  have hl : lv_has ls 3 [(0, .ref v0), (1, .int v1)] := hl
  unfold fk_0_slotOf at h
  refine lv_aload_n C.1 C.2.1 dX0_slotOf_0 rfl (lv_at hl 0 rfl) ?_
  refine lv_iload_n C.1 C.2.1 dX0_slotOf_1 rfl (lv_at hl 1 rfl) ?_
  obtain ⟨hk, h⟩ := ckk_ok h
  obtain ⟨o1, h_o1, h⟩ := bd_ok h
  refine c_callR (rest := []) C X hW hl.1 0 (by decide) hk [.int v1] (tk_0_rowNamed l h_o1) cw0_27 ki_0_rowNamed kl_0_rowNamed rfl ⟨by decide, by decide⟩ ⟨(by decide), (by decide)⟩ rfl (Nat.le_of_ble_eq_true rfl) dX0_slotOf_2 ?_
  refine W.eq (g2 := F0 m 5 ls [va_rf o1]) rfl ?_
  refine lv_astore_nq (o := o1) (lv' := [(2, va_rf o1), (0, .ref v0), (1, .int v1)]) C.1 C.2.1 dX0_slotOf_5 rfl hl (by decide) rfl (fun ls hl => ?_)
  refine lv_aload_nq (o := o1) C.1 C.2.1 dX0_slotOf_6 rfl (lv_at hl 0 rfl) ?_
  rcases o1 with _ | a2
  · replace h := cs_n h
    refine lv_ifnullN (tgt := 24) C.1 C.2.1 dX0_slotOf_7 (by decide) ?_
    exact wk_0_slotOf_24 C X hW h (lv_sub hl [] rfl)
  · replace h := cs_s h
    refine lv_ifnull C.1 C.2.1 dX0_slotOf_7 ?_
    refine lv_aload_n C.1 C.2.1 dX0_slotOf_10 rfl (lv_at hl 0 rfl) ?_
    obtain ⟨hk, h⟩ := ckk_ok h
    refine gk0_31 C X hW hk dX0_slotOf_11 ?_
    refine lv_if_ne (tgt := 24) C.1 C.2.1 dX0_slotOf_14 (by decide) (fun c3 => ?_) (fun c3 => ?_)
    · have h := if_f h c3
      exact wk_0_slotOf_24 C X hW h (lv_sub hl [] rfl)
    · have h := if_t h c3
      refine lv_aload_n C.1 C.2.1 dX0_slotOf_17 rfl (lv_at hl 0 rfl) ?_
      obtain ⟨hk, h⟩ := ckk_ok h
      refine gk0_35 C X hW hk dX0_slotOf_18 ?_
      refine lv_goto (tgt := 25) C.1 C.2.1 dX0_slotOf_21 (by decide) ?_
      exact wk_0_slotOf_25 C X hW h (lv_sub hl [] rfl)
end
theorem dX0_makeOf_0 : decode cX0_makeOf 0 = .ok (.iload_n 1, 1) := by decide +kernel
theorem dX0_makeOf_1 : decode cX0_makeOf 1 = .ok (.ifCond .lt 18, 3) := by decide +kernel
theorem dX0_makeOf_4 : decode cX0_makeOf 4 = .ok (.iload_n 1, 1) := by decide +kernel
theorem dX0_makeOf_5 : decode cX0_makeOf 5 = .ok (.bipush 48, 2) := by decide +kernel
theorem dX0_makeOf_7 : decode cX0_makeOf 7 = .ok (.if_icmp .ge 12, 3) := by decide +kernel
theorem dX0_makeOf_10 : decode cX0_makeOf 10 = .ok (.aload_n 0, 1) := by decide +kernel
theorem dX0_makeOf_11 : decode cX0_makeOf 11 = .ok (.getfield 17, 3) := by decide +kernel
theorem dX0_makeOf_14 : decode cX0_makeOf 14 = .ok (.iload_n 1, 1) := by decide +kernel
theorem dX0_makeOf_15 : decode cX0_makeOf 15 = .ok (.aaload, 1) := by decide +kernel
theorem dX0_makeOf_16 : decode cX0_makeOf 16 = .ok (.goto 4, 3) := by decide +kernel
theorem dX0_makeOf_19 : decode cX0_makeOf 19 = .ok (.aconst_null, 1) := by decide +kernel
theorem dX0_makeOf_20 : decode cX0_makeOf 20 = .ok (.areturn, 1) := by decide +kernel
theorem kd_0_makeOf : Cond.code yX0_makeOf cX0_makeOf 2 (some (.object "AccordHouse$Row")) ∈ lw_g := mt_at 455 (by decide +kernel) rfl
theorem ki_0_makeOf : Cond.instanceMethod yX0_makeOf ∈ lw_g := mt_at 453 (by decide +kernel) rfl
theorem kl_0_makeOf : Cond.selects (kRn 0) yX0_makeOf yX0_makeOf ∈ lw_g := mt_at 454 (by decide +kernel) rfl
section
variable {p : Program} {l : Launch} {e : Env} {R : Room} {s : State} {m : MethodId} {args : Array Value} {below : List Frame} {meth : Method} {c : Code} {H : Heap} {locs : List Loc} {cells slots : Nat} {Q : State → Prop}
variable {D : cG} {S S0 : cSt} {cc : ByteArray} {nL : Nat} {pc : Nat} {ls : Array Slot} {rest : List Value} {H0 : Heap} {nF nR nC nS : Nat} {ret : Option FieldType} {a : Nat}
theorem gk0_17 (C : cY p R s m args meth c RX0 cc nL nF nC nS nR ret) (X : cX D s) (hW : cW D S H) (hk : kK S a = 1) {x : Nat} (hx : kR S a 1 = some x) (hdg : decode cc pc = .ok (.getfield 17, 3)) (kk : W p l e R s m args below meth c H locs cells slots Q (F0 m (pc + 3) ls (.ref x :: rest))) : W p l e R s m args below meth c H locs cells slots Q (F0 m pc ls (.ref a :: rest)) := c_get C X hW 0 (by decide) ly_0 hk 1 (by decide) (mt_at 82 (by decide +kernel) (by decide +kernel)) hdg (by rw [cV_R (by decide +kernel) hx]; exact kk)
end
section
variable {p : Program} {l : Launch} {e : Env} {R : Room} {s : State} {m : MethodId} {args : Array Value} {below : List Frame} {meth : Method} {c : Code} {D : cG} {S : cSt} {r : Option Nat}
noncomputable def fk_0_makeOf_20 (S : cSt) (s0 : Option Nat) : Option (Option Nat) :=
some s0
set_option maxRecDepth 100000 in
set_option maxHeartbeats 4000000 in
theorem wk_0_makeOf_20 (C : cY p R s m args meth c RX0 cX0_makeOf 2 0 0 0 0 (some (.object "AccordHouse$Row"))) (X : cX D s) (hW : cW D S s.heap) : ∀ {s0 : Option Nat} {ls : Array Slot}, fk_0_makeOf_20 S s0 = some r → lv_has ls 2 [] → W p l e R s m args below meth c s.heap [] 0 0 (MQ below (kQ (some (va_rf r))) args s 0 0 mNo) (F0 m 20 ls [va_rf s0]) := by
  intro s0 ls h hl
  unfold fk_0_makeOf_20 at h
  cases h
  exact c_reta C rfl rfl dX0_makeOf_20
noncomputable def fk_0_makeOf_19 (S : cSt) : Option (Option Nat) :=
fk_0_makeOf_20 S none
set_option maxRecDepth 100000 in
set_option maxHeartbeats 4000000 in
theorem wk_0_makeOf_19 (C : cY p R s m args meth c RX0 cX0_makeOf 2 0 0 0 0 (some (.object "AccordHouse$Row"))) (X : cX D s) (hW : cW D S s.heap) : ∀ {ls : Array Slot}, fk_0_makeOf_19 S = some r → lv_has ls 2 [] → W p l e R s m args below meth c s.heap [] 0 0 (MQ below (kQ (some (va_rf r))) args s 0 0 mNo) (F0 m 19 ls []) := by
  intro ls h hl
  unfold fk_0_makeOf_19 at h
  refine lv_null C.1 C.2.1 dX0_makeOf_19 ?_
  exact wk_0_makeOf_20 C X hW h (lv_sub hl [] rfl)
noncomputable def fk_0_makeOf (S : cSt) (v0 : Nat) (v1 : Int32) : Option (Option Nat) :=
if v1 < 0 then (
fk_0_makeOf_19 S)
else (
if (48 : Int32) ≤ v1 then (
fk_0_makeOf_19 S)
else (
ckk S v0 1 (bd (kR S v0 1) fun a3 =>
ckk S a3 30 (ck v1 (kL S a3) (lt (kO S a3 (Int32.toNatClampNeg v1)) fun o4 =>
fk_0_makeOf_20 S o4)))))
set_option maxRecDepth 100000 in
set_option maxHeartbeats 4000000 in
theorem tk_0_makeOf (l : Launch) {D : cG} {S : cSt} {v0 : Nat} {v1 : Int32} {r : Option Nat}  (h : fk_0_makeOf S v0 v1 = some r) : Met l yX0_makeOf (Cond.code yX0_makeOf cX0_makeOf 2 (some (.object "AccordHouse$Row")) :: lw_g) { frames := 0, cells := 0, slots := 0, locals := 0 } (kPi [.ref v0, .int v1] D S) (kQ (some (va_rf r))) 0 0 (mNo) := by
  refine Met.ofW (cc := cX0_makeOf) (maxL := 2) (ret := (some (.object "AccordHouse$Row"))) (by decide) rfl ?_
  intro p e s m args below meth c s₁ B hml hv
  obtain ⟨rfl, hW, X⟩ := hv
  have C : cY p (headSpec (Cond.code yX0_makeOf cX0_makeOf 2 (some (.object "AccordHouse$Row")) :: lw_g) { frames := 0, cells := 0, slots := 0, locals := 0 }).room s m _ meth c RX0 cX0_makeOf 2 0 0 0 0 (some (.object "AccordHouse$Row")) := ⟨B.exec, B.bytes, hml, findClass_of_methodNamed B.named, fun w hw => atoms_spec (ws := Cond.code yX0_makeOf cX0_makeOf 2 (some (.object "AccordHouse$Row")) :: lw_g) B.pre w (List.mem_cons_of_mem _ hw), ⟨Nat.le_refl _, Nat.le_refl _, Nat.le_refl _, Nat.le_refl _⟩, B.returns, B.notSynchronized⟩
  have hl := lv_entry ([.ref v0, .int v1]) (n := 2) (Nat.le_of_ble_eq_true rfl)
  rw [lg_entry_eq]
  generalize (lg_sl ([.ref v0, .int v1]) ++ List.replicate (2 - (lg_sl ([.ref v0, .int v1])).length) Slot.unset).toArray = ls at hl ⊢
  have hl : lv_has ls 2 [(0, .ref v0), (1, .int v1)] := hl
  unfold fk_0_makeOf at h
  refine lv_iload_n C.1 C.2.1 dX0_makeOf_0 rfl (lv_at hl 1 rfl) ?_
  refine lv_if_lt (tgt := 19) C.1 C.2.1 dX0_makeOf_1 (by decide) (fun c1 => ?_) (fun c1 => ?_)
  · have h := if_t h c1
    exact wk_0_makeOf_19 C X hW h (lv_sub hl [] rfl)
  · have h := if_f h c1
    refine lv_iload_n C.1 C.2.1 dX0_makeOf_4 rfl (lv_at hl 1 rfl) ?_
    refine lv_bipush (v := 48) C.1 C.2.1 dX0_makeOf_5 (by decide) ?_
    refine lv_icmp_ge (tgt := 19) C.1 C.2.1 dX0_makeOf_7 (by decide) (fun c2 => ?_) (fun c2 => ?_)
    · have h := if_t h c2
      exact wk_0_makeOf_19 C X hW h (lv_sub hl [] rfl)
    · have h := if_f h c2
      refine lv_aload_n C.1 C.2.1 dX0_makeOf_10 rfl (lv_at hl 0 rfl) ?_
      obtain ⟨hk, h⟩ := ckk_ok h
      obtain ⟨a3, h_a3, h⟩ := bd_ok h
      refine gk0_17 C X hW hk h_a3 dX0_makeOf_11 ?_
      refine lv_iload_n C.1 C.2.1 dX0_makeOf_14 rfl (lv_at hl 1 rfl) ?_
      obtain ⟨hk, h⟩ := ckk_ok h
      obtain ⟨hin2, h⟩ := ck_ok h
      refine c_aald C 30 (by decide) X.2.2.2.2.1 hW hk hin2 dX0_makeOf_15 ?_
      refine lt_ok h (fun o4 e_o4 h => ?_)
      refine lv_nmq e_o4 ?_
      refine lv_goto (tgt := 20) C.1 C.2.1 dX0_makeOf_16 (by decide) ?_
      exact wk_0_makeOf_20 C X hW h (lv_sub hl [] rfl)
end
theorem dX0_nameOf_0 : decode cX0_nameOf 0 = .ok (.aload_n 0, 1) := by decide +kernel
theorem dX0_nameOf_1 : decode cX0_nameOf 1 = .ok (.iload_n 1, 1) := by decide +kernel
theorem dX0_nameOf_2 : decode cX0_nameOf 2 = .ok (.invokevirtual 38, 3) := by decide +kernel
theorem dX0_nameOf_5 : decode cX0_nameOf 5 = .ok (.astore_n 2, 1) := by decide +kernel
theorem dX0_nameOf_6 : decode cX0_nameOf 6 = .ok (.aload_n 2, 1) := by decide +kernel
theorem dX0_nameOf_7 : decode cX0_nameOf 7 = .ok (.ifnonnull 7, 3) := by decide +kernel
theorem dX0_nameOf_10 : decode cX0_nameOf 10 = .ok (.iconst (-1), 1) := by decide +kernel
theorem dX0_nameOf_11 : decode cX0_nameOf 11 = .ok (.goto 7, 3) := by decide +kernel
theorem dX0_nameOf_14 : decode cX0_nameOf 14 = .ok (.aload_n 2, 1) := by decide +kernel
theorem dX0_nameOf_15 : decode cX0_nameOf 15 = .ok (.getfield 41, 3) := by decide +kernel
theorem dX0_nameOf_18 : decode cX0_nameOf 18 = .ok (.ireturn, 1) := by decide +kernel
theorem kd_0_nameOf : Cond.code yX0_nameOf cX0_nameOf 3 (some .int) ∈ lw_g := mt_at 1163 (by decide +kernel) rfl
theorem ki_0_nameOf : Cond.instanceMethod yX0_nameOf ∈ lw_g := mt_at 1161 (by decide +kernel) rfl
theorem kl_0_nameOf : Cond.selects (kRn 0) yX0_nameOf yX0_nameOf ∈ lw_g := mt_at 1162 (by decide +kernel) rfl
theorem cw0_38 : cCw RX0 38 yX0_makeOf cX0_makeOf 2 (some (.object "AccordHouse$Row")) 1 := ⟨kd_0_makeOf, mt_at 509 (by decide +kernel) rfl, mt_at 3 (by decide +kernel) rfl, by decide +kernel⟩
section
variable {p : Program} {l : Launch} {e : Env} {R : Room} {s : State} {m : MethodId} {args : Array Value} {below : List Frame} {meth : Method} {c : Code} {H : Heap} {locs : List Loc} {cells slots : Nat} {Q : State → Prop}
variable {D : cG} {S S0 : cSt} {cc : ByteArray} {nL : Nat} {pc : Nat} {ls : Array Slot} {rest : List Value} {H0 : Heap} {nF nR nC nS : Nat} {ret : Option FieldType} {a : Nat}
theorem gk0_41 (C : cY p R s m args meth c RX0 cc nL nF nC nS nR ret) (X : cX D s) (hW : cW D S H) (hk : kK S a = 9) (hdg : decode cc pc = .ok (.getfield 41, 3)) (kk : W p l e R s m args below meth c H locs cells slots Q (F0 m (pc + 3) ls (.int (kF S a 11) :: rest))) : W p l e R s m args below meth c H locs cells slots Q (F0 m pc ls (.ref a :: rest)) := c_get C X hW 8 (by decide) ly_8 hk 11 (by decide) (mt_at 1020 (by decide +kernel) (by decide +kernel)) hdg (by rw [cV_I (by decide +kernel)]; exact kk)
end
section
variable {p : Program} {l : Launch} {e : Env} {R : Room} {s : State} {m : MethodId} {args : Array Value} {below : List Frame} {meth : Method} {c : Code} {D : cG} {S : cSt} {r : Int32}
noncomputable def fk_0_nameOf_18 (S : cSt) (s0 : Int32) : Option (Int32) :=
some s0
set_option maxRecDepth 100000 in
set_option maxHeartbeats 4000000 in
theorem wk_0_nameOf_18 (C : cY p R s m args meth c RX0 cX0_nameOf 3 1 0 0 21 (some .int)) (X : cX D s) (hW : cW D S s.heap) : ∀ {s0 : Int32} {ls : Array Slot}, fk_0_nameOf_18 S s0 = some r → lv_has ls 3 [] → W p l e R s m args below meth c s.heap [] 0 0 (MQ below (kQ (some (.int r))) args s 0 0 mNo) (F0 m 18 ls [.int s0]) := by
  intro s0 ls h hl
  unfold fk_0_nameOf_18 at h
  cases h
  exact c_reti C rfl rfl dX0_nameOf_18
noncomputable def fk_0_nameOf (S : cSt) (v0 : Nat) (v1 : Int32) : Option (Int32) :=
ckk S v0 1 (bd (fk_0_makeOf S v0 v1) fun o1 =>
cs o1 (
fk_0_nameOf_18 S (-1 : Int32)) (fun a2 =>
ckk S a2 9 (
fk_0_nameOf_18 S (kF S a2 11))))
set_option maxRecDepth 100000 in
set_option maxHeartbeats 4000000 in
theorem tk_0_nameOf (l : Launch) {D : cG} {S : cSt} {v0 : Nat} {v1 : Int32} {r : Int32}  (h : fk_0_nameOf S v0 v1 = some r) : Met l yX0_nameOf (Cond.code yX0_nameOf cX0_nameOf 3 (some .int) :: lw_g) { frames := 1, cells := 0, slots := 0, locals := 21 } (kPi [.ref v0, .int v1] D S) (kQ (some (.int r))) 0 0 (mNo) := by
  refine Met.ofW (cc := cX0_nameOf) (maxL := 3) (ret := (some .int)) (by decide) rfl ?_
  intro p e s m args below meth c s₁ B hml hv
  obtain ⟨rfl, hW, X⟩ := hv
  have C : cY p (headSpec (Cond.code yX0_nameOf cX0_nameOf 3 (some .int) :: lw_g) { frames := 1, cells := 0, slots := 0, locals := 21 }).room s m _ meth c RX0 cX0_nameOf 3 1 0 0 21 (some .int) := ⟨B.exec, B.bytes, hml, findClass_of_methodNamed B.named, fun w hw => atoms_spec (ws := Cond.code yX0_nameOf cX0_nameOf 3 (some .int) :: lw_g) B.pre w (List.mem_cons_of_mem _ hw), ⟨Nat.le_refl _, Nat.le_refl _, Nat.le_refl _, Nat.le_refl _⟩, B.returns, B.notSynchronized⟩
  have hl := lv_entry ([.ref v0, .int v1]) (n := 3) (Nat.le_of_ble_eq_true rfl)
  rw [lg_entry_eq]
  generalize (lg_sl ([.ref v0, .int v1]) ++ List.replicate (3 - (lg_sl ([.ref v0, .int v1])).length) Slot.unset).toArray = ls at hl ⊢
  have hl : lv_has ls 3 [(0, .ref v0), (1, .int v1)] := hl
  unfold fk_0_nameOf at h
  refine lv_aload_n C.1 C.2.1 dX0_nameOf_0 rfl (lv_at hl 0 rfl) ?_
  refine lv_iload_n C.1 C.2.1 dX0_nameOf_1 rfl (lv_at hl 1 rfl) ?_
  obtain ⟨hk, h⟩ := ckk_ok h
  obtain ⟨o1, h_o1, h⟩ := bd_ok h
  refine c_callR (rest := []) C X hW hl.1 0 (by decide) hk [.int v1] (tk_0_makeOf l h_o1) cw0_38 ki_0_makeOf kl_0_makeOf rfl ⟨by decide, by decide⟩ ⟨(by decide), (by decide)⟩ rfl (Nat.le_of_ble_eq_true rfl) dX0_nameOf_2 ?_
  refine W.eq (g2 := F0 m 5 ls [va_rf o1]) rfl ?_
  refine lv_astore_nq (o := o1) (lv' := [(2, va_rf o1), (0, .ref v0), (1, .int v1)]) C.1 C.2.1 dX0_nameOf_5 rfl hl (by decide) rfl (fun ls hl => ?_)
  refine lv_aload_nq (o := o1) C.1 C.2.1 dX0_nameOf_6 rfl (lv_at hl 0 rfl) ?_
  rcases o1 with _ | a2
  · replace h := cs_n h
    refine lv_ifnonnullN C.1 C.2.1 dX0_nameOf_7 ?_
    refine lv_iconst (v := -1) C.1 C.2.1 dX0_nameOf_10 (by decide) ?_
    refine lv_goto (tgt := 18) C.1 C.2.1 dX0_nameOf_11 (by decide) ?_
    exact wk_0_nameOf_18 C X hW h (lv_sub hl [] rfl)
  · replace h := cs_s h
    refine lv_ifnonnull (tgt := 14) C.1 C.2.1 dX0_nameOf_7 (by decide) ?_
    refine lv_aload_n C.1 C.2.1 dX0_nameOf_14 rfl (lv_at hl 0 rfl) ?_
    obtain ⟨hk, h⟩ := ckk_ok h
    refine gk0_41 C X hW hk dX0_nameOf_15 ?_
    exact wk_0_nameOf_18 C X hW h (lv_sub hl [] rfl)
end
theorem dX0_kindOf_0 : decode cX0_kindOf 0 = .ok (.aload_n 0, 1) := by decide +kernel
theorem dX0_kindOf_1 : decode cX0_kindOf 1 = .ok (.iload_n 1, 1) := by decide +kernel
theorem dX0_kindOf_2 : decode cX0_kindOf 2 = .ok (.invokevirtual 38, 3) := by decide +kernel
theorem dX0_kindOf_5 : decode cX0_kindOf 5 = .ok (.astore_n 2, 1) := by decide +kernel
theorem dX0_kindOf_6 : decode cX0_kindOf 6 = .ok (.aload_n 2, 1) := by decide +kernel
theorem dX0_kindOf_7 : decode cX0_kindOf 7 = .ok (.ifnonnull 7, 3) := by decide +kernel
theorem dX0_kindOf_10 : decode cX0_kindOf 10 = .ok (.iconst (-1), 1) := by decide +kernel
theorem dX0_kindOf_11 : decode cX0_kindOf 11 = .ok (.goto 7, 3) := by decide +kernel
theorem dX0_kindOf_14 : decode cX0_kindOf 14 = .ok (.aload_n 2, 1) := by decide +kernel
theorem dX0_kindOf_15 : decode cX0_kindOf 15 = .ok (.getfield 44, 3) := by decide +kernel
theorem dX0_kindOf_18 : decode cX0_kindOf 18 = .ok (.ireturn, 1) := by decide +kernel
theorem kd_0_kindOf : Cond.code yX0_kindOf cX0_kindOf 3 (some .int) ∈ lw_g := mt_at 508 (by decide +kernel) rfl
theorem ki_0_kindOf : Cond.instanceMethod yX0_kindOf ∈ lw_g := mt_at 506 (by decide +kernel) rfl
theorem kl_0_kindOf : Cond.selects (kRn 0) yX0_kindOf yX0_kindOf ∈ lw_g := mt_at 507 (by decide +kernel) rfl
section
variable {p : Program} {l : Launch} {e : Env} {R : Room} {s : State} {m : MethodId} {args : Array Value} {below : List Frame} {meth : Method} {c : Code} {H : Heap} {locs : List Loc} {cells slots : Nat} {Q : State → Prop}
variable {D : cG} {S S0 : cSt} {cc : ByteArray} {nL : Nat} {pc : Nat} {ls : Array Slot} {rest : List Value} {H0 : Heap} {nF nR nC nS : Nat} {ret : Option FieldType} {a : Nat}
theorem gk0_44 (C : cY p R s m args meth c RX0 cc nL nF nC nS nR ret) (X : cX D s) (hW : cW D S H) (hk : kK S a = 9) (hdg : decode cc pc = .ok (.getfield 44, 3)) (kk : W p l e R s m args below meth c H locs cells slots Q (F0 m (pc + 3) ls (.int (kF S a 4) :: rest))) : W p l e R s m args below meth c H locs cells slots Q (F0 m pc ls (.ref a :: rest)) := c_get C X hW 8 (by decide) ly_8 hk 4 (by decide) (mt_at 983 (by decide +kernel) (by decide +kernel)) hdg (by rw [cV_I (by decide +kernel)]; exact kk)
end
section
variable {p : Program} {l : Launch} {e : Env} {R : Room} {s : State} {m : MethodId} {args : Array Value} {below : List Frame} {meth : Method} {c : Code} {D : cG} {S : cSt} {r : Int32}
noncomputable def fk_0_kindOf_18 (S : cSt) (s0 : Int32) : Option (Int32) :=
some s0
set_option maxRecDepth 100000 in
set_option maxHeartbeats 4000000 in
theorem wk_0_kindOf_18 (C : cY p R s m args meth c RX0 cX0_kindOf 3 1 0 0 21 (some .int)) (X : cX D s) (hW : cW D S s.heap) : ∀ {s0 : Int32} {ls : Array Slot}, fk_0_kindOf_18 S s0 = some r → lv_has ls 3 [] → W p l e R s m args below meth c s.heap [] 0 0 (MQ below (kQ (some (.int r))) args s 0 0 mNo) (F0 m 18 ls [.int s0]) := by
  intro s0 ls h hl
  unfold fk_0_kindOf_18 at h
  cases h
  exact c_reti C rfl rfl dX0_kindOf_18
noncomputable def fk_0_kindOf (S : cSt) (v0 : Nat) (v1 : Int32) : Option (Int32) :=
ckk S v0 1 (bd (fk_0_makeOf S v0 v1) fun o1 =>
cs o1 (
fk_0_kindOf_18 S (-1 : Int32)) (fun a2 =>
ckk S a2 9 (
fk_0_kindOf_18 S (kF S a2 4))))
set_option maxRecDepth 100000 in
set_option maxHeartbeats 4000000 in
theorem tk_0_kindOf (l : Launch) {D : cG} {S : cSt} {v0 : Nat} {v1 : Int32} {r : Int32}  (h : fk_0_kindOf S v0 v1 = some r) : Met l yX0_kindOf (Cond.code yX0_kindOf cX0_kindOf 3 (some .int) :: lw_g) { frames := 1, cells := 0, slots := 0, locals := 21 } (kPi [.ref v0, .int v1] D S) (kQ (some (.int r))) 0 0 (mNo) := by
  refine Met.ofW (cc := cX0_kindOf) (maxL := 3) (ret := (some .int)) (by decide) rfl ?_
  intro p e s m args below meth c s₁ B hml hv
  obtain ⟨rfl, hW, X⟩ := hv
  have C : cY p (headSpec (Cond.code yX0_kindOf cX0_kindOf 3 (some .int) :: lw_g) { frames := 1, cells := 0, slots := 0, locals := 21 }).room s m _ meth c RX0 cX0_kindOf 3 1 0 0 21 (some .int) := ⟨B.exec, B.bytes, hml, findClass_of_methodNamed B.named, fun w hw => atoms_spec (ws := Cond.code yX0_kindOf cX0_kindOf 3 (some .int) :: lw_g) B.pre w (List.mem_cons_of_mem _ hw), ⟨Nat.le_refl _, Nat.le_refl _, Nat.le_refl _, Nat.le_refl _⟩, B.returns, B.notSynchronized⟩
  have hl := lv_entry ([.ref v0, .int v1]) (n := 3) (Nat.le_of_ble_eq_true rfl)
  rw [lg_entry_eq]
  generalize (lg_sl ([.ref v0, .int v1]) ++ List.replicate (3 - (lg_sl ([.ref v0, .int v1])).length) Slot.unset).toArray = ls at hl ⊢
  have hl : lv_has ls 3 [(0, .ref v0), (1, .int v1)] := hl
  unfold fk_0_kindOf at h
  refine lv_aload_n C.1 C.2.1 dX0_kindOf_0 rfl (lv_at hl 0 rfl) ?_
  refine lv_iload_n C.1 C.2.1 dX0_kindOf_1 rfl (lv_at hl 1 rfl) ?_
  obtain ⟨hk, h⟩ := ckk_ok h
  obtain ⟨o1, h_o1, h⟩ := bd_ok h
  refine c_callR (rest := []) C X hW hl.1 0 (by decide) hk [.int v1] (tk_0_makeOf l h_o1) cw0_38 ki_0_makeOf kl_0_makeOf rfl ⟨by decide, by decide⟩ ⟨(by decide), (by decide)⟩ rfl (Nat.le_of_ble_eq_true rfl) dX0_kindOf_2 ?_
  refine W.eq (g2 := F0 m 5 ls [va_rf o1]) rfl ?_
  refine lv_astore_nq (o := o1) (lv' := [(2, va_rf o1), (0, .ref v0), (1, .int v1)]) C.1 C.2.1 dX0_kindOf_5 rfl hl (by decide) rfl (fun ls hl => ?_)
  refine lv_aload_nq (o := o1) C.1 C.2.1 dX0_kindOf_6 rfl (lv_at hl 0 rfl) ?_
  rcases o1 with _ | a2
  · replace h := cs_n h
    refine lv_ifnonnullN C.1 C.2.1 dX0_kindOf_7 ?_
    refine lv_iconst (v := -1) C.1 C.2.1 dX0_kindOf_10 (by decide) ?_
    refine lv_goto (tgt := 18) C.1 C.2.1 dX0_kindOf_11 (by decide) ?_
    exact wk_0_kindOf_18 C X hW h (lv_sub hl [] rfl)
  · replace h := cs_s h
    refine lv_ifnonnull (tgt := 14) C.1 C.2.1 dX0_kindOf_7 (by decide) ?_
    refine lv_aload_n C.1 C.2.1 dX0_kindOf_14 rfl (lv_at hl 0 rfl) ?_
    obtain ⟨hk, h⟩ := ckk_ok h
    refine gk0_44 C X hW hk dX0_kindOf_15 ?_
    exact wk_0_kindOf_18 C X hW h (lv_sub hl [] rfl)
end
theorem dX0_rowsInAll_0 : decode cX0_rowsInAll 0 = .ok (.aload_n 0, 1) := by decide +kernel
theorem dX0_rowsInAll_1 : decode cX0_rowsInAll 1 = .ok (.getfield 20, 3) := by decide +kernel
theorem dX0_rowsInAll_4 : decode cX0_rowsInAll 4 = .ok (.iconst 0, 1) := by decide +kernel
theorem dX0_rowsInAll_5 : decode cX0_rowsInAll 5 = .ok (.iaload, 1) := by decide +kernel
theorem dX0_rowsInAll_6 : decode cX0_rowsInAll 6 = .ok (.aload_n 0, 1) := by decide +kernel
theorem dX0_rowsInAll_7 : decode cX0_rowsInAll 7 = .ok (.getfield 20, 3) := by decide +kernel
theorem dX0_rowsInAll_10 : decode cX0_rowsInAll 10 = .ok (.iconst 1, 1) := by decide +kernel
theorem dX0_rowsInAll_11 : decode cX0_rowsInAll 11 = .ok (.iaload, 1) := by decide +kernel
theorem dX0_rowsInAll_12 : decode cX0_rowsInAll 12 = .ok (.iadd, 1) := by decide +kernel
theorem dX0_rowsInAll_13 : decode cX0_rowsInAll 13 = .ok (.aload_n 0, 1) := by decide +kernel
theorem dX0_rowsInAll_14 : decode cX0_rowsInAll 14 = .ok (.getfield 20, 3) := by decide +kernel
theorem dX0_rowsInAll_17 : decode cX0_rowsInAll 17 = .ok (.iconst 2, 1) := by decide +kernel
theorem dX0_rowsInAll_18 : decode cX0_rowsInAll 18 = .ok (.iaload, 1) := by decide +kernel
theorem dX0_rowsInAll_19 : decode cX0_rowsInAll 19 = .ok (.iadd, 1) := by decide +kernel
theorem dX0_rowsInAll_20 : decode cX0_rowsInAll 20 = .ok (.aload_n 0, 1) := by decide +kernel
theorem dX0_rowsInAll_21 : decode cX0_rowsInAll 21 = .ok (.getfield 20, 3) := by decide +kernel
theorem dX0_rowsInAll_24 : decode cX0_rowsInAll 24 = .ok (.iconst 3, 1) := by decide +kernel
theorem dX0_rowsInAll_25 : decode cX0_rowsInAll 25 = .ok (.iaload, 1) := by decide +kernel
theorem dX0_rowsInAll_26 : decode cX0_rowsInAll 26 = .ok (.iadd, 1) := by decide +kernel
theorem dX0_rowsInAll_27 : decode cX0_rowsInAll 27 = .ok (.ireturn, 1) := by decide +kernel
theorem kd_0_rowsInAll : Cond.code yX0_rowsInAll cX0_rowsInAll 1 (some .int) ∈ lw_g := mt_at 1556 (by decide +kernel) rfl
theorem ki_0_rowsInAll : Cond.instanceMethod yX0_rowsInAll ∈ lw_g := mt_at 1554 (by decide +kernel) rfl
theorem kl_0_rowsInAll : Cond.selects (kRn 0) yX0_rowsInAll yX0_rowsInAll ∈ lw_g := mt_at 1555 (by decide +kernel) rfl
section
variable {p : Program} {l : Launch} {e : Env} {R : Room} {s : State} {m : MethodId} {args : Array Value} {below : List Frame} {meth : Method} {c : Code} {H : Heap} {locs : List Loc} {cells slots : Nat} {Q : State → Prop}
variable {D : cG} {S S0 : cSt} {cc : ByteArray} {nL : Nat} {pc : Nat} {ls : Array Slot} {rest : List Value} {H0 : Heap} {nF nR nC nS : Nat} {ret : Option FieldType} {a : Nat}
theorem gk0_20 (C : cY p R s m args meth c RX0 cc nL nF nC nS nR ret) (X : cX D s) (hW : cW D S H) (hk : kK S a = 1) {x : Nat} (hx : kR S a 2 = some x) (hdg : decode cc pc = .ok (.getfield 20, 3)) (kk : W p l e R s m args below meth c H locs cells slots Q (F0 m (pc + 3) ls (.ref x :: rest))) : W p l e R s m args below meth c H locs cells slots Q (F0 m pc ls (.ref a :: rest)) := c_get C X hW 0 (by decide) ly_0 hk 2 (by decide) (mt_at 83 (by decide +kernel) (by decide +kernel)) hdg (by rw [cV_R (by decide +kernel) hx]; exact kk)
end
section
variable {p : Program} {l : Launch} {e : Env} {R : Room} {s : State} {m : MethodId} {args : Array Value} {below : List Frame} {meth : Method} {c : Code} {D : cG} {S : cSt} {r : Int32}
noncomputable def fk_0_rowsInAll (S : cSt) (v0 : Nat) : Option (Int32) :=
ckk S v0 1 (bd (kR S v0 2) fun a1 =>
ckk S a1 20 (ck (0 : Int32) (kL S a1) (
ckk S v0 1 (bd (kR S v0 2) fun a2 =>
ckk S a2 20 (ck (1 : Int32) (kL S a2) (
ckk S v0 1 (bd (kR S v0 2) fun a3 =>
ckk S a3 20 (ck (2 : Int32) (kL S a3) (
ckk S v0 1 (bd (kR S v0 2) fun a4 =>
ckk S a4 20 (ck (3 : Int32) (kL S a4) (
some ((((kI S a1 (Int32.toNatClampNeg (0 : Int32))) + (kI S a2 (Int32.toNatClampNeg (1 : Int32)))) + (kI S a3 (Int32.toNatClampNeg (2 : Int32)))) + (kI S a4 (Int32.toNatClampNeg (3 : Int32))))))))))))))))
set_option maxRecDepth 100000 in
set_option maxHeartbeats 4000000 in
theorem tk_0_rowsInAll (l : Launch) {D : cG} {S : cSt} {v0 : Nat} {r : Int32}  (h : fk_0_rowsInAll S v0 = some r) : Met l yX0_rowsInAll (Cond.code yX0_rowsInAll cX0_rowsInAll 1 (some .int) :: lw_g) { frames := 0, cells := 0, slots := 0, locals := 0 } (kPi [.ref v0] D S) (kQ (some (.int r))) 0 0 (mNo) := by
  refine Met.ofW (cc := cX0_rowsInAll) (maxL := 1) (ret := (some .int)) (by decide) rfl ?_
  intro p e s m args below meth c s₁ B hml hv
  obtain ⟨rfl, hW, X⟩ := hv
  have C : cY p (headSpec (Cond.code yX0_rowsInAll cX0_rowsInAll 1 (some .int) :: lw_g) { frames := 0, cells := 0, slots := 0, locals := 0 }).room s m _ meth c RX0 cX0_rowsInAll 1 0 0 0 0 (some .int) := ⟨B.exec, B.bytes, hml, findClass_of_methodNamed B.named, fun w hw => atoms_spec (ws := Cond.code yX0_rowsInAll cX0_rowsInAll 1 (some .int) :: lw_g) B.pre w (List.mem_cons_of_mem _ hw), ⟨Nat.le_refl _, Nat.le_refl _, Nat.le_refl _, Nat.le_refl _⟩, B.returns, B.notSynchronized⟩
  have hl := lv_entry ([.ref v0]) (n := 1) (Nat.le_of_ble_eq_true rfl)
  rw [lg_entry_eq]
  generalize (lg_sl ([.ref v0]) ++ List.replicate (1 - (lg_sl ([.ref v0])).length) Slot.unset).toArray = ls at hl ⊢
  have hl : lv_has ls 1 [(0, .ref v0)] := hl
  unfold fk_0_rowsInAll at h
  refine lv_aload_n C.1 C.2.1 dX0_rowsInAll_0 rfl (lv_at hl 0 rfl) ?_
  obtain ⟨hk, h⟩ := ckk_ok h
  obtain ⟨a1, h_a1, h⟩ := bd_ok h
  refine gk0_20 C X hW hk h_a1 dX0_rowsInAll_1 ?_
  refine lv_iconst (v := 0) C.1 C.2.1 dX0_rowsInAll_4 (by decide) ?_
  obtain ⟨hk, h⟩ := ckk_ok h
  obtain ⟨hin2, h⟩ := ck_ok h
  refine c_iald C X hW hk hin2 dX0_rowsInAll_5 ?_
  refine lv_aload_n C.1 C.2.1 dX0_rowsInAll_6 rfl (lv_at hl 0 rfl) ?_
  obtain ⟨hk, h⟩ := ckk_ok h
  obtain ⟨a2, h_a2, h⟩ := bd_ok h
  refine gk0_20 C X hW hk h_a2 dX0_rowsInAll_7 ?_
  refine lv_iconst (v := 1) C.1 C.2.1 dX0_rowsInAll_10 (by decide) ?_
  obtain ⟨hk, h⟩ := ckk_ok h
  obtain ⟨hin2, h⟩ := ck_ok h
  refine c_iald C X hW hk hin2 dX0_rowsInAll_11 ?_
  refine lv_iadd C.1 C.2.1 dX0_rowsInAll_12 ?_
  refine lv_aload_n C.1 C.2.1 dX0_rowsInAll_13 rfl (lv_at hl 0 rfl) ?_
  obtain ⟨hk, h⟩ := ckk_ok h
  obtain ⟨a3, h_a3, h⟩ := bd_ok h
  refine gk0_20 C X hW hk h_a3 dX0_rowsInAll_14 ?_
  refine lv_iconst (v := 2) C.1 C.2.1 dX0_rowsInAll_17 (by decide) ?_
  obtain ⟨hk, h⟩ := ckk_ok h
  obtain ⟨hin2, h⟩ := ck_ok h
  refine c_iald C X hW hk hin2 dX0_rowsInAll_18 ?_
  refine lv_iadd C.1 C.2.1 dX0_rowsInAll_19 ?_
  refine lv_aload_n C.1 C.2.1 dX0_rowsInAll_20 rfl (lv_at hl 0 rfl) ?_
  obtain ⟨hk, h⟩ := ckk_ok h
  obtain ⟨a4, h_a4, h⟩ := bd_ok h
  refine gk0_20 C X hW hk h_a4 dX0_rowsInAll_21 ?_
  refine lv_iconst (v := 3) C.1 C.2.1 dX0_rowsInAll_24 (by decide) ?_
  obtain ⟨hk, h⟩ := ckk_ok h
  obtain ⟨hin2, h⟩ := ck_ok h
  refine c_iald C X hW hk hin2 dX0_rowsInAll_25 ?_
  refine lv_iadd C.1 C.2.1 dX0_rowsInAll_26 ?_
  cases h
  exact c_reti C rfl rfl dX0_rowsInAll_27
end
theorem dX0_hasRoom_0 : decode cX0_hasRoom 0 = .ok (.aload_n 0, 1) := by decide +kernel
theorem dX0_hasRoom_1 : decode cX0_hasRoom 1 = .ok (.getfield 20, 3) := by decide +kernel
theorem dX0_hasRoom_4 : decode cX0_hasRoom 4 = .ok (.iload_n 1, 1) := by decide +kernel
theorem dX0_hasRoom_5 : decode cX0_hasRoom 5 = .ok (.iaload, 1) := by decide +kernel
theorem dX0_hasRoom_6 : decode cX0_hasRoom 6 = .ok (.iload_n 3, 1) := by decide +kernel
theorem dX0_hasRoom_7 : decode cX0_hasRoom 7 = .ok (.iadd, 1) := by decide +kernel
theorem dX0_hasRoom_8 : decode cX0_hasRoom 8 = .ok (.sipush 250, 3) := by decide +kernel
theorem dX0_hasRoom_11 : decode cX0_hasRoom 11 = .ok (.if_icmp .le 5, 3) := by decide +kernel
theorem dX0_hasRoom_14 : decode cX0_hasRoom 14 = .ok (.iconst 0, 1) := by decide +kernel
theorem dX0_hasRoom_15 : decode cX0_hasRoom 15 = .ok (.ireturn, 1) := by decide +kernel
theorem dX0_hasRoom_16 : decode cX0_hasRoom 16 = .ok (.iload_n 2, 1) := by decide +kernel
theorem dX0_hasRoom_17 : decode cX0_hasRoom 17 = .ok (.ifCond .ne 14, 3) := by decide +kernel
theorem dX0_hasRoom_20 : decode cX0_hasRoom 20 = .ok (.aload_n 0, 1) := by decide +kernel
theorem dX0_hasRoom_21 : decode cX0_hasRoom 21 = .ok (.getfield 24, 3) := by decide +kernel
theorem dX0_hasRoom_24 : decode cX0_hasRoom 24 = .ok (.iload_n 1, 1) := by decide +kernel
theorem dX0_hasRoom_25 : decode cX0_hasRoom 25 = .ok (.iaload, 1) := by decide +kernel
theorem dX0_hasRoom_26 : decode cX0_hasRoom 26 = .ok (.bipush 12, 2) := by decide +kernel
theorem dX0_hasRoom_28 : decode cX0_hasRoom 28 = .ok (.if_icmp .ge 7, 3) := by decide +kernel
theorem dX0_hasRoom_31 : decode cX0_hasRoom 31 = .ok (.iconst 1, 1) := by decide +kernel
theorem dX0_hasRoom_32 : decode cX0_hasRoom 32 = .ok (.goto 4, 3) := by decide +kernel
theorem dX0_hasRoom_35 : decode cX0_hasRoom 35 = .ok (.iconst 0, 1) := by decide +kernel
theorem dX0_hasRoom_36 : decode cX0_hasRoom 36 = .ok (.ireturn, 1) := by decide +kernel
theorem kd_0_hasRoom : Cond.code yX0_hasRoom cX0_hasRoom 4 (some .boolean) ∈ lw_g := mt_at 650 (by decide +kernel) rfl
theorem ki_0_hasRoom : Cond.instanceMethod yX0_hasRoom ∈ lw_g := mt_at 648 (by decide +kernel) rfl
theorem kl_0_hasRoom : Cond.selects (kRn 0) yX0_hasRoom yX0_hasRoom ∈ lw_g := mt_at 649 (by decide +kernel) rfl
section
variable {p : Program} {l : Launch} {e : Env} {R : Room} {s : State} {m : MethodId} {args : Array Value} {below : List Frame} {meth : Method} {c : Code} {H : Heap} {locs : List Loc} {cells slots : Nat} {Q : State → Prop}
variable {D : cG} {S S0 : cSt} {cc : ByteArray} {nL : Nat} {pc : Nat} {ls : Array Slot} {rest : List Value} {H0 : Heap} {nF nR nC nS : Nat} {ret : Option FieldType} {a : Nat}
theorem gk0_24 (C : cY p R s m args meth c RX0 cc nL nF nC nS nR ret) (X : cX D s) (hW : cW D S H) (hk : kK S a = 1) {x : Nat} (hx : kR S a 3 = some x) (hdg : decode cc pc = .ok (.getfield 24, 3)) (kk : W p l e R s m args below meth c H locs cells slots Q (F0 m (pc + 3) ls (.ref x :: rest))) : W p l e R s m args below meth c H locs cells slots Q (F0 m pc ls (.ref a :: rest)) := c_get C X hW 0 (by decide) ly_0 hk 3 (by decide) (mt_at 84 (by decide +kernel) (by decide +kernel)) hdg (by rw [cV_R (by decide +kernel) hx]; exact kk)
end
section
variable {p : Program} {l : Launch} {e : Env} {R : Room} {s : State} {m : MethodId} {args : Array Value} {below : List Frame} {meth : Method} {c : Code} {D : cG} {S : cSt} {r : Int32}
noncomputable def fk_0_hasRoom_36 (S : cSt) (s0 : Int32) : Option (Int32) :=
ckz s0 (some s0)
set_option maxRecDepth 100000 in
set_option maxHeartbeats 4000000 in
theorem wk_0_hasRoom_36 (C : cY p R s m args meth c RX0 cX0_hasRoom 4 0 0 0 0 (some .boolean)) (X : cX D s) (hW : cW D S s.heap) : ∀ {s0 : Int32} {ls : Array Slot}, fk_0_hasRoom_36 S s0 = some r → lv_has ls 4 [] → W p l e R s m args below meth c s.heap [] 0 0 (MQ below (kQ (some (.int r))) args s 0 0 mNo) (F0 m 36 ls [.int s0]) := by
  intro s0 ls h hl
  unfold fk_0_hasRoom_36 at h
  obtain ⟨hzo, h⟩ := ckz_ok h
  cases h
  exact c_retn C (by rcases hzo with h9 | h9 <;> (rw [h9]; rfl)) rfl rfl dX0_hasRoom_36
noncomputable def fk_0_hasRoom_31 (S : cSt) : Option (Int32) :=
fk_0_hasRoom_36 S (1 : Int32)
set_option maxRecDepth 100000 in
set_option maxHeartbeats 4000000 in
theorem wk_0_hasRoom_31 (C : cY p R s m args meth c RX0 cX0_hasRoom 4 0 0 0 0 (some .boolean)) (X : cX D s) (hW : cW D S s.heap) : ∀ {ls : Array Slot}, fk_0_hasRoom_31 S = some r → lv_has ls 4 [] → W p l e R s m args below meth c s.heap [] 0 0 (MQ below (kQ (some (.int r))) args s 0 0 mNo) (F0 m 31 ls []) := by
  intro ls h hl
  unfold fk_0_hasRoom_31 at h
  refine lv_iconst (v := 1) C.1 C.2.1 dX0_hasRoom_31 (by decide) ?_
  refine lv_goto (tgt := 36) C.1 C.2.1 dX0_hasRoom_32 (by decide) ?_
  exact wk_0_hasRoom_36 C X hW h (lv_sub hl [] rfl)
noncomputable def fk_0_hasRoom (S : cSt) (v0 : Nat) (v1 : Int32) (v2 : Int32) (v3 : Int32) : Option (Int32) :=
ckk S v0 1 (bd (kR S v0 2) fun a1 =>
ckk S a1 20 (ck v1 (kL S a1) (
if ((kI S a1 (Int32.toNatClampNeg v1)) + v3) ≤ (250 : Int32) then (
if v2 = 0 then (
ckk S v0 1 (bd (kR S v0 3) fun a4 =>
ckk S a4 20 (ck v1 (kL S a4) (
if (12 : Int32) ≤ (kI S a4 (Int32.toNatClampNeg v1)) then (
fk_0_hasRoom_36 S (0 : Int32))
else (
fk_0_hasRoom_31 S)))))
else (
fk_0_hasRoom_31 S))
else (
ckz (0 : Int32) (some (0 : Int32))))))
set_option maxRecDepth 100000 in
set_option maxHeartbeats 4000000 in
theorem tk_0_hasRoom (l : Launch) {D : cG} {S : cSt} {v0 : Nat} {v1 : Int32} {v2 : Int32} {v3 : Int32} {r : Int32}  (h : fk_0_hasRoom S v0 v1 v2 v3 = some r) : Met l yX0_hasRoom (Cond.code yX0_hasRoom cX0_hasRoom 4 (some .boolean) :: lw_g) { frames := 0, cells := 0, slots := 0, locals := 0 } (kPi [.ref v0, .int v1, .int v2, .int v3] D S) (kQ (some (.int r))) 0 0 (mNo) := by
  refine Met.ofW (cc := cX0_hasRoom) (maxL := 4) (ret := (some .boolean)) (by decide) rfl ?_
  intro p e s m args below meth c s₁ B hml hv
  obtain ⟨rfl, hW, X⟩ := hv
  have C : cY p (headSpec (Cond.code yX0_hasRoom cX0_hasRoom 4 (some .boolean) :: lw_g) { frames := 0, cells := 0, slots := 0, locals := 0 }).room s m _ meth c RX0 cX0_hasRoom 4 0 0 0 0 (some .boolean) := ⟨B.exec, B.bytes, hml, findClass_of_methodNamed B.named, fun w hw => atoms_spec (ws := Cond.code yX0_hasRoom cX0_hasRoom 4 (some .boolean) :: lw_g) B.pre w (List.mem_cons_of_mem _ hw), ⟨Nat.le_refl _, Nat.le_refl _, Nat.le_refl _, Nat.le_refl _⟩, B.returns, B.notSynchronized⟩
  have hl := lv_entry ([.ref v0, .int v1, .int v2, .int v3]) (n := 4) (Nat.le_of_ble_eq_true rfl)
  rw [lg_entry_eq]
  generalize (lg_sl ([.ref v0, .int v1, .int v2, .int v3]) ++ List.replicate (4 - (lg_sl ([.ref v0, .int v1, .int v2, .int v3])).length) Slot.unset).toArray = ls at hl ⊢
  have hl : lv_has ls 4 [(0, .ref v0), (1, .int v1), (2, .int v2), (3, .int v3)] := hl
  unfold fk_0_hasRoom at h
  refine lv_aload_n C.1 C.2.1 dX0_hasRoom_0 rfl (lv_at hl 0 rfl) ?_
  obtain ⟨hk, h⟩ := ckk_ok h
  obtain ⟨a1, h_a1, h⟩ := bd_ok h
  refine gk0_20 C X hW hk h_a1 dX0_hasRoom_1 ?_
  refine lv_iload_n C.1 C.2.1 dX0_hasRoom_4 rfl (lv_at hl 1 rfl) ?_
  obtain ⟨hk, h⟩ := ckk_ok h
  obtain ⟨hin2, h⟩ := ck_ok h
  refine c_iald C X hW hk hin2 dX0_hasRoom_5 ?_
  refine lv_iload_n C.1 C.2.1 dX0_hasRoom_6 rfl (lv_at hl 3 rfl) ?_
  refine lv_iadd C.1 C.2.1 dX0_hasRoom_7 ?_
  refine lv_sipush (v := 250) C.1 C.2.1 dX0_hasRoom_8 (by decide) ?_
  refine lv_icmp_le (tgt := 16) C.1 C.2.1 dX0_hasRoom_11 (by decide) (fun c2 => ?_) (fun c2 => ?_)
  · have h := if_t h c2
    refine lv_iload_n C.1 C.2.1 dX0_hasRoom_16 rfl (lv_at hl 2 rfl) ?_
    refine lv_if_ne (tgt := 31) C.1 C.2.1 dX0_hasRoom_17 (by decide) (fun c3 => ?_) (fun c3 => ?_)
    · have h := if_f h c3
      exact wk_0_hasRoom_31 C X hW h (lv_sub hl [] rfl)
    · have h := if_t h c3
      refine lv_aload_n C.1 C.2.1 dX0_hasRoom_20 rfl (lv_at hl 0 rfl) ?_
      obtain ⟨hk, h⟩ := ckk_ok h
      obtain ⟨a4, h_a4, h⟩ := bd_ok h
      refine gk0_24 C X hW hk h_a4 dX0_hasRoom_21 ?_
      refine lv_iload_n C.1 C.2.1 dX0_hasRoom_24 rfl (lv_at hl 1 rfl) ?_
      obtain ⟨hk, h⟩ := ckk_ok h
      obtain ⟨hin2, h⟩ := ck_ok h
      refine c_iald C X hW hk hin2 dX0_hasRoom_25 ?_
      refine lv_bipush (v := 12) C.1 C.2.1 dX0_hasRoom_26 (by decide) ?_
      refine lv_icmp_ge (tgt := 35) C.1 C.2.1 dX0_hasRoom_28 (by decide) (fun c5 => ?_) (fun c5 => ?_)
      · have h := if_t h c5
        refine lv_iconst (v := 0) C.1 C.2.1 dX0_hasRoom_35 (by decide) ?_
        exact wk_0_hasRoom_36 C X hW h (lv_sub hl [] rfl)
      · have h := if_f h c5
        exact wk_0_hasRoom_31 C X hW h (lv_sub hl [] rfl)
  · have h := if_f h c2
    refine lv_iconst (v := 0) C.1 C.2.1 dX0_hasRoom_14 (by decide) ?_
    obtain ⟨hzo, h⟩ := ckz_ok h
    cases h
    exact c_retn C (by rcases hzo with h9 | h9 <;> (rw [h9]; rfl)) rfl rfl dX0_hasRoom_15
end
theorem dX0_nextSlot_0 : decode cX0_nextSlot 0 = .ok (.iload_n 1, 1) := by decide +kernel
theorem dX0_nextSlot_1 : decode cX0_nextSlot 1 = .ok (.bipush 12, 2) := by decide +kernel
theorem dX0_nextSlot_3 : decode cX0_nextSlot 3 = .ok (.imul, 1) := by decide +kernel
theorem dX0_nextSlot_4 : decode cX0_nextSlot 4 = .ok (.aload_n 0, 1) := by decide +kernel
theorem dX0_nextSlot_5 : decode cX0_nextSlot 5 = .ok (.getfield 24, 3) := by decide +kernel
theorem dX0_nextSlot_8 : decode cX0_nextSlot 8 = .ok (.iload_n 1, 1) := by decide +kernel
theorem dX0_nextSlot_9 : decode cX0_nextSlot 9 = .ok (.iaload, 1) := by decide +kernel
theorem dX0_nextSlot_10 : decode cX0_nextSlot 10 = .ok (.iadd, 1) := by decide +kernel
theorem dX0_nextSlot_11 : decode cX0_nextSlot 11 = .ok (.ireturn, 1) := by decide +kernel
theorem kd_0_nextSlot : Cond.code yX0_nextSlot cX0_nextSlot 2 (some .int) ∈ lw_g := mt_at 658 (by decide +kernel) rfl
theorem ki_0_nextSlot : Cond.instanceMethod yX0_nextSlot ∈ lw_g := mt_at 656 (by decide +kernel) rfl
theorem kl_0_nextSlot : Cond.selects (kRn 0) yX0_nextSlot yX0_nextSlot ∈ lw_g := mt_at 657 (by decide +kernel) rfl
section
variable {p : Program} {l : Launch} {e : Env} {R : Room} {s : State} {m : MethodId} {args : Array Value} {below : List Frame} {meth : Method} {c : Code} {D : cG} {S : cSt} {r : Int32}
noncomputable def fk_0_nextSlot (S : cSt) (v0 : Nat) (v1 : Int32) : Option (Int32) :=
ckk S v0 1 (bd (kR S v0 3) fun a1 =>
ckk S a1 20 (ck v1 (kL S a1) (
some ((v1 * (12 : Int32)) + (kI S a1 (Int32.toNatClampNeg v1))))))
set_option maxRecDepth 100000 in
set_option maxHeartbeats 4000000 in
theorem tk_0_nextSlot (l : Launch) {D : cG} {S : cSt} {v0 : Nat} {v1 : Int32} {r : Int32}  (h : fk_0_nextSlot S v0 v1 = some r) : Met l yX0_nextSlot (Cond.code yX0_nextSlot cX0_nextSlot 2 (some .int) :: lw_g) { frames := 0, cells := 0, slots := 0, locals := 0 } (kPi [.ref v0, .int v1] D S) (kQ (some (.int r))) 0 0 (mNo) := by
  refine Met.ofW (cc := cX0_nextSlot) (maxL := 2) (ret := (some .int)) (by decide) rfl ?_
  intro p e s m args below meth c s₁ B hml hv
  obtain ⟨rfl, hW, X⟩ := hv
  have C : cY p (headSpec (Cond.code yX0_nextSlot cX0_nextSlot 2 (some .int) :: lw_g) { frames := 0, cells := 0, slots := 0, locals := 0 }).room s m _ meth c RX0 cX0_nextSlot 2 0 0 0 0 (some .int) := ⟨B.exec, B.bytes, hml, findClass_of_methodNamed B.named, fun w hw => atoms_spec (ws := Cond.code yX0_nextSlot cX0_nextSlot 2 (some .int) :: lw_g) B.pre w (List.mem_cons_of_mem _ hw), ⟨Nat.le_refl _, Nat.le_refl _, Nat.le_refl _, Nat.le_refl _⟩, B.returns, B.notSynchronized⟩
  have hl := lv_entry ([.ref v0, .int v1]) (n := 2) (Nat.le_of_ble_eq_true rfl)
  rw [lg_entry_eq]
  generalize (lg_sl ([.ref v0, .int v1]) ++ List.replicate (2 - (lg_sl ([.ref v0, .int v1])).length) Slot.unset).toArray = ls at hl ⊢
  have hl : lv_has ls 2 [(0, .ref v0), (1, .int v1)] := hl
  unfold fk_0_nextSlot at h
  refine lv_iload_n C.1 C.2.1 dX0_nextSlot_0 rfl (lv_at hl 1 rfl) ?_
  refine lv_bipush (v := 12) C.1 C.2.1 dX0_nextSlot_1 (by decide) ?_
  refine lv_imul C.1 C.2.1 dX0_nextSlot_3 ?_
  refine lv_aload_n C.1 C.2.1 dX0_nextSlot_4 rfl (lv_at hl 0 rfl) ?_
  obtain ⟨hk, h⟩ := ckk_ok h
  obtain ⟨a1, h_a1, h⟩ := bd_ok h
  refine gk0_24 C X hW hk h_a1 dX0_nextSlot_5 ?_
  refine lv_iload_n C.1 C.2.1 dX0_nextSlot_8 rfl (lv_at hl 1 rfl) ?_
  obtain ⟨hk, h⟩ := ckk_ok h
  obtain ⟨hin2, h⟩ := ck_ok h
  refine c_iald C X hW hk hin2 dX0_nextSlot_9 ?_
  refine lv_iadd C.1 C.2.1 dX0_nextSlot_10 ?_
  cases h
  exact c_reti C rfl rfl dX0_nextSlot_11
end
theorem dX0_add_0 : decode cX0_add 0 = .ok (.aload_n 0, 1) := by decide +kernel
theorem dX0_add_1 : decode cX0_add 1 = .ok (.getfield 11, 3) := by decide +kernel
theorem dX0_add_4 : decode cX0_add 4 = .ok (.aload_n 1, 1) := by decide +kernel
theorem dX0_add_5 : decode cX0_add 5 = .ok (.getfield 47, 3) := by decide +kernel
theorem dX0_add_8 : decode cX0_add 8 = .ok (.aload_n 1, 1) := by decide +kernel
theorem dX0_add_9 : decode cX0_add 9 = .ok (.aastore, 1) := by decide +kernel
theorem dX0_add_10 : decode cX0_add 10 = .ok (.aload_n 0, 1) := by decide +kernel
theorem dX0_add_11 : decode cX0_add 11 = .ok (.getfield 20, 3) := by decide +kernel
theorem dX0_add_14 : decode cX0_add 14 = .ok (.aload_n 1, 1) := by decide +kernel
theorem dX0_add_15 : decode cX0_add 15 = .ok (.getfield 50, 3) := by decide +kernel
theorem dX0_add_18 : decode cX0_add 18 = .ok (.aload_n 1, 1) := by decide +kernel
theorem dX0_add_19 : decode cX0_add 19 = .ok (.getfield 53, 3) := by decide +kernel
theorem dX0_add_22 : decode cX0_add 22 = .ok (.iastore, 1) := by decide +kernel
theorem dX0_add_23 : decode cX0_add 23 = .ok (.aload_n 1, 1) := by decide +kernel
theorem dX0_add_24 : decode cX0_add 24 = .ok (.getfield 31, 3) := by decide +kernel
theorem dX0_add_27 : decode cX0_add 27 = .ok (.ifCond .ne 26, 3) := by decide +kernel
theorem dX0_add_30 : decode cX0_add 30 = .ok (.aload_n 0, 1) := by decide +kernel
theorem dX0_add_31 : decode cX0_add 31 = .ok (.getfield 17, 3) := by decide +kernel
theorem dX0_add_34 : decode cX0_add 34 = .ok (.aload_n 1, 1) := by decide +kernel
theorem dX0_add_35 : decode cX0_add 35 = .ok (.getfield 35, 3) := by decide +kernel
theorem dX0_add_38 : decode cX0_add 38 = .ok (.aload_n 1, 1) := by decide +kernel
theorem dX0_add_39 : decode cX0_add 39 = .ok (.aastore, 1) := by decide +kernel
theorem dX0_add_40 : decode cX0_add 40 = .ok (.aload_n 0, 1) := by decide +kernel
theorem dX0_add_41 : decode cX0_add 41 = .ok (.getfield 24, 3) := by decide +kernel
theorem dX0_add_44 : decode cX0_add 44 = .ok (.aload_n 1, 1) := by decide +kernel
theorem dX0_add_45 : decode cX0_add 45 = .ok (.getfield 50, 3) := by decide +kernel
theorem dX0_add_48 : decode cX0_add 48 = .ok (.dup2, 1) := by decide +kernel
theorem dX0_add_49 : decode cX0_add 49 = .ok (.iaload, 1) := by decide +kernel
theorem dX0_add_50 : decode cX0_add 50 = .ok (.iconst 1, 1) := by decide +kernel
theorem dX0_add_51 : decode cX0_add 51 = .ok (.iadd, 1) := by decide +kernel
theorem dX0_add_52 : decode cX0_add 52 = .ok (.iastore, 1) := by decide +kernel
theorem dX0_add_53 : decode cX0_add 53 = .ok (.return_, 1) := by decide +kernel
theorem kd_0_add : Cond.code yX0_add cX0_add 2 none ∈ lw_g := mt_at 1066 (by decide +kernel) rfl
theorem ki_0_add : Cond.instanceMethod yX0_add ∈ lw_g := mt_at 1064 (by decide +kernel) rfl
theorem kl_0_add : Cond.selects (kRn 0) yX0_add yX0_add ∈ lw_g := mt_at 1065 (by decide +kernel) rfl
section
variable {p : Program} {l : Launch} {e : Env} {R : Room} {s : State} {m : MethodId} {args : Array Value} {below : List Frame} {meth : Method} {c : Code} {H : Heap} {locs : List Loc} {cells slots : Nat} {Q : State → Prop}
variable {D : cG} {S S0 : cSt} {cc : ByteArray} {nL : Nat} {pc : Nat} {ls : Array Slot} {rest : List Value} {H0 : Heap} {nF nR nC nS : Nat} {ret : Option FieldType} {a : Nat}
theorem gk0_47 (C : cY p R s m args meth c RX0 cc nL nF nC nS nR ret) (X : cX D s) (hW : cW D S H) (hk : kK S a = 9) (hdg : decode cc pc = .ok (.getfield 47, 3)) (kk : W p l e R s m args below meth c H locs cells slots Q (F0 m (pc + 3) ls (.int (kF S a 12) :: rest))) : W p l e R s m args below meth c H locs cells slots Q (F0 m pc ls (.ref a :: rest)) := c_get C X hW 8 (by decide) ly_8 hk 12 (by decide) (mt_at 1028 (by decide +kernel) (by decide +kernel)) hdg (by rw [cV_I (by decide +kernel)]; exact kk)
theorem gk0_50 (C : cY p R s m args meth c RX0 cc nL nF nC nS nR ret) (X : cX D s) (hW : cW D S H) (hk : kK S a = 9) (hdg : decode cc pc = .ok (.getfield 50, 3)) (kk : W p l e R s m args below meth c H locs cells slots Q (F0 m (pc + 3) ls (.int (kF S a 6) :: rest))) : W p l e R s m args below meth c H locs cells slots Q (F0 m pc ls (.ref a :: rest)) := c_get C X hW 8 (by decide) ly_8 hk 6 (by decide) (mt_at 997 (by decide +kernel) (by decide +kernel)) hdg (by rw [cV_I (by decide +kernel)]; exact kk)
theorem gk0_53 (C : cY p R s m args meth c RX0 cc nL nF nC nS nR ret) (X : cX D s) (hW : cW D S H) (hk : kK S a = 9) (hdg : decode cc pc = .ok (.getfield 53, 3)) (kk : W p l e R s m args below meth c H locs cells slots Q (F0 m (pc + 3) ls (.int (kF S a 7) :: rest))) : W p l e R s m args below meth c H locs cells slots Q (F0 m pc ls (.ref a :: rest)) := c_get C X hW 8 (by decide) ly_8 hk 7 (by decide) (mt_at 1002 (by decide +kernel) (by decide +kernel)) hdg (by rw [cV_I (by decide +kernel)]; exact kk)
end
section
variable {p : Program} {l : Launch} {e : Env} {R : Room} {s : State} {m : MethodId} {args : Array Value} {below : List Frame} {meth : Method} {c : Code} {D : cG} {S0 S9 : cSt}
noncomputable def fk_0_add_53 (S : cSt) : Option (cSt) :=
some S
set_option maxRecDepth 100000 in
set_option maxHeartbeats 4000000 in
theorem wk_0_add_53 (C : cY p R s m args meth c RX0 cX0_add 2 0 0 0 0 none) (X : cX D s) : ∀ {S : cSt} {H : Heap} {locs : List Loc} {ls : Array Slot}, fk_0_add_53 S = some S9 → cJ D S0 s.heap S H locs → lv_has ls 2 [] → W p l e R s m args below meth c H locs 0 0 (MQ below (kW none D S0 S9) args s 0 0 (cA S0)) (F0 m 53 ls []) := by
  intro S H locs ls h hJ hl
  unfold fk_0_add_53 at h
  cases h
  exact c_retvW C hJ dX0_add_53
noncomputable def fk_0_add (S : cSt) (v0 : Nat) (v1 : Nat) : Option (cSt) :=
ckk S v0 1 (bd (kR S v0 0) fun a1 =>
ckk S v1 9 (
ckk S a1 30 (ck (kF S v1 12) (kL S a1) (ckq S (some v1) 9 (lt (cWo S a1 (Int32.toNatClampNeg (kF S v1 12)) (some v1)) fun S2 =>
ckk S2 v0 1 (bd (kR S2 v0 2) fun a3 =>
ckk S2 v1 9 (
ckk S2 v1 9 (
ckk S2 a3 20 (ck (kF S2 v1 6) (kL S2 a3) (lt (cWi S2 a3 (Int32.toNatClampNeg (kF S2 v1 6)) (kF S2 v1 7)) fun S4 =>
ckk S4 v1 9 (
if (kF S4 v1 0) = 0 then (
ckk S4 v0 1 (bd (kR S4 v0 1) fun a6 =>
ckk S4 v1 9 (
ckk S4 a6 30 (ck (kF S4 v1 1) (kL S4 a6) (ckq S4 (some v1) 9 (lt (cWo S4 a6 (Int32.toNatClampNeg (kF S4 v1 1)) (some v1)) fun S7 =>
ckk S7 v0 1 (bd (kR S7 v0 3) fun a8 =>
ckk S7 v1 9 (
ckk S7 a8 20 (ck (kF S7 v1 6) (kL S7 a8) (
ckk S7 a8 20 (ck (kF S7 v1 6) (kL S7 a8) (lt (cWi S7 a8 (Int32.toNatClampNeg (kF S7 v1 6)) ((kI S7 a8 (Int32.toNatClampNeg (kF S7 v1 6))) + (1 : Int32))) fun S10 =>
fk_0_add_53 S10))))))))))))
else (
fk_0_add_53 S4))))))))))))
set_option maxRecDepth 100000 in
set_option maxHeartbeats 4000000 in
theorem tk_0_add (l : Launch) {D : cG} {S : cSt} {v0 : Nat} {v1 : Nat} {S9 : cSt} (h : fk_0_add S v0 v1 = some S9) : Met l yX0_add (Cond.code yX0_add cX0_add 2 none :: lw_g) { frames := 0, cells := 0, slots := 0, locals := 0 } (kPi [.ref v0, .ref v1] D S) (kW none D S S9) 0 0 (cA S) := by
  refine Met.ofW (cc := cX0_add) (maxL := 2) (ret := none) (by decide) rfl ?_
  intro p e s m args below meth c s₁ B hml hv
  obtain ⟨rfl, hW, X⟩ := hv
  have C : cY p (headSpec (Cond.code yX0_add cX0_add 2 none :: lw_g) { frames := 0, cells := 0, slots := 0, locals := 0 }).room s m _ meth c RX0 cX0_add 2 0 0 0 0 none := ⟨B.exec, B.bytes, hml, findClass_of_methodNamed B.named, fun w hw => atoms_spec (ws := Cond.code yX0_add cX0_add 2 none :: lw_g) B.pre w (List.mem_cons_of_mem _ hw), ⟨Nat.le_refl _, Nat.le_refl _, Nat.le_refl _, Nat.le_refl _⟩, B.returns, B.notSynchronized⟩
  have hl := lv_entry ([.ref v0, .ref v1]) (n := 2) (Nat.le_of_ble_eq_true rfl)
  rw [lg_entry_eq]
  generalize (lg_sl ([.ref v0, .ref v1]) ++ List.replicate (2 - (lg_sl ([.ref v0, .ref v1])).length) Slot.unset).toArray = ls at hl ⊢
  have hl : lv_has ls 2 [(0, .ref v0), (1, .ref v1)] := hl
  have hJ : cJ D S s.heap S s.heap [] := cJ.rf hW
  unfold fk_0_add at h
  refine lv_aload_n C.1 C.2.1 dX0_add_0 rfl (lv_at hl 0 rfl) ?_
  obtain ⟨hk, h⟩ := ckk_ok h
  obtain ⟨a1, h_a1, h⟩ := bd_ok h
  refine gk0_11 C X hJ.1 hk h_a1 dX0_add_1 ?_
  refine lv_aload_n C.1 C.2.1 dX0_add_4 rfl (lv_at hl 1 rfl) ?_
  obtain ⟨hk, h⟩ := ckk_ok h
  refine gk0_47 C X hJ.1 hk dX0_add_5 ?_
  refine lv_aload_n C.1 C.2.1 dX0_add_8 rfl (lv_at hl 1 rfl) ?_
  obtain ⟨hk, h⟩ := ckk_ok h
  obtain ⟨hin2, h⟩ := ck_ok h
  obtain ⟨hkv, h⟩ := ckq_ok h
  refine c_aastq (o := (some v1)) C X 30 8 (by decide) (by decide) X.2.2.2.2.1 hJ hk hkv hin2 dX0_add_9 (fun H locs hJ => ?_)
  refine lt_ok h (fun S2 e_S2 h => ?_)
  rw [e_S2] at hJ
  refine lv_aload_n C.1 C.2.1 dX0_add_10 rfl (lv_at hl 0 rfl) ?_
  obtain ⟨hk, h⟩ := ckk_ok h
  obtain ⟨a3, h_a3, h⟩ := bd_ok h
  refine gk0_20 C X hJ.1 hk h_a3 dX0_add_11 ?_
  refine lv_aload_n C.1 C.2.1 dX0_add_14 rfl (lv_at hl 1 rfl) ?_
  obtain ⟨hk, h⟩ := ckk_ok h
  refine gk0_50 C X hJ.1 hk dX0_add_15 ?_
  refine lv_aload_n C.1 C.2.1 dX0_add_18 rfl (lv_at hl 1 rfl) ?_
  obtain ⟨hk, h⟩ := ckk_ok h
  refine gk0_53 C X hJ.1 hk dX0_add_19 ?_
  obtain ⟨hk, h⟩ := ckk_ok h
  obtain ⟨hin2, h⟩ := ck_ok h
  refine c_iast C X hJ hk hin2 dX0_add_22 (fun H locs hJ => ?_)
  refine lt_ok h (fun S4 e_S4 h => ?_)
  rw [e_S4] at hJ
  refine lv_aload_n C.1 C.2.1 dX0_add_23 rfl (lv_at hl 1 rfl) ?_
  obtain ⟨hk, h⟩ := ckk_ok h
  refine gk0_31 C X hJ.1 hk dX0_add_24 ?_
  refine lv_if_ne (tgt := 53) C.1 C.2.1 dX0_add_27 (by decide) (fun c5 => ?_) (fun c5 => ?_)
  · have h := if_f h c5
    exact wk_0_add_53 C X h hJ (lv_sub hl [] rfl)
  · have h := if_t h c5
    refine lv_aload_n C.1 C.2.1 dX0_add_30 rfl (lv_at hl 0 rfl) ?_
    obtain ⟨hk, h⟩ := ckk_ok h
    obtain ⟨a6, h_a6, h⟩ := bd_ok h
    refine gk0_17 C X hJ.1 hk h_a6 dX0_add_31 ?_
    refine lv_aload_n C.1 C.2.1 dX0_add_34 rfl (lv_at hl 1 rfl) ?_
    obtain ⟨hk, h⟩ := ckk_ok h
    refine gk0_35 C X hJ.1 hk dX0_add_35 ?_
    refine lv_aload_n C.1 C.2.1 dX0_add_38 rfl (lv_at hl 1 rfl) ?_
    obtain ⟨hk, h⟩ := ckk_ok h
    obtain ⟨hin2, h⟩ := ck_ok h
    obtain ⟨hkv, h⟩ := ckq_ok h
    refine c_aastq (o := (some v1)) C X 30 8 (by decide) (by decide) X.2.2.2.2.1 hJ hk hkv hin2 dX0_add_39 (fun H locs hJ => ?_)
    refine lt_ok h (fun S7 e_S7 h => ?_)
    rw [e_S7] at hJ
    refine lv_aload_n C.1 C.2.1 dX0_add_40 rfl (lv_at hl 0 rfl) ?_
    obtain ⟨hk, h⟩ := ckk_ok h
    obtain ⟨a8, h_a8, h⟩ := bd_ok h
    refine gk0_24 C X hJ.1 hk h_a8 dX0_add_41 ?_
    refine lv_aload_n C.1 C.2.1 dX0_add_44 rfl (lv_at hl 1 rfl) ?_
    obtain ⟨hk, h⟩ := ckk_ok h
    refine gk0_50 C X hJ.1 hk dX0_add_45 ?_
    refine lv_dup2_11 C.1 C.2.1 dX0_add_48 rfl rfl ?_
    obtain ⟨hk, h⟩ := ckk_ok h
    obtain ⟨hin2, h⟩ := ck_ok h
    refine c_iald C X hJ.1 hk hin2 dX0_add_49 ?_
    refine lv_iconst (v := 1) C.1 C.2.1 dX0_add_50 (by decide) ?_
    refine lv_iadd C.1 C.2.1 dX0_add_51 ?_
    obtain ⟨hk, h⟩ := ckk_ok h
    obtain ⟨hin2, h⟩ := ck_ok h
    refine c_iast C X hJ hk hin2 dX0_add_52 (fun H locs hJ => ?_)
    refine lt_ok h (fun S10 e_S10 h => ?_)
    rw [e_S10] at hJ
    exact wk_0_add_53 C X h hJ (lv_sub hl [] rfl)
end
theorem dX1_init_0 : decode cX1_init 0 = .ok (.aload_n 0, 1) := by decide +kernel
theorem dX1_init_1 : decode cX1_init 1 = .ok (.invokespecial 3, 3) := by decide +kernel
theorem dX1_init_4 : decode cX1_init 4 = .ok (.return_, 1) := by decide +kernel
theorem kd_1_init : Cond.code yX1_init cX1_init 1 none ∈ lw_g := mt_at 159 (by decide +kernel) rfl
theorem ki_1_init : Cond.instanceMethod yX1_init ∈ lw_g := mt_at 158 (by decide +kernel) rfl
theorem oi1 : Cond.methodLink RX1 3 objectInit ∈ lw_g := mt_at 160 (by decide +kernel) rfl
section
variable {p : Program} {l : Launch} {e : Env} {R : Room} {s : State} {m : MethodId} {args : Array Value} {below : List Frame} {meth : Method} {c : Code} {D : cG} {S0 S9 : cSt}
noncomputable def fk_1_init (S : cSt) (v0 : Nat) : Option (cSt) :=
some S
set_option maxRecDepth 100000 in
set_option maxHeartbeats 4000000 in
theorem tk_1_init (l : Launch) {D : cG} {S : cSt} {v0 : Nat} {S9 : cSt} (h : fk_1_init S v0 = some S9) : Met l yX1_init (Cond.code yX1_init cX1_init 1 none :: lw_g) { frames := 2, cells := 0, slots := 0, locals := 60 } (kPi [.ref v0] D S) (kW none D S S9) 0 0 (cA S) := by
  refine Met.ofW (cc := cX1_init) (maxL := 1) (ret := none) (by decide) rfl ?_
  intro p e s m args below meth c s₁ B hml hv
  obtain ⟨rfl, hW, X⟩ := hv
  have C : cY p (headSpec (Cond.code yX1_init cX1_init 1 none :: lw_g) { frames := 2, cells := 0, slots := 0, locals := 60 }).room s m _ meth c RX1 cX1_init 1 2 0 0 60 none := ⟨B.exec, B.bytes, hml, findClass_of_methodNamed B.named, fun w hw => atoms_spec (ws := Cond.code yX1_init cX1_init 1 none :: lw_g) B.pre w (List.mem_cons_of_mem _ hw), ⟨Nat.le_refl _, Nat.le_refl _, Nat.le_refl _, Nat.le_refl _⟩, B.returns, B.notSynchronized⟩
  have hin : meth.name = "<init>" := (name_of_methodNamed B.named B.method).1
  have hl := lv_entry ([.ref v0]) (n := 1) (Nat.le_of_ble_eq_true rfl)
  rw [lg_entry_eq]
  generalize (lg_sl ([.ref v0]) ++ List.replicate (1 - (lg_sl ([.ref v0])).length) Slot.unset).toArray = ls at hl ⊢
  have hl : lv_has ls 1 [(0, .ref v0)] := hl
  have hJ : cJ D S s.heap S s.heap [] := cJ.rf hW
  unfold fk_1_init at h
  refine lv_aload_n C.1 C.2.1 dX1_init_0 rfl (lv_at hl 0 rfl) ?_
  refine W.objInit C.1 C.2.1 C.2.2.2.1 (C.2.2.2.2.1 _ oi1) (C.2.2.2.2.1 _ oi_i) (C.2.2.2.2.1 _ oi_c) rfl (by rw [C.2.2.1]; exact hl.1) rfl dX1_init_1 (Nat.le_trans (by decide) C.2.2.2.2.2.1.1) (Nat.le_trans (Nat.le_of_ble_eq_true rfl) C.2.2.2.2.2.1.2.2.2) ?_
  refine W.eq (g2 := F0 m 4 ls []) rfl ?_
  cases h
  exact c_retvW C hJ dX1_init_4
end
theorem dJ0_isLatin1_aae02_0 : decode cJ0_isLatin1_aae02 0 = .ok (.getstatic 38, 3) := by decide +kernel
theorem dJ0_isLatin1_aae02_3 : decode cJ0_isLatin1_aae02 3 = .ok (.ifCond .eq 14, 3) := by decide +kernel
theorem dJ0_isLatin1_aae02_6 : decode cJ0_isLatin1_aae02 6 = .ok (.aload_n 0, 1) := by decide +kernel
theorem dJ0_isLatin1_aae02_7 : decode cJ0_isLatin1_aae02 7 = .ok (.getfield 15, 3) := by decide +kernel
theorem dJ0_isLatin1_aae02_10 : decode cJ0_isLatin1_aae02 10 = .ok (.ifCond .ne 7, 3) := by decide +kernel
theorem dJ0_isLatin1_aae02_13 : decode cJ0_isLatin1_aae02 13 = .ok (.iconst 1, 1) := by decide +kernel
theorem dJ0_isLatin1_aae02_14 : decode cJ0_isLatin1_aae02 14 = .ok (.goto 4, 3) := by decide +kernel
theorem dJ0_isLatin1_aae02_17 : decode cJ0_isLatin1_aae02 17 = .ok (.iconst 0, 1) := by decide +kernel
theorem dJ0_isLatin1_aae02_18 : decode cJ0_isLatin1_aae02 18 = .ok (.ireturn, 1) := by decide +kernel
theorem kd_100_isLatin1_aae02 : Cond.code yJ0_isLatin1_aae02 cJ0_isLatin1_aae02 1 (some .boolean) ∈ lw_g := mt_at 468 (by decide +kernel) rfl
theorem ki_100_isLatin1_aae02 : Cond.instanceMethod yJ0_isLatin1_aae02 ∈ lw_g := mt_at 466 (by decide +kernel) rfl
theorem kl_100_isLatin1_aae02 : Cond.selects (kRn 12) yJ0_isLatin1_aae02 yJ0_isLatin1_aae02 ∈ lw_g := mt_at 467 (by decide +kernel) rfl
theorem sg100_38 : Cond.fieldLink RJ0 38 "java/lang/String" "COMPACT_STRINGS" "Z" ∈ lw_g := mt_at 469 (by decide +kernel) rfl
section
variable {p : Program} {l : Launch} {e : Env} {R : Room} {s : State} {m : MethodId} {args : Array Value} {below : List Frame} {meth : Method} {c : Code} {H : Heap} {locs : List Loc} {cells slots : Nat} {Q : State → Prop}
variable {D : cG} {S S0 : cSt} {cc : ByteArray} {nL : Nat} {pc : Nat} {ls : Array Slot} {rest : List Value} {H0 : Heap} {nF nR nC nS : Nat} {ret : Option FieldType} {a : Nat}
theorem gk100_15 (C : cY p R s m args meth c RJ0 cc nL nF nC nS nR ret) (X : cX D s) (hW : cW D S H) (hk : kK S a = 13) (hdg : decode cc pc = .ok (.getfield 15, 3)) (kk : W p l e R s m args below meth c H locs cells slots Q (F0 m (pc + 3) ls (.int (kF S a 1) :: rest))) : W p l e R s m args below meth c H locs cells slots Q (F0 m pc ls (.ref a :: rest)) := c_get C X hW 12 (by decide) ly_12 hk 1 (by decide) (mt_at 914 (by decide +kernel) (by decide +kernel)) hdg (by rw [cV_I (by decide +kernel)]; exact kk)
end
section
variable {p : Program} {l : Launch} {e : Env} {R : Room} {s : State} {m : MethodId} {args : Array Value} {below : List Frame} {meth : Method} {c : Code} {D : cG} {S : cSt} {r : Int32}
noncomputable def fk_100_isLatin1_aae02_18 (S : cSt) (s0 : Int32) : Option (Int32) :=
ckz s0 (some s0)
set_option maxRecDepth 100000 in
set_option maxHeartbeats 4000000 in
theorem wk_100_isLatin1_aae02_18 (C : cY p R s m args meth c RJ0 cJ0_isLatin1_aae02 1 0 0 0 0 (some .boolean)) (X : cX D s) (hW : cW D S s.heap) : ∀ {s0 : Int32} {ls : Array Slot}, fk_100_isLatin1_aae02_18 S s0 = some r → lv_has ls 1 [] → W p l e R s m args below meth c s.heap [] 0 0 (MQ below (kQ (some (.int r))) args s 0 0 mNo) (F0 m 18 ls [.int s0]) := by
  intro s0 ls h hl
  unfold fk_100_isLatin1_aae02_18 at h
  obtain ⟨hzo, h⟩ := ckz_ok h
  cases h
  exact c_retn C (by rcases hzo with h9 | h9 <;> (rw [h9]; rfl)) rfl rfl dJ0_isLatin1_aae02_18
noncomputable def fk_100_isLatin1_aae02_17 (S : cSt) : Option (Int32) :=
fk_100_isLatin1_aae02_18 S (0 : Int32)
set_option maxRecDepth 100000 in
set_option maxHeartbeats 4000000 in
theorem wk_100_isLatin1_aae02_17 (C : cY p R s m args meth c RJ0 cJ0_isLatin1_aae02 1 0 0 0 0 (some .boolean)) (X : cX D s) (hW : cW D S s.heap) : ∀ {ls : Array Slot}, fk_100_isLatin1_aae02_17 S = some r → lv_has ls 1 [] → W p l e R s m args below meth c s.heap [] 0 0 (MQ below (kQ (some (.int r))) args s 0 0 mNo) (F0 m 17 ls []) := by
  intro ls h hl
  unfold fk_100_isLatin1_aae02_17 at h
  refine lv_iconst (v := 0) C.1 C.2.1 dJ0_isLatin1_aae02_17 (by decide) ?_
  exact wk_100_isLatin1_aae02_18 C X hW h (lv_sub hl [] rfl)
noncomputable def fk_100_isLatin1_aae02 (S : cSt) (v0 : Nat) : Option (Int32) :=
if (1 : Int32) = 0 then (
fk_100_isLatin1_aae02_17 S)
else (
ckk S v0 13 (
if (kF S v0 1) = 0 then (
fk_100_isLatin1_aae02_18 S (1 : Int32))
else (
fk_100_isLatin1_aae02_17 S)))
set_option maxRecDepth 100000 in
set_option maxHeartbeats 4000000 in
theorem tk_100_isLatin1_aae02 (l : Launch) {D : cG} {S : cSt} {v0 : Nat} {r : Int32}  (h : fk_100_isLatin1_aae02 S v0 = some r) : Met l yJ0_isLatin1_aae02 (Cond.code yJ0_isLatin1_aae02 cJ0_isLatin1_aae02 1 (some .boolean) :: lw_g) { frames := 0, cells := 0, slots := 0, locals := 0 } (kPi [.ref v0] D S) (kQ (some (.int r))) 0 0 (mNo) := by
  refine Met.ofW (cc := cJ0_isLatin1_aae02) (maxL := 1) (ret := (some .boolean)) (by decide) rfl ?_
  intro p e s m args below meth c s₁ B hml hv
  obtain ⟨rfl, hW, X⟩ := hv
  have C : cY p (headSpec (Cond.code yJ0_isLatin1_aae02 cJ0_isLatin1_aae02 1 (some .boolean) :: lw_g) { frames := 0, cells := 0, slots := 0, locals := 0 }).room s m _ meth c RJ0 cJ0_isLatin1_aae02 1 0 0 0 0 (some .boolean) := ⟨B.exec, B.bytes, hml, findClass_of_methodNamed B.named, fun w hw => atoms_spec (ws := Cond.code yJ0_isLatin1_aae02 cJ0_isLatin1_aae02 1 (some .boolean) :: lw_g) B.pre w (List.mem_cons_of_mem _ hw), ⟨Nat.le_refl _, Nat.le_refl _, Nat.le_refl _, Nat.le_refl _⟩, B.returns, B.notSynchronized⟩
  have hl := lv_entry ([.ref v0]) (n := 1) (Nat.le_of_ble_eq_true rfl)
  rw [lg_entry_eq]
  generalize (lg_sl ([.ref v0]) ++ List.replicate (1 - (lg_sl ([.ref v0])).length) Slot.unset).toArray = ls at hl ⊢
  have hl : lv_has ls 1 [(0, .ref v0)] := hl
  unfold fk_100_isLatin1_aae02 at h
  refine c_gets C X.2.2.2.2.2.2.2.2.2.2.1 hW sg100_38 dJ0_isLatin1_aae02_0 (fun y1 h_y1 => ?_)
  subst h_y1
  refine lv_if_eq (tgt := 17) C.1 C.2.1 dJ0_isLatin1_aae02_3 (by decide) (fun c2 => ?_) (fun c2 => ?_)
  · have h := if_t h c2
    exact wk_100_isLatin1_aae02_17 C X hW h (lv_sub hl [] rfl)
  · have h := if_f h c2
    refine lv_aload_n C.1 C.2.1 dJ0_isLatin1_aae02_6 rfl (lv_at hl 0 rfl) ?_
    obtain ⟨hk, h⟩ := ckk_ok h
    refine gk100_15 C X hW hk dJ0_isLatin1_aae02_7 ?_
    refine lv_if_ne (tgt := 17) C.1 C.2.1 dJ0_isLatin1_aae02_10 (by decide) (fun c3 => ?_) (fun c3 => ?_)
    · have h := if_f h c3
      exact wk_100_isLatin1_aae02_17 C X hW h (lv_sub hl [] rfl)
    · have h := if_t h c3
      refine lv_iconst (v := 1) C.1 C.2.1 dJ0_isLatin1_aae02_13 (by decide) ?_
      refine lv_goto (tgt := 18) C.1 C.2.1 dJ0_isLatin1_aae02_14 (by decide) ?_
      exact wk_100_isLatin1_aae02_18 C X hW h (lv_sub hl [] rfl)
end
theorem dJ3_checkIndex_8e157_0 : decode cJ3_checkIndex_8e157 0 = .ok (.iload_n 0, 1) := by decide +kernel
theorem dJ3_checkIndex_8e157_1 : decode cJ3_checkIndex_8e157 1 = .ok (.ifCond .lt 8, 3) := by decide +kernel
theorem dJ3_checkIndex_8e157_4 : decode cJ3_checkIndex_8e157 4 = .ok (.iload_n 0, 1) := by decide +kernel
theorem dJ3_checkIndex_8e157_5 : decode cJ3_checkIndex_8e157 5 = .ok (.iload_n 1, 1) := by decide +kernel
theorem dJ3_checkIndex_8e157_6 : decode cJ3_checkIndex_8e157 6 = .ok (.if_icmp .lt 10, 3) := by decide +kernel
theorem dJ3_checkIndex_8e157_9 : decode cJ3_checkIndex_8e157 9 = .ok (.aload_n 2, 1) := by decide +kernel
theorem dJ3_checkIndex_8e157_10 : decode cJ3_checkIndex_8e157 10 = .ok (.iload_n 0, 1) := by decide +kernel
theorem dJ3_checkIndex_8e157_11 : decode cJ3_checkIndex_8e157 11 = .ok (.iload_n 1, 1) := by decide +kernel
theorem dJ3_checkIndex_8e157_12 : decode cJ3_checkIndex_8e157 12 = .ok (.invokestatic 95, 3) := by decide +kernel
theorem dJ3_checkIndex_8e157_15 : decode cJ3_checkIndex_8e157 15 = .ok (.athrow, 1) := by decide +kernel
theorem dJ3_checkIndex_8e157_16 : decode cJ3_checkIndex_8e157 16 = .ok (.iload_n 0, 1) := by decide +kernel
theorem dJ3_checkIndex_8e157_17 : decode cJ3_checkIndex_8e157 17 = .ok (.ireturn, 1) := by decide +kernel
theorem kd_103_checkIndex_8e157 : Cond.code yJ3_checkIndex_8e157 cJ3_checkIndex_8e157 3 (some .int) ∈ lw_g := mt_at 481 (by decide +kernel) rfl
theorem ks_103_checkIndex_8e157 : Cond.static yJ3_checkIndex_8e157 ∈ lw_g := mt_at 480 (by decide +kernel) rfl
section
variable {p : Program} {l : Launch} {e : Env} {R : Room} {s : State} {m : MethodId} {args : Array Value} {below : List Frame} {meth : Method} {c : Code} {D : cG} {r : Int32}
noncomputable def fk_103_checkIndex_8e157 (v0 : Int32) (v1 : Int32) : Option (Int32) :=
if v0 < 0 then (
none)
else (
if v0 < v1 then (
some v0)
else (
none))
set_option maxRecDepth 100000 in
set_option maxHeartbeats 4000000 in
theorem tk_103_checkIndex_8e157 (l : Launch) {v0 : Int32} {v1 : Int32} {v2 : Option Nat} {r : Int32}  (h : fk_103_checkIndex_8e157 v0 v1 = some r) : Met l yJ3_checkIndex_8e157 (Cond.code yJ3_checkIndex_8e157 cJ3_checkIndex_8e157 3 (some .int) :: lw_g) { frames := 0, cells := 0, slots := 0, locals := 0 } (mPs [.int v0, .int v1, va_rf v2]) (kQ (some (.int r))) 0 0 (mNo) := by
  refine Met.ofW (cc := cJ3_checkIndex_8e157) (maxL := 3) (ret := (some .int)) (by decide) rfl ?_
  intro p e s m args below meth c s₁ B hml hv
  obtain rfl := hv
  have C : cY p (headSpec (Cond.code yJ3_checkIndex_8e157 cJ3_checkIndex_8e157 3 (some .int) :: lw_g) { frames := 0, cells := 0, slots := 0, locals := 0 }).room s m _ meth c RJ3 cJ3_checkIndex_8e157 3 0 0 0 0 (some .int) := ⟨B.exec, B.bytes, hml, findClass_of_methodNamed B.named, fun w hw => atoms_spec (ws := Cond.code yJ3_checkIndex_8e157 cJ3_checkIndex_8e157 3 (some .int) :: lw_g) B.pre w (List.mem_cons_of_mem _ hw), ⟨Nat.le_refl _, Nat.le_refl _, Nat.le_refl _, Nat.le_refl _⟩, B.returns, B.notSynchronized⟩
  have hl := lv_entry ([.int v0, .int v1, va_rf v2]) (n := 3) (by cases v2 <;> exact Nat.le_of_ble_eq_true rfl)
  rw [lg_entry_eq]
  generalize (lg_sl ([.int v0, .int v1, va_rf v2]) ++ List.replicate (3 - (lg_sl ([.int v0, .int v1, va_rf v2])).length) Slot.unset).toArray = ls at hl ⊢
  have hl : lv_has ls 3 [(0, .int v0), (1, .int v1), (2, va_rf v2)] := hl
  unfold fk_103_checkIndex_8e157 at h
  refine lv_iload_n C.1 C.2.1 dJ3_checkIndex_8e157_0 rfl (lv_at hl 0 rfl) ?_
  refine lv_if_lt (tgt := 9) C.1 C.2.1 dJ3_checkIndex_8e157_1 (by decide) (fun c1 => ?_) (fun c1 => ?_)
  · have h := if_t h c1
    cases h
  · have h := if_f h c1
    refine lv_iload_n C.1 C.2.1 dJ3_checkIndex_8e157_4 rfl (lv_at hl 0 rfl) ?_
    refine lv_iload_n C.1 C.2.1 dJ3_checkIndex_8e157_5 rfl (lv_at hl 1 rfl) ?_
    refine lv_icmp_lt (tgt := 16) C.1 C.2.1 dJ3_checkIndex_8e157_6 (by decide) (fun c2 => ?_) (fun c2 => ?_)
    · have h := if_t h c2
      refine lv_iload_n C.1 C.2.1 dJ3_checkIndex_8e157_16 rfl (lv_at hl 0 rfl) ?_
      cases h
      exact c_reti C rfl rfl dJ3_checkIndex_8e157_17
    · have h := if_f h c2
      cases h
end
theorem dJ0_checkIndex_df160_0 : decode cJ0_checkIndex_df160 0 = .ok (.iload_n 0, 1) := by decide +kernel
theorem dJ0_checkIndex_df160_1 : decode cJ0_checkIndex_df160 1 = .ok (.iload_n 1, 1) := by decide +kernel
theorem dJ0_checkIndex_df160_2 : decode cJ0_checkIndex_df160 2 = .ok (.getstatic 1053, 3) := by decide +kernel
theorem dJ0_checkIndex_df160_5 : decode cJ0_checkIndex_df160 5 = .ok (.invokestatic 1059, 3) := by decide +kernel
theorem dJ0_checkIndex_df160_8 : decode cJ0_checkIndex_df160 8 = .ok (.pop, 1) := by decide +kernel
theorem dJ0_checkIndex_df160_9 : decode cJ0_checkIndex_df160 9 = .ok (.return_, 1) := by decide +kernel
theorem kd_100_checkIndex_df160 : Cond.code yJ0_checkIndex_df160 cJ0_checkIndex_df160 2 none ∈ lw_g := mt_at 476 (by decide +kernel) rfl
theorem ks_100_checkIndex_df160 : Cond.static yJ0_checkIndex_df160 ∈ lw_g := mt_at 475 (by decide +kernel) rfl
theorem cw100_1059 : cCw RJ0 1059 yJ3_checkIndex_8e157 cJ3_checkIndex_8e157 3 (some .int) 3 := ⟨kd_103_checkIndex_8e157, mt_at 479 (by decide +kernel) rfl, mt_at 16 (by decide +kernel) rfl, by decide +kernel⟩
theorem sg100_1053 : Cond.fieldLink RJ0 1053 "jdk/internal/util/Preconditions" "SIOOBE_FORMATTER" "Ljava/util/function/BiFunction;" ∈ lw_g := mt_at 477 (by decide +kernel) rfl
section
variable {p : Program} {l : Launch} {e : Env} {R : Room} {s : State} {m : MethodId} {args : Array Value} {below : List Frame} {meth : Method} {c : Code} {D : cG} {S : cSt}
noncomputable def fk_100_checkIndex_df160 (S : cSt) (v0 : Int32) (v1 : Int32) : Option (Unit) :=
bd (fk_103_checkIndex_8e157 v0 v1) fun r2 =>
some ()
set_option maxRecDepth 100000 in
set_option maxHeartbeats 4000000 in
theorem tk_100_checkIndex_df160 (l : Launch) {D : cG} {S : cSt} {v0 : Int32} {v1 : Int32}  (h : fk_100_checkIndex_df160 S v0 v1 = some ()) : Met l yJ0_checkIndex_df160 (Cond.code yJ0_checkIndex_df160 cJ0_checkIndex_df160 2 none :: lw_g) { frames := 1, cells := 0, slots := 0, locals := 22 } (kPi [.int v0, .int v1] D S) (kQ none) 0 0 (mNo) := by
  refine Met.ofW (cc := cJ0_checkIndex_df160) (maxL := 2) (ret := none) (by decide) rfl ?_
  intro p e s m args below meth c s₁ B hml hv
  obtain ⟨rfl, hW, X⟩ := hv
  have C : cY p (headSpec (Cond.code yJ0_checkIndex_df160 cJ0_checkIndex_df160 2 none :: lw_g) { frames := 1, cells := 0, slots := 0, locals := 22 }).room s m _ meth c RJ0 cJ0_checkIndex_df160 2 1 0 0 22 none := ⟨B.exec, B.bytes, hml, findClass_of_methodNamed B.named, fun w hw => atoms_spec (ws := Cond.code yJ0_checkIndex_df160 cJ0_checkIndex_df160 2 none :: lw_g) B.pre w (List.mem_cons_of_mem _ hw), ⟨Nat.le_refl _, Nat.le_refl _, Nat.le_refl _, Nat.le_refl _⟩, B.returns, B.notSynchronized⟩
  have hl := lv_entry ([.int v0, .int v1]) (n := 2) (Nat.le_of_ble_eq_true rfl)
  rw [lg_entry_eq]
  generalize (lg_sl ([.int v0, .int v1]) ++ List.replicate (2 - (lg_sl ([.int v0, .int v1])).length) Slot.unset).toArray = ls at hl ⊢
  have hl : lv_has ls 2 [(0, .int v0), (1, .int v1)] := hl
  unfold fk_100_checkIndex_df160 at h
  refine lv_iload_n C.1 C.2.1 dJ0_checkIndex_df160_0 rfl (lv_at hl 0 rfl) ?_
  refine lv_iload_n C.1 C.2.1 dJ0_checkIndex_df160_1 rfl (lv_at hl 1 rfl) ?_
  refine c_gets C X.2.2.2.2.2.2.2.2.2.2.2.1 hW sg100_1053 dJ0_checkIndex_df160_2 (fun y1 h_y1 => ?_)
  obtain ⟨y1, rfl⟩ := h_y1
  obtain ⟨r2, h_r2, h⟩ := bd_ok h
  refine c_callS (rest := []) C hl.1 [.int v0, .int v1, va_rf y1] (tk_103_checkIndex_8e157 l h_r2) cw100_1059 ks_103_checkIndex_8e157 rfl ⟨by decide, by decide⟩ ⟨(by decide), (by decide)⟩ rfl (Nat.le_of_ble_eq_true rfl) dJ0_checkIndex_df160_5 ?_
  refine W.eq (g2 := F0 m 8 ls [.int r2]) rfl ?_
  refine lv_pop C.1 C.2.1 dJ0_checkIndex_df160_8 rfl ?_
  cases h
  exact c_retv C rfl rfl dJ0_checkIndex_df160_9
end
theorem dJ1_charAt_3b067_0 : decode cJ1_charAt_3b067 0 = .ok (.iload_n 1, 1) := by decide +kernel
theorem dJ1_charAt_3b067_1 : decode cJ1_charAt_3b067 1 = .ok (.aload_n 0, 1) := by decide +kernel
theorem dJ1_charAt_3b067_2 : decode cJ1_charAt_3b067 2 = .ok (.arraylength, 1) := by decide +kernel
theorem dJ1_charAt_3b067_3 : decode cJ1_charAt_3b067 3 = .ok (.invokestatic 9, 3) := by decide +kernel
theorem dJ1_charAt_3b067_6 : decode cJ1_charAt_3b067 6 = .ok (.aload_n 0, 1) := by decide +kernel
theorem dJ1_charAt_3b067_7 : decode cJ1_charAt_3b067 7 = .ok (.iload_n 1, 1) := by decide +kernel
theorem dJ1_charAt_3b067_8 : decode cJ1_charAt_3b067 8 = .ok (.baload, 1) := by decide +kernel
theorem dJ1_charAt_3b067_9 : decode cJ1_charAt_3b067 9 = .ok (.sipush 255, 3) := by decide +kernel
theorem dJ1_charAt_3b067_12 : decode cJ1_charAt_3b067 12 = .ok (.iand, 1) := by decide +kernel
theorem dJ1_charAt_3b067_13 : decode cJ1_charAt_3b067 13 = .ok (.i2c, 1) := by decide +kernel
theorem dJ1_charAt_3b067_14 : decode cJ1_charAt_3b067 14 = .ok (.ireturn, 1) := by decide +kernel
theorem kd_101_charAt_3b067 : Cond.code yJ1_charAt_3b067 cJ1_charAt_3b067 2 (some .char) ∈ lw_g := mt_at 473 (by decide +kernel) rfl
theorem ks_101_charAt_3b067 : Cond.static yJ1_charAt_3b067 ∈ lw_g := mt_at 472 (by decide +kernel) rfl
theorem cw101_9 : cCw RJ1 9 yJ0_checkIndex_df160 cJ0_checkIndex_df160 2 none 2 := ⟨kd_100_checkIndex_df160, mt_at 474 (by decide +kernel) rfl, mt_at 13 (by decide +kernel) rfl, by decide +kernel⟩
section
variable {p : Program} {l : Launch} {e : Env} {R : Room} {s : State} {m : MethodId} {args : Array Value} {below : List Frame} {meth : Method} {c : Code} {D : cG} {S : cSt} {r : Int32}
noncomputable def fk_101_charAt_3b067 (S : cSt) (v0 : Nat) (v1 : Int32) : Option (Int32) :=
ckk S v0 23 (
bd (fk_100_checkIndex_df160 S v1 (Int32.ofNat (kL S v0))) fun r1 =>
ckk S v0 23 (ck v1 (kL S v0) (
ckp (vp_nar .char ((Int32.toUInt32 ((kI S v0 (Int32.toNatClampNeg v1)) &&& (255 : Int32)) % 65536).toInt32) = ((Int32.toUInt32 ((kI S v0 (Int32.toNatClampNeg v1)) &&& (255 : Int32)) % 65536).toInt32)) (some ((Int32.toUInt32 ((kI S v0 (Int32.toNatClampNeg v1)) &&& (255 : Int32)) % 65536).toInt32)))))
set_option maxRecDepth 100000 in
set_option maxHeartbeats 4000000 in
theorem tk_101_charAt_3b067 (l : Launch) {D : cG} {S : cSt} {v0 : Nat} {v1 : Int32} {r : Int32}  (h : fk_101_charAt_3b067 S v0 v1 = some r) : Met l yJ1_charAt_3b067 (Cond.code yJ1_charAt_3b067 cJ1_charAt_3b067 2 (some .char) :: lw_g) { frames := 2, cells := 0, slots := 0, locals := 43 } (kPi [.ref v0, .int v1] D S) (kQ (some (.int r))) 0 0 (mNo) := by
  refine Met.ofW (cc := cJ1_charAt_3b067) (maxL := 2) (ret := (some .char)) (by decide) rfl ?_
  intro p e s m args below meth c s₁ B hml hv
  obtain ⟨rfl, hW, X⟩ := hv
  have C : cY p (headSpec (Cond.code yJ1_charAt_3b067 cJ1_charAt_3b067 2 (some .char) :: lw_g) { frames := 2, cells := 0, slots := 0, locals := 43 }).room s m _ meth c RJ1 cJ1_charAt_3b067 2 2 0 0 43 (some .char) := ⟨B.exec, B.bytes, hml, findClass_of_methodNamed B.named, fun w hw => atoms_spec (ws := Cond.code yJ1_charAt_3b067 cJ1_charAt_3b067 2 (some .char) :: lw_g) B.pre w (List.mem_cons_of_mem _ hw), ⟨Nat.le_refl _, Nat.le_refl _, Nat.le_refl _, Nat.le_refl _⟩, B.returns, B.notSynchronized⟩
  have hl := lv_entry ([.ref v0, .int v1]) (n := 2) (Nat.le_of_ble_eq_true rfl)
  rw [lg_entry_eq]
  generalize (lg_sl ([.ref v0, .int v1]) ++ List.replicate (2 - (lg_sl ([.ref v0, .int v1])).length) Slot.unset).toArray = ls at hl ⊢
  have hl : lv_has ls 2 [(0, .ref v0), (1, .int v1)] := hl
  unfold fk_101_charAt_3b067 at h
  refine lv_iload_n C.1 C.2.1 dJ1_charAt_3b067_0 rfl (lv_at hl 1 rfl) ?_
  refine lv_aload_n C.1 C.2.1 dJ1_charAt_3b067_1 rfl (lv_at hl 0 rfl) ?_
  obtain ⟨hk, h⟩ := ckk_ok h
  refine c_lens C X hW hk dJ1_charAt_3b067_2 ?_
  obtain ⟨r1, h_r1, h⟩ := bd_ok h
  refine c_callSR (rest := []) C X hW hl.1 [.int v1, .int (Int32.ofNat (kL S v0))] (tk_100_checkIndex_df160 l h_r1) cw101_9 ks_100_checkIndex_df160 rfl ⟨by decide, by decide⟩ ⟨(by decide), (by decide)⟩ rfl (Nat.le_of_ble_eq_true rfl) dJ1_charAt_3b067_3 ?_
  refine W.eq (g2 := F0 m 6 ls []) rfl ?_
  refine lv_aload_n C.1 C.2.1 dJ1_charAt_3b067_6 rfl (lv_at hl 0 rfl) ?_
  refine lv_iload_n C.1 C.2.1 dJ1_charAt_3b067_7 rfl (lv_at hl 1 rfl) ?_
  obtain ⟨hk, h⟩ := ckk_ok h
  obtain ⟨hin2, h⟩ := ck_ok h
  refine c_sald C X hW hk hin2 dJ1_charAt_3b067_8 ?_
  refine lv_sipush (v := 255) C.1 C.2.1 dJ1_charAt_3b067_9 (by decide) ?_
  refine lv_iand C.1 C.2.1 dJ1_charAt_3b067_12 ?_
  refine lv_i2c (v := (Int32.toUInt32 ((kI S v0 (Int32.toNatClampNeg v1)) &&& (255 : Int32)) % 65536).toInt32) C.1 C.2.1 dJ1_charAt_3b067_13 rfl ?_
  obtain ⟨hnr, h⟩ := ckp_ok h
  cases h
  exact c_retn C (congrArg Value.int hnr) rfl rfl dJ1_charAt_3b067_14
end
theorem dJ0_charAt_5068e_0 : decode cJ0_charAt_5068e 0 = .ok (.aload_n 0, 1) := by decide +kernel
theorem dJ0_charAt_5068e_1 : decode cJ0_charAt_5068e 1 = .ok (.invokevirtual 492, 3) := by decide +kernel
theorem dJ0_charAt_5068e_4 : decode cJ0_charAt_5068e 4 = .ok (.ifCond .eq 12, 3) := by decide +kernel
theorem dJ0_charAt_5068e_7 : decode cJ0_charAt_5068e 7 = .ok (.aload_n 0, 1) := by decide +kernel
theorem dJ0_charAt_5068e_8 : decode cJ0_charAt_5068e 8 = .ok (.getfield 9, 3) := by decide +kernel
theorem dJ0_charAt_5068e_11 : decode cJ0_charAt_5068e 11 = .ok (.iload_n 1, 1) := by decide +kernel
theorem dJ0_charAt_5068e_12 : decode cJ0_charAt_5068e 12 = .ok (.invokestatic 495, 3) := by decide +kernel
theorem dJ0_charAt_5068e_15 : decode cJ0_charAt_5068e 15 = .ok (.ireturn, 1) := by decide +kernel
theorem dJ0_charAt_5068e_16 : decode cJ0_charAt_5068e 16 = .ok (.aload_n 0, 1) := by decide +kernel
theorem dJ0_charAt_5068e_17 : decode cJ0_charAt_5068e 17 = .ok (.getfield 9, 3) := by decide +kernel
theorem dJ0_charAt_5068e_20 : decode cJ0_charAt_5068e 20 = .ok (.iload_n 1, 1) := by decide +kernel
theorem dJ0_charAt_5068e_21 : decode cJ0_charAt_5068e 21 = .ok (.invokestatic 498, 3) := by decide +kernel
theorem dJ0_charAt_5068e_24 : decode cJ0_charAt_5068e 24 = .ok (.ireturn, 1) := by decide +kernel
theorem kd_100_charAt_5068e : Cond.code yJ0_charAt_5068e cJ0_charAt_5068e 2 (some .char) ∈ lw_g := mt_at 464 (by decide +kernel) rfl
theorem ki_100_charAt_5068e : Cond.instanceMethod yJ0_charAt_5068e ∈ lw_g := mt_at 462 (by decide +kernel) rfl
theorem kl_100_charAt_5068e : Cond.selects (kRn 12) yJ0_charAt_5068e yJ0_charAt_5068e ∈ lw_g := mt_at 463 (by decide +kernel) rfl
theorem cw100_492 : cCw RJ0 492 yJ0_isLatin1_aae02 cJ0_isLatin1_aae02 1 (some .boolean) 0 := ⟨kd_100_isLatin1_aae02, mt_at 465 (by decide +kernel) rfl, mt_at 13 (by decide +kernel) rfl, by decide +kernel⟩
theorem cw100_495 : cCw RJ0 495 yJ1_charAt_3b067 cJ1_charAt_3b067 2 (some .char) 2 := ⟨kd_101_charAt_3b067, mt_at 471 (by decide +kernel) rfl, mt_at 14 (by decide +kernel) rfl, by decide +kernel⟩
section
variable {p : Program} {l : Launch} {e : Env} {R : Room} {s : State} {m : MethodId} {args : Array Value} {below : List Frame} {meth : Method} {c : Code} {H : Heap} {locs : List Loc} {cells slots : Nat} {Q : State → Prop}
variable {D : cG} {S S0 : cSt} {cc : ByteArray} {nL : Nat} {pc : Nat} {ls : Array Slot} {rest : List Value} {H0 : Heap} {nF nR nC nS : Nat} {ret : Option FieldType} {a : Nat}
theorem gk100_9 (C : cY p R s m args meth c RJ0 cc nL nF nC nS nR ret) (X : cX D s) (hW : cW D S H) (hk : kK S a = 13) {x : Nat} (hx : kR S a 0 = some x) (hdg : decode cc pc = .ok (.getfield 9, 3)) (kk : W p l e R s m args below meth c H locs cells slots Q (F0 m (pc + 3) ls (.ref x :: rest))) : W p l e R s m args below meth c H locs cells slots Q (F0 m pc ls (.ref a :: rest)) := c_get C X hW 12 (by decide) ly_12 hk 0 (by decide) (mt_at 913 (by decide +kernel) (by decide +kernel)) hdg (by rw [cV_R (by decide +kernel) hx]; exact kk)
end
section
variable {p : Program} {l : Launch} {e : Env} {R : Room} {s : State} {m : MethodId} {args : Array Value} {below : List Frame} {meth : Method} {c : Code} {D : cG} {S : cSt} {r : Int32}
noncomputable def fk_100_charAt_5068e (S : cSt) (v0 : Nat) (v1 : Int32) : Option (Int32) :=
ckk S v0 13 (bd (fk_100_isLatin1_aae02 S v0) fun r1 =>
if r1 = 0 then (
none)
else (
ckk S v0 13 (bd (kR S v0 0) fun a3 =>
bd (fk_101_charAt_3b067 S a3 v1) fun r4 =>
ckp (vp_nar .char r4 = r4) (some r4))))
set_option maxRecDepth 100000 in
set_option maxHeartbeats 4000000 in
theorem tk_100_charAt_5068e (l : Launch) {D : cG} {S : cSt} {v0 : Nat} {v1 : Int32} {r : Int32}  (h : fk_100_charAt_5068e S v0 v1 = some r) : Met l yJ0_charAt_5068e (Cond.code yJ0_charAt_5068e cJ0_charAt_5068e 2 (some .char) :: lw_g) { frames := 3, cells := 0, slots := 0, locals := 64 } (kPi [.ref v0, .int v1] D S) (kQ (some (.int r))) 0 0 (mNo) := by
  refine Met.ofW (cc := cJ0_charAt_5068e) (maxL := 2) (ret := (some .char)) (by decide) rfl ?_
  intro p e s m args below meth c s₁ B hml hv
  obtain ⟨rfl, hW, X⟩ := hv
  have C : cY p (headSpec (Cond.code yJ0_charAt_5068e cJ0_charAt_5068e 2 (some .char) :: lw_g) { frames := 3, cells := 0, slots := 0, locals := 64 }).room s m _ meth c RJ0 cJ0_charAt_5068e 2 3 0 0 64 (some .char) := ⟨B.exec, B.bytes, hml, findClass_of_methodNamed B.named, fun w hw => atoms_spec (ws := Cond.code yJ0_charAt_5068e cJ0_charAt_5068e 2 (some .char) :: lw_g) B.pre w (List.mem_cons_of_mem _ hw), ⟨Nat.le_refl _, Nat.le_refl _, Nat.le_refl _, Nat.le_refl _⟩, B.returns, B.notSynchronized⟩
  have hl := lv_entry ([.ref v0, .int v1]) (n := 2) (Nat.le_of_ble_eq_true rfl)
  rw [lg_entry_eq]
  generalize (lg_sl ([.ref v0, .int v1]) ++ List.replicate (2 - (lg_sl ([.ref v0, .int v1])).length) Slot.unset).toArray = ls at hl ⊢
  have hl : lv_has ls 2 [(0, .ref v0), (1, .int v1)] := hl
  unfold fk_100_charAt_5068e at h
  refine lv_aload_n C.1 C.2.1 dJ0_charAt_5068e_0 rfl (lv_at hl 0 rfl) ?_
  obtain ⟨hk, h⟩ := ckk_ok h
  obtain ⟨r1, h_r1, h⟩ := bd_ok h
  refine c_callR (rest := []) C X hW hl.1 12 (by decide) hk [] (tk_100_isLatin1_aae02 l h_r1) cw100_492 ki_100_isLatin1_aae02 kl_100_isLatin1_aae02 rfl ⟨by decide, by decide⟩ ⟨(by decide), (by decide)⟩ rfl (Nat.le_of_ble_eq_true rfl) dJ0_charAt_5068e_1 ?_
  refine W.eq (g2 := F0 m 4 ls [.int r1]) rfl ?_
  refine lv_if_eq (tgt := 16) C.1 C.2.1 dJ0_charAt_5068e_4 (by decide) (fun c2 => ?_) (fun c2 => ?_)
  · have h := if_t h c2
    cases h
  · have h := if_f h c2
    refine lv_aload_n C.1 C.2.1 dJ0_charAt_5068e_7 rfl (lv_at hl 0 rfl) ?_
    obtain ⟨hk, h⟩ := ckk_ok h
    obtain ⟨a3, h_a3, h⟩ := bd_ok h
    refine gk100_9 C X hW hk h_a3 dJ0_charAt_5068e_8 ?_
    refine lv_iload_n C.1 C.2.1 dJ0_charAt_5068e_11 rfl (lv_at hl 1 rfl) ?_
    obtain ⟨r4, h_r4, h⟩ := bd_ok h
    refine c_callSR (rest := []) C X hW hl.1 [.ref a3, .int v1] (tk_101_charAt_3b067 l h_r4) cw100_495 ks_101_charAt_3b067 rfl ⟨by decide, by decide⟩ ⟨(by decide), (by decide)⟩ rfl (Nat.le_of_ble_eq_true rfl) dJ0_charAt_5068e_12 ?_
    refine W.eq (g2 := F0 m 15 ls [.int r4]) rfl ?_
    obtain ⟨hnr, h⟩ := ckp_ok h
    cases h
    exact c_retn C (congrArg Value.int hnr) rfl rfl dJ0_charAt_5068e_15
end
theorem dX1_begin_0 : decode cX1_begin 0 = .ok (.iload_n 1, 1) := by decide +kernel
theorem dX1_begin_1 : decode cX1_begin 1 = .ok (.ifCond .eq 15, 3) := by decide +kernel
theorem dX1_begin_4 : decode cX1_begin 4 = .ok (.iload_n 1, 1) := by decide +kernel
theorem dX1_begin_5 : decode cX1_begin 5 = .ok (.bipush 13, 2) := by decide +kernel
theorem dX1_begin_7 : decode cX1_begin 7 = .ok (.if_icmp .eq 9, 3) := by decide +kernel
theorem dX1_begin_10 : decode cX1_begin 10 = .ok (.iload_n 1, 1) := by decide +kernel
theorem dX1_begin_11 : decode cX1_begin 11 = .ok (.bipush 14, 2) := by decide +kernel
theorem dX1_begin_13 : decode cX1_begin 13 = .ok (.if_icmp .ne 7, 3) := by decide +kernel
theorem dX1_begin_16 : decode cX1_begin 16 = .ok (.iconst 1, 1) := by decide +kernel
theorem dX1_begin_17 : decode cX1_begin 17 = .ok (.goto 4, 3) := by decide +kernel
theorem dX1_begin_20 : decode cX1_begin 20 = .ok (.iconst 0, 1) := by decide +kernel
theorem dX1_begin_21 : decode cX1_begin 21 = .ok (.istore 5, 2) := by decide +kernel
theorem dX1_begin_23 : decode cX1_begin 23 = .ok (.aload_n 0, 1) := by decide +kernel
theorem dX1_begin_24 : decode cX1_begin 24 = .ok (.iload_n 1, 1) := by decide +kernel
theorem dX1_begin_25 : decode cX1_begin 25 = .ok (.putfield 9, 3) := by decide +kernel
theorem dX1_begin_28 : decode cX1_begin 28 = .ok (.aload_n 0, 1) := by decide +kernel
theorem dX1_begin_29 : decode cX1_begin 29 = .ok (.iload 5, 2) := by decide +kernel
theorem dX1_begin_31 : decode cX1_begin 31 = .ok (.ifCond .eq 7, 3) := by decide +kernel
theorem dX1_begin_34 : decode cX1_begin 34 = .ok (.iconst 0, 1) := by decide +kernel
theorem dX1_begin_35 : decode cX1_begin 35 = .ok (.goto 4, 3) := by decide +kernel
theorem dX1_begin_38 : decode cX1_begin 38 = .ok (.iload_n 2, 1) := by decide +kernel
theorem dX1_begin_39 : decode cX1_begin 39 = .ok (.putfield 15, 3) := by decide +kernel
theorem dX1_begin_42 : decode cX1_begin 42 = .ok (.aload_n 0, 1) := by decide +kernel
theorem dX1_begin_43 : decode cX1_begin 43 = .ok (.iload 5, 2) := by decide +kernel
theorem dX1_begin_45 : decode cX1_begin 45 = .ok (.ifCond .eq 7, 3) := by decide +kernel
theorem dX1_begin_48 : decode cX1_begin 48 = .ok (.iconst 0, 1) := by decide +kernel
theorem dX1_begin_49 : decode cX1_begin 49 = .ok (.goto 4, 3) := by decide +kernel
theorem dX1_begin_52 : decode cX1_begin 52 = .ok (.iload_n 3, 1) := by decide +kernel
theorem dX1_begin_53 : decode cX1_begin 53 = .ok (.putfield 18, 3) := by decide +kernel
theorem dX1_begin_56 : decode cX1_begin 56 = .ok (.aload_n 0, 1) := by decide +kernel
theorem dX1_begin_57 : decode cX1_begin 57 = .ok (.ldc 21, 2) := by decide +kernel
theorem dX1_begin_59 : decode cX1_begin 59 = .ok (.iload_n 1, 1) := by decide +kernel
theorem dX1_begin_60 : decode cX1_begin 60 = .ok (.invokevirtual 23, 3) := by decide +kernel
theorem dX1_begin_63 : decode cX1_begin 63 = .ok (.bipush 32, 2) := by decide +kernel
theorem dX1_begin_65 : decode cX1_begin 65 = .ok (.if_icmp .ne 7, 3) := by decide +kernel
theorem dX1_begin_68 : decode cX1_begin 68 = .ok (.iconst 0, 1) := by decide +kernel
theorem dX1_begin_69 : decode cX1_begin 69 = .ok (.goto 5, 3) := by decide +kernel
theorem dX1_begin_72 : decode cX1_begin 72 = .ok (.iload 4, 2) := by decide +kernel
theorem dX1_begin_74 : decode cX1_begin 74 = .ok (.putfield 29, 3) := by decide +kernel
theorem dX1_begin_77 : decode cX1_begin 77 = .ok (.aload_n 0, 1) := by decide +kernel
theorem dX1_begin_78 : decode cX1_begin 78 = .ok (.iconst 0, 1) := by decide +kernel
theorem dX1_begin_79 : decode cX1_begin 79 = .ok (.putfield 32, 3) := by decide +kernel
theorem dX1_begin_82 : decode cX1_begin 82 = .ok (.aload_n 0, 1) := by decide +kernel
theorem dX1_begin_83 : decode cX1_begin 83 = .ok (.iconst 0, 1) := by decide +kernel
theorem dX1_begin_84 : decode cX1_begin 84 = .ok (.putfield 35, 3) := by decide +kernel
theorem dX1_begin_87 : decode cX1_begin 87 = .ok (.return_, 1) := by decide +kernel
theorem kd_1_begin : Cond.code yX1_begin cX1_begin 6 none ∈ lw_g := mt_at 531 (by decide +kernel) rfl
theorem ki_1_begin : Cond.instanceMethod yX1_begin ∈ lw_g := mt_at 529 (by decide +kernel) rfl
theorem kl_1_begin : Cond.selects (kRn 1) yX1_begin yX1_begin ∈ lw_g := mt_at 530 (by decide +kernel) rfl
theorem cw1_23 : cCw RX1 23 yJ0_charAt_5068e cJ0_charAt_5068e 2 (some .char) 1 := ⟨kd_100_charAt_5068e, mt_at 533 (by decide +kernel) rfl, mt_at 13 (by decide +kernel) rfl, by decide +kernel⟩
section
variable {p : Program} {l : Launch} {e : Env} {R : Room} {s : State} {m : MethodId} {args : Array Value} {below : List Frame} {meth : Method} {c : Code} {H : Heap} {locs : List Loc} {cells slots : Nat} {Q : State → Prop}
variable {D : cG} {S S0 : cSt} {cc : ByteArray} {nL : Nat} {pc : Nat} {ls : Array Slot} {rest : List Value} {H0 : Heap} {nF nR nC nS : Nat} {ret : Option FieldType} {a : Nat}
theorem pk1_9 {x : Int32} (C : cY p R s m args meth c RX1 cc nL nF nC nS nR ret) (X : cX D s) (hJ : cJ D S0 H0 S H locs) (hk : kK S a = 2) (hdg : decode cc pc = .ok (.putfield 9, 3)) (kk : ∀ (H1 : Heap) (locs1 : List Loc), cJ D S0 H0 (cPi S a 0 x) H1 locs1 → W p l e R s m args below meth c H1 locs1 cells slots Q (F0 m (pc + 3) ls (rest))) : W p l e R s m args below meth c H locs cells slots Q (F0 m pc ls (.int x :: .ref a :: rest)) := c_put (S1 := (cPi S a 0 x)) C X hJ 1 (by decide) ly_1 hk 0 (by decide) (by decide +kernel)  rfl rfl (by decide) rfl rfl (fun j _ => c_vI (by decide +kernel)) c_oPi (mt_at 162 (by decide +kernel) (by decide +kernel)) hdg kk
theorem pk1_15 {x : Int32} (C : cY p R s m args meth c RX1 cc nL nF nC nS nR ret) (X : cX D s) (hJ : cJ D S0 H0 S H locs) (hk : kK S a = 2) (hdg : decode cc pc = .ok (.putfield 15, 3)) (kk : ∀ (H1 : Heap) (locs1 : List Loc), cJ D S0 H0 (cPi S a 1 x) H1 locs1 → W p l e R s m args below meth c H1 locs1 cells slots Q (F0 m (pc + 3) ls (rest))) : W p l e R s m args below meth c H locs cells slots Q (F0 m pc ls (.int x :: .ref a :: rest)) := c_put (S1 := (cPi S a 1 x)) C X hJ 1 (by decide) ly_1 hk 1 (by decide) (by decide +kernel)  rfl rfl (by decide) rfl rfl (fun j _ => c_vI (by decide +kernel)) c_oPi (mt_at 166 (by decide +kernel) (by decide +kernel)) hdg kk
theorem pk1_18 {x : Int32} (C : cY p R s m args meth c RX1 cc nL nF nC nS nR ret) (X : cX D s) (hJ : cJ D S0 H0 S H locs) (hk : kK S a = 2) (hdg : decode cc pc = .ok (.putfield 18, 3)) (kk : ∀ (H1 : Heap) (locs1 : List Loc), cJ D S0 H0 (cPi S a 2 x) H1 locs1 → W p l e R s m args below meth c H1 locs1 cells slots Q (F0 m (pc + 3) ls (rest))) : W p l e R s m args below meth c H locs cells slots Q (F0 m pc ls (.int x :: .ref a :: rest)) := c_put (S1 := (cPi S a 2 x)) C X hJ 1 (by decide) ly_1 hk 2 (by decide) (by decide +kernel)  rfl rfl (by decide) rfl rfl (fun j _ => c_vI (by decide +kernel)) c_oPi (mt_at 170 (by decide +kernel) (by decide +kernel)) hdg kk
theorem pk1_29 {x : Int32} (C : cY p R s m args meth c RX1 cc nL nF nC nS nR ret) (X : cX D s) (hJ : cJ D S0 H0 S H locs) (hk : kK S a = 2) (hdg : decode cc pc = .ok (.putfield 29, 3)) (kk : ∀ (H1 : Heap) (locs1 : List Loc), cJ D S0 H0 (cPi S a 3 x) H1 locs1 → W p l e R s m args below meth c H1 locs1 cells slots Q (F0 m (pc + 3) ls (rest))) : W p l e R s m args below meth c H locs cells slots Q (F0 m pc ls (.int x :: .ref a :: rest)) := c_put (S1 := (cPi S a 3 x)) C X hJ 1 (by decide) ly_1 hk 3 (by decide) (by decide +kernel)  rfl rfl (by decide) rfl rfl (fun j _ => c_vI (by decide +kernel)) c_oPi (mt_at 172 (by decide +kernel) (by decide +kernel)) hdg kk
theorem pk1_32 {x : Int32} (C : cY p R s m args meth c RX1 cc nL nF nC nS nR ret) (X : cX D s) (hJ : cJ D S0 H0 S H locs) (hk : kK S a = 2) (hdg : decode cc pc = .ok (.putfield 32, 3)) (kk : ∀ (H1 : Heap) (locs1 : List Loc), cJ D S0 H0 (cPi S a 4 x) H1 locs1 → W p l e R s m args below meth c H1 locs1 cells slots Q (F0 m (pc + 3) ls (rest))) : W p l e R s m args below meth c H locs cells slots Q (F0 m pc ls (.int x :: .ref a :: rest)) := c_put (S1 := (cPi S a 4 x)) C X hJ 1 (by decide) ly_1 hk 4 (by decide) (by decide +kernel)  rfl rfl (by decide) rfl rfl (fun j _ => c_vI (by decide +kernel)) c_oPi (mt_at 175 (by decide +kernel) (by decide +kernel)) hdg kk
theorem pk1_35 {x : Int32} (C : cY p R s m args meth c RX1 cc nL nF nC nS nR ret) (X : cX D s) (hJ : cJ D S0 H0 S H locs) (hk : kK S a = 2) (hdg : decode cc pc = .ok (.putfield 35, 3)) (kk : ∀ (H1 : Heap) (locs1 : List Loc), cJ D S0 H0 (cPi S a 5 x) H1 locs1 → W p l e R s m args below meth c H1 locs1 cells slots Q (F0 m (pc + 3) ls (rest))) : W p l e R s m args below meth c H locs cells slots Q (F0 m pc ls (.int x :: .ref a :: rest)) := c_put (S1 := (cPi S a 5 x)) C X hJ 1 (by decide) ly_1 hk 5 (by decide) (by decide +kernel)  rfl rfl (by decide) rfl rfl (fun j _ => c_vI (by decide +kernel)) c_oPi (mt_at 178 (by decide +kernel) (by decide +kernel)) hdg kk
end
section
variable {p : Program} {l : Launch} {e : Env} {R : Room} {s : State} {m : MethodId} {args : Array Value} {below : List Frame} {meth : Method} {c : Code} {D : cG} {S0 S9 : cSt}
noncomputable def fk_1_begin_74 (S : cSt) (v0 : Nat) (s0 : Nat) (s1 : Int32) : Option (cSt) :=
ckk S s0 2 (lt (cPi S s0 3 s1) fun S1 =>
ckk S1 v0 2 (lt (cPi S1 v0 4 (0 : Int32)) fun S2 =>
ckk S2 v0 2 (lt (cPi S2 v0 5 (0 : Int32)) fun S3 =>
some S3)))
set_option maxRecDepth 100000 in
set_option maxHeartbeats 4000000 in
theorem wk_1_begin_74 (C : cY p R s m args meth c RX1 cX1_begin 6 4 0 0 85 none) (X : cX D s) : ∀ {S : cSt} {v0 : Nat} {s0 : Nat} {s1 : Int32} {H : Heap} {locs : List Loc} {ls : Array Slot}, fk_1_begin_74 S v0 s0 s1 = some S9 → cJ D S0 s.heap S H locs → lv_has ls 6 [(0, .ref v0)] → W p l e R s m args below meth c H locs 0 0 (MQ below (kW none D S0 S9) args s 0 0 (cA S0)) (F0 m 74 ls [.int s1, .ref s0]) := by
  intro S v0 s0 s1 H locs ls h hJ hl
  unfold fk_1_begin_74 at h
  obtain ⟨hk, h⟩ := ckk_ok h
  refine pk1_29 C X hJ hk dX1_begin_74 (fun H locs hJ => ?_)
  refine lt_ok h (fun S1 e_S1 h => ?_)
  rw [e_S1] at hJ
  refine lv_aload_n C.1 C.2.1 dX1_begin_77 rfl (lv_at hl 0 rfl) ?_
  refine lv_iconst (v := 0) C.1 C.2.1 dX1_begin_78 (by decide) ?_
  obtain ⟨hk, h⟩ := ckk_ok h
  refine pk1_32 C X hJ hk dX1_begin_79 (fun H locs hJ => ?_)
  refine lt_ok h (fun S2 e_S2 h => ?_)
  rw [e_S2] at hJ
  refine lv_aload_n C.1 C.2.1 dX1_begin_82 rfl (lv_at hl 0 rfl) ?_
  refine lv_iconst (v := 0) C.1 C.2.1 dX1_begin_83 (by decide) ?_
  obtain ⟨hk, h⟩ := ckk_ok h
  refine pk1_35 C X hJ hk dX1_begin_84 (fun H locs hJ => ?_)
  refine lt_ok h (fun S3 e_S3 h => ?_)
  rw [e_S3] at hJ
  cases h
  exact c_retvW C hJ dX1_begin_87
noncomputable def fk_1_begin_53 (S : cSt) (v0 : Nat) (v1 : Int32) (v4 : Int32) (s0 : Nat) (s1 : Int32) : Option (cSt) :=
ckk S s0 2 (lt (cPi S s0 2 s1) fun S1 =>
lt (kT S1 0) fun a2 =>
ckk S1 a2 13 (bd (fk_100_charAt_5068e S1 a2 v1) fun r3 =>
if r3 = (32 : Int32) then (
fk_1_begin_74 S1 v0 v0 (0 : Int32))
else (
fk_1_begin_74 S1 v0 v0 v4)))
set_option maxRecDepth 100000 in
set_option maxHeartbeats 4000000 in
theorem wk_1_begin_53 (C : cY p R s m args meth c RX1 cX1_begin 6 4 0 0 85 none) (X : cX D s) : ∀ {S : cSt} {v0 : Nat} {v1 : Int32} {v4 : Int32} {s0 : Nat} {s1 : Int32} {H : Heap} {locs : List Loc} {ls : Array Slot}, fk_1_begin_53 S v0 v1 v4 s0 s1 = some S9 → cJ D S0 s.heap S H locs → lv_has ls 6 [(0, .ref v0), (1, .int v1), (4, .int v4)] → W p l e R s m args below meth c H locs 0 0 (MQ below (kW none D S0 S9) args s 0 0 (cA S0)) (F0 m 53 ls [.int s1, .ref s0]) := by
  intro S v0 v1 v4 s0 s1 H locs ls h hJ hl
  unfold fk_1_begin_53 at h
  obtain ⟨hk, h⟩ := ckk_ok h
  refine pk1_18 C X hJ hk dX1_begin_53 (fun H locs hJ => ?_)
  refine lt_ok h (fun S1 e_S1 h => ?_)
  rw [e_S1] at hJ
  refine lv_aload_n C.1 C.2.1 dX1_begin_56 rfl (lv_at hl 0 rfl) ?_
  refine c_ldcs (tx := " LSCBBBAATT    MM  ") C X hJ.1 0 (by decide +kernel) dX1_begin_57 ?_
  refine lt_ok h (fun a2 e_a2 h => ?_)
  rw [e_a2]
  refine lv_iload_n C.1 C.2.1 dX1_begin_59 rfl (lv_at hl 1 rfl) ?_
  obtain ⟨hk, h⟩ := ckk_ok h
  obtain ⟨r3, h_r3, h⟩ := bd_ok h
  refine c_callR (rest := [.ref v0]) C X hJ.1 hl.1 12 (by decide) hk [.int v1] (tk_100_charAt_5068e l h_r3) cw1_23 ki_100_charAt_5068e kl_100_charAt_5068e rfl ⟨by decide, by decide⟩ ⟨(by decide), (by decide)⟩ rfl (Nat.le_of_ble_eq_true rfl) dX1_begin_60 ?_
  refine W.eq (g2 := F0 m 63 ls [.int r3, .ref v0]) rfl ?_
  refine lv_bipush (v := 32) C.1 C.2.1 dX1_begin_63 (by decide) ?_
  refine lv_icmp_ne (tgt := 72) C.1 C.2.1 dX1_begin_65 (by decide) (fun c4 => ?_) (fun c4 => ?_)
  · have h := if_f h c4
    refine lv_iload C.1 C.2.1 dX1_begin_72 (lv_at hl 2 rfl) ?_
    exact wk_1_begin_74 C X h hJ (lv_sub hl [0] rfl)
  · have h := if_t h c4
    refine lv_iconst (v := 0) C.1 C.2.1 dX1_begin_68 (by decide) ?_
    refine lv_goto (tgt := 74) C.1 C.2.1 dX1_begin_69 (by decide) ?_
    exact wk_1_begin_74 C X h hJ (lv_sub hl [0] rfl)
noncomputable def fk_1_begin_39 (S : cSt) (v0 : Nat) (v1 : Int32) (v3 : Int32) (v4 : Int32) (v5 : Int32) (s0 : Nat) (s1 : Int32) : Option (cSt) :=
ckk S s0 2 (lt (cPi S s0 1 s1) fun S1 =>
if v5 = 0 then (
fk_1_begin_53 S1 v0 v1 v4 v0 v3)
else (
fk_1_begin_53 S1 v0 v1 v4 v0 (0 : Int32)))
set_option maxRecDepth 100000 in
set_option maxHeartbeats 4000000 in
theorem wk_1_begin_39 (C : cY p R s m args meth c RX1 cX1_begin 6 4 0 0 85 none) (X : cX D s) : ∀ {S : cSt} {v0 : Nat} {v1 : Int32} {v3 : Int32} {v4 : Int32} {v5 : Int32} {s0 : Nat} {s1 : Int32} {H : Heap} {locs : List Loc} {ls : Array Slot}, fk_1_begin_39 S v0 v1 v3 v4 v5 s0 s1 = some S9 → cJ D S0 s.heap S H locs → lv_has ls 6 [(0, .ref v0), (1, .int v1), (3, .int v3), (4, .int v4), (5, .int v5)] → W p l e R s m args below meth c H locs 0 0 (MQ below (kW none D S0 S9) args s 0 0 (cA S0)) (F0 m 39 ls [.int s1, .ref s0]) := by
  intro S v0 v1 v3 v4 v5 s0 s1 H locs ls h hJ hl
  unfold fk_1_begin_39 at h
  obtain ⟨hk, h⟩ := ckk_ok h
  refine pk1_15 C X hJ hk dX1_begin_39 (fun H locs hJ => ?_)
  refine lt_ok h (fun S1 e_S1 h => ?_)
  rw [e_S1] at hJ
  refine lv_aload_n C.1 C.2.1 dX1_begin_42 rfl (lv_at hl 0 rfl) ?_
  refine lv_iload C.1 C.2.1 dX1_begin_43 (lv_at hl 4 rfl) ?_
  refine lv_if_eq (tgt := 52) C.1 C.2.1 dX1_begin_45 (by decide) (fun c2 => ?_) (fun c2 => ?_)
  · have h := if_t h c2
    refine lv_iload_n C.1 C.2.1 dX1_begin_52 rfl (lv_at hl 2 rfl) ?_
    exact wk_1_begin_53 C X h hJ (lv_sub hl [0, 1, 3] rfl)
  · have h := if_f h c2
    refine lv_iconst (v := 0) C.1 C.2.1 dX1_begin_48 (by decide) ?_
    refine lv_goto (tgt := 53) C.1 C.2.1 dX1_begin_49 (by decide) ?_
    exact wk_1_begin_53 C X h hJ (lv_sub hl [0, 1, 3] rfl)
noncomputable def fk_1_begin_21 (S : cSt) (v0 : Nat) (v1 : Int32) (v2 : Int32) (v3 : Int32) (v4 : Int32) (s0 : Int32) : Option (cSt) :=
ckk S v0 2 (lt (cPi S v0 0 v1) fun S1 =>
if s0 = 0 then (
fk_1_begin_39 S1 v0 v1 v3 v4 s0 v0 v2)
else (
fk_1_begin_39 S1 v0 v1 v3 v4 s0 v0 (0 : Int32)))
set_option maxRecDepth 100000 in
set_option maxHeartbeats 4000000 in
theorem wk_1_begin_21 (C : cY p R s m args meth c RX1 cX1_begin 6 4 0 0 85 none) (X : cX D s) : ∀ {S : cSt} {v0 : Nat} {v1 : Int32} {v2 : Int32} {v3 : Int32} {v4 : Int32} {s0 : Int32} {H : Heap} {locs : List Loc} {ls : Array Slot}, fk_1_begin_21 S v0 v1 v2 v3 v4 s0 = some S9 → cJ D S0 s.heap S H locs → lv_has ls 6 [(0, .ref v0), (1, .int v1), (2, .int v2), (3, .int v3), (4, .int v4)] → W p l e R s m args below meth c H locs 0 0 (MQ below (kW none D S0 S9) args s 0 0 (cA S0)) (F0 m 21 ls [.int s0]) := by
  intro S v0 v1 v2 v3 v4 s0 H locs ls h hJ hl
  unfold fk_1_begin_21 at h
  refine lv_istore (lv' := [(5, .int s0), (0, .ref v0), (1, .int v1), (2, .int v2), (3, .int v3), (4, .int v4)]) C.1 C.2.1 dX1_begin_21 hl (by decide) rfl (fun ls hl => ?_)
  refine lv_aload_n C.1 C.2.1 dX1_begin_23 rfl (lv_at hl 1 rfl) ?_
  refine lv_iload_n C.1 C.2.1 dX1_begin_24 rfl (lv_at hl 2 rfl) ?_
  obtain ⟨hk, h⟩ := ckk_ok h
  refine pk1_9 C X hJ hk dX1_begin_25 (fun H locs hJ => ?_)
  refine lt_ok h (fun S1 e_S1 h => ?_)
  rw [e_S1] at hJ
  refine lv_aload_n C.1 C.2.1 dX1_begin_28 rfl (lv_at hl 1 rfl) ?_
  refine lv_iload C.1 C.2.1 dX1_begin_29 (lv_at hl 0 rfl) ?_
  refine lv_if_eq (tgt := 38) C.1 C.2.1 dX1_begin_31 (by decide) (fun c2 => ?_) (fun c2 => ?_)
  · have h := if_t h c2
    refine lv_iload_n C.1 C.2.1 dX1_begin_38 rfl (lv_at hl 3 rfl) ?_
    exact wk_1_begin_39 C X h hJ (lv_sub hl [1, 2, 4, 5, 0] rfl)
  · have h := if_f h c2
    refine lv_iconst (v := 0) C.1 C.2.1 dX1_begin_34 (by decide) ?_
    refine lv_goto (tgt := 39) C.1 C.2.1 dX1_begin_35 (by decide) ?_
    exact wk_1_begin_39 C X h hJ (lv_sub hl [1, 2, 4, 5, 0] rfl)
noncomputable def fk_1_begin_16 (S : cSt) (v0 : Nat) (v1 : Int32) (v2 : Int32) (v3 : Int32) (v4 : Int32) : Option (cSt) :=
fk_1_begin_21 S v0 v1 v2 v3 v4 (1 : Int32)
set_option maxRecDepth 100000 in
set_option maxHeartbeats 4000000 in
theorem wk_1_begin_16 (C : cY p R s m args meth c RX1 cX1_begin 6 4 0 0 85 none) (X : cX D s) : ∀ {S : cSt} {v0 : Nat} {v1 : Int32} {v2 : Int32} {v3 : Int32} {v4 : Int32} {H : Heap} {locs : List Loc} {ls : Array Slot}, fk_1_begin_16 S v0 v1 v2 v3 v4 = some S9 → cJ D S0 s.heap S H locs → lv_has ls 6 [(0, .ref v0), (1, .int v1), (2, .int v2), (3, .int v3), (4, .int v4)] → W p l e R s m args below meth c H locs 0 0 (MQ below (kW none D S0 S9) args s 0 0 (cA S0)) (F0 m 16 ls []) := by
  intro S v0 v1 v2 v3 v4 H locs ls h hJ hl
  unfold fk_1_begin_16 at h
  refine lv_iconst (v := 1) C.1 C.2.1 dX1_begin_16 (by decide) ?_
  refine lv_goto (tgt := 21) C.1 C.2.1 dX1_begin_17 (by decide) ?_
  exact wk_1_begin_21 C X h hJ (lv_sub hl [0, 1, 2, 3, 4] rfl)
noncomputable def fk_1_begin (S : cSt) (v0 : Nat) (v1 : Int32) (v2 : Int32) (v3 : Int32) (v4 : Int32) : Option (cSt) :=
if v1 = 0 then (
fk_1_begin_16 S v0 v1 v2 v3 v4)
else (
if v1 = (13 : Int32) then (
fk_1_begin_16 S v0 v1 v2 v3 v4)
else (
if v1 = (14 : Int32) then (
fk_1_begin_16 S v0 v1 v2 v3 v4)
else (
fk_1_begin_21 S v0 v1 v2 v3 v4 (0 : Int32))))
set_option maxRecDepth 100000 in
set_option maxHeartbeats 4000000 in
theorem tk_1_begin (l : Launch) {D : cG} {S : cSt} {v0 : Nat} {v1 : Int32} {v2 : Int32} {v3 : Int32} {v4 : Int32} {S9 : cSt} (h : fk_1_begin S v0 v1 v2 v3 v4 = some S9) : Met l yX1_begin (Cond.code yX1_begin cX1_begin 6 none :: lw_g) { frames := 4, cells := 0, slots := 0, locals := 85 } (kPi [.ref v0, .int v1, .int v2, .int v3, .int v4] D S) (kW none D S S9) 0 0 (cA S) := by
  refine Met.ofW (cc := cX1_begin) (maxL := 6) (ret := none) (by decide) rfl ?_
  intro p e s m args below meth c s₁ B hml hv
  obtain ⟨rfl, hW, X⟩ := hv
  have C : cY p (headSpec (Cond.code yX1_begin cX1_begin 6 none :: lw_g) { frames := 4, cells := 0, slots := 0, locals := 85 }).room s m _ meth c RX1 cX1_begin 6 4 0 0 85 none := ⟨B.exec, B.bytes, hml, findClass_of_methodNamed B.named, fun w hw => atoms_spec (ws := Cond.code yX1_begin cX1_begin 6 none :: lw_g) B.pre w (List.mem_cons_of_mem _ hw), ⟨Nat.le_refl _, Nat.le_refl _, Nat.le_refl _, Nat.le_refl _⟩, B.returns, B.notSynchronized⟩
  have hl := lv_entry ([.ref v0, .int v1, .int v2, .int v3, .int v4]) (n := 6) (Nat.le_of_ble_eq_true rfl)
  rw [lg_entry_eq]
  generalize (lg_sl ([.ref v0, .int v1, .int v2, .int v3, .int v4]) ++ List.replicate (6 - (lg_sl ([.ref v0, .int v1, .int v2, .int v3, .int v4])).length) Slot.unset).toArray = ls at hl ⊢
  have hl : lv_has ls 6 [(0, .ref v0), (1, .int v1), (2, .int v2), (3, .int v3), (4, .int v4)] := hl
  have hJ : cJ D S s.heap S s.heap [] := cJ.rf hW
  unfold fk_1_begin at h
  refine lv_iload_n C.1 C.2.1 dX1_begin_0 rfl (lv_at hl 1 rfl) ?_
  refine lv_if_eq (tgt := 16) C.1 C.2.1 dX1_begin_1 (by decide) (fun c1 => ?_) (fun c1 => ?_)
  · have h := if_t h c1
    exact wk_1_begin_16 C X h hJ (lv_sub hl [0, 1, 2, 3, 4] rfl)
  · have h := if_f h c1
    refine lv_iload_n C.1 C.2.1 dX1_begin_4 rfl (lv_at hl 1 rfl) ?_
    refine lv_bipush (v := 13) C.1 C.2.1 dX1_begin_5 (by decide) ?_
    refine lv_icmp_eq (tgt := 16) C.1 C.2.1 dX1_begin_7 (by decide) (fun c2 => ?_) (fun c2 => ?_)
    · have h := if_t h c2
      exact wk_1_begin_16 C X h hJ (lv_sub hl [0, 1, 2, 3, 4] rfl)
    · have h := if_f h c2
      refine lv_iload_n C.1 C.2.1 dX1_begin_10 rfl (lv_at hl 1 rfl) ?_
      refine lv_bipush (v := 14) C.1 C.2.1 dX1_begin_11 (by decide) ?_
      refine lv_icmp_ne (tgt := 20) C.1 C.2.1 dX1_begin_13 (by decide) (fun c3 => ?_) (fun c3 => ?_)
      · have h := if_f h c3
        refine lv_iconst (v := 0) C.1 C.2.1 dX1_begin_20 (by decide) ?_
        exact wk_1_begin_21 C X h hJ (lv_sub hl [0, 1, 2, 3, 4] rfl)
      · have h := if_t h c3
        exact wk_1_begin_16 C X h hJ (lv_sub hl [0, 1, 2, 3, 4] rfl)
end
theorem dX2_init_0 : decode cX2_init 0 = .ok (.aload_n 0, 1) := by decide +kernel
theorem dX2_init_1 : decode cX2_init 1 = .ok (.invokespecial 3, 3) := by decide +kernel
theorem dX2_init_4 : decode cX2_init 4 = .ok (.aload_n 0, 1) := by decide +kernel
theorem dX2_init_5 : decode cX2_init 5 = .ok (.iconst 4, 1) := by decide +kernel
theorem dX2_init_6 : decode cX2_init 6 = .ok (.newarray .int, 2) := by decide +kernel
theorem dX2_init_8 : decode cX2_init 8 = .ok (.putfield 9, 3) := by decide +kernel
theorem dX2_init_11 : decode cX2_init 11 = .ok (.aload_n 0, 1) := by decide +kernel
theorem dX2_init_12 : decode cX2_init 12 = .ok (.bipush 16, 2) := by decide +kernel
theorem dX2_init_14 : decode cX2_init 14 = .ok (.newarray .int, 2) := by decide +kernel
theorem dX2_init_16 : decode cX2_init 16 = .ok (.putfield 15, 3) := by decide +kernel
theorem dX2_init_19 : decode cX2_init 19 = .ok (.aload_n 0, 1) := by decide +kernel
theorem dX2_init_20 : decode cX2_init 20 = .ok (.bipush 8, 2) := by decide +kernel
theorem dX2_init_22 : decode cX2_init 22 = .ok (.anewarray 18, 3) := by decide +kernel
theorem dX2_init_25 : decode cX2_init 25 = .ok (.putfield 20, 3) := by decide +kernel
theorem dX2_init_28 : decode cX2_init 28 = .ok (.aload_n 0, 1) := by decide +kernel
theorem dX2_init_29 : decode cX2_init 29 = .ok (.iconst 0, 1) := by decide +kernel
theorem dX2_init_30 : decode cX2_init 30 = .ok (.newarray .byte, 2) := by decide +kernel
theorem dX2_init_32 : decode cX2_init 32 = .ok (.putfield 24, 3) := by decide +kernel
theorem dX2_init_35 : decode cX2_init 35 = .ok (.aload_n 0, 1) := by decide +kernel
theorem dX2_init_36 : decode cX2_init 36 = .ok (.iconst 0, 1) := by decide +kernel
theorem dX2_init_37 : decode cX2_init 37 = .ok (.newarray .byte, 2) := by decide +kernel
theorem dX2_init_39 : decode cX2_init 39 = .ok (.putfield 28, 3) := by decide +kernel
theorem dX2_init_42 : decode cX2_init 42 = .ok (.return_, 1) := by decide +kernel
theorem kd_2_init : Cond.code yX2_init cX2_init 1 none ∈ lw_g := mt_at 1266 (by decide +kernel) rfl
theorem ki_2_init : Cond.instanceMethod yX2_init ∈ lw_g := mt_at 1265 (by decide +kernel) rfl
theorem oi2 : Cond.methodLink RX2 3 objectInit ∈ lw_g := mt_at 1267 (by decide +kernel) rfl
theorem cl2_18 : Cond.classLink RX2 18 RX8 ∈ lw_g := mt_at 1268 (by decide +kernel) rfl
section
variable {p : Program} {l : Launch} {e : Env} {R : Room} {s : State} {m : MethodId} {args : Array Value} {below : List Frame} {meth : Method} {c : Code} {H : Heap} {locs : List Loc} {cells slots : Nat} {Q : State → Prop}
variable {D : cG} {S S0 : cSt} {cc : ByteArray} {nL : Nat} {pc : Nat} {ls : Array Slot} {rest : List Value} {H0 : Heap} {nF nR nC nS : Nat} {ret : Option FieldType} {a : Nat}
theorem pk2_9 {o : Option Nat} (C : cY p R s m args meth c RX2 cc nL nF nC nS nR ret) (hin : meth.name = "<init>") (X : cX D s) (hJ : cJ D S0 H0 S H locs) (hk : kK S a = 3) (hdg : decode cc pc = .ok (.putfield 9, 3)) (kk : ∀ (H1 : Heap) (locs1 : List Loc), cJ D S0 H0 (cPr S a 0 o) H1 locs1 → W p l e R s m args below meth c H1 locs1 cells slots Q (F0 m (pc + 3) ls (rest))) : W p l e R s m args below meth c H locs cells slots Q (F0 m pc ls (va_rf o :: .ref a :: rest)) := c_putF (S1 := (cPr S a 0 o)) C X hJ 2 (by decide) ly_2 hk 0 (by decide) (by decide +kernel) hin rfl nar_ra fit_ra (by decide) rfl rfl (fun j _ => c_vR (by decide +kernel)) c_oPr (mt_at 1269 (by decide +kernel) (by decide +kernel)) hdg kk
theorem pk2_15 {o : Option Nat} (C : cY p R s m args meth c RX2 cc nL nF nC nS nR ret) (hin : meth.name = "<init>") (X : cX D s) (hJ : cJ D S0 H0 S H locs) (hk : kK S a = 3) (hdg : decode cc pc = .ok (.putfield 15, 3)) (kk : ∀ (H1 : Heap) (locs1 : List Loc), cJ D S0 H0 (cPr S a 1 o) H1 locs1 → W p l e R s m args below meth c H1 locs1 cells slots Q (F0 m (pc + 3) ls (rest))) : W p l e R s m args below meth c H locs cells slots Q (F0 m pc ls (va_rf o :: .ref a :: rest)) := c_putF (S1 := (cPr S a 1 o)) C X hJ 2 (by decide) ly_2 hk 1 (by decide) (by decide +kernel) hin rfl nar_ra fit_ra (by decide) rfl rfl (fun j _ => c_vR (by decide +kernel)) c_oPr (mt_at 1272 (by decide +kernel) (by decide +kernel)) hdg kk
theorem pk2_20 {o : Option Nat} (C : cY p R s m args meth c RX2 cc nL nF nC nS nR ret) (hin : meth.name = "<init>") (X : cX D s) (hJ : cJ D S0 H0 S H locs) (hk : kK S a = 3) (hdg : decode cc pc = .ok (.putfield 20, 3)) (kk : ∀ (H1 : Heap) (locs1 : List Loc), cJ D S0 H0 (cPr S a 2 o) H1 locs1 → W p l e R s m args below meth c H1 locs1 cells slots Q (F0 m (pc + 3) ls (rest))) : W p l e R s m args below meth c H locs cells slots Q (F0 m pc ls (va_rf o :: .ref a :: rest)) := c_putF (S1 := (cPr S a 2 o)) C X hJ 2 (by decide) ly_2 hk 2 (by decide) (by decide +kernel) hin rfl nar_ra fit_ra (by decide) rfl rfl (fun j _ => c_vR (by decide +kernel)) c_oPr (mt_at 1274 (by decide +kernel) (by decide +kernel)) hdg kk
theorem pk2_24 {o : Option Nat} (C : cY p R s m args meth c RX2 cc nL nF nC nS nR ret) (X : cX D s) (hJ : cJ D S0 H0 S H locs) (hk : kK S a = 3) (hdg : decode cc pc = .ok (.putfield 24, 3)) (kk : ∀ (H1 : Heap) (locs1 : List Loc), cJ D S0 H0 (cPr S a 9 o) H1 locs1 → W p l e R s m args below meth c H1 locs1 cells slots Q (F0 m (pc + 3) ls (rest))) : W p l e R s m args below meth c H locs cells slots Q (F0 m pc ls (va_rf o :: .ref a :: rest)) := c_put (S1 := (cPr S a 9 o)) C X hJ 2 (by decide) ly_2 hk 9 (by decide) (by decide +kernel)  nar_ra fit_ra (by decide) rfl rfl (fun j _ => c_vR (by decide +kernel)) c_oPr (mt_at 1292 (by decide +kernel) (by decide +kernel)) hdg kk
theorem pk2_28 {o : Option Nat} (C : cY p R s m args meth c RX2 cc nL nF nC nS nR ret) (X : cX D s) (hJ : cJ D S0 H0 S H locs) (hk : kK S a = 3) (hdg : decode cc pc = .ok (.putfield 28, 3)) (kk : ∀ (H1 : Heap) (locs1 : List Loc), cJ D S0 H0 (cPr S a 10 o) H1 locs1 → W p l e R s m args below meth c H1 locs1 cells slots Q (F0 m (pc + 3) ls (rest))) : W p l e R s m args below meth c H locs cells slots Q (F0 m pc ls (va_rf o :: .ref a :: rest)) := c_put (S1 := (cPr S a 10 o)) C X hJ 2 (by decide) ly_2 hk 10 (by decide) (by decide +kernel)  nar_ra fit_ra (by decide) rfl rfl (fun j _ => c_vR (by decide +kernel)) c_oPr (mt_at 1293 (by decide +kernel) (by decide +kernel)) hdg kk
end
section
variable {p : Program} {l : Launch} {e : Env} {R : Room} {s : State} {m : MethodId} {args : Array Value} {below : List Frame} {meth : Method} {c : Code} {D : cG} {S0 S9 : cSt}
noncomputable def fk_2_init (S : cSt) (v0 : Nat) : Option (cSt) :=
lt (kZ S) fun a2 => lt (cNw S 20 4) fun S1 =>
ckk S1 v0 3 (lt (cPr S1 v0 0 (some a2)) fun S3 =>
lt (kZ S3) fun a5 => lt (cNw S3 20 16) fun S4 =>
ckk S4 v0 3 (lt (cPr S4 v0 1 (some a5)) fun S6 =>
lt (kZ S6) fun a8 => lt (cNw S6 30 8) fun S7 =>
ckk S7 v0 3 (lt (cPr S7 v0 2 (some a8)) fun S10 =>
lt (kZ S10) fun a12 => lt (cNw S10 21 0) fun S11 =>
ckk S11 v0 3 (lt (cPr S11 v0 9 (some a12)) fun S13 =>
lt (kZ S13) fun a15 => lt (cNw S13 21 0) fun S14 =>
ckk S14 v0 3 (lt (cPr S14 v0 10 (some a15)) fun S16 =>
some S16)))))
set_option maxRecDepth 100000 in
set_option maxHeartbeats 4000000 in
theorem tk_2_init (l : Launch) {D : cG} {S : cSt} {v0 : Nat} {S9 : cSt} (h : fk_2_init S v0 = some S9) : Met l yX2_init (Cond.code yX2_init cX2_init 1 none :: lw_g) { frames := 2, cells := 5, slots := 28, locals := 60 } (kPi [.ref v0] D S) (kW none D S S9) 5 28 (cA S) := by
  refine Met.ofW (cc := cX2_init) (maxL := 1) (ret := none) (by decide) rfl ?_
  intro p e s m args below meth c s₁ B hml hv
  obtain ⟨rfl, hW, X⟩ := hv
  have C : cY p (headSpec (Cond.code yX2_init cX2_init 1 none :: lw_g) { frames := 2, cells := 5, slots := 28, locals := 60 }).room s m _ meth c RX2 cX2_init 1 2 5 28 60 none := ⟨B.exec, B.bytes, hml, findClass_of_methodNamed B.named, fun w hw => atoms_spec (ws := Cond.code yX2_init cX2_init 1 none :: lw_g) B.pre w (List.mem_cons_of_mem _ hw), ⟨Nat.le_refl _, Nat.le_refl _, Nat.le_refl _, Nat.le_refl _⟩, B.returns, B.notSynchronized⟩
  have hin : meth.name = "<init>" := (name_of_methodNamed B.named B.method).1
  have hl := lv_entry ([.ref v0]) (n := 1) (Nat.le_of_ble_eq_true rfl)
  rw [lg_entry_eq]
  generalize (lg_sl ([.ref v0]) ++ List.replicate (1 - (lg_sl ([.ref v0])).length) Slot.unset).toArray = ls at hl ⊢
  have hl : lv_has ls 1 [(0, .ref v0)] := hl
  have hJ : cJ D S s.heap S s.heap [] := cJ.rf hW
  unfold fk_2_init at h
  refine lv_aload_n C.1 C.2.1 dX2_init_0 rfl (lv_at hl 0 rfl) ?_
  refine W.objInit C.1 C.2.1 C.2.2.2.1 (C.2.2.2.2.1 _ oi2) (C.2.2.2.2.1 _ oi_i) (C.2.2.2.2.1 _ oi_c) rfl (by rw [C.2.2.1]; exact hl.1) rfl dX2_init_1 (Nat.le_trans (by decide) C.2.2.2.2.2.1.1) (Nat.le_trans (Nat.le_of_ble_eq_true rfl) C.2.2.2.2.2.1.2.2.2) ?_
  refine W.eq (g2 := F0 m 4 ls []) rfl ?_
  refine lv_aload_n C.1 C.2.1 dX2_init_4 rfl (lv_at hl 0 rfl) ?_
  refine lv_iconst (v := 4) C.1 C.2.1 dX2_init_5 (by decide) ?_
  refine c_newa (N := 4) C hJ 20 (by decide) (by decide) X.2.1 rfl id rfl ar_20 (by decide) (by decide) (by decide) (by decide) (by decide) dX2_init_6 (fun H hJ => ?_)
  refine lt_ok h (fun a2 e_a2 h => ?_)
  refine lt_ok h (fun S1 e_S1 h => ?_)
  rw [e_S1] at hJ
  rw [e_a2]
  obtain ⟨hk, h⟩ := ckk_ok h
  refine pk2_9 (o := (some a2)) C hin X hJ hk dX2_init_8 (fun H locs hJ => ?_)
  refine lt_ok h (fun S3 e_S3 h => ?_)
  rw [e_S3] at hJ
  refine lv_aload_n C.1 C.2.1 dX2_init_11 rfl (lv_at hl 0 rfl) ?_
  refine lv_bipush (v := 16) C.1 C.2.1 dX2_init_12 (by decide) ?_
  refine c_newa (N := 16) C hJ 20 (by decide) (by decide) X.2.1 rfl id rfl ar_20 (by decide) (by decide) (by decide) (by decide) (by decide) dX2_init_14 (fun H hJ => ?_)
  refine lt_ok h (fun a5 e_a5 h => ?_)
  refine lt_ok h (fun S4 e_S4 h => ?_)
  rw [e_S4] at hJ
  rw [e_a5]
  obtain ⟨hk, h⟩ := ckk_ok h
  refine pk2_15 (o := (some a5)) C hin X hJ hk dX2_init_16 (fun H locs hJ => ?_)
  refine lt_ok h (fun S6 e_S6 h => ?_)
  rw [e_S6] at hJ
  refine lv_aload_n C.1 C.2.1 dX2_init_19 rfl (lv_at hl 0 rfl) ?_
  refine lv_bipush (v := 8) C.1 C.2.1 dX2_init_20 (by decide) ?_
  refine c_anew (N := 8) C hJ 30 (by decide) X.2.2.2.2.1 cl2_18 X.2.2.2.2.2.2.2.1.1 (by decide) (by decide) (by decide) (by decide) (by decide) dX2_init_22 (fun H hJ => ?_)
  refine lt_ok h (fun a8 e_a8 h => ?_)
  refine lt_ok h (fun S7 e_S7 h => ?_)
  rw [e_S7] at hJ
  rw [e_a8]
  obtain ⟨hk, h⟩ := ckk_ok h
  refine pk2_20 (o := (some a8)) C hin X hJ hk dX2_init_25 (fun H locs hJ => ?_)
  refine lt_ok h (fun S10 e_S10 h => ?_)
  rw [e_S10] at hJ
  refine lv_aload_n C.1 C.2.1 dX2_init_28 rfl (lv_at hl 0 rfl) ?_
  refine lv_iconst (v := 0) C.1 C.2.1 dX2_init_29 (by decide) ?_
  refine c_newa (N := 0) C hJ 21 (by decide) (by decide) X.2.2.1 rfl id rfl ar_21 (by decide) (by decide) (by decide) (by decide) (by decide) dX2_init_30 (fun H hJ => ?_)
  refine lt_ok h (fun a12 e_a12 h => ?_)
  refine lt_ok h (fun S11 e_S11 h => ?_)
  rw [e_S11] at hJ
  rw [e_a12]
  obtain ⟨hk, h⟩ := ckk_ok h
  refine pk2_24 (o := (some a12)) C X hJ hk dX2_init_32 (fun H locs hJ => ?_)
  refine lt_ok h (fun S13 e_S13 h => ?_)
  rw [e_S13] at hJ
  refine lv_aload_n C.1 C.2.1 dX2_init_35 rfl (lv_at hl 0 rfl) ?_
  refine lv_iconst (v := 0) C.1 C.2.1 dX2_init_36 (by decide) ?_
  refine c_newa (N := 0) C hJ 21 (by decide) (by decide) X.2.2.1 rfl id rfl ar_21 (by decide) (by decide) (by decide) (by decide) (by decide) dX2_init_37 (fun H hJ => ?_)
  refine lt_ok h (fun a15 e_a15 h => ?_)
  refine lt_ok h (fun S14 e_S14 h => ?_)
  rw [e_S14] at hJ
  rw [e_a15]
  obtain ⟨hk, h⟩ := ckk_ok h
  refine pk2_28 (o := (some a15)) C X hJ hk dX2_init_39 (fun H locs hJ => ?_)
  refine lt_ok h (fun S16 e_S16 h => ?_)
  rw [e_S16] at hJ
  cases h
  exact c_retvW C hJ dX2_init_42
end
theorem dX2_begin_0 : decode cX2_begin 0 = .ok (.aload_n 0, 1) := by decide +kernel
theorem dX2_begin_1 : decode cX2_begin 1 = .ok (.aload_n 1, 1) := by decide +kernel
theorem dX2_begin_2 : decode cX2_begin 2 = .ok (.getfield 31, 3) := by decide +kernel
theorem dX2_begin_5 : decode cX2_begin 5 = .ok (.putfield 37, 3) := by decide +kernel
theorem dX2_begin_8 : decode cX2_begin 8 = .ok (.aload_n 0, 1) := by decide +kernel
theorem dX2_begin_9 : decode cX2_begin 9 = .ok (.iload_n 2, 1) := by decide +kernel
theorem dX2_begin_10 : decode cX2_begin 10 = .ok (.putfield 40, 3) := by decide +kernel
theorem dX2_begin_13 : decode cX2_begin 13 = .ok (.aload_n 0, 1) := by decide +kernel
theorem dX2_begin_14 : decode cX2_begin 14 = .ok (.iload_n 3, 1) := by decide +kernel
theorem dX2_begin_15 : decode cX2_begin 15 = .ok (.putfield 43, 3) := by decide +kernel
theorem dX2_begin_18 : decode cX2_begin 18 = .ok (.aload_n 0, 1) := by decide +kernel
theorem dX2_begin_19 : decode cX2_begin 19 = .ok (.iconst 0, 1) := by decide +kernel
theorem dX2_begin_20 : decode cX2_begin 20 = .ok (.putfield 47, 3) := by decide +kernel
theorem dX2_begin_23 : decode cX2_begin 23 = .ok (.aload_n 0, 1) := by decide +kernel
theorem dX2_begin_24 : decode cX2_begin 24 = .ok (.iconst 0, 1) := by decide +kernel
theorem dX2_begin_25 : decode cX2_begin 25 = .ok (.putfield 50, 3) := by decide +kernel
theorem dX2_begin_28 : decode cX2_begin 28 = .ok (.aload_n 0, 1) := by decide +kernel
theorem dX2_begin_29 : decode cX2_begin 29 = .ok (.iconst 0, 1) := by decide +kernel
theorem dX2_begin_30 : decode cX2_begin 30 = .ok (.putfield 53, 3) := by decide +kernel
theorem dX2_begin_33 : decode cX2_begin 33 = .ok (.aload_n 1, 1) := by decide +kernel
theorem dX2_begin_34 : decode cX2_begin 34 = .ok (.getfield 56, 3) := by decide +kernel
theorem dX2_begin_37 : decode cX2_begin 37 = .ok (.iconst 4, 1) := by decide +kernel
theorem dX2_begin_38 : decode cX2_begin 38 = .ok (.aload_n 0, 1) := by decide +kernel
theorem dX2_begin_39 : decode cX2_begin 39 = .ok (.getfield 37, 3) := by decide +kernel
theorem dX2_begin_42 : decode cX2_begin 42 = .ok (.imul, 1) := by decide +kernel
theorem dX2_begin_43 : decode cX2_begin 43 = .ok (.aload_n 0, 1) := by decide +kernel
theorem dX2_begin_44 : decode cX2_begin 44 = .ok (.getfield 9, 3) := by decide +kernel
theorem dX2_begin_47 : decode cX2_begin 47 = .ok (.iconst 0, 1) := by decide +kernel
theorem dX2_begin_48 : decode cX2_begin 48 = .ok (.iconst 4, 1) := by decide +kernel
theorem dX2_begin_49 : decode cX2_begin 49 = .ok (.invokestatic 59, 3) := by decide +kernel
theorem dX2_begin_52 : decode cX2_begin 52 = .ok (.aload_n 1, 1) := by decide +kernel
theorem dX2_begin_53 : decode cX2_begin 53 = .ok (.getfield 65, 3) := by decide +kernel
theorem dX2_begin_56 : decode cX2_begin 56 = .ok (.iconst 0, 1) := by decide +kernel
theorem dX2_begin_57 : decode cX2_begin 57 = .ok (.aload_n 0, 1) := by decide +kernel
theorem dX2_begin_58 : decode cX2_begin 58 = .ok (.getfield 15, 3) := by decide +kernel
theorem dX2_begin_61 : decode cX2_begin 61 = .ok (.iconst 0, 1) := by decide +kernel
theorem dX2_begin_62 : decode cX2_begin 62 = .ok (.bipush 16, 2) := by decide +kernel
theorem dX2_begin_64 : decode cX2_begin 64 = .ok (.invokestatic 59, 3) := by decide +kernel
theorem dX2_begin_67 : decode cX2_begin 67 = .ok (.return_, 1) := by decide +kernel
theorem kd_2_begin : Cond.code yX2_begin cX2_begin 4 none ∈ lw_g := mt_at 1320 (by decide +kernel) rfl
theorem ki_2_begin : Cond.instanceMethod yX2_begin ∈ lw_g := mt_at 1318 (by decide +kernel) rfl
theorem kl_2_begin : Cond.selects (kRn 2) yX2_begin yX2_begin ∈ lw_g := mt_at 1319 (by decide +kernel) rfl
theorem mm2_59 : Cond.methodLink RX2 59 arraycopyName ∈ lw_g := mt_at 1321 (by decide +kernel) rfl
section
variable {p : Program} {l : Launch} {e : Env} {R : Room} {s : State} {m : MethodId} {args : Array Value} {below : List Frame} {meth : Method} {c : Code} {H : Heap} {locs : List Loc} {cells slots : Nat} {Q : State → Prop}
variable {D : cG} {S S0 : cSt} {cc : ByteArray} {nL : Nat} {pc : Nat} {ls : Array Slot} {rest : List Value} {H0 : Heap} {nF nR nC nS : Nat} {ret : Option FieldType} {a : Nat}
theorem gk2_9 (C : cY p R s m args meth c RX2 cc nL nF nC nS nR ret) (X : cX D s) (hW : cW D S H) (hk : kK S a = 3) {x : Nat} (hx : kR S a 0 = some x) (hdg : decode cc pc = .ok (.getfield 9, 3)) (kk : W p l e R s m args below meth c H locs cells slots Q (F0 m (pc + 3) ls (.ref x :: rest))) : W p l e R s m args below meth c H locs cells slots Q (F0 m pc ls (.ref a :: rest)) := c_get C X hW 2 (by decide) ly_2 hk 0 (by decide) (mt_at 1269 (by decide +kernel) (by decide +kernel)) hdg (by rw [cV_R (by decide +kernel) hx]; exact kk)
theorem gk2_15 (C : cY p R s m args meth c RX2 cc nL nF nC nS nR ret) (X : cX D s) (hW : cW D S H) (hk : kK S a = 3) {x : Nat} (hx : kR S a 1 = some x) (hdg : decode cc pc = .ok (.getfield 15, 3)) (kk : W p l e R s m args below meth c H locs cells slots Q (F0 m (pc + 3) ls (.ref x :: rest))) : W p l e R s m args below meth c H locs cells slots Q (F0 m pc ls (.ref a :: rest)) := c_get C X hW 2 (by decide) ly_2 hk 1 (by decide) (mt_at 1272 (by decide +kernel) (by decide +kernel)) hdg (by rw [cV_R (by decide +kernel) hx]; exact kk)
theorem gk2_31 (C : cY p R s m args meth c RX2 cc nL nF nC nS nR ret) (X : cX D s) (hW : cW D S H) (hk : kK S a = 8) (hdg : decode cc pc = .ok (.getfield 31, 3)) (kk : W p l e R s m args below meth c H locs cells slots Q (F0 m (pc + 3) ls (.int (kF S a 0) :: rest))) : W p l e R s m args below meth c H locs cells slots Q (F0 m pc ls (.ref a :: rest)) := c_get C X hW 7 (by decide) ly_7 hk 0 (by decide) (mt_at 303 (by decide +kernel) (by decide +kernel)) hdg (by rw [cV_I (by decide +kernel)]; exact kk)
theorem gk2_37 (C : cY p R s m args meth c RX2 cc nL nF nC nS nR ret) (X : cX D s) (hW : cW D S H) (hk : kK S a = 3) (hdg : decode cc pc = .ok (.getfield 37, 3)) (kk : W p l e R s m args below meth c H locs cells slots Q (F0 m (pc + 3) ls (.int (kF S a 3) :: rest))) : W p l e R s m args below meth c H locs cells slots Q (F0 m pc ls (.ref a :: rest)) := c_get C X hW 2 (by decide) ly_2 hk 3 (by decide) (mt_at 1277 (by decide +kernel) (by decide +kernel)) hdg (by rw [cV_I (by decide +kernel)]; exact kk)
theorem gk2_56 (C : cY p R s m args meth c RX2 cc nL nF nC nS nR ret) (X : cX D s) (hW : cW D S H) (hk : kK S a = 8) {x : Nat} (hx : kR S a 5 = some x) (hdg : decode cc pc = .ok (.getfield 56, 3)) (kk : W p l e R s m args below meth c H locs cells slots Q (F0 m (pc + 3) ls (.ref x :: rest))) : W p l e R s m args below meth c H locs cells slots Q (F0 m pc ls (.ref a :: rest)) := c_get C X hW 7 (by decide) ly_7 hk 5 (by decide) (mt_at 314 (by decide +kernel) (by decide +kernel)) hdg (by rw [cV_R (by decide +kernel) hx]; exact kk)
theorem gk2_65 (C : cY p R s m args meth c RX2 cc nL nF nC nS nR ret) (X : cX D s) (hW : cW D S H) (hk : kK S a = 8) {x : Nat} (hx : kR S a 7 = some x) (hdg : decode cc pc = .ok (.getfield 65, 3)) (kk : W p l e R s m args below meth c H locs cells slots Q (F0 m (pc + 3) ls (.ref x :: rest))) : W p l e R s m args below meth c H locs cells slots Q (F0 m pc ls (.ref a :: rest)) := c_get C X hW 7 (by decide) ly_7 hk 7 (by decide) (mt_at 319 (by decide +kernel) (by decide +kernel)) hdg (by rw [cV_R (by decide +kernel) hx]; exact kk)
theorem pk2_37 {x : Int32} (C : cY p R s m args meth c RX2 cc nL nF nC nS nR ret) (X : cX D s) (hJ : cJ D S0 H0 S H locs) (hk : kK S a = 3) (hdg : decode cc pc = .ok (.putfield 37, 3)) (kk : ∀ (H1 : Heap) (locs1 : List Loc), cJ D S0 H0 (cPi S a 3 x) H1 locs1 → W p l e R s m args below meth c H1 locs1 cells slots Q (F0 m (pc + 3) ls (rest))) : W p l e R s m args below meth c H locs cells slots Q (F0 m pc ls (.int x :: .ref a :: rest)) := c_put (S1 := (cPi S a 3 x)) C X hJ 2 (by decide) ly_2 hk 3 (by decide) (by decide +kernel)  rfl rfl (by decide) rfl rfl (fun j _ => c_vI (by decide +kernel)) c_oPi (mt_at 1277 (by decide +kernel) (by decide +kernel)) hdg kk
theorem pk2_40 {x : Int32} (C : cY p R s m args meth c RX2 cc nL nF nC nS nR ret) (X : cX D s) (hJ : cJ D S0 H0 S H locs) (hk : kK S a = 3) (hdg : decode cc pc = .ok (.putfield 40, 3)) (kk : ∀ (H1 : Heap) (locs1 : List Loc), cJ D S0 H0 (cPi S a 4 x) H1 locs1 → W p l e R s m args below meth c H1 locs1 cells slots Q (F0 m (pc + 3) ls (rest))) : W p l e R s m args below meth c H locs cells slots Q (F0 m pc ls (.int x :: .ref a :: rest)) := c_put (S1 := (cPi S a 4 x)) C X hJ 2 (by decide) ly_2 hk 4 (by decide) (by decide +kernel)  rfl rfl (by decide) rfl rfl (fun j _ => c_vI (by decide +kernel)) c_oPi (mt_at 1280 (by decide +kernel) (by decide +kernel)) hdg kk
theorem pk2_43 {x : Int32} (C : cY p R s m args meth c RX2 cc nL nF nC nS nR ret) (X : cX D s) (hJ : cJ D S0 H0 S H locs) (hk : kK S a = 3) (hz : x = 0 ∨ x = 1) (hdg : decode cc pc = .ok (.putfield 43, 3)) (kk : ∀ (H1 : Heap) (locs1 : List Loc), cJ D S0 H0 (cPi S a 5 x) H1 locs1 → W p l e R s m args below meth c H1 locs1 cells slots Q (F0 m (pc + 3) ls (rest))) : W p l e R s m args below meth c H locs cells slots Q (F0 m pc ls (.int x :: .ref a :: rest)) := c_put (S1 := (cPi S a 5 x)) C X hJ 2 (by decide) ly_2 hk 5 (by decide) (by decide +kernel)  (by rcases hz with h | h <;> (rw [h]; rfl)) (by rcases hz with h | h <;> (rw [h]; rfl)) (by decide) rfl rfl (fun j _ => c_vI (by decide +kernel)) c_oPi (mt_at 1283 (by decide +kernel) (by decide +kernel)) hdg kk
theorem pk2_47 {x : Int32} (C : cY p R s m args meth c RX2 cc nL nF nC nS nR ret) (X : cX D s) (hJ : cJ D S0 H0 S H locs) (hk : kK S a = 3) (hdg : decode cc pc = .ok (.putfield 47, 3)) (kk : ∀ (H1 : Heap) (locs1 : List Loc), cJ D S0 H0 (cPi S a 6 x) H1 locs1 → W p l e R s m args below meth c H1 locs1 cells slots Q (F0 m (pc + 3) ls (rest))) : W p l e R s m args below meth c H locs cells slots Q (F0 m pc ls (.int x :: .ref a :: rest)) := c_put (S1 := (cPi S a 6 x)) C X hJ 2 (by decide) ly_2 hk 6 (by decide) (by decide +kernel)  rfl rfl (by decide) rfl rfl (fun j _ => c_vI (by decide +kernel)) c_oPi (mt_at 1285 (by decide +kernel) (by decide +kernel)) hdg kk
theorem pk2_50 {x : Int32} (C : cY p R s m args meth c RX2 cc nL nF nC nS nR ret) (X : cX D s) (hJ : cJ D S0 H0 S H locs) (hk : kK S a = 3) (hdg : decode cc pc = .ok (.putfield 50, 3)) (kk : ∀ (H1 : Heap) (locs1 : List Loc), cJ D S0 H0 (cPi S a 7 x) H1 locs1 → W p l e R s m args below meth c H1 locs1 cells slots Q (F0 m (pc + 3) ls (rest))) : W p l e R s m args below meth c H locs cells slots Q (F0 m pc ls (.int x :: .ref a :: rest)) := c_put (S1 := (cPi S a 7 x)) C X hJ 2 (by decide) ly_2 hk 7 (by decide) (by decide +kernel)  rfl rfl (by decide) rfl rfl (fun j _ => c_vI (by decide +kernel)) c_oPi (mt_at 1288 (by decide +kernel) (by decide +kernel)) hdg kk
theorem pk2_53 {x : Int32} (C : cY p R s m args meth c RX2 cc nL nF nC nS nR ret) (X : cX D s) (hJ : cJ D S0 H0 S H locs) (hk : kK S a = 3) (hdg : decode cc pc = .ok (.putfield 53, 3)) (kk : ∀ (H1 : Heap) (locs1 : List Loc), cJ D S0 H0 (cPi S a 8 x) H1 locs1 → W p l e R s m args below meth c H1 locs1 cells slots Q (F0 m (pc + 3) ls (rest))) : W p l e R s m args below meth c H locs cells slots Q (F0 m pc ls (.int x :: .ref a :: rest)) := c_put (S1 := (cPi S a 8 x)) C X hJ 2 (by decide) ly_2 hk 8 (by decide) (by decide +kernel)  rfl rfl (by decide) rfl rfl (fun j _ => c_vI (by decide +kernel)) c_oPi (mt_at 1290 (by decide +kernel) (by decide +kernel)) hdg kk
end
section
variable {p : Program} {l : Launch} {e : Env} {R : Room} {s : State} {m : MethodId} {args : Array Value} {below : List Frame} {meth : Method} {c : Code} {D : cG} {S0 S9 : cSt}
noncomputable def fk_2_begin (S : cSt) (v0 : Nat) (v1 : Nat) (v2 : Int32) (v3 : Int32) : Option (cSt) :=
ckk S v1 8 (
ckk S v0 3 (lt (cPi S v0 3 (kF S v1 0)) fun S1 =>
ckk S1 v0 3 (lt (cPi S1 v0 4 v2) fun S2 =>
ckk S2 v0 3 (ckz v3 (lt (cPi S2 v0 5 v3) fun S3 =>
ckk S3 v0 3 (lt (cPi S3 v0 6 (0 : Int32)) fun S4 =>
ckk S4 v0 3 (lt (cPi S4 v0 7 (0 : Int32)) fun S5 =>
ckk S5 v0 3 (lt (cPi S5 v0 8 (0 : Int32)) fun S6 =>
ckk S6 v1 8 (bd (kR S6 v1 5) fun a7 =>
ckk S6 v0 3 (
ckk S6 v0 3 (bd (kR S6 v0 0) fun a8 =>
ckk S6 a7 20 (ckk S6 a8 20 (ckp ((¬ ((4 : Int32) * (kF S6 v0 3)) < 0 ∧ ¬ (0 : Int32) < 0 ∧ ¬ (4 : Int32) < 0) ∧ (Int32.toNatClampNeg ((4 : Int32) * (kF S6 v0 3))) + (Int32.toNatClampNeg (4 : Int32)) ≤ kL S6 a7 ∧ (Int32.toNatClampNeg (0 : Int32)) + (Int32.toNatClampNeg (4 : Int32)) ≤ kL S6 a8) (lt (cCp S6 a7 (Int32.toNatClampNeg ((4 : Int32) * (kF S6 v0 3))) a8 (Int32.toNatClampNeg (0 : Int32)) (Int32.toNatClampNeg (4 : Int32))) fun S10 =>
ckk S10 v1 8 (bd (kR S10 v1 7) fun a11 =>
ckk S10 v0 3 (bd (kR S10 v0 1) fun a12 =>
ckk S10 a11 20 (ckk S10 a12 20 (ckp ((¬ (0 : Int32) < 0 ∧ ¬ (0 : Int32) < 0 ∧ ¬ (16 : Int32) < 0) ∧ (Int32.toNatClampNeg (0 : Int32)) + (Int32.toNatClampNeg (16 : Int32)) ≤ kL S10 a11 ∧ (Int32.toNatClampNeg (0 : Int32)) + (Int32.toNatClampNeg (16 : Int32)) ≤ kL S10 a12) (lt (cCp S10 a11 (Int32.toNatClampNeg (0 : Int32)) a12 (Int32.toNatClampNeg (0 : Int32)) (Int32.toNatClampNeg (16 : Int32))) fun S13 =>
some S13)))))))))))))))))))
set_option maxRecDepth 100000 in
set_option maxHeartbeats 4000000 in
theorem tk_2_begin (l : Launch) {D : cG} {S : cSt} {v0 : Nat} {v1 : Nat} {v2 : Int32} {v3 : Int32} {S9 : cSt} (h : fk_2_begin S v0 v1 v2 v3 = some S9) : Met l yX2_begin (Cond.code yX2_begin cX2_begin 4 none :: lw_g) { frames := 2, cells := 0, slots := 0, locals := 60 } (kPi [.ref v0, .ref v1, .int v2, .int v3] D S) (kW none D S S9) 0 0 (cA S) := by
  refine Met.ofW (cc := cX2_begin) (maxL := 4) (ret := none) (by decide) rfl ?_
  intro p e s m args below meth c s₁ B hml hv
  obtain ⟨rfl, hW, X⟩ := hv
  have C : cY p (headSpec (Cond.code yX2_begin cX2_begin 4 none :: lw_g) { frames := 2, cells := 0, slots := 0, locals := 60 }).room s m _ meth c RX2 cX2_begin 4 2 0 0 60 none := ⟨B.exec, B.bytes, hml, findClass_of_methodNamed B.named, fun w hw => atoms_spec (ws := Cond.code yX2_begin cX2_begin 4 none :: lw_g) B.pre w (List.mem_cons_of_mem _ hw), ⟨Nat.le_refl _, Nat.le_refl _, Nat.le_refl _, Nat.le_refl _⟩, B.returns, B.notSynchronized⟩
  have hl := lv_entry ([.ref v0, .ref v1, .int v2, .int v3]) (n := 4) (Nat.le_of_ble_eq_true rfl)
  rw [lg_entry_eq]
  generalize (lg_sl ([.ref v0, .ref v1, .int v2, .int v3]) ++ List.replicate (4 - (lg_sl ([.ref v0, .ref v1, .int v2, .int v3])).length) Slot.unset).toArray = ls at hl ⊢
  have hl : lv_has ls 4 [(0, .ref v0), (1, .ref v1), (2, .int v2), (3, .int v3)] := hl
  have hJ : cJ D S s.heap S s.heap [] := cJ.rf hW
  unfold fk_2_begin at h
  refine lv_aload_n C.1 C.2.1 dX2_begin_0 rfl (lv_at hl 0 rfl) ?_
  refine lv_aload_n C.1 C.2.1 dX2_begin_1 rfl (lv_at hl 1 rfl) ?_
  obtain ⟨hk, h⟩ := ckk_ok h
  refine gk2_31 C X hJ.1 hk dX2_begin_2 ?_
  obtain ⟨hk, h⟩ := ckk_ok h
  refine pk2_37 C X hJ hk dX2_begin_5 (fun H locs hJ => ?_)
  refine lt_ok h (fun S1 e_S1 h => ?_)
  rw [e_S1] at hJ
  refine lv_aload_n C.1 C.2.1 dX2_begin_8 rfl (lv_at hl 0 rfl) ?_
  refine lv_iload_n C.1 C.2.1 dX2_begin_9 rfl (lv_at hl 2 rfl) ?_
  obtain ⟨hk, h⟩ := ckk_ok h
  refine pk2_40 C X hJ hk dX2_begin_10 (fun H locs hJ => ?_)
  refine lt_ok h (fun S2 e_S2 h => ?_)
  rw [e_S2] at hJ
  refine lv_aload_n C.1 C.2.1 dX2_begin_13 rfl (lv_at hl 0 rfl) ?_
  refine lv_iload_n C.1 C.2.1 dX2_begin_14 rfl (lv_at hl 3 rfl) ?_
  obtain ⟨hk, h⟩ := ckk_ok h
  obtain ⟨hzo, h⟩ := ckz_ok h
  refine pk2_43 C X hJ hk hzo dX2_begin_15 (fun H locs hJ => ?_)
  refine lt_ok h (fun S3 e_S3 h => ?_)
  rw [e_S3] at hJ
  refine lv_aload_n C.1 C.2.1 dX2_begin_18 rfl (lv_at hl 0 rfl) ?_
  refine lv_iconst (v := 0) C.1 C.2.1 dX2_begin_19 (by decide) ?_
  obtain ⟨hk, h⟩ := ckk_ok h
  refine pk2_47 C X hJ hk dX2_begin_20 (fun H locs hJ => ?_)
  refine lt_ok h (fun S4 e_S4 h => ?_)
  rw [e_S4] at hJ
  refine lv_aload_n C.1 C.2.1 dX2_begin_23 rfl (lv_at hl 0 rfl) ?_
  refine lv_iconst (v := 0) C.1 C.2.1 dX2_begin_24 (by decide) ?_
  obtain ⟨hk, h⟩ := ckk_ok h
  refine pk2_50 C X hJ hk dX2_begin_25 (fun H locs hJ => ?_)
  refine lt_ok h (fun S5 e_S5 h => ?_)
  rw [e_S5] at hJ
  refine lv_aload_n C.1 C.2.1 dX2_begin_28 rfl (lv_at hl 0 rfl) ?_
  refine lv_iconst (v := 0) C.1 C.2.1 dX2_begin_29 (by decide) ?_
  obtain ⟨hk, h⟩ := ckk_ok h
  refine pk2_53 C X hJ hk dX2_begin_30 (fun H locs hJ => ?_)
  refine lt_ok h (fun S6 e_S6 h => ?_)
  rw [e_S6] at hJ
  refine lv_aload_n C.1 C.2.1 dX2_begin_33 rfl (lv_at hl 1 rfl) ?_
  obtain ⟨hk, h⟩ := ckk_ok h
  obtain ⟨a7, h_a7, h⟩ := bd_ok h
  refine gk2_56 C X hJ.1 hk h_a7 dX2_begin_34 ?_
  refine lv_iconst (v := 4) C.1 C.2.1 dX2_begin_37 (by decide) ?_
  refine lv_aload_n C.1 C.2.1 dX2_begin_38 rfl (lv_at hl 0 rfl) ?_
  obtain ⟨hk, h⟩ := ckk_ok h
  refine gk2_37 C X hJ.1 hk dX2_begin_39 ?_
  refine lv_imul C.1 C.2.1 dX2_begin_42 ?_
  refine lv_aload_n C.1 C.2.1 dX2_begin_43 rfl (lv_at hl 0 rfl) ?_
  obtain ⟨hk, h⟩ := ckk_ok h
  obtain ⟨a8, h_a8, h⟩ := bd_ok h
  refine gk2_9 C X hJ.1 hk h_a8 dX2_begin_44 ?_
  refine lv_iconst (v := 0) C.1 C.2.1 dX2_begin_47 (by decide) ?_
  refine lv_iconst (v := 4) C.1 C.2.1 dX2_begin_48 (by decide) ?_
  obtain ⟨hk0, h⟩ := ckk_ok h
  obtain ⟨hk1, h⟩ := ckk_ok h
  obtain ⟨hcp, h⟩ := ckp_ok h
  refine c_copy (rest := []) C hl.1 mm2_59 ac_n ac_s ac_i 20 (by decide) (by decide) X.2.1 rfl hJ hk0 hk1 hcp (fun _ _ => rfl) (by decide) (Nat.le_of_ble_eq_true rfl) dX2_begin_49 (fun H locs hJ => ?_)
  refine lt_ok h (fun S10 e_S10 h => ?_)
  rw [e_S10] at hJ
  refine lv_aload_n C.1 C.2.1 dX2_begin_52 rfl (lv_at hl 1 rfl) ?_
  obtain ⟨hk, h⟩ := ckk_ok h
  obtain ⟨a11, h_a11, h⟩ := bd_ok h
  refine gk2_65 C X hJ.1 hk h_a11 dX2_begin_53 ?_
  refine lv_iconst (v := 0) C.1 C.2.1 dX2_begin_56 (by decide) ?_
  refine lv_aload_n C.1 C.2.1 dX2_begin_57 rfl (lv_at hl 0 rfl) ?_
  obtain ⟨hk, h⟩ := ckk_ok h
  obtain ⟨a12, h_a12, h⟩ := bd_ok h
  refine gk2_15 C X hJ.1 hk h_a12 dX2_begin_58 ?_
  refine lv_iconst (v := 0) C.1 C.2.1 dX2_begin_61 (by decide) ?_
  refine lv_bipush (v := 16) C.1 C.2.1 dX2_begin_62 (by decide) ?_
  obtain ⟨hk0, h⟩ := ckk_ok h
  obtain ⟨hk1, h⟩ := ckk_ok h
  obtain ⟨hcp, h⟩ := ckp_ok h
  refine c_copy (rest := []) C hl.1 mm2_59 ac_n ac_s ac_i 20 (by decide) (by decide) X.2.1 rfl hJ hk0 hk1 hcp (fun _ _ => rfl) (by decide) (Nat.le_of_ble_eq_true rfl) dX2_begin_64 (fun H locs hJ => ?_)
  refine lt_ok h (fun S13 e_S13 h => ?_)
  rw [e_S13] at hJ
  cases h
  exact c_retvW C hJ dX2_begin_67
end
theorem dX2_putByte_0 : decode cX2_putByte 0 = .ok (.aload_n 0, 1) := by decide +kernel
theorem dX2_putByte_1 : decode cX2_putByte 1 = .ok (.getfield 50, 3) := by decide +kernel
theorem dX2_putByte_4 : decode cX2_putByte 4 = .ok (.sipush 560, 3) := by decide +kernel
theorem dX2_putByte_7 : decode cX2_putByte 7 = .ok (.if_icmp .ge 24, 3) := by decide +kernel
theorem dX2_putByte_10 : decode cX2_putByte 10 = .ok (.aload_n 0, 1) := by decide +kernel
theorem dX2_putByte_11 : decode cX2_putByte 11 = .ok (.getfield 24, 3) := by decide +kernel
theorem dX2_putByte_14 : decode cX2_putByte 14 = .ok (.aload_n 0, 1) := by decide +kernel
theorem dX2_putByte_15 : decode cX2_putByte 15 = .ok (.getfield 50, 3) := by decide +kernel
theorem dX2_putByte_18 : decode cX2_putByte 18 = .ok (.iload_n 1, 1) := by decide +kernel
theorem dX2_putByte_19 : decode cX2_putByte 19 = .ok (.i2b, 1) := by decide +kernel
theorem dX2_putByte_20 : decode cX2_putByte 20 = .ok (.bastore, 1) := by decide +kernel
theorem dX2_putByte_21 : decode cX2_putByte 21 = .ok (.aload_n 0, 1) := by decide +kernel
theorem dX2_putByte_22 : decode cX2_putByte 22 = .ok (.dup, 1) := by decide +kernel
theorem dX2_putByte_23 : decode cX2_putByte 23 = .ok (.getfield 50, 3) := by decide +kernel
theorem dX2_putByte_26 : decode cX2_putByte 26 = .ok (.iconst 1, 1) := by decide +kernel
theorem dX2_putByte_27 : decode cX2_putByte 27 = .ok (.iadd, 1) := by decide +kernel
theorem dX2_putByte_28 : decode cX2_putByte 28 = .ok (.putfield 50, 3) := by decide +kernel
theorem dX2_putByte_31 : decode cX2_putByte 31 = .ok (.return_, 1) := by decide +kernel
theorem kd_2_putByte : Cond.code yX2_putByte cX2_putByte 2 none ∈ lw_g := mt_at 1389 (by decide +kernel) rfl
theorem ki_2_putByte : Cond.instanceMethod yX2_putByte ∈ lw_g := mt_at 1388 (by decide +kernel) rfl
theorem kl_2_putByte : Cond.selects (kRn 2) yX2_putByte yX2_putByte ∈ lw_g := mt_sel 32 (by decide +kernel) rfl
section
variable {p : Program} {l : Launch} {e : Env} {R : Room} {s : State} {m : MethodId} {args : Array Value} {below : List Frame} {meth : Method} {c : Code} {H : Heap} {locs : List Loc} {cells slots : Nat} {Q : State → Prop}
variable {D : cG} {S S0 : cSt} {cc : ByteArray} {nL : Nat} {pc : Nat} {ls : Array Slot} {rest : List Value} {H0 : Heap} {nF nR nC nS : Nat} {ret : Option FieldType} {a : Nat}
theorem gk2_24 (C : cY p R s m args meth c RX2 cc nL nF nC nS nR ret) (X : cX D s) (hW : cW D S H) (hk : kK S a = 3) {x : Nat} (hx : kR S a 9 = some x) (hdg : decode cc pc = .ok (.getfield 24, 3)) (kk : W p l e R s m args below meth c H locs cells slots Q (F0 m (pc + 3) ls (.ref x :: rest))) : W p l e R s m args below meth c H locs cells slots Q (F0 m pc ls (.ref a :: rest)) := c_get C X hW 2 (by decide) ly_2 hk 9 (by decide) (mt_at 1292 (by decide +kernel) (by decide +kernel)) hdg (by rw [cV_R (by decide +kernel) hx]; exact kk)
theorem gk2_50 (C : cY p R s m args meth c RX2 cc nL nF nC nS nR ret) (X : cX D s) (hW : cW D S H) (hk : kK S a = 3) (hdg : decode cc pc = .ok (.getfield 50, 3)) (kk : W p l e R s m args below meth c H locs cells slots Q (F0 m (pc + 3) ls (.int (kF S a 7) :: rest))) : W p l e R s m args below meth c H locs cells slots Q (F0 m pc ls (.ref a :: rest)) := c_get C X hW 2 (by decide) ly_2 hk 7 (by decide) (mt_at 1288 (by decide +kernel) (by decide +kernel)) hdg (by rw [cV_I (by decide +kernel)]; exact kk)
end
section
variable {p : Program} {l : Launch} {e : Env} {R : Room} {s : State} {m : MethodId} {args : Array Value} {below : List Frame} {meth : Method} {c : Code} {D : cG} {S0 S9 : cSt}
noncomputable def fk_2_putByte_31 (S : cSt) : Option (cSt) :=
some S
set_option maxRecDepth 100000 in
set_option maxHeartbeats 4000000 in
theorem wk_2_putByte_31 (C : cY p R s m args meth c RX2 cX2_putByte 2 0 0 0 0 none) (X : cX D s) : ∀ {S : cSt} {H : Heap} {locs : List Loc} {ls : Array Slot}, fk_2_putByte_31 S = some S9 → cJ D S0 s.heap S H locs → lv_has ls 2 [] → W p l e R s m args below meth c H locs 0 0 (MQ below (kW none D S0 S9) args s 0 0 (cA S0)) (F0 m 31 ls []) := by
  intro S H locs ls h hJ hl
  unfold fk_2_putByte_31 at h
  cases h
  exact c_retvW C hJ dX2_putByte_31
noncomputable def fk_2_putByte (S : cSt) (v0 : Nat) (v1 : Int32) : Option (cSt) :=
ckk S v0 3 (
if (560 : Int32) ≤ (kF S v0 7) then (
fk_2_putByte_31 S)
else (
ckk S v0 3 (bd (kR S v0 9) fun a2 =>
ckk S v0 3 (
ckk S a2 21 (ck (kF S v0 7) (kL S a2) (ckp (vp_nar .byte (v1.toInt8.toInt32) = (v1.toInt8.toInt32)) (lt (cWi S a2 (Int32.toNatClampNeg (kF S v0 7)) (v1.toInt8.toInt32)) fun S3 =>
ckk S3 v0 3 (
ckk S3 v0 3 (lt (cPi S3 v0 7 ((kF S3 v0 7) + (1 : Int32))) fun S4 =>
fk_2_putByte_31 S4)))))))))
set_option maxRecDepth 100000 in
set_option maxHeartbeats 4000000 in
theorem tk_2_putByte (l : Launch) {D : cG} {S : cSt} {v0 : Nat} {v1 : Int32} {S9 : cSt} (h : fk_2_putByte S v0 v1 = some S9) : Met l yX2_putByte (Cond.code yX2_putByte cX2_putByte 2 none :: lw_g) { frames := 0, cells := 0, slots := 0, locals := 0 } (kPi [.ref v0, .int v1] D S) (kW none D S S9) 0 0 (cA S) := by
  refine Met.ofW (cc := cX2_putByte) (maxL := 2) (ret := none) (by decide) rfl ?_
  intro p e s m args below meth c s₁ B hml hv
  obtain ⟨rfl, hW, X⟩ := hv
  have C : cY p (headSpec (Cond.code yX2_putByte cX2_putByte 2 none :: lw_g) { frames := 0, cells := 0, slots := 0, locals := 0 }).room s m _ meth c RX2 cX2_putByte 2 0 0 0 0 none := ⟨B.exec, B.bytes, hml, findClass_of_methodNamed B.named, fun w hw => atoms_spec (ws := Cond.code yX2_putByte cX2_putByte 2 none :: lw_g) B.pre w (List.mem_cons_of_mem _ hw), ⟨Nat.le_refl _, Nat.le_refl _, Nat.le_refl _, Nat.le_refl _⟩, B.returns, B.notSynchronized⟩
  have hl := lv_entry ([.ref v0, .int v1]) (n := 2) (Nat.le_of_ble_eq_true rfl)
  rw [lg_entry_eq]
  generalize (lg_sl ([.ref v0, .int v1]) ++ List.replicate (2 - (lg_sl ([.ref v0, .int v1])).length) Slot.unset).toArray = ls at hl ⊢
  have hl : lv_has ls 2 [(0, .ref v0), (1, .int v1)] := hl
  have hJ : cJ D S s.heap S s.heap [] := cJ.rf hW
  unfold fk_2_putByte at h
  refine lv_aload_n C.1 C.2.1 dX2_putByte_0 rfl (lv_at hl 0 rfl) ?_
  obtain ⟨hk, h⟩ := ckk_ok h
  refine gk2_50 C X hJ.1 hk dX2_putByte_1 ?_
  refine lv_sipush (v := 560) C.1 C.2.1 dX2_putByte_4 (by decide) ?_
  refine lv_icmp_ge (tgt := 31) C.1 C.2.1 dX2_putByte_7 (by decide) (fun c1 => ?_) (fun c1 => ?_)
  · have h := if_t h c1
    exact wk_2_putByte_31 C X h hJ (lv_sub hl [] rfl)
  · have h := if_f h c1
    refine lv_aload_n C.1 C.2.1 dX2_putByte_10 rfl (lv_at hl 0 rfl) ?_
    obtain ⟨hk, h⟩ := ckk_ok h
    obtain ⟨a2, h_a2, h⟩ := bd_ok h
    refine gk2_24 C X hJ.1 hk h_a2 dX2_putByte_11 ?_
    refine lv_aload_n C.1 C.2.1 dX2_putByte_14 rfl (lv_at hl 0 rfl) ?_
    obtain ⟨hk, h⟩ := ckk_ok h
    refine gk2_50 C X hJ.1 hk dX2_putByte_15 ?_
    refine lv_iload_n C.1 C.2.1 dX2_putByte_18 rfl (lv_at hl 1 rfl) ?_
    refine lv_i2b (v := v1.toInt8.toInt32) C.1 C.2.1 dX2_putByte_19 rfl ?_
    obtain ⟨hk, h⟩ := ckk_ok h
    obtain ⟨hin2, h⟩ := ck_ok h
    obtain ⟨hnr, h⟩ := ckp_ok h
    refine c_bast C X hJ hk hnr hin2 dX2_putByte_20 (fun H locs hJ => ?_)
    refine lt_ok h (fun S3 e_S3 h => ?_)
    rw [e_S3] at hJ
    refine lv_aload_n C.1 C.2.1 dX2_putByte_21 rfl (lv_at hl 0 rfl) ?_
    refine lv_dup C.1 C.2.1 dX2_putByte_22 rfl ?_
    obtain ⟨hk, h⟩ := ckk_ok h
    refine gk2_50 C X hJ.1 hk dX2_putByte_23 ?_
    refine lv_iconst (v := 1) C.1 C.2.1 dX2_putByte_26 (by decide) ?_
    refine lv_iadd C.1 C.2.1 dX2_putByte_27 ?_
    obtain ⟨hk, h⟩ := ckk_ok h
    refine pk2_50 C X hJ hk dX2_putByte_28 (fun H locs hJ => ?_)
    refine lt_ok h (fun S4 e_S4 h => ?_)
    rw [e_S4] at hJ
    exact wk_2_putByte_31 C X h hJ (lv_sub hl [] rfl)
end
theorem dX2_putNumber_0 : decode cX2_putNumber 0 = .ok (.iload_n 1, 1) := by decide +kernel
theorem dX2_putNumber_1 : decode cX2_putNumber 1 = .ok (.iconst 1, 1) := by decide +kernel
theorem dX2_putNumber_2 : decode cX2_putNumber 2 = .ok (.ishl, 1) := by decide +kernel
theorem dX2_putNumber_3 : decode cX2_putNumber 3 = .ok (.iload_n 1, 1) := by decide +kernel
theorem dX2_putNumber_4 : decode cX2_putNumber 4 = .ok (.bipush 31, 2) := by decide +kernel
theorem dX2_putNumber_6 : decode cX2_putNumber 6 = .ok (.ishr, 1) := by decide +kernel
theorem dX2_putNumber_7 : decode cX2_putNumber 7 = .ok (.ixor, 1) := by decide +kernel
theorem dX2_putNumber_8 : decode cX2_putNumber 8 = .ok (.istore_n 2, 1) := by decide +kernel
theorem dX2_putNumber_9 : decode cX2_putNumber 9 = .ok (.iconst 0, 1) := by decide +kernel
theorem dX2_putNumber_10 : decode cX2_putNumber 10 = .ok (.istore_n 3, 1) := by decide +kernel
theorem dX2_putNumber_11 : decode cX2_putNumber 11 = .ok (.iload_n 3, 1) := by decide +kernel
theorem dX2_putNumber_12 : decode cX2_putNumber 12 = .ok (.iconst 4, 1) := by decide +kernel
theorem dX2_putNumber_13 : decode cX2_putNumber 13 = .ok (.if_icmp .ge 33, 3) := by decide +kernel
theorem dX2_putNumber_16 : decode cX2_putNumber 16 = .ok (.iload_n 2, 1) := by decide +kernel
theorem dX2_putNumber_17 : decode cX2_putNumber 17 = .ok (.bipush 7, 2) := by decide +kernel
theorem dX2_putNumber_19 : decode cX2_putNumber 19 = .ok (.iushr, 1) := by decide +kernel
theorem dX2_putNumber_20 : decode cX2_putNumber 20 = .ok (.ifCond .eq 26, 3) := by decide +kernel
theorem dX2_putNumber_23 : decode cX2_putNumber 23 = .ok (.aload_n 0, 1) := by decide +kernel
theorem dX2_putNumber_24 : decode cX2_putNumber 24 = .ok (.iload_n 2, 1) := by decide +kernel
theorem dX2_putNumber_25 : decode cX2_putNumber 25 = .ok (.bipush 127, 2) := by decide +kernel
theorem dX2_putNumber_27 : decode cX2_putNumber 27 = .ok (.iand, 1) := by decide +kernel
theorem dX2_putNumber_28 : decode cX2_putNumber 28 = .ok (.sipush 128, 3) := by decide +kernel
theorem dX2_putNumber_31 : decode cX2_putNumber 31 = .ok (.ior, 1) := by decide +kernel
theorem dX2_putNumber_32 : decode cX2_putNumber 32 = .ok (.invokevirtual 69, 3) := by decide +kernel
theorem dX2_putNumber_35 : decode cX2_putNumber 35 = .ok (.iload_n 2, 1) := by decide +kernel
theorem dX2_putNumber_36 : decode cX2_putNumber 36 = .ok (.bipush 7, 2) := by decide +kernel
theorem dX2_putNumber_38 : decode cX2_putNumber 38 = .ok (.iushr, 1) := by decide +kernel
theorem dX2_putNumber_39 : decode cX2_putNumber 39 = .ok (.istore_n 2, 1) := by decide +kernel
theorem dX2_putNumber_40 : decode cX2_putNumber 40 = .ok (.iinc 3 1, 3) := by decide +kernel
theorem dX2_putNumber_43 : decode cX2_putNumber 43 = .ok (.goto (-32), 3) := by decide +kernel
theorem dX2_putNumber_46 : decode cX2_putNumber 46 = .ok (.aload_n 0, 1) := by decide +kernel
theorem dX2_putNumber_47 : decode cX2_putNumber 47 = .ok (.iload_n 2, 1) := by decide +kernel
theorem dX2_putNumber_48 : decode cX2_putNumber 48 = .ok (.invokevirtual 69, 3) := by decide +kernel
theorem dX2_putNumber_51 : decode cX2_putNumber 51 = .ok (.return_, 1) := by decide +kernel
theorem kd_2_putNumber : Cond.code yX2_putNumber cX2_putNumber 4 none ∈ lw_g := mt_at 1397 (by decide +kernel) rfl
theorem ki_2_putNumber : Cond.instanceMethod yX2_putNumber ∈ lw_g := mt_at 1396 (by decide +kernel) rfl
theorem kl_2_putNumber : Cond.selects (kRn 2) yX2_putNumber yX2_putNumber ∈ lw_g := mt_sel 34 (by decide +kernel) rfl
theorem cw2_69 : cCw RX2 69 yX2_putByte cX2_putByte 2 none 1 := ⟨kd_2_putByte, mt_at 1386 (by decide +kernel) rfl, mt_at 30 (by decide +kernel) rfl, by decide +kernel⟩
section
variable {p : Program} {l : Launch} {e : Env} {R : Room} {s : State} {m : MethodId} {args : Array Value} {below : List Frame} {meth : Method} {c : Code} {D : cG} {S0 S9 : cSt}
noncomputable def fk_2_putNumber_46 (S : cSt) (v0 : Nat) (v2 : Int32) : Option (cSt) :=
ckk S v0 3 (bd (fk_2_putByte S v0 v2) fun S1 =>
some S1)
set_option maxRecDepth 100000 in
set_option maxHeartbeats 4000000 in
theorem wk_2_putNumber_46 (C : cY p R s m args meth c RX2 cX2_putNumber 4 1 0 0 21 none) (X : cX D s) : ∀ {S : cSt} {v0 : Nat} {v2 : Int32} {H : Heap} {locs : List Loc} {ls : Array Slot}, fk_2_putNumber_46 S v0 v2 = some S9 → cJ D S0 s.heap S H locs → lv_has ls 4 [(0, .ref v0), (2, .int v2)] → W p l e R s m args below meth c H locs 0 0 (MQ below (kW none D S0 S9) args s 0 0 (cA S0)) (F0 m 46 ls []) := by
  intro S v0 v2 H locs ls h hJ hl
  unfold fk_2_putNumber_46 at h
  refine lv_aload_n C.1 C.2.1 dX2_putNumber_46 rfl (lv_at hl 0 rfl) ?_
  refine lv_iload_n C.1 C.2.1 dX2_putNumber_47 rfl (lv_at hl 1 rfl) ?_
  obtain ⟨hk, h⟩ := ckk_ok h
  obtain ⟨S1, h_S1, h⟩ := bd_ok h
  refine c_callW (rest := []) C X hJ hl.1 2 (by decide) hk [.int v2] (tk_2_putByte l h_S1) cw2_69 ki_2_putByte kl_2_putByte rfl ⟨by decide, by decide⟩ ⟨(by decide), (by decide)⟩ rfl (Nat.le_of_ble_eq_true rfl) dX2_putNumber_48 (fun H locs hJ => ?_)
  refine W.eq (g2 := F0 m 51 ls []) rfl ?_
  cases h
  exact c_retvW C hJ dX2_putNumber_51
noncomputable def fk_2_putNumber_11 : Nat → cSt → Nat → Int32 → Int32 → Option (cSt)
  | 0, _, _, _, _ => none
  | n + 1, S, v0, v2, v3 =>
    if (4 : Int32) ≤ v3 then (
    fk_2_putNumber_46 S v0 v2)
    else (
    if ((Int32.toUInt32 v2 >>> (Int32.toUInt32 (7 : Int32) &&& Int32.toUInt32 31)).toInt32) = 0 then (
    fk_2_putNumber_46 S v0 v2)
    else (
    ckk S v0 3 (bd (fk_2_putByte S v0 ((v2 &&& (127 : Int32)) ||| (128 : Int32))) fun S3 =>
    lt ((Int32.toUInt32 v2 >>> (Int32.toUInt32 (7 : Int32) &&& Int32.toUInt32 31)).toInt32) fun x4 =>
    lt (v3 + (1 : Int32)) fun x5 =>
    fk_2_putNumber_11 n S3 v0 x4 x5)))
set_option maxRecDepth 100000 in
set_option maxHeartbeats 4000000 in
theorem wk_2_putNumber_11 (C : cY p R s m args meth c RX2 cX2_putNumber 4 1 0 0 21 none) (X : cX D s) : ∀ (n : Nat), ∀ {S : cSt} {v0 : Nat} {v2 : Int32} {v3 : Int32} {H : Heap} {locs : List Loc} {ls : Array Slot}, fk_2_putNumber_11 n S v0 v2 v3 = some S9 → cJ D S0 s.heap S H locs → lv_has ls 4 [(0, .ref v0), (2, .int v2), (3, .int v3)] → W p l e R s m args below meth c H locs 0 0 (MQ below (kW none D S0 S9) args s 0 0 (cA S0)) (F0 m 11 ls []) := by
  intro n
  induction n with
  | zero =>
    intro S v0 v2 v3 H locs ls h hJ hl
    exact absurd (show (none : Option (cSt)) = _ from h) (fun q => by cases q)
  | succ n ih =>
    intro S v0 v2 v3 H locs ls h hJ hl
    rw [fk_2_putNumber_11] at h
    refine lv_iload_n C.1 C.2.1 dX2_putNumber_11 rfl (lv_at hl 2 rfl) ?_
    refine lv_iconst (v := 4) C.1 C.2.1 dX2_putNumber_12 (by decide) ?_
    refine lv_icmp_ge (tgt := 46) C.1 C.2.1 dX2_putNumber_13 (by decide) (fun c1 => ?_) (fun c1 => ?_)
    · have h := if_t h c1
      exact wk_2_putNumber_46 C X h hJ (lv_sub hl [0, 1] rfl)
    · have h := if_f h c1
      refine lv_iload_n C.1 C.2.1 dX2_putNumber_16 rfl (lv_at hl 1 rfl) ?_
      refine lv_bipush (v := 7) C.1 C.2.1 dX2_putNumber_17 (by decide) ?_
      refine lv_iushr (v := (Int32.toUInt32 v2 >>> (Int32.toUInt32 (7 : Int32) &&& Int32.toUInt32 31)).toInt32) C.1 C.2.1 dX2_putNumber_19 rfl ?_
      refine lv_if_eq (tgt := 46) C.1 C.2.1 dX2_putNumber_20 (by decide) (fun c2 => ?_) (fun c2 => ?_)
      · have h := if_t h c2
        exact wk_2_putNumber_46 C X h hJ (lv_sub hl [0, 1] rfl)
      · have h := if_f h c2
        refine lv_aload_n C.1 C.2.1 dX2_putNumber_23 rfl (lv_at hl 0 rfl) ?_
        refine lv_iload_n C.1 C.2.1 dX2_putNumber_24 rfl (lv_at hl 1 rfl) ?_
        refine lv_bipush (v := 127) C.1 C.2.1 dX2_putNumber_25 (by decide) ?_
        refine lv_iand C.1 C.2.1 dX2_putNumber_27 ?_
        refine lv_sipush (v := 128) C.1 C.2.1 dX2_putNumber_28 (by decide) ?_
        refine lv_ior C.1 C.2.1 dX2_putNumber_31 ?_
        obtain ⟨hk, h⟩ := ckk_ok h
        obtain ⟨S3, h_S3, h⟩ := bd_ok h
        refine c_callW (rest := []) C X hJ hl.1 2 (by decide) hk [.int ((v2 &&& (127 : Int32)) ||| (128 : Int32))] (tk_2_putByte l h_S3) cw2_69 ki_2_putByte kl_2_putByte rfl ⟨by decide, by decide⟩ ⟨(by decide), (by decide)⟩ rfl (Nat.le_of_ble_eq_true rfl) dX2_putNumber_32 (fun H locs hJ => ?_)
        refine W.eq (g2 := F0 m 35 ls []) rfl ?_
        refine lv_iload_n C.1 C.2.1 dX2_putNumber_35 rfl (lv_at hl 1 rfl) ?_
        refine lv_bipush (v := 7) C.1 C.2.1 dX2_putNumber_36 (by decide) ?_
        refine lv_iushr (v := (Int32.toUInt32 v2 >>> (Int32.toUInt32 (7 : Int32) &&& Int32.toUInt32 31)).toInt32) C.1 C.2.1 dX2_putNumber_38 rfl ?_
        refine lt_ok h (fun x4 e_x4 h => ?_)
        refine lv_nm e_x4 ?_
        refine lv_istore_n (lv' := [(2, .int x4), (0, .ref v0), (3, .int v3)]) C.1 C.2.1 dX2_putNumber_39 rfl hl (by decide) rfl (fun ls hl => ?_)
        refine lt_ok h (fun x5 e_x5 h => ?_)
        refine lv_iinc (v := x5) (lv' := [(3, .int x5), (2, .int x4), (0, .ref v0)]) C.1 C.2.1 dX2_putNumber_40 hl (k := 2) rfl (by rw [← e_x5]; rfl) (by decide) rfl (fun ls hl => ?_)
        refine lv_goto (tgt := 11) C.1 C.2.1 dX2_putNumber_43 (by decide) ?_
        exact ih h hJ (lv_sub hl [2, 1, 0] rfl)
noncomputable def fk_2_putNumber (S : cSt) (v0 : Nat) (v1 : Int32) : Option (cSt) :=
lt ((v1 <<< ((1 : Int32) &&& 31)) ^^^ (v1 >>> ((31 : Int32) &&& 31))) fun x1 =>
fk_2_putNumber_11 mFU S v0 x1 (0 : Int32)
set_option maxRecDepth 100000 in
set_option maxHeartbeats 4000000 in
theorem tk_2_putNumber (l : Launch) {D : cG} {S : cSt} {v0 : Nat} {v1 : Int32} {S9 : cSt} (h : fk_2_putNumber S v0 v1 = some S9) : Met l yX2_putNumber (Cond.code yX2_putNumber cX2_putNumber 4 none :: lw_g) { frames := 1, cells := 0, slots := 0, locals := 21 } (kPi [.ref v0, .int v1] D S) (kW none D S S9) 0 0 (cA S) := by
  refine Met.ofW (cc := cX2_putNumber) (maxL := 4) (ret := none) (by decide) rfl ?_
  intro p e s m args below meth c s₁ B hml hv
  obtain ⟨rfl, hW, X⟩ := hv
  have C : cY p (headSpec (Cond.code yX2_putNumber cX2_putNumber 4 none :: lw_g) { frames := 1, cells := 0, slots := 0, locals := 21 }).room s m _ meth c RX2 cX2_putNumber 4 1 0 0 21 none := ⟨B.exec, B.bytes, hml, findClass_of_methodNamed B.named, fun w hw => atoms_spec (ws := Cond.code yX2_putNumber cX2_putNumber 4 none :: lw_g) B.pre w (List.mem_cons_of_mem _ hw), ⟨Nat.le_refl _, Nat.le_refl _, Nat.le_refl _, Nat.le_refl _⟩, B.returns, B.notSynchronized⟩
  have hl := lv_entry ([.ref v0, .int v1]) (n := 4) (Nat.le_of_ble_eq_true rfl)
  rw [lg_entry_eq]
  generalize (lg_sl ([.ref v0, .int v1]) ++ List.replicate (4 - (lg_sl ([.ref v0, .int v1])).length) Slot.unset).toArray = ls at hl ⊢
  have hl : lv_has ls 4 [(0, .ref v0), (1, .int v1)] := hl
  have hJ : cJ D S s.heap S s.heap [] := cJ.rf hW
  unfold fk_2_putNumber at h
  refine lv_iload_n C.1 C.2.1 dX2_putNumber_0 rfl (lv_at hl 1 rfl) ?_
  refine lv_iconst (v := 1) C.1 C.2.1 dX2_putNumber_1 (by decide) ?_
  refine lv_ishl C.1 C.2.1 dX2_putNumber_2 ?_
  refine lv_iload_n C.1 C.2.1 dX2_putNumber_3 rfl (lv_at hl 1 rfl) ?_
  refine lv_bipush (v := 31) C.1 C.2.1 dX2_putNumber_4 (by decide) ?_
  refine lv_ishr C.1 C.2.1 dX2_putNumber_6 ?_
  refine lv_ixor C.1 C.2.1 dX2_putNumber_7 ?_
  refine lt_ok h (fun x1 e_x1 h => ?_)
  refine lv_nm e_x1 ?_
  refine lv_istore_n (lv' := [(2, .int x1), (0, .ref v0), (1, .int v1)]) C.1 C.2.1 dX2_putNumber_8 rfl hl (by decide) rfl (fun ls hl => ?_)
  refine lv_iconst (v := 0) C.1 C.2.1 dX2_putNumber_9 (by decide) ?_
  refine lv_istore_n (lv' := [(3, .int (0 : Int32)), (2, .int x1), (0, .ref v0), (1, .int v1)]) C.1 C.2.1 dX2_putNumber_10 rfl hl (by decide) rfl (fun ls hl => ?_)
  exact wk_2_putNumber_11 C X mFU h hJ (lv_sub hl [2, 1, 0] rfl)
end
theorem dX2_putNumbers_0 : decode cX2_putNumbers 0 = .ok (.iload_n 2, 1) := by decide +kernel
theorem dX2_putNumbers_1 : decode cX2_putNumbers 1 = .ok (.istore 4, 2) := by decide +kernel
theorem dX2_putNumbers_3 : decode cX2_putNumbers 3 = .ok (.iload 4, 2) := by decide +kernel
theorem dX2_putNumbers_5 : decode cX2_putNumbers 5 = .ok (.iload_n 2, 1) := by decide +kernel
theorem dX2_putNumbers_6 : decode cX2_putNumbers 6 = .ok (.iload_n 3, 1) := by decide +kernel
theorem dX2_putNumbers_7 : decode cX2_putNumbers 7 = .ok (.iadd, 1) := by decide +kernel
theorem dX2_putNumbers_8 : decode cX2_putNumbers 8 = .ok (.if_icmp .ge 17, 3) := by decide +kernel
theorem dX2_putNumbers_11 : decode cX2_putNumbers 11 = .ok (.aload_n 0, 1) := by decide +kernel
theorem dX2_putNumbers_12 : decode cX2_putNumbers 12 = .ok (.aload_n 1, 1) := by decide +kernel
theorem dX2_putNumbers_13 : decode cX2_putNumbers 13 = .ok (.iload 4, 2) := by decide +kernel
theorem dX2_putNumbers_15 : decode cX2_putNumbers 15 = .ok (.iaload, 1) := by decide +kernel
theorem dX2_putNumbers_16 : decode cX2_putNumbers 16 = .ok (.invokevirtual 77, 3) := by decide +kernel
theorem dX2_putNumbers_19 : decode cX2_putNumbers 19 = .ok (.iinc 4 1, 3) := by decide +kernel
theorem dX2_putNumbers_22 : decode cX2_putNumbers 22 = .ok (.goto (-19), 3) := by decide +kernel
theorem dX2_putNumbers_25 : decode cX2_putNumbers 25 = .ok (.return_, 1) := by decide +kernel
theorem kd_2_putNumbers : Cond.code yX2_putNumbers cX2_putNumbers 5 none ∈ lw_g := mt_at 1393 (by decide +kernel) rfl
theorem ki_2_putNumbers : Cond.instanceMethod yX2_putNumbers ∈ lw_g := mt_at 1392 (by decide +kernel) rfl
theorem kl_2_putNumbers : Cond.selects (kRn 2) yX2_putNumbers yX2_putNumbers ∈ lw_g := mt_sel 33 (by decide +kernel) rfl
theorem cw2_77 : cCw RX2 77 yX2_putNumber cX2_putNumber 4 none 1 := ⟨kd_2_putNumber, mt_at 1394 (by decide +kernel) rfl, mt_at 30 (by decide +kernel) rfl, by decide +kernel⟩
section
variable {p : Program} {l : Launch} {e : Env} {R : Room} {s : State} {m : MethodId} {args : Array Value} {below : List Frame} {meth : Method} {c : Code} {D : cG} {S0 S9 : cSt}
noncomputable def fk_2_putNumbers_3 : Nat → cSt → Nat → Nat → Int32 → Int32 → Int32 → Option (cSt)
  | 0, _, _, _, _, _, _ => none
  | n + 1, S, v0, v1, v2, v3, v4 =>
    if (v2 + v3) ≤ v4 then (
    some S)
    else (
    ckk S v1 20 (ck v4 (kL S v1) (
    ckk S v0 3 (bd (fk_2_putNumber S v0 (kI S v1 (Int32.toNatClampNeg v4))) fun S2 =>
    lt (v4 + (1 : Int32)) fun x3 =>
    fk_2_putNumbers_3 n S2 v0 v1 v2 v3 x3))))
set_option maxRecDepth 100000 in
set_option maxHeartbeats 4000000 in
theorem wk_2_putNumbers_3 (C : cY p R s m args meth c RX2 cX2_putNumbers 5 2 0 0 44 none) (X : cX D s) : ∀ (n : Nat), ∀ {S : cSt} {v0 : Nat} {v1 : Nat} {v2 : Int32} {v3 : Int32} {v4 : Int32} {H : Heap} {locs : List Loc} {ls : Array Slot}, fk_2_putNumbers_3 n S v0 v1 v2 v3 v4 = some S9 → cJ D S0 s.heap S H locs → lv_has ls 5 [(0, .ref v0), (1, .ref v1), (2, .int v2), (3, .int v3), (4, .int v4)] → W p l e R s m args below meth c H locs 0 0 (MQ below (kW none D S0 S9) args s 0 0 (cA S0)) (F0 m 3 ls []) := by
  intro n
  induction n with
  | zero =>
    intro S v0 v1 v2 v3 v4 H locs ls h hJ hl
    exact absurd (show (none : Option (cSt)) = _ from h) (fun q => by cases q)
  | succ n ih =>
    intro S v0 v1 v2 v3 v4 H locs ls h hJ hl
    rw [fk_2_putNumbers_3] at h
    refine lv_iload C.1 C.2.1 dX2_putNumbers_3 (lv_at hl 4 rfl) ?_
    refine lv_iload_n C.1 C.2.1 dX2_putNumbers_5 rfl (lv_at hl 2 rfl) ?_
    refine lv_iload_n C.1 C.2.1 dX2_putNumbers_6 rfl (lv_at hl 3 rfl) ?_
    refine lv_iadd C.1 C.2.1 dX2_putNumbers_7 ?_
    refine lv_icmp_ge (tgt := 25) C.1 C.2.1 dX2_putNumbers_8 (by decide) (fun c1 => ?_) (fun c1 => ?_)
    · have h := if_t h c1
      cases h
      exact c_retvW C hJ dX2_putNumbers_25
    · have h := if_f h c1
      refine lv_aload_n C.1 C.2.1 dX2_putNumbers_11 rfl (lv_at hl 0 rfl) ?_
      refine lv_aload_n C.1 C.2.1 dX2_putNumbers_12 rfl (lv_at hl 1 rfl) ?_
      refine lv_iload C.1 C.2.1 dX2_putNumbers_13 (lv_at hl 4 rfl) ?_
      obtain ⟨hk, h⟩ := ckk_ok h
      obtain ⟨hin2, h⟩ := ck_ok h
      refine c_iald C X hJ.1 hk hin2 dX2_putNumbers_15 ?_
      obtain ⟨hk, h⟩ := ckk_ok h
      obtain ⟨S2, h_S2, h⟩ := bd_ok h
      refine c_callW (rest := []) C X hJ hl.1 2 (by decide) hk [.int (kI S v1 (Int32.toNatClampNeg v4))] (tk_2_putNumber l h_S2) cw2_77 ki_2_putNumber kl_2_putNumber rfl ⟨by decide, by decide⟩ ⟨(by decide), (by decide)⟩ rfl (Nat.le_of_ble_eq_true rfl) dX2_putNumbers_16 (fun H locs hJ => ?_)
      refine W.eq (g2 := F0 m 19 ls []) rfl ?_
      refine lt_ok h (fun x3 e_x3 h => ?_)
      refine lv_iinc (v := x3) (lv' := [(4, .int x3), (0, .ref v0), (1, .ref v1), (2, .int v2), (3, .int v3)]) C.1 C.2.1 dX2_putNumbers_19 hl (k := 4) rfl (by rw [← e_x3]; rfl) (by decide) rfl (fun ls hl => ?_)
      refine lv_goto (tgt := 3) C.1 C.2.1 dX2_putNumbers_22 (by decide) ?_
      exact ih h hJ (lv_sub hl [1, 2, 3, 4, 0] rfl)
noncomputable def fk_2_putNumbers (S : cSt) (v0 : Nat) (v1 : Nat) (v2 : Int32) (v3 : Int32) : Option (cSt) :=
fk_2_putNumbers_3 mFU S v0 v1 v2 v3 v2
set_option maxRecDepth 100000 in
set_option maxHeartbeats 4000000 in
theorem tk_2_putNumbers (l : Launch) {D : cG} {S : cSt} {v0 : Nat} {v1 : Nat} {v2 : Int32} {v3 : Int32} {S9 : cSt} (h : fk_2_putNumbers S v0 v1 v2 v3 = some S9) : Met l yX2_putNumbers (Cond.code yX2_putNumbers cX2_putNumbers 5 none :: lw_g) { frames := 2, cells := 0, slots := 0, locals := 44 } (kPi [.ref v0, .ref v1, .int v2, .int v3] D S) (kW none D S S9) 0 0 (cA S) := by
  refine Met.ofW (cc := cX2_putNumbers) (maxL := 5) (ret := none) (by decide) rfl ?_
  intro p e s m args below meth c s₁ B hml hv
  obtain ⟨rfl, hW, X⟩ := hv
  have C : cY p (headSpec (Cond.code yX2_putNumbers cX2_putNumbers 5 none :: lw_g) { frames := 2, cells := 0, slots := 0, locals := 44 }).room s m _ meth c RX2 cX2_putNumbers 5 2 0 0 44 none := ⟨B.exec, B.bytes, hml, findClass_of_methodNamed B.named, fun w hw => atoms_spec (ws := Cond.code yX2_putNumbers cX2_putNumbers 5 none :: lw_g) B.pre w (List.mem_cons_of_mem _ hw), ⟨Nat.le_refl _, Nat.le_refl _, Nat.le_refl _, Nat.le_refl _⟩, B.returns, B.notSynchronized⟩
  have hl := lv_entry ([.ref v0, .ref v1, .int v2, .int v3]) (n := 5) (Nat.le_of_ble_eq_true rfl)
  rw [lg_entry_eq]
  generalize (lg_sl ([.ref v0, .ref v1, .int v2, .int v3]) ++ List.replicate (5 - (lg_sl ([.ref v0, .ref v1, .int v2, .int v3])).length) Slot.unset).toArray = ls at hl ⊢
  have hl : lv_has ls 5 [(0, .ref v0), (1, .ref v1), (2, .int v2), (3, .int v3)] := hl
  have hJ : cJ D S s.heap S s.heap [] := cJ.rf hW
  unfold fk_2_putNumbers at h
  refine lv_iload_n C.1 C.2.1 dX2_putNumbers_0 rfl (lv_at hl 2 rfl) ?_
  refine lv_istore (lv' := [(4, .int v2), (0, .ref v0), (1, .ref v1), (2, .int v2), (3, .int v3)]) C.1 C.2.1 dX2_putNumbers_1 hl (by decide) rfl (fun ls hl => ?_)
  exact wk_2_putNumbers_3 C X mFU h hJ (lv_sub hl [1, 2, 3, 4, 0] rfl)
end
theorem dX2_putRow_0 : decode cX2_putRow 0 = .ok (.aload_n 0, 1) := by decide +kernel
theorem dX2_putRow_1 : decode cX2_putRow 1 = .ok (.bipush 32, 2) := by decide +kernel
theorem dX2_putRow_3 : decode cX2_putRow 3 = .ok (.aload_n 1, 1) := by decide +kernel
theorem dX2_putRow_4 : decode cX2_putRow 4 = .ok (.getfield 94, 3) := by decide +kernel
theorem dX2_putRow_7 : decode cX2_putRow 7 = .ok (.imul, 1) := by decide +kernel
theorem dX2_putRow_8 : decode cX2_putRow 8 = .ok (.aload_n 1, 1) := by decide +kernel
theorem dX2_putRow_9 : decode cX2_putRow 9 = .ok (.getfield 97, 3) := by decide +kernel
theorem dX2_putRow_12 : decode cX2_putRow 12 = .ok (.iadd, 1) := by decide +kernel
theorem dX2_putRow_13 : decode cX2_putRow 13 = .ok (.invokevirtual 69, 3) := by decide +kernel
theorem dX2_putRow_16 : decode cX2_putRow 16 = .ok (.aload_n 0, 1) := by decide +kernel
theorem dX2_putRow_17 : decode cX2_putRow 17 = .ok (.aload_n 1, 1) := by decide +kernel
theorem dX2_putRow_18 : decode cX2_putRow 18 = .ok (.getfield 100, 3) := by decide +kernel
theorem dX2_putRow_21 : decode cX2_putRow 21 = .ok (.invokevirtual 77, 3) := by decide +kernel
theorem dX2_putRow_24 : decode cX2_putRow 24 = .ok (.aload_n 0, 1) := by decide +kernel
theorem dX2_putRow_25 : decode cX2_putRow 25 = .ok (.aload_n 1, 1) := by decide +kernel
theorem dX2_putRow_26 : decode cX2_putRow 26 = .ok (.getfield 103, 3) := by decide +kernel
theorem dX2_putRow_29 : decode cX2_putRow 29 = .ok (.invokevirtual 77, 3) := by decide +kernel
theorem dX2_putRow_32 : decode cX2_putRow 32 = .ok (.aload_n 0, 1) := by decide +kernel
theorem dX2_putRow_33 : decode cX2_putRow 33 = .ok (.aload_n 1, 1) := by decide +kernel
theorem dX2_putRow_34 : decode cX2_putRow 34 = .ok (.getfield 106, 3) := by decide +kernel
theorem dX2_putRow_37 : decode cX2_putRow 37 = .ok (.invokevirtual 77, 3) := by decide +kernel
theorem dX2_putRow_40 : decode cX2_putRow 40 = .ok (.aload_n 0, 1) := by decide +kernel
theorem dX2_putRow_41 : decode cX2_putRow 41 = .ok (.aload_n 1, 1) := by decide +kernel
theorem dX2_putRow_42 : decode cX2_putRow 42 = .ok (.getfield 109, 3) := by decide +kernel
theorem dX2_putRow_45 : decode cX2_putRow 45 = .ok (.invokevirtual 77, 3) := by decide +kernel
theorem dX2_putRow_48 : decode cX2_putRow 48 = .ok (.aload_n 0, 1) := by decide +kernel
theorem dX2_putRow_49 : decode cX2_putRow 49 = .ok (.aload_n 1, 1) := by decide +kernel
theorem dX2_putRow_50 : decode cX2_putRow 50 = .ok (.getfield 112, 3) := by decide +kernel
theorem dX2_putRow_53 : decode cX2_putRow 53 = .ok (.invokevirtual 77, 3) := by decide +kernel
theorem dX2_putRow_56 : decode cX2_putRow 56 = .ok (.aload_n 0, 1) := by decide +kernel
theorem dX2_putRow_57 : decode cX2_putRow 57 = .ok (.aload_n 1, 1) := by decide +kernel
theorem dX2_putRow_58 : decode cX2_putRow 58 = .ok (.getfield 115, 3) := by decide +kernel
theorem dX2_putRow_61 : decode cX2_putRow 61 = .ok (.invokevirtual 77, 3) := by decide +kernel
theorem dX2_putRow_64 : decode cX2_putRow 64 = .ok (.aload_n 0, 1) := by decide +kernel
theorem dX2_putRow_65 : decode cX2_putRow 65 = .ok (.aload_n 1, 1) := by decide +kernel
theorem dX2_putRow_66 : decode cX2_putRow 66 = .ok (.getfield 118, 3) := by decide +kernel
theorem dX2_putRow_69 : decode cX2_putRow 69 = .ok (.invokevirtual 77, 3) := by decide +kernel
theorem dX2_putRow_72 : decode cX2_putRow 72 = .ok (.aload_n 0, 1) := by decide +kernel
theorem dX2_putRow_73 : decode cX2_putRow 73 = .ok (.aload_n 1, 1) := by decide +kernel
theorem dX2_putRow_74 : decode cX2_putRow 74 = .ok (.getfield 121, 3) := by decide +kernel
theorem dX2_putRow_77 : decode cX2_putRow 77 = .ok (.iconst 0, 1) := by decide +kernel
theorem dX2_putRow_78 : decode cX2_putRow 78 = .ok (.iconst 4, 1) := by decide +kernel
theorem dX2_putRow_79 : decode cX2_putRow 79 = .ok (.invokevirtual 73, 3) := by decide +kernel
theorem dX2_putRow_82 : decode cX2_putRow 82 = .ok (.return_, 1) := by decide +kernel
theorem kd_2_putRow : Cond.code yX2_putRow cX2_putRow 2 none ∈ lw_g := mt_at 1401 (by decide +kernel) rfl
theorem ki_2_putRow : Cond.instanceMethod yX2_putRow ∈ lw_g := mt_at 1400 (by decide +kernel) rfl
theorem kl_2_putRow : Cond.selects (kRn 2) yX2_putRow yX2_putRow ∈ lw_g := mt_sel 35 (by decide +kernel) rfl
theorem cw2_73 : cCw RX2 73 yX2_putNumbers cX2_putNumbers 5 none 3 := ⟨kd_2_putNumbers, mt_at 1390 (by decide +kernel) rfl, mt_at 30 (by decide +kernel) rfl, by decide +kernel⟩
section
variable {p : Program} {l : Launch} {e : Env} {R : Room} {s : State} {m : MethodId} {args : Array Value} {below : List Frame} {meth : Method} {c : Code} {H : Heap} {locs : List Loc} {cells slots : Nat} {Q : State → Prop}
variable {D : cG} {S S0 : cSt} {cc : ByteArray} {nL : Nat} {pc : Nat} {ls : Array Slot} {rest : List Value} {H0 : Heap} {nF nR nC nS : Nat} {ret : Option FieldType} {a : Nat}
theorem gk2_94 (C : cY p R s m args meth c RX2 cc nL nF nC nS nR ret) (X : cX D s) (hW : cW D S H) (hk : kK S a = 9) (hdg : decode cc pc = .ok (.getfield 94, 3)) (kk : W p l e R s m args below meth c H locs cells slots Q (F0 m (pc + 3) ls (.int (kF S a 6) :: rest))) : W p l e R s m args below meth c H locs cells slots Q (F0 m pc ls (.ref a :: rest)) := c_get C X hW 8 (by decide) ly_8 hk 6 (by decide) (mt_at 995 (by decide +kernel) (by decide +kernel)) hdg (by rw [cV_I (by decide +kernel)]; exact kk)
theorem gk2_97 (C : cY p R s m args meth c RX2 cc nL nF nC nS nR ret) (X : cX D s) (hW : cW D S H) (hk : kK S a = 9) (hdg : decode cc pc = .ok (.getfield 97, 3)) (kk : W p l e R s m args below meth c H locs cells slots Q (F0 m (pc + 3) ls (.int (kF S a 0) :: rest))) : W p l e R s m args below meth c H locs cells slots Q (F0 m pc ls (.ref a :: rest)) := c_get C X hW 8 (by decide) ly_8 hk 0 (by decide) (mt_at 966 (by decide +kernel) (by decide +kernel)) hdg (by rw [cV_I (by decide +kernel)]; exact kk)
theorem gk2_100 (C : cY p R s m args meth c RX2 cc nL nF nC nS nR ret) (X : cX D s) (hW : cW D S H) (hk : kK S a = 9) (hdg : decode cc pc = .ok (.getfield 100, 3)) (kk : W p l e R s m args below meth c H locs cells slots Q (F0 m (pc + 3) ls (.int (kF S a 7) :: rest))) : W p l e R s m args below meth c H locs cells slots Q (F0 m pc ls (.ref a :: rest)) := c_get C X hW 8 (by decide) ly_8 hk 7 (by decide) (mt_at 1000 (by decide +kernel) (by decide +kernel)) hdg (by rw [cV_I (by decide +kernel)]; exact kk)
theorem gk2_103 (C : cY p R s m args meth c RX2 cc nL nF nC nS nR ret) (X : cX D s) (hW : cW D S H) (hk : kK S a = 9) (hdg : decode cc pc = .ok (.getfield 103, 3)) (kk : W p l e R s m args below meth c H locs cells slots Q (F0 m (pc + 3) ls (.int (kF S a 2) :: rest))) : W p l e R s m args below meth c H locs cells slots Q (F0 m pc ls (.ref a :: rest)) := c_get C X hW 8 (by decide) ly_8 hk 2 (by decide) (mt_at 975 (by decide +kernel) (by decide +kernel)) hdg (by rw [cV_I (by decide +kernel)]; exact kk)
theorem gk2_106 (C : cY p R s m args meth c RX2 cc nL nF nC nS nR ret) (X : cX D s) (hW : cW D S H) (hk : kK S a = 9) (hdg : decode cc pc = .ok (.getfield 106, 3)) (kk : W p l e R s m args below meth c H locs cells slots Q (F0 m (pc + 3) ls (.int (kF S a 3) :: rest))) : W p l e R s m args below meth c H locs cells slots Q (F0 m pc ls (.ref a :: rest)) := c_get C X hW 8 (by decide) ly_8 hk 3 (by decide) (mt_at 978 (by decide +kernel) (by decide +kernel)) hdg (by rw [cV_I (by decide +kernel)]; exact kk)
theorem gk2_109 (C : cY p R s m args meth c RX2 cc nL nF nC nS nR ret) (X : cX D s) (hW : cW D S H) (hk : kK S a = 9) (hdg : decode cc pc = .ok (.getfield 109, 3)) (kk : W p l e R s m args below meth c H locs cells slots Q (F0 m (pc + 3) ls (.int (kF S a 4) :: rest))) : W p l e R s m args below meth c H locs cells slots Q (F0 m pc ls (.ref a :: rest)) := c_get C X hW 8 (by decide) ly_8 hk 4 (by decide) (mt_at 982 (by decide +kernel) (by decide +kernel)) hdg (by rw [cV_I (by decide +kernel)]; exact kk)
theorem gk2_112 (C : cY p R s m args meth c RX2 cc nL nF nC nS nR ret) (X : cX D s) (hW : cW D S H) (hk : kK S a = 9) (hdg : decode cc pc = .ok (.getfield 112, 3)) (kk : W p l e R s m args below meth c H locs cells slots Q (F0 m (pc + 3) ls (.int (kF S a 5) :: rest))) : W p l e R s m args below meth c H locs cells slots Q (F0 m pc ls (.ref a :: rest)) := c_get C X hW 8 (by decide) ly_8 hk 5 (by decide) (mt_at 990 (by decide +kernel) (by decide +kernel)) hdg (by rw [cV_I (by decide +kernel)]; exact kk)
theorem gk2_115 (C : cY p R s m args meth c RX2 cc nL nF nC nS nR ret) (X : cX D s) (hW : cW D S H) (hk : kK S a = 9) (hdg : decode cc pc = .ok (.getfield 115, 3)) (kk : W p l e R s m args below meth c H locs cells slots Q (F0 m (pc + 3) ls (.int (kF S a 8) :: rest))) : W p l e R s m args below meth c H locs cells slots Q (F0 m pc ls (.ref a :: rest)) := c_get C X hW 8 (by decide) ly_8 hk 8 (by decide) (mt_at 1005 (by decide +kernel) (by decide +kernel)) hdg (by rw [cV_I (by decide +kernel)]; exact kk)
theorem gk2_118 (C : cY p R s m args meth c RX2 cc nL nF nC nS nR ret) (X : cX D s) (hW : cW D S H) (hk : kK S a = 9) (hdg : decode cc pc = .ok (.getfield 118, 3)) (kk : W p l e R s m args below meth c H locs cells slots Q (F0 m (pc + 3) ls (.int (kF S a 9) :: rest))) : W p l e R s m args below meth c H locs cells slots Q (F0 m pc ls (.ref a :: rest)) := c_get C X hW 8 (by decide) ly_8 hk 9 (by decide) (mt_at 1010 (by decide +kernel) (by decide +kernel)) hdg (by rw [cV_I (by decide +kernel)]; exact kk)
theorem gk2_121 (C : cY p R s m args meth c RX2 cc nL nF nC nS nR ret) (X : cX D s) (hW : cW D S H) (hk : kK S a = 9) {x : Nat} (hx : kR S a 10 = some x) (hdg : decode cc pc = .ok (.getfield 121, 3)) (kk : W p l e R s m args below meth c H locs cells slots Q (F0 m (pc + 3) ls (.ref x :: rest))) : W p l e R s m args below meth c H locs cells slots Q (F0 m pc ls (.ref a :: rest)) := c_get C X hW 8 (by decide) ly_8 hk 10 (by decide) (mt_at 1014 (by decide +kernel) (by decide +kernel)) hdg (by rw [cV_R (by decide +kernel) hx]; exact kk)
end
section
variable {p : Program} {l : Launch} {e : Env} {R : Room} {s : State} {m : MethodId} {args : Array Value} {below : List Frame} {meth : Method} {c : Code} {D : cG} {S0 S9 : cSt}
noncomputable def fk_2_putRow (S : cSt) (v0 : Nat) (v1 : Nat) : Option (cSt) :=
ckk S v1 9 (
ckk S v1 9 (
ckk S v0 3 (bd (fk_2_putByte S v0 (((32 : Int32) * (kF S v1 6)) + (kF S v1 0))) fun S1 =>
ckk S1 v1 9 (
ckk S1 v0 3 (bd (fk_2_putNumber S1 v0 (kF S1 v1 7)) fun S2 =>
ckk S2 v1 9 (
ckk S2 v0 3 (bd (fk_2_putNumber S2 v0 (kF S2 v1 2)) fun S3 =>
ckk S3 v1 9 (
ckk S3 v0 3 (bd (fk_2_putNumber S3 v0 (kF S3 v1 3)) fun S4 =>
ckk S4 v1 9 (
ckk S4 v0 3 (bd (fk_2_putNumber S4 v0 (kF S4 v1 4)) fun S5 =>
ckk S5 v1 9 (
ckk S5 v0 3 (bd (fk_2_putNumber S5 v0 (kF S5 v1 5)) fun S6 =>
ckk S6 v1 9 (
ckk S6 v0 3 (bd (fk_2_putNumber S6 v0 (kF S6 v1 8)) fun S7 =>
ckk S7 v1 9 (
ckk S7 v0 3 (bd (fk_2_putNumber S7 v0 (kF S7 v1 9)) fun S8 =>
ckk S8 v1 9 (bd (kR S8 v1 10) fun a9 =>
ckk S8 v0 3 (bd (fk_2_putNumbers S8 v0 a9 (0 : Int32) (4 : Int32)) fun S10 =>
some S10)))))))))))))))))))
set_option maxRecDepth 100000 in
set_option maxHeartbeats 4000000 in
theorem tk_2_putRow (l : Launch) {D : cG} {S : cSt} {v0 : Nat} {v1 : Nat} {S9 : cSt} (h : fk_2_putRow S v0 v1 = some S9) : Met l yX2_putRow (Cond.code yX2_putRow cX2_putRow 2 none :: lw_g) { frames := 3, cells := 0, slots := 0, locals := 68 } (kPi [.ref v0, .ref v1] D S) (kW none D S S9) 0 0 (cA S) := by
  refine Met.ofW (cc := cX2_putRow) (maxL := 2) (ret := none) (by decide) rfl ?_
  intro p e s m args below meth c s₁ B hml hv
  obtain ⟨rfl, hW, X⟩ := hv
  have C : cY p (headSpec (Cond.code yX2_putRow cX2_putRow 2 none :: lw_g) { frames := 3, cells := 0, slots := 0, locals := 68 }).room s m _ meth c RX2 cX2_putRow 2 3 0 0 68 none := ⟨B.exec, B.bytes, hml, findClass_of_methodNamed B.named, fun w hw => atoms_spec (ws := Cond.code yX2_putRow cX2_putRow 2 none :: lw_g) B.pre w (List.mem_cons_of_mem _ hw), ⟨Nat.le_refl _, Nat.le_refl _, Nat.le_refl _, Nat.le_refl _⟩, B.returns, B.notSynchronized⟩
  have hl := lv_entry ([.ref v0, .ref v1]) (n := 2) (Nat.le_of_ble_eq_true rfl)
  rw [lg_entry_eq]
  generalize (lg_sl ([.ref v0, .ref v1]) ++ List.replicate (2 - (lg_sl ([.ref v0, .ref v1])).length) Slot.unset).toArray = ls at hl ⊢
  have hl : lv_has ls 2 [(0, .ref v0), (1, .ref v1)] := hl
  have hJ : cJ D S s.heap S s.heap [] := cJ.rf hW
  unfold fk_2_putRow at h
  refine lv_aload_n C.1 C.2.1 dX2_putRow_0 rfl (lv_at hl 0 rfl) ?_
  refine lv_bipush (v := 32) C.1 C.2.1 dX2_putRow_1 (by decide) ?_
  refine lv_aload_n C.1 C.2.1 dX2_putRow_3 rfl (lv_at hl 1 rfl) ?_
  obtain ⟨hk, h⟩ := ckk_ok h
  refine gk2_94 C X hJ.1 hk dX2_putRow_4 ?_
  refine lv_imul C.1 C.2.1 dX2_putRow_7 ?_
  refine lv_aload_n C.1 C.2.1 dX2_putRow_8 rfl (lv_at hl 1 rfl) ?_
  obtain ⟨hk, h⟩ := ckk_ok h
  refine gk2_97 C X hJ.1 hk dX2_putRow_9 ?_
  refine lv_iadd C.1 C.2.1 dX2_putRow_12 ?_
  obtain ⟨hk, h⟩ := ckk_ok h
  obtain ⟨S1, h_S1, h⟩ := bd_ok h
  refine c_callW (rest := []) C X hJ hl.1 2 (by decide) hk [.int (((32 : Int32) * (kF S v1 6)) + (kF S v1 0))] (tk_2_putByte l h_S1) cw2_69 ki_2_putByte kl_2_putByte rfl ⟨by decide, by decide⟩ ⟨(by decide), (by decide)⟩ rfl (Nat.le_of_ble_eq_true rfl) dX2_putRow_13 (fun H locs hJ => ?_)
  refine W.eq (g2 := F0 m 16 ls []) rfl ?_
  refine lv_aload_n C.1 C.2.1 dX2_putRow_16 rfl (lv_at hl 0 rfl) ?_
  refine lv_aload_n C.1 C.2.1 dX2_putRow_17 rfl (lv_at hl 1 rfl) ?_
  obtain ⟨hk, h⟩ := ckk_ok h
  refine gk2_100 C X hJ.1 hk dX2_putRow_18 ?_
  obtain ⟨hk, h⟩ := ckk_ok h
  obtain ⟨S2, h_S2, h⟩ := bd_ok h
  refine c_callW (rest := []) C X hJ hl.1 2 (by decide) hk [.int (kF S1 v1 7)] (tk_2_putNumber l h_S2) cw2_77 ki_2_putNumber kl_2_putNumber rfl ⟨by decide, by decide⟩ ⟨(by decide), (by decide)⟩ rfl (Nat.le_of_ble_eq_true rfl) dX2_putRow_21 (fun H locs hJ => ?_)
  refine W.eq (g2 := F0 m 24 ls []) rfl ?_
  refine lv_aload_n C.1 C.2.1 dX2_putRow_24 rfl (lv_at hl 0 rfl) ?_
  refine lv_aload_n C.1 C.2.1 dX2_putRow_25 rfl (lv_at hl 1 rfl) ?_
  obtain ⟨hk, h⟩ := ckk_ok h
  refine gk2_103 C X hJ.1 hk dX2_putRow_26 ?_
  obtain ⟨hk, h⟩ := ckk_ok h
  obtain ⟨S3, h_S3, h⟩ := bd_ok h
  refine c_callW (rest := []) C X hJ hl.1 2 (by decide) hk [.int (kF S2 v1 2)] (tk_2_putNumber l h_S3) cw2_77 ki_2_putNumber kl_2_putNumber rfl ⟨by decide, by decide⟩ ⟨(by decide), (by decide)⟩ rfl (Nat.le_of_ble_eq_true rfl) dX2_putRow_29 (fun H locs hJ => ?_)
  refine W.eq (g2 := F0 m 32 ls []) rfl ?_
  refine lv_aload_n C.1 C.2.1 dX2_putRow_32 rfl (lv_at hl 0 rfl) ?_
  refine lv_aload_n C.1 C.2.1 dX2_putRow_33 rfl (lv_at hl 1 rfl) ?_
  obtain ⟨hk, h⟩ := ckk_ok h
  refine gk2_106 C X hJ.1 hk dX2_putRow_34 ?_
  obtain ⟨hk, h⟩ := ckk_ok h
  obtain ⟨S4, h_S4, h⟩ := bd_ok h
  refine c_callW (rest := []) C X hJ hl.1 2 (by decide) hk [.int (kF S3 v1 3)] (tk_2_putNumber l h_S4) cw2_77 ki_2_putNumber kl_2_putNumber rfl ⟨by decide, by decide⟩ ⟨(by decide), (by decide)⟩ rfl (Nat.le_of_ble_eq_true rfl) dX2_putRow_37 (fun H locs hJ => ?_)
  refine W.eq (g2 := F0 m 40 ls []) rfl ?_
  refine lv_aload_n C.1 C.2.1 dX2_putRow_40 rfl (lv_at hl 0 rfl) ?_
  refine lv_aload_n C.1 C.2.1 dX2_putRow_41 rfl (lv_at hl 1 rfl) ?_
  obtain ⟨hk, h⟩ := ckk_ok h
  refine gk2_109 C X hJ.1 hk dX2_putRow_42 ?_
  obtain ⟨hk, h⟩ := ckk_ok h
  obtain ⟨S5, h_S5, h⟩ := bd_ok h
  refine c_callW (rest := []) C X hJ hl.1 2 (by decide) hk [.int (kF S4 v1 4)] (tk_2_putNumber l h_S5) cw2_77 ki_2_putNumber kl_2_putNumber rfl ⟨by decide, by decide⟩ ⟨(by decide), (by decide)⟩ rfl (Nat.le_of_ble_eq_true rfl) dX2_putRow_45 (fun H locs hJ => ?_)
  refine W.eq (g2 := F0 m 48 ls []) rfl ?_
  refine lv_aload_n C.1 C.2.1 dX2_putRow_48 rfl (lv_at hl 0 rfl) ?_
  refine lv_aload_n C.1 C.2.1 dX2_putRow_49 rfl (lv_at hl 1 rfl) ?_
  obtain ⟨hk, h⟩ := ckk_ok h
  refine gk2_112 C X hJ.1 hk dX2_putRow_50 ?_
  obtain ⟨hk, h⟩ := ckk_ok h
  obtain ⟨S6, h_S6, h⟩ := bd_ok h
  refine c_callW (rest := []) C X hJ hl.1 2 (by decide) hk [.int (kF S5 v1 5)] (tk_2_putNumber l h_S6) cw2_77 ki_2_putNumber kl_2_putNumber rfl ⟨by decide, by decide⟩ ⟨(by decide), (by decide)⟩ rfl (Nat.le_of_ble_eq_true rfl) dX2_putRow_53 (fun H locs hJ => ?_)
  refine W.eq (g2 := F0 m 56 ls []) rfl ?_
  refine lv_aload_n C.1 C.2.1 dX2_putRow_56 rfl (lv_at hl 0 rfl) ?_
  refine lv_aload_n C.1 C.2.1 dX2_putRow_57 rfl (lv_at hl 1 rfl) ?_
  obtain ⟨hk, h⟩ := ckk_ok h
  refine gk2_115 C X hJ.1 hk dX2_putRow_58 ?_
  obtain ⟨hk, h⟩ := ckk_ok h
  obtain ⟨S7, h_S7, h⟩ := bd_ok h
  refine c_callW (rest := []) C X hJ hl.1 2 (by decide) hk [.int (kF S6 v1 8)] (tk_2_putNumber l h_S7) cw2_77 ki_2_putNumber kl_2_putNumber rfl ⟨by decide, by decide⟩ ⟨(by decide), (by decide)⟩ rfl (Nat.le_of_ble_eq_true rfl) dX2_putRow_61 (fun H locs hJ => ?_)
  refine W.eq (g2 := F0 m 64 ls []) rfl ?_
  refine lv_aload_n C.1 C.2.1 dX2_putRow_64 rfl (lv_at hl 0 rfl) ?_
  refine lv_aload_n C.1 C.2.1 dX2_putRow_65 rfl (lv_at hl 1 rfl) ?_
  obtain ⟨hk, h⟩ := ckk_ok h
  refine gk2_118 C X hJ.1 hk dX2_putRow_66 ?_
  obtain ⟨hk, h⟩ := ckk_ok h
  obtain ⟨S8, h_S8, h⟩ := bd_ok h
  refine c_callW (rest := []) C X hJ hl.1 2 (by decide) hk [.int (kF S7 v1 9)] (tk_2_putNumber l h_S8) cw2_77 ki_2_putNumber kl_2_putNumber rfl ⟨by decide, by decide⟩ ⟨(by decide), (by decide)⟩ rfl (Nat.le_of_ble_eq_true rfl) dX2_putRow_69 (fun H locs hJ => ?_)
  refine W.eq (g2 := F0 m 72 ls []) rfl ?_
  refine lv_aload_n C.1 C.2.1 dX2_putRow_72 rfl (lv_at hl 0 rfl) ?_
  refine lv_aload_n C.1 C.2.1 dX2_putRow_73 rfl (lv_at hl 1 rfl) ?_
  obtain ⟨hk, h⟩ := ckk_ok h
  obtain ⟨a9, h_a9, h⟩ := bd_ok h
  refine gk2_121 C X hJ.1 hk h_a9 dX2_putRow_74 ?_
  refine lv_iconst (v := 0) C.1 C.2.1 dX2_putRow_77 (by decide) ?_
  refine lv_iconst (v := 4) C.1 C.2.1 dX2_putRow_78 (by decide) ?_
  obtain ⟨hk, h⟩ := ckk_ok h
  obtain ⟨S10, h_S10, h⟩ := bd_ok h
  refine c_callW (rest := []) C X hJ hl.1 2 (by decide) hk [.ref a9, .int (0 : Int32), .int (4 : Int32)] (tk_2_putNumbers l h_S10) cw2_73 ki_2_putNumbers kl_2_putNumbers rfl ⟨by decide, by decide⟩ ⟨(by decide), (by decide)⟩ rfl (Nat.le_of_ble_eq_true rfl) dX2_putRow_79 (fun H locs hJ => ?_)
  refine W.eq (g2 := F0 m 82 ls []) rfl ?_
  cases h
  exact c_retvW C hJ dX2_putRow_82
end
