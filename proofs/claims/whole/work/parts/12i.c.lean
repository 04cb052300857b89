-- made by wip/whole/gen12.py: 9_init, 9_gather, 9_read, 9_nameAhead, 9_standingUpTo, 9_isSame, 9_common, 9_commonFrom, 9_compare, 10_lookBack, 10_isThereOf, 10_shareOf
theorem dX9_init_0 : decode cX9_init 0 = .ok (.aload_n 0, 1) := by decide +kernel
theorem dX9_init_1 : decode cX9_init 1 = .ok (.invokespecial 3, 3) := by decide +kernel
theorem dX9_init_4 : decode cX9_init 4 = .ok (.aload_n 0, 1) := by decide +kernel
theorem dX9_init_5 : decode cX9_init 5 = .ok (.sipush 1000, 3) := by decide +kernel
theorem dX9_init_8 : decode cX9_init 8 = .ok (.anewarray 9, 3) := by decide +kernel
theorem dX9_init_11 : decode cX9_init 11 = .ok (.putfield 11, 3) := by decide +kernel
theorem dX9_init_14 : decode cX9_init 14 = .ok (.aload_n 0, 1) := by decide +kernel
theorem dX9_init_15 : decode cX9_init 15 = .ok (.iconst 0, 1) := by decide +kernel
theorem dX9_init_16 : decode cX9_init 16 = .ok (.putfield 17, 3) := by decide +kernel
theorem dX9_init_19 : decode cX9_init 19 = .ok (.aload_n 0, 1) := by decide +kernel
theorem dX9_init_20 : decode cX9_init 20 = .ok (.sipush 1001, 3) := by decide +kernel
theorem dX9_init_23 : decode cX9_init 23 = .ok (.newarray .int, 2) := by decide +kernel
theorem dX9_init_25 : decode cX9_init 25 = .ok (.putfield 21, 3) := by decide +kernel
theorem dX9_init_28 : decode cX9_init 28 = .ok (.aload_n 0, 1) := by decide +kernel
theorem dX9_init_29 : decode cX9_init 29 = .ok (.sipush 1001, 3) := by decide +kernel
theorem dX9_init_32 : decode cX9_init 32 = .ok (.newarray .int, 2) := by decide +kernel
theorem dX9_init_34 : decode cX9_init 34 = .ok (.putfield 25, 3) := by decide +kernel
theorem dX9_init_37 : decode cX9_init 37 = .ok (.aload_n 0, 1) := by decide +kernel
theorem dX9_init_38 : decode cX9_init 38 = .ok (.iconst 0, 1) := by decide +kernel
theorem dX9_init_39 : decode cX9_init 39 = .ok (.newarray .char, 2) := by decide +kernel
theorem dX9_init_41 : decode cX9_init 41 = .ok (.putfield 28, 3) := by decide +kernel
theorem dX9_init_44 : decode cX9_init 44 = .ok (.aload_n 0, 1) := by decide +kernel
theorem dX9_init_45 : decode cX9_init 45 = .ok (.iconst 0, 1) := by decide +kernel
theorem dX9_init_46 : decode cX9_init 46 = .ok (.putfield 32, 3) := by decide +kernel
theorem dX9_init_49 : decode cX9_init 49 = .ok (.aload_n 0, 1) := by decide +kernel
theorem dX9_init_50 : decode cX9_init 50 = .ok (.iconst 0, 1) := by decide +kernel
theorem dX9_init_51 : decode cX9_init 51 = .ok (.newarray .byte, 2) := by decide +kernel
theorem dX9_init_53 : decode cX9_init 53 = .ok (.putfield 35, 3) := by decide +kernel
theorem dX9_init_56 : decode cX9_init 56 = .ok (.aload_n 0, 1) := by decide +kernel
theorem dX9_init_57 : decode cX9_init 57 = .ok (.aload_n 1, 1) := by decide +kernel
theorem dX9_init_58 : decode cX9_init 58 = .ok (.putfield 39, 3) := by decide +kernel
theorem dX9_init_61 : decode cX9_init 61 = .ok (.return_, 1) := by decide +kernel
theorem kd_9_init : Cond.code yX9_init cX9_init 2 none ∈ lw_g := mt_at 124 (by decide +kernel) rfl
theorem ki_9_init : Cond.instanceMethod yX9_init ∈ lw_g := mt_at 123 (by decide +kernel) rfl
theorem oi9 : Cond.methodLink RX9 3 objectInit ∈ lw_g := mt_at 125 (by decide +kernel) rfl
theorem cl9_9 : Cond.classLink RX9 9 RX8 ∈ lw_g := mt_at 126 (by decide +kernel) rfl
section
variable {p : Program} {l : Launch} {e : Env} {R : Room} {s : State} {m : MethodId} {args : Array Value} {below : List Frame} {meth : Method} {c : Code} {H : Heap} {locs : List Loc} {cells slots : Nat} {Q : State → Prop}
variable {D : cG} {S S0 : cSt} {cc : ByteArray} {nL : Nat} {pc : Nat} {ls : Array Slot} {rest : List Value} {H0 : Heap} {nF nR nC nS : Nat} {ret : Option FieldType} {a : Nat}
theorem pk9_11 {o : Option Nat} (C : cY p R s m args meth c RX9 cc nL nF nC nS nR ret) (hin : meth.name = "<init>") (X : cX D s) (hJ : cJ D S0 H0 S H locs) (hk : kK S a = 10) (hdg : decode cc pc = .ok (.putfield 11, 3)) (kk : ∀ (H1 : Heap) (locs1 : List Loc), cJ D S0 H0 (cPr S a 0 o) H1 locs1 → W p l e R s m args below meth c H1 locs1 cells slots Q (F0 m (pc + 3) ls (rest))) : W p l e R s m args below meth c H locs cells slots Q (F0 m pc ls (va_rf o :: .ref a :: rest)) := c_putF (S1 := (cPr S a 0 o)) C X hJ 9 (by decide) ly_9 hk 0 (by decide) (by decide +kernel) hin rfl nar_ra fit_ra (by decide) rfl rfl (fun j _ => c_vR (by decide +kernel)) c_oPr (mt_at 127 (by decide +kernel) (by decide +kernel)) hdg kk
theorem pk9_17 {x : Int32} (C : cY p R s m args meth c RX9 cc nL nF nC nS nR ret) (X : cX D s) (hJ : cJ D S0 H0 S H locs) (hk : kK S a = 10) (hdg : decode cc pc = .ok (.putfield 17, 3)) (kk : ∀ (H1 : Heap) (locs1 : List Loc), cJ D S0 H0 (cPi S a 1 x) H1 locs1 → W p l e R s m args below meth c H1 locs1 cells slots Q (F0 m (pc + 3) ls (rest))) : W p l e R s m args below meth c H locs cells slots Q (F0 m pc ls (.int x :: .ref a :: rest)) := c_put (S1 := (cPi S a 1 x)) C X hJ 9 (by decide) ly_9 hk 1 (by decide) (by decide +kernel)  rfl rfl (by decide) rfl rfl (fun j _ => c_vI (by decide +kernel)) c_oPi (mt_at 129 (by decide +kernel) (by decide +kernel)) hdg kk
theorem pk9_21 {o : Option Nat} (C : cY p R s m args meth c RX9 cc nL nF nC nS nR ret) (hin : meth.name = "<init>") (X : cX D s) (hJ : cJ D S0 H0 S H locs) (hk : kK S a = 10) (hdg : decode cc pc = .ok (.putfield 21, 3)) (kk : ∀ (H1 : Heap) (locs1 : List Loc), cJ D S0 H0 (cPr S a 3 o) H1 locs1 → W p l e R s m args below meth c H1 locs1 cells slots Q (F0 m (pc + 3) ls (rest))) : W p l e R s m args below meth c H locs cells slots Q (F0 m pc ls (va_rf o :: .ref a :: rest)) := c_putF (S1 := (cPr S a 3 o)) C X hJ 9 (by decide) ly_9 hk 3 (by decide) (by decide +kernel) hin rfl nar_ra fit_ra (by decide) rfl rfl (fun j _ => c_vR (by decide +kernel)) c_oPr (mt_at 132 (by decide +kernel) (by decide +kernel)) hdg kk
theorem pk9_25 {o : Option Nat} (C : cY p R s m args meth c RX9 cc nL nF nC nS nR ret) (hin : meth.name = "<init>") (X : cX D s) (hJ : cJ D S0 H0 S H locs) (hk : kK S a = 10) (hdg : decode cc pc = .ok (.putfield 25, 3)) (kk : ∀ (H1 : Heap) (locs1 : List Loc), cJ D S0 H0 (cPr S a 4 o) H1 locs1 → W p l e R s m args below meth c H1 locs1 cells slots Q (F0 m (pc + 3) ls (rest))) : W p l e R s m args below meth c H locs cells slots Q (F0 m pc ls (va_rf o :: .ref a :: rest)) := c_putF (S1 := (cPr S a 4 o)) C X hJ 9 (by decide) ly_9 hk 4 (by decide) (by decide +kernel) hin rfl nar_ra fit_ra (by decide) rfl rfl (fun j _ => c_vR (by decide +kernel)) c_oPr (mt_at 133 (by decide +kernel) (by decide +kernel)) hdg kk
theorem pk9_28 {o : Option Nat} (C : cY p R s m args meth c RX9 cc nL nF nC nS nR ret) (X : cX D s) (hJ : cJ D S0 H0 S H locs) (hk : kK S a = 10) (hdg : decode cc pc = .ok (.putfield 28, 3)) (kk : ∀ (H1 : Heap) (locs1 : List Loc), cJ D S0 H0 (cPr S a 5 o) H1 locs1 → W p l e R s m args below meth c H1 locs1 cells slots Q (F0 m (pc + 3) ls (rest))) : W p l e R s m args below meth c H locs cells slots Q (F0 m pc ls (va_rf o :: .ref a :: rest)) := c_put (S1 := (cPr S a 5 o)) C X hJ 9 (by decide) ly_9 hk 5 (by decide) (by decide +kernel)  nar_ra fit_ra (by decide) rfl rfl (fun j _ => c_vR (by decide +kernel)) c_oPr (mt_at 134 (by decide +kernel) (by decide +kernel)) hdg kk
theorem pk9_32 {x : Int32} (C : cY p R s m args meth c RX9 cc nL nF nC nS nR ret) (X : cX D s) (hJ : cJ D S0 H0 S H locs) (hk : kK S a = 10) (hdg : decode cc pc = .ok (.putfield 32, 3)) (kk : ∀ (H1 : Heap) (locs1 : List Loc), cJ D S0 H0 (cPi S a 6 x) H1 locs1 → W p l e R s m args below meth c H1 locs1 cells slots Q (F0 m (pc + 3) ls (rest))) : W p l e R s m args below meth c H locs cells slots Q (F0 m pc ls (.int x :: .ref a :: rest)) := c_put (S1 := (cPi S a 6 x)) C X hJ 9 (by decide) ly_9 hk 6 (by decide) (by decide +kernel)  rfl rfl (by decide) rfl rfl (fun j _ => c_vI (by decide +kernel)) c_oPi (mt_at 135 (by decide +kernel) (by decide +kernel)) hdg kk
theorem pk9_35 {o : Option Nat} (C : cY p R s m args meth c RX9 cc nL nF nC nS nR ret) (X : cX D s) (hJ : cJ D S0 H0 S H locs) (hk : kK S a = 10) (hdg : decode cc pc = .ok (.putfield 35, 3)) (kk : ∀ (H1 : Heap) (locs1 : List Loc), cJ D S0 H0 (cPr S a 7 o) H1 locs1 → W p l e R s m args below meth c H1 locs1 cells slots Q (F0 m (pc + 3) ls (rest))) : W p l e R s m args below meth c H locs cells slots Q (F0 m pc ls (va_rf o :: .ref a :: rest)) := c_put (S1 := (cPr S a 7 o)) C X hJ 9 (by decide) ly_9 hk 7 (by decide) (by decide +kernel)  nar_ra fit_ra (by decide) rfl rfl (fun j _ => c_vR (by decide +kernel)) c_oPr (mt_at 136 (by decide +kernel) (by decide +kernel)) hdg kk
theorem pk9_39 {o : Option Nat} (C : cY p R s m args meth c RX9 cc nL nF nC nS nR ret) (hin : meth.name = "<init>") (X : cX D s) (hJ : cJ D S0 H0 S H locs) (hk : kK S a = 10) (hdg : decode cc pc = .ok (.putfield 39, 3)) (kk : ∀ (H1 : Heap) (locs1 : List Loc), cJ D S0 H0 (cPr S a 2 o) H1 locs1 → W p l e R s m args below meth c H1 locs1 cells slots Q (F0 m (pc + 3) ls (rest))) : W p l e R s m args below meth c H locs cells slots Q (F0 m pc ls (va_rf o :: .ref a :: rest)) := c_putF (S1 := (cPr S a 2 o)) C X hJ 9 (by decide) ly_9 hk 2 (by decide) (by decide +kernel) hin rfl nar_rf fit_rf (by decide) rfl rfl (fun j _ => c_vR (by decide +kernel)) c_oPr (mt_at 131 (by decide +kernel) (by decide +kernel)) hdg kk
end
section
variable {p : Program} {l : Launch} {e : Env} {R : Room} {s : State} {m : MethodId} {args : Array Value} {below : List Frame} {meth : Method} {c : Code} {D : cG} {S0 S9 : cSt}
noncomputable def fk_9_init (S : cSt) (v0 : Nat) (v1 : Nat) : Option (cSt) :=
lt (kZ S) fun a2 => lt (cNw S 30 1000) fun S1 =>
ckk S1 v0 10 (lt (cPr S1 v0 0 (some a2)) fun S3 =>
ckk S3 v0 10 (lt (cPi S3 v0 1 (0 : Int32)) fun S4 =>
lt (kZ S4) fun a6 => lt (cNw S4 20 1001) fun S5 =>
ckk S5 v0 10 (lt (cPr S5 v0 3 (some a6)) fun S7 =>
lt (kZ S7) fun a9 => lt (cNw S7 20 1001) fun S8 =>
ckk S8 v0 10 (lt (cPr S8 v0 4 (some a9)) fun S10 =>
lt (kZ S10) fun a12 => lt (cNw S10 22 0) fun S11 =>
ckk S11 v0 10 (lt (cPr S11 v0 5 (some a12)) fun S13 =>
ckk S13 v0 10 (lt (cPi S13 v0 6 (0 : Int32)) fun S14 =>
lt (kZ S14) fun a16 => lt (cNw S14 21 0) fun S15 =>
ckk S15 v0 10 (lt (cPr S15 v0 7 (some a16)) fun S17 =>
ckk S17 v0 10 (lt (cPr S17 v0 2 (some v1)) fun S18 =>
some S18))))))))
set_option maxRecDepth 100000 in
set_option maxHeartbeats 4000000 in
theorem tk_9_init (l : Launch) {D : cG} {S : cSt} {v0 : Nat} {v1 : Nat} {S9 : cSt} (h : fk_9_init S v0 v1 = some S9) : Met l yX9_init (Cond.code yX9_init cX9_init 2 none :: lw_g) { frames := 2, cells := 5, slots := 3002, locals := 60 } (kPi [.ref v0, .ref v1] D S) (kW none D S S9) 5 3002 (cA S) := by
  refine Met.ofW (cc := cX9_init) (maxL := 2) (ret := none) (by decide) rfl ?_
  intro p e s m args below meth c s₁ B hml hv
  obtain ⟨rfl, hW, X⟩ := hv
  have C : cY p (headSpec (Cond.code yX9_init cX9_init 2 none :: lw_g) { frames := 2, cells := 5, slots := 3002, locals := 60 }).room s m _ meth c RX9 cX9_init 2 2 5 3002 60 none := ⟨B.exec, B.bytes, hml, findClass_of_methodNamed B.named, fun w hw => atoms_spec (ws := Cond.code yX9_init cX9_init 2 none :: lw_g) B.pre w (List.mem_cons_of_mem _ hw), ⟨Nat.le_refl _, Nat.le_refl _, Nat.le_refl _, Nat.le_refl _⟩, B.returns, B.notSynchronized⟩
  have hin : meth.name = "<init>" := (name_of_methodNamed B.named B.method).1
  have hl := lv_entry ([.ref v0, .ref v1]) (n := 2) (Nat.le_of_ble_eq_true rfl)
  rw [lg_entry_eq]
  generalize (lg_sl ([.ref v0, .ref v1]) ++ List.replicate (2 - (lg_sl ([.ref v0, .ref v1])).length) Slot.unset).toArray = ls at hl ⊢
  have hl : lv_has ls 2 [(0, .ref v0), (1, .ref v1)] := hl
  have hJ : cJ D S s.heap S s.heap [] := cJ.rf hW
  unfold fk_9_init at h
  refine lv_aload_n C.1 C.2.1 dX9_init_0 rfl (lv_at hl 0 rfl) ?_
  refine W.objInit C.1 C.2.1 C.2.2.2.1 (C.2.2.2.2.1 _ oi9) (C.2.2.2.2.1 _ oi_i) (C.2.2.2.2.1 _ oi_c) rfl (by rw [C.2.2.1]; exact hl.1) rfl dX9_init_1 (Nat.le_trans (by decide) C.2.2.2.2.2.1.1) (Nat.le_trans (Nat.le_of_ble_eq_true rfl) C.2.2.2.2.2.1.2.2.2) ?_
  refine W.eq (g2 := F0 m 4 ls []) rfl ?_
  refine lv_aload_n C.1 C.2.1 dX9_init_4 rfl (lv_at hl 0 rfl) ?_
  refine lv_sipush (v := 1000) C.1 C.2.1 dX9_init_5 (by decide) ?_
  refine c_anew (N := 1000) C hJ 30 (by decide) X.2.2.2.2.1 cl9_9 X.2.2.2.2.2.2.2.1.1 (by decide) (by decide) (by decide) (by decide) (by decide) dX9_init_8 (fun H hJ => ?_)
  refine lt_ok h (fun a2 e_a2 h => ?_)
  refine lt_ok h (fun S1 e_S1 h => ?_)
  rw [e_S1] at hJ
  rw [e_a2]
  obtain ⟨hk, h⟩ := ckk_ok h
  refine pk9_11 (o := (some a2)) C hin X hJ hk dX9_init_11 (fun H locs hJ => ?_)
  refine lt_ok h (fun S3 e_S3 h => ?_)
  rw [e_S3] at hJ
  refine lv_aload_n C.1 C.2.1 dX9_init_14 rfl (lv_at hl 0 rfl) ?_
  refine lv_iconst (v := 0) C.1 C.2.1 dX9_init_15 (by decide) ?_
  obtain ⟨hk, h⟩ := ckk_ok h
  refine pk9_17 C X hJ hk dX9_init_16 (fun H locs hJ => ?_)
  refine lt_ok h (fun S4 e_S4 h => ?_)
  rw [e_S4] at hJ
  refine lv_aload_n C.1 C.2.1 dX9_init_19 rfl (lv_at hl 0 rfl) ?_
  refine lv_sipush (v := 1001) C.1 C.2.1 dX9_init_20 (by decide) ?_
  refine c_newa (N := 1001) C hJ 20 (by decide) (by decide) X.2.1 rfl id rfl ar_20 (by decide) (by decide) (by decide) (by decide) (by decide) dX9_init_23 (fun H hJ => ?_)
  refine lt_ok h (fun a6 e_a6 h => ?_)
  refine lt_ok h (fun S5 e_S5 h => ?_)
  rw [e_S5] at hJ
  rw [e_a6]
  obtain ⟨hk, h⟩ := ckk_ok h
  refine pk9_21 (o := (some a6)) C hin X hJ hk dX9_init_25 (fun H locs hJ => ?_)
  refine lt_ok h (fun S7 e_S7 h => ?_)
  rw [e_S7] at hJ
  refine lv_aload_n C.1 C.2.1 dX9_init_28 rfl (lv_at hl 0 rfl) ?_
  refine lv_sipush (v := 1001) C.1 C.2.1 dX9_init_29 (by decide) ?_
  refine c_newa (N := 1001) C hJ 20 (by decide) (by decide) X.2.1 rfl id rfl ar_20 (by decide) (by decide) (by decide) (by decide) (by decide) dX9_init_32 (fun H hJ => ?_)
  refine lt_ok h (fun a9 e_a9 h => ?_)
  refine lt_ok h (fun S8 e_S8 h => ?_)
  rw [e_S8] at hJ
  rw [e_a9]
  obtain ⟨hk, h⟩ := ckk_ok h
  refine pk9_25 (o := (some a9)) C hin X hJ hk dX9_init_34 (fun H locs hJ => ?_)
  refine lt_ok h (fun S10 e_S10 h => ?_)
  rw [e_S10] at hJ
  refine lv_aload_n C.1 C.2.1 dX9_init_37 rfl (lv_at hl 0 rfl) ?_
  refine lv_iconst (v := 0) C.1 C.2.1 dX9_init_38 (by decide) ?_
  refine c_newa (N := 0) C hJ 22 (by decide) (by decide) X.2.2.2.1 rfl id rfl ar_22 (by decide) (by decide) (by decide) (by decide) (by decide) dX9_init_39 (fun H hJ => ?_)
  refine lt_ok h (fun a12 e_a12 h => ?_)
  refine lt_ok h (fun S11 e_S11 h => ?_)
  rw [e_S11] at hJ
  rw [e_a12]
  obtain ⟨hk, h⟩ := ckk_ok h
  refine pk9_28 (o := (some a12)) C X hJ hk dX9_init_41 (fun H locs hJ => ?_)
  refine lt_ok h (fun S13 e_S13 h => ?_)
  rw [e_S13] at hJ
  refine lv_aload_n C.1 C.2.1 dX9_init_44 rfl (lv_at hl 0 rfl) ?_
  refine lv_iconst (v := 0) C.1 C.2.1 dX9_init_45 (by decide) ?_
  obtain ⟨hk, h⟩ := ckk_ok h
  refine pk9_32 C X hJ hk dX9_init_46 (fun H locs hJ => ?_)
  refine lt_ok h (fun S14 e_S14 h => ?_)
  rw [e_S14] at hJ
  refine lv_aload_n C.1 C.2.1 dX9_init_49 rfl (lv_at hl 0 rfl) ?_
  refine lv_iconst (v := 0) C.1 C.2.1 dX9_init_50 (by decide) ?_
  refine c_newa (N := 0) C hJ 21 (by decide) (by decide) X.2.2.1 rfl id rfl ar_21 (by decide) (by decide) (by decide) (by decide) (by decide) dX9_init_51 (fun H hJ => ?_)
  refine lt_ok h (fun a16 e_a16 h => ?_)
  refine lt_ok h (fun S15 e_S15 h => ?_)
  rw [e_S15] at hJ
  rw [e_a16]
  obtain ⟨hk, h⟩ := ckk_ok h
  refine pk9_35 (o := (some a16)) C X hJ hk dX9_init_53 (fun H locs hJ => ?_)
  refine lt_ok h (fun S17 e_S17 h => ?_)
  rw [e_S17] at hJ
  refine lv_aload_n C.1 C.2.1 dX9_init_56 rfl (lv_at hl 0 rfl) ?_
  refine lv_aload_n C.1 C.2.1 dX9_init_57 rfl (lv_at hl 1 rfl) ?_
  obtain ⟨hk, h⟩ := ckk_ok h
  refine pk9_39 (o := (some v1)) C hin X hJ hk dX9_init_58 (fun H locs hJ => ?_)
  refine lt_ok h (fun S18 e_S18 h => ?_)
  rw [e_S18] at hJ
  cases h
  exact c_retvW C hJ dX9_init_61
end
theorem dX9_gather_0 : decode cX9_gather 0 = .ok (.aload_n 0, 1) := by decide +kernel
theorem dX9_gather_1 : decode cX9_gather 1 = .ok (.iconst 0, 1) := by decide +kernel
theorem dX9_gather_2 : decode cX9_gather 2 = .ok (.putfield 17, 3) := by decide +kernel
theorem dX9_gather_5 : decode cX9_gather 5 = .ok (.aload_n 0, 1) := by decide +kernel
theorem dX9_gather_6 : decode cX9_gather 6 = .ok (.getfield 21, 3) := by decide +kernel
theorem dX9_gather_9 : decode cX9_gather 9 = .ok (.iconst 0, 1) := by decide +kernel
theorem dX9_gather_10 : decode cX9_gather 10 = .ok (.iaload, 1) := by decide +kernel
theorem dX9_gather_11 : decode cX9_gather 11 = .ok (.istore_n 1, 1) := by decide +kernel
theorem dX9_gather_12 : decode cX9_gather 12 = .ok (.iconst 0, 1) := by decide +kernel
theorem dX9_gather_13 : decode cX9_gather 13 = .ok (.istore_n 2, 1) := by decide +kernel
theorem dX9_gather_14 : decode cX9_gather 14 = .ok (.iload_n 2, 1) := by decide +kernel
theorem dX9_gather_15 : decode cX9_gather 15 = .ok (.sipush 1000, 3) := by decide +kernel
theorem dX9_gather_18 : decode cX9_gather 18 = .ok (.if_icmp .ge 59, 3) := by decide +kernel
theorem dX9_gather_21 : decode cX9_gather 21 = .ok (.iload_n 1, 1) := by decide +kernel
theorem dX9_gather_22 : decode cX9_gather 22 = .ok (.ifCond .le 55, 3) := by decide +kernel
theorem dX9_gather_25 : decode cX9_gather 25 = .ok (.aload_n 0, 1) := by decide +kernel
theorem dX9_gather_26 : decode cX9_gather 26 = .ok (.getfield 25, 3) := by decide +kernel
theorem dX9_gather_29 : decode cX9_gather 29 = .ok (.iload_n 1, 1) := by decide +kernel
theorem dX9_gather_30 : decode cX9_gather 30 = .ok (.iaload, 1) := by decide +kernel
theorem dX9_gather_31 : decode cX9_gather 31 = .ok (.ifCond .ne 33, 3) := by decide +kernel
theorem dX9_gather_34 : decode cX9_gather 34 = .ok (.aload_n 0, 1) := by decide +kernel
theorem dX9_gather_35 : decode cX9_gather 35 = .ok (.getfield 11, 3) := by decide +kernel
theorem dX9_gather_38 : decode cX9_gather 38 = .ok (.aload_n 0, 1) := by decide +kernel
theorem dX9_gather_39 : decode cX9_gather 39 = .ok (.getfield 17, 3) := by decide +kernel
theorem dX9_gather_42 : decode cX9_gather 42 = .ok (.aload_n 0, 1) := by decide +kernel
theorem dX9_gather_43 : decode cX9_gather 43 = .ok (.getfield 39, 3) := by decide +kernel
theorem dX9_gather_46 : decode cX9_gather 46 = .ok (.getfield 82, 3) := by decide +kernel
theorem dX9_gather_49 : decode cX9_gather 49 = .ok (.iload_n 1, 1) := by decide +kernel
theorem dX9_gather_50 : decode cX9_gather 50 = .ok (.iconst 1, 1) := by decide +kernel
theorem dX9_gather_51 : decode cX9_gather 51 = .ok (.isub, 1) := by decide +kernel
theorem dX9_gather_52 : decode cX9_gather 52 = .ok (.aaload, 1) := by decide +kernel
theorem dX9_gather_53 : decode cX9_gather 53 = .ok (.aastore, 1) := by decide +kernel
theorem dX9_gather_54 : decode cX9_gather 54 = .ok (.aload_n 0, 1) := by decide +kernel
theorem dX9_gather_55 : decode cX9_gather 55 = .ok (.dup, 1) := by decide +kernel
theorem dX9_gather_56 : decode cX9_gather 56 = .ok (.getfield 17, 3) := by decide +kernel
theorem dX9_gather_59 : decode cX9_gather 59 = .ok (.iconst 1, 1) := by decide +kernel
theorem dX9_gather_60 : decode cX9_gather 60 = .ok (.iadd, 1) := by decide +kernel
theorem dX9_gather_61 : decode cX9_gather 61 = .ok (.putfield 17, 3) := by decide +kernel
theorem dX9_gather_64 : decode cX9_gather 64 = .ok (.aload_n 0, 1) := by decide +kernel
theorem dX9_gather_65 : decode cX9_gather 65 = .ok (.getfield 21, 3) := by decide +kernel
theorem dX9_gather_68 : decode cX9_gather 68 = .ok (.iload_n 1, 1) := by decide +kernel
theorem dX9_gather_69 : decode cX9_gather 69 = .ok (.iaload, 1) := by decide +kernel
theorem dX9_gather_70 : decode cX9_gather 70 = .ok (.istore_n 1, 1) := by decide +kernel
theorem dX9_gather_71 : decode cX9_gather 71 = .ok (.iinc 2 1, 3) := by decide +kernel
theorem dX9_gather_74 : decode cX9_gather 74 = .ok (.goto (-60), 3) := by decide +kernel
theorem dX9_gather_77 : decode cX9_gather 77 = .ok (.return_, 1) := by decide +kernel
theorem kd_9_gather : Cond.code yX9_gather cX9_gather 3 none ∈ lw_g := mt_at 552 (by decide +kernel) rfl
theorem ki_9_gather : Cond.instanceMethod yX9_gather ∈ lw_g := mt_at 551 (by decide +kernel) rfl
theorem kl_9_gather : Cond.selects (kRn 9) yX9_gather yX9_gather ∈ lw_g := mt_sel 5 (by decide +kernel) rfl
section
variable {p : Program} {l : Launch} {e : Env} {R : Room} {s : State} {m : MethodId} {args : Array Value} {below : List Frame} {meth : Method} {c : Code} {H : Heap} {locs : List Loc} {cells slots : Nat} {Q : State → Prop}
variable {D : cG} {S S0 : cSt} {cc : ByteArray} {nL : Nat} {pc : Nat} {ls : Array Slot} {rest : List Value} {H0 : Heap} {nF nR nC nS : Nat} {ret : Option FieldType} {a : Nat}
theorem gk9_11 (C : cY p R s m args meth c RX9 cc nL nF nC nS nR ret) (X : cX D s) (hW : cW D S H) (hk : kK S a = 10) {x : Nat} (hx : kR S a 0 = some x) (hdg : decode cc pc = .ok (.getfield 11, 3)) (kk : W p l e R s m args below meth c H locs cells slots Q (F0 m (pc + 3) ls (.ref x :: rest))) : W p l e R s m args below meth c H locs cells slots Q (F0 m pc ls (.ref a :: rest)) := c_get C X hW 9 (by decide) ly_9 hk 0 (by decide) (mt_at 127 (by decide +kernel) (by decide +kernel)) hdg (by rw [cV_R (by decide +kernel) hx]; exact kk)
theorem gk9_17 (C : cY p R s m args meth c RX9 cc nL nF nC nS nR ret) (X : cX D s) (hW : cW D S H) (hk : kK S a = 10) (hdg : decode cc pc = .ok (.getfield 17, 3)) (kk : W p l e R s m args below meth c H locs cells slots Q (F0 m (pc + 3) ls (.int (kF S a 1) :: rest))) : W p l e R s m args below meth c H locs cells slots Q (F0 m pc ls (.ref a :: rest)) := c_get C X hW 9 (by decide) ly_9 hk 1 (by decide) (mt_at 129 (by decide +kernel) (by decide +kernel)) hdg (by rw [cV_I (by decide +kernel)]; exact kk)
theorem gk9_21 (C : cY p R s m args meth c RX9 cc nL nF nC nS nR ret) (X : cX D s) (hW : cW D S H) (hk : kK S a = 10) {x : Nat} (hx : kR S a 3 = some x) (hdg : decode cc pc = .ok (.getfield 21, 3)) (kk : W p l e R s m args below meth c H locs cells slots Q (F0 m (pc + 3) ls (.ref x :: rest))) : W p l e R s m args below meth c H locs cells slots Q (F0 m pc ls (.ref a :: rest)) := c_get C X hW 9 (by decide) ly_9 hk 3 (by decide) (mt_at 132 (by decide +kernel) (by decide +kernel)) hdg (by rw [cV_R (by decide +kernel) hx]; exact kk)
theorem gk9_25 (C : cY p R s m args meth c RX9 cc nL nF nC nS nR ret) (X : cX D s) (hW : cW D S H) (hk : kK S a = 10) {x : Nat} (hx : kR S a 4 = some x) (hdg : decode cc pc = .ok (.getfield 25, 3)) (kk : W p l e R s m args below meth c H locs cells slots Q (F0 m (pc + 3) ls (.ref x :: rest))) : W p l e R s m args below meth c H locs cells slots Q (F0 m pc ls (.ref a :: rest)) := c_get C X hW 9 (by decide) ly_9 hk 4 (by decide) (mt_at 133 (by decide +kernel) (by decide +kernel)) hdg (by rw [cV_R (by decide +kernel) hx]; exact kk)
theorem gk9_39 (C : cY p R s m args meth c RX9 cc nL nF nC nS nR ret) (X : cX D s) (hW : cW D S H) (hk : kK S a = 10) {x : Nat} (hx : kR S a 2 = some x) (hdg : decode cc pc = .ok (.getfield 39, 3)) (kk : W p l e R s m args below meth c H locs cells slots Q (F0 m (pc + 3) ls (.ref x :: rest))) : W p l e R s m args below meth c H locs cells slots Q (F0 m pc ls (.ref a :: rest)) := c_get C X hW 9 (by decide) ly_9 hk 2 (by decide) (mt_at 131 (by decide +kernel) (by decide +kernel)) hdg (by rw [cV_R (by decide +kernel) hx]; exact kk)
theorem gk9_82 (C : cY p R s m args meth c RX9 cc nL nF nC nS nR ret) (X : cX D s) (hW : cW D S H) (hk : kK S a = 1) {x : Nat} (hx : kR S a 0 = some x) (hdg : decode cc pc = .ok (.getfield 82, 3)) (kk : W p l e R s m args below meth c H locs cells slots Q (F0 m (pc + 3) ls (.ref x :: rest))) : W p l e R s m args below meth c H locs cells slots Q (F0 m pc ls (.ref a :: rest)) := c_get C X hW 0 (by decide) ly_0 hk 0 (by decide) (mt_at 81 (by decide +kernel) (by decide +kernel)) hdg (by rw [cV_R (by decide +kernel) hx]; exact kk)
end
section
variable {p : Program} {l : Launch} {e : Env} {R : Room} {s : State} {m : MethodId} {args : Array Value} {below : List Frame} {meth : Method} {c : Code} {D : cG} {S0 S9 : cSt}
noncomputable def fk_9_gather_77 (S : cSt) : Option (cSt) :=
some S
set_option maxRecDepth 100000 in
set_option maxHeartbeats 4000000 in
theorem wk_9_gather_77 (C : cY p R s m args meth c RX9 cX9_gather 3 0 0 0 0 none) (X : cX D s) : ∀ {S : cSt} {H : Heap} {locs : List Loc} {ls : Array Slot}, fk_9_gather_77 S = some S9 → cJ D S0 s.heap S H locs → lv_has ls 3 [] → W p l e R s m args below meth c H locs 0 0 (MQ below (kW none D S0 S9) args s 0 0 (cA S0)) (F0 m 77 ls []) := by
  intro S H locs ls h hJ hl
  unfold fk_9_gather_77 at h
  cases h
  exact c_retvW C hJ dX9_gather_77
noncomputable def fk_9_gather_64 (g_14 : cSt → Nat → Int32 → Int32 → Option (cSt)) (S : cSt) (v0 : Nat) (v1 : Int32) (v2 : Int32) : Option (cSt) :=
ckk S v0 10 (bd (kR S v0 3) fun a1 =>
ckk S a1 20 (ck v1 (kL S a1) (
lt (kI S a1 (Int32.toNatClampNeg v1)) fun x2 =>
lt (v2 + (1 : Int32)) fun x3 =>
g_14 S v0 x2 x3)))
set_option maxRecDepth 100000 in
set_option maxHeartbeats 4000000 in
theorem wk_9_gather_64 (C : cY p R s m args meth c RX9 cX9_gather 3 0 0 0 0 none) (X : cX D s) {g_14 : cSt → Nat → Int32 → Int32 → Option (cSt)} (hg_14 : ∀ {S : cSt} {v0 : Nat} {v1 : Int32} {v2 : Int32} {H : Heap} {locs : List Loc} {ls : Array Slot}, g_14 S v0 v1 v2 = some S9 → cJ D S0 s.heap S H locs → lv_has ls 3 [(0, .ref v0), (1, .int v1), (2, .int v2)] → W p l e R s m args below meth c H locs 0 0 (MQ below (kW none D S0 S9) args s 0 0 (cA S0)) (F0 m 14 ls [])) : ∀ {S : cSt} {v0 : Nat} {v1 : Int32} {v2 : Int32} {H : Heap} {locs : List Loc} {ls : Array Slot}, fk_9_gather_64 g_14 S v0 v1 v2 = some S9 → cJ D S0 s.heap S H locs → lv_has ls 3 [(0, .ref v0), (1, .int v1), (2, .int v2)] → W p l e R s m args below meth c H locs 0 0 (MQ below (kW none D S0 S9) args s 0 0 (cA S0)) (F0 m 64 ls []) := by
  intro S v0 v1 v2 H locs ls h hJ hl
  unfold fk_9_gather_64 at h
  refine lv_aload_n C.1 C.2.1 dX9_gather_64 rfl (lv_at hl 0 rfl) ?_
  obtain ⟨hk, h⟩ := ckk_ok h
  obtain ⟨a1, h_a1, h⟩ := bd_ok h
  refine gk9_21 C X hJ.1 hk h_a1 dX9_gather_65 ?_
  refine lv_iload_n C.1 C.2.1 dX9_gather_68 rfl (lv_at hl 1 rfl) ?_
  obtain ⟨hk, h⟩ := ckk_ok h
  obtain ⟨hin2, h⟩ := ck_ok h
  refine c_iald C X hJ.1 hk hin2 dX9_gather_69 ?_
  refine lt_ok h (fun x2 e_x2 h => ?_)
  refine lv_nm e_x2 ?_
  refine lv_istore_n (lv' := [(1, .int x2), (0, .ref v0), (2, .int v2)]) C.1 C.2.1 dX9_gather_70 rfl hl (by decide) rfl (fun ls hl => ?_)
  refine lt_ok h (fun x3 e_x3 h => ?_)
  refine lv_iinc (v := x3) (lv' := [(2, .int x3), (1, .int x2), (0, .ref v0)]) C.1 C.2.1 dX9_gather_71 hl (k := 2) rfl (by rw [← e_x3]; rfl) (by decide) rfl (fun ls hl => ?_)
  refine lv_goto (tgt := 14) C.1 C.2.1 dX9_gather_74 (by decide) ?_
  exact hg_14 h hJ (lv_sub hl [2, 1, 0] rfl)
noncomputable def fk_9_gather_14 : Nat → cSt → Nat → Int32 → Int32 → Option (cSt)
  | 0, _, _, _, _ => none
  | n + 1, S, v0, v1, v2 =>
    if (1000 : Int32) ≤ v2 then (
    fk_9_gather_77 S)
    else (
    if v1 ≤ 0 then (
    fk_9_gather_77 S)
    else (
    ckk S v0 10 (bd (kR S v0 4) fun a3 =>
    ckk S a3 20 (ck v1 (kL S a3) (
    if (kI S a3 (Int32.toNatClampNeg v1)) = 0 then (
    ckk S v0 10 (bd (kR S v0 0) fun a5 =>
    ckk S v0 10 (
    ckk S v0 10 (bd (kR S v0 2) fun a6 =>
    ckk S a6 1 (bd (kR S a6 0) fun a7 =>
    ckk S a7 30 (ck (v1 - (1 : Int32)) (kL S a7) (lt (kO S a7 (Int32.toNatClampNeg (v1 - (1 : Int32)))) fun o8 =>
    ckk S a5 30 (ck (kF S v0 1) (kL S a5) (ckq S o8 9 (lt (cWo S a5 (Int32.toNatClampNeg (kF S v0 1)) o8) fun S10 =>
    ckk S10 v0 10 (
    ckk S10 v0 10 (lt (cPi S10 v0 1 ((kF S10 v0 1) + (1 : Int32))) fun S11 =>
    fk_9_gather_64 (fk_9_gather_14 n) S11 v0 v1 v2))))))))))))
    else (
    fk_9_gather_64 (fk_9_gather_14 n) S v0 v1 v2))))))
set_option maxRecDepth 100000 in
set_option maxHeartbeats 4000000 in
theorem wk_9_gather_14 (C : cY p R s m args meth c RX9 cX9_gather 3 0 0 0 0 none) (X : cX D s) : ∀ (n : Nat), ∀ {S : cSt} {v0 : Nat} {v1 : Int32} {v2 : Int32} {H : Heap} {locs : List Loc} {ls : Array Slot}, fk_9_gather_14 n S v0 v1 v2 = some S9 → cJ D S0 s.heap S H locs → lv_has ls 3 [(0, .ref v0), (1, .int v1), (2, .int v2)] → W p l e R s m args below meth c H locs 0 0 (MQ below (kW none D S0 S9) args s 0 0 (cA S0)) (F0 m 14 ls []) := by
  intro n
  induction n with
  | zero =>
    intro S v0 v1 v2 H locs ls h hJ hl
    exact absurd (show (none : Option (cSt)) = _ from h) (fun q => by cases q)
  | succ n ih =>
    intro S v0 v1 v2 H locs ls h hJ hl
    rw [fk_9_gather_14] at h
    refine lv_iload_n C.1 C.2.1 dX9_gather_14 rfl (lv_at hl 2 rfl) ?_
    refine lv_sipush (v := 1000) C.1 C.2.1 dX9_gather_15 (by decide) ?_
    refine lv_icmp_ge (tgt := 77) C.1 C.2.1 dX9_gather_18 (by decide) (fun c1 => ?_) (fun c1 => ?_)
    · have h := if_t h c1
      exact wk_9_gather_77 C X h hJ (lv_sub hl [] rfl)
    · have h := if_f h c1
      refine lv_iload_n C.1 C.2.1 dX9_gather_21 rfl (lv_at hl 1 rfl) ?_
      refine lv_if_le (tgt := 77) C.1 C.2.1 dX9_gather_22 (by decide) (fun c2 => ?_) (fun c2 => ?_)
      · have h := if_t h c2
        exact wk_9_gather_77 C X h hJ (lv_sub hl [] rfl)
      · have h := if_f h c2
        refine lv_aload_n C.1 C.2.1 dX9_gather_25 rfl (lv_at hl 0 rfl) ?_
        obtain ⟨hk, h⟩ := ckk_ok h
        obtain ⟨a3, h_a3, h⟩ := bd_ok h
        refine gk9_25 C X hJ.1 hk h_a3 dX9_gather_26 ?_
        refine lv_iload_n C.1 C.2.1 dX9_gather_29 rfl (lv_at hl 1 rfl) ?_
        obtain ⟨hk, h⟩ := ckk_ok h
        obtain ⟨hin2, h⟩ := ck_ok h
        refine c_iald C X hJ.1 hk hin2 dX9_gather_30 ?_
        refine lv_if_ne (tgt := 64) C.1 C.2.1 dX9_gather_31 (by decide) (fun c4 => ?_) (fun c4 => ?_)
        · have h := if_f h c4
          exact wk_9_gather_64 C X ih h hJ (lv_sub hl [0, 1, 2] rfl)
        · have h := if_t h c4
          refine lv_aload_n C.1 C.2.1 dX9_gather_34 rfl (lv_at hl 0 rfl) ?_
          obtain ⟨hk, h⟩ := ckk_ok h
          obtain ⟨a5, h_a5, h⟩ := bd_ok h
          refine gk9_11 C X hJ.1 hk h_a5 dX9_gather_35 ?_
          refine lv_aload_n C.1 C.2.1 dX9_gather_38 rfl (lv_at hl 0 rfl) ?_
          obtain ⟨hk, h⟩ := ckk_ok h
          refine gk9_17 C X hJ.1 hk dX9_gather_39 ?_
          refine lv_aload_n C.1 C.2.1 dX9_gather_42 rfl (lv_at hl 0 rfl) ?_
          obtain ⟨hk, h⟩ := ckk_ok h
          obtain ⟨a6, h_a6, h⟩ := bd_ok h
          refine gk9_39 C X hJ.1 hk h_a6 dX9_gather_43 ?_
          obtain ⟨hk, h⟩ := ckk_ok h
          obtain ⟨a7, h_a7, h⟩ := bd_ok h
          refine gk9_82 C X hJ.1 hk h_a7 dX9_gather_46 ?_
          refine lv_iload_n C.1 C.2.1 dX9_gather_49 rfl (lv_at hl 1 rfl) ?_
          refine lv_iconst (v := 1) C.1 C.2.1 dX9_gather_50 (by decide) ?_
          refine lv_isub C.1 C.2.1 dX9_gather_51 ?_
          obtain ⟨hk, h⟩ := ckk_ok h
          obtain ⟨hin2, h⟩ := ck_ok h
          refine c_aald C 30 (by decide) X.2.2.2.2.1 hJ.1 hk hin2 dX9_gather_52 ?_
          refine lt_ok h (fun o8 e_o8 h => ?_)
          refine lv_nmq e_o8 ?_
          obtain ⟨hk, h⟩ := ckk_ok h
          obtain ⟨hin2, h⟩ := ck_ok h
          obtain ⟨hkv, h⟩ := ckq_ok h
          refine c_aastq (o := o8) C X 30 8 (by decide) (by decide) X.2.2.2.2.1 hJ hk hkv hin2 dX9_gather_53 (fun H locs hJ => ?_)
          refine lt_ok h (fun S10 e_S10 h => ?_)
          rw [e_S10] at hJ
          refine lv_aload_n C.1 C.2.1 dX9_gather_54 rfl (lv_at hl 0 rfl) ?_
          refine lv_dup C.1 C.2.1 dX9_gather_55 rfl ?_
          obtain ⟨hk, h⟩ := ckk_ok h
          refine gk9_17 C X hJ.1 hk dX9_gather_56 ?_
          refine lv_iconst (v := 1) C.1 C.2.1 dX9_gather_59 (by decide) ?_
          refine lv_iadd C.1 C.2.1 dX9_gather_60 ?_
          obtain ⟨hk, h⟩ := ckk_ok h
          refine pk9_17 C X hJ hk dX9_gather_61 (fun H locs hJ => ?_)
          refine lt_ok h (fun S11 e_S11 h => ?_)
          rw [e_S11] at hJ
          exact wk_9_gather_64 C X ih h hJ (lv_sub hl [0, 1, 2] rfl)
noncomputable def fk_9_gather (S : cSt) (v0 : Nat) : Option (cSt) :=
ckk S v0 10 (lt (cPi S v0 1 (0 : Int32)) fun S1 =>
ckk S1 v0 10 (bd (kR S1 v0 3) fun a2 =>
ckk S1 a2 20 (ck (0 : Int32) (kL S1 a2) (
lt (kI S1 a2 (Int32.toNatClampNeg (0 : Int32))) fun x3 =>
fk_9_gather_14 mFU S1 v0 x3 (0 : Int32)))))
set_option maxRecDepth 100000 in
set_option maxHeartbeats 4000000 in
theorem tk_9_gather (l : Launch) {D : cG} {S : cSt} {v0 : Nat} {S9 : cSt} (h : fk_9_gather S v0 = some S9) : Met l yX9_gather (Cond.code yX9_gather cX9_gather 3 none :: lw_g) { frames := 0, cells := 0, slots := 0, locals := 0 } (kPi [.ref v0] D S) (kW none D S S9) 0 0 (cA S) := by
  refine Met.ofW (cc := cX9_gather) (maxL := 3) (ret := none) (by decide) rfl ?_
  intro p e s m args below meth c s₁ B hml hv
  obtain ⟨rfl, hW, X⟩ := hv
  have C : cY p (headSpec (Cond.code yX9_gather cX9_gather 3 none :: lw_g) { frames := 0, cells := 0, slots := 0, locals := 0 }).room s m _ meth c RX9 cX9_gather 3 0 0 0 0 none := ⟨B.exec, B.bytes, hml, findClass_of_methodNamed B.named, fun w hw => atoms_spec (ws := Cond.code yX9_gather cX9_gather 3 none :: lw_g) B.pre w (List.mem_cons_of_mem _ hw), ⟨Nat.le_refl _, Nat.le_refl _, Nat.le_refl _, Nat.le_refl _⟩, B.returns, B.notSynchronized⟩
  have hl := lv_entry ([.ref v0]) (n := 3) (Nat.le_of_ble_eq_true rfl)
  rw [lg_entry_eq]
  generalize (lg_sl ([.ref v0]) ++ List.replicate (3 - (lg_sl ([.ref v0])).length) Slot.unset).toArray = ls at hl ⊢
  have hl : lv_has ls 3 [(0, .ref v0)] := hl
  have hJ : cJ D S s.heap S s.heap [] := cJ.rf hW
  unfold fk_9_gather at h
  refine lv_aload_n C.1 C.2.1 dX9_gather_0 rfl (lv_at hl 0 rfl) ?_
  refine lv_iconst (v := 0) C.1 C.2.1 dX9_gather_1 (by decide) ?_
  obtain ⟨hk, h⟩ := ckk_ok h
  refine pk9_17 C X hJ hk dX9_gather_2 (fun H locs hJ => ?_)
  refine lt_ok h (fun S1 e_S1 h => ?_)
  rw [e_S1] at hJ
  refine lv_aload_n C.1 C.2.1 dX9_gather_5 rfl (lv_at hl 0 rfl) ?_
  obtain ⟨hk, h⟩ := ckk_ok h
  obtain ⟨a2, h_a2, h⟩ := bd_ok h
  refine gk9_21 C X hJ.1 hk h_a2 dX9_gather_6 ?_
  refine lv_iconst (v := 0) C.1 C.2.1 dX9_gather_9 (by decide) ?_
  obtain ⟨hk, h⟩ := ckk_ok h
  obtain ⟨hin2, h⟩ := ck_ok h
  refine c_iald C X hJ.1 hk hin2 dX9_gather_10 ?_
  refine lt_ok h (fun x3 e_x3 h => ?_)
  refine lv_nm e_x3 ?_
  refine lv_istore_n (lv' := [(1, .int x3), (0, .ref v0)]) C.1 C.2.1 dX9_gather_11 rfl hl (by decide) rfl (fun ls hl => ?_)
  refine lv_iconst (v := 0) C.1 C.2.1 dX9_gather_12 (by decide) ?_
  refine lv_istore_n (lv' := [(2, .int (0 : Int32)), (1, .int x3), (0, .ref v0)]) C.1 C.2.1 dX9_gather_13 rfl hl (by decide) rfl (fun ls hl => ?_)
  exact wk_9_gather_14 C X mFU h hJ (lv_sub hl [2, 1, 0] rfl)
end
theorem dX9_read_0 : decode cX9_read 0 = .ok (.aload_n 0, 1) := by decide +kernel
theorem dX9_read_1 : decode cX9_read 1 = .ok (.getfield 21, 3) := by decide +kernel
theorem dX9_read_4 : decode cX9_read 4 = .ok (.iconst 0, 1) := by decide +kernel
theorem dX9_read_5 : decode cX9_read 5 = .ok (.iconst 0, 1) := by decide +kernel
theorem dX9_read_6 : decode cX9_read 6 = .ok (.iastore, 1) := by decide +kernel
theorem dX9_read_7 : decode cX9_read 7 = .ok (.aload_n 1, 1) := by decide +kernel
theorem dX9_read_8 : decode cX9_read 8 = .ok (.getfield 43, 3) := by decide +kernel
theorem dX9_read_11 : decode cX9_read 11 = .ok (.getfield 49, 3) := by decide +kernel
theorem dX9_read_14 : decode cX9_read 14 = .ok (.iload_n 2, 1) := by decide +kernel
theorem dX9_read_15 : decode cX9_read 15 = .ok (.aaload, 1) := by decide +kernel
theorem dX9_read_16 : decode cX9_read 16 = .ok (.astore_n 3, 1) := by decide +kernel
theorem dX9_read_17 : decode cX9_read 17 = .ok (.aload_n 3, 1) := by decide +kernel
theorem dX9_read_18 : decode cX9_read 18 = .ok (.ifnull 144, 3) := by decide +kernel
theorem dX9_read_21 : decode cX9_read 21 = .ok (.aload_n 1, 1) := by decide +kernel
theorem dX9_read_22 : decode cX9_read 22 = .ok (.aload_n 3, 1) := by decide +kernel
theorem dX9_read_23 : decode cX9_read 23 = .ok (.invokevirtual 54, 3) := by decide +kernel
theorem dX9_read_26 : decode cX9_read 26 = .ok (.ifCond .ne 6, 3) := by decide +kernel
theorem dX9_read_29 : decode cX9_read 29 = .ok (.goto 117, 3) := by decide +kernel
theorem dX9_read_32 : decode cX9_read 32 = .ok (.aload_n 0, 1) := by decide +kernel
theorem dX9_read_33 : decode cX9_read 33 = .ok (.getfield 39, 3) := by decide +kernel
theorem dX9_read_36 : decode cX9_read 36 = .ok (.aload_n 3, 1) := by decide +kernel
theorem dX9_read_37 : decode cX9_read 37 = .ok (.getfield 58, 3) := by decide +kernel
theorem dX9_read_40 : decode cX9_read 40 = .ok (.invokevirtual 61, 3) := by decide +kernel
theorem dX9_read_43 : decode cX9_read 43 = .ok (.astore 4, 2) := by decide +kernel
theorem dX9_read_45 : decode cX9_read 45 = .ok (.aload 4, 2) := by decide +kernel
theorem dX9_read_47 : decode cX9_read 47 = .ok (.ifnonnull 7, 3) := by decide +kernel
theorem dX9_read_50 : decode cX9_read 50 = .ok (.iconst 0, 1) := by decide +kernel
theorem dX9_read_51 : decode cX9_read 51 = .ok (.goto 10, 3) := by decide +kernel
theorem dX9_read_54 : decode cX9_read 54 = .ok (.aload 4, 2) := by decide +kernel
theorem dX9_read_56 : decode cX9_read 56 = .ok (.getfield 67, 3) := by decide +kernel
theorem dX9_read_59 : decode cX9_read 59 = .ok (.iconst 1, 1) := by decide +kernel
theorem dX9_read_60 : decode cX9_read 60 = .ok (.iadd, 1) := by decide +kernel
theorem dX9_read_61 : decode cX9_read 61 = .ok (.istore 5, 2) := by decide +kernel
theorem dX9_read_63 : decode cX9_read 63 = .ok (.aload_n 3, 1) := by decide +kernel
theorem dX9_read_64 : decode cX9_read 64 = .ok (.getfield 70, 3) := by decide +kernel
theorem dX9_read_67 : decode cX9_read 67 = .ok (.bipush 9, 2) := by decide +kernel
theorem dX9_read_69 : decode cX9_read 69 = .ok (.if_icmp .ne 61, 3) := by decide +kernel
theorem dX9_read_72 : decode cX9_read 72 = .ok (.aload_n 0, 1) := by decide +kernel
theorem dX9_read_73 : decode cX9_read 73 = .ok (.getfield 21, 3) := by decide +kernel
theorem dX9_read_76 : decode cX9_read 76 = .ok (.aload_n 3, 1) := by decide +kernel
theorem dX9_read_77 : decode cX9_read 77 = .ok (.getfield 67, 3) := by decide +kernel
theorem dX9_read_80 : decode cX9_read 80 = .ok (.iconst 1, 1) := by decide +kernel
theorem dX9_read_81 : decode cX9_read 81 = .ok (.iadd, 1) := by decide +kernel
theorem dX9_read_82 : decode cX9_read 82 = .ok (.aload_n 0, 1) := by decide +kernel
theorem dX9_read_83 : decode cX9_read 83 = .ok (.getfield 21, 3) := by decide +kernel
theorem dX9_read_86 : decode cX9_read 86 = .ok (.iload 5, 2) := by decide +kernel
theorem dX9_read_88 : decode cX9_read 88 = .ok (.iaload, 1) := by decide +kernel
theorem dX9_read_89 : decode cX9_read 89 = .ok (.iastore, 1) := by decide +kernel
theorem dX9_read_90 : decode cX9_read 90 = .ok (.aload_n 0, 1) := by decide +kernel
theorem dX9_read_91 : decode cX9_read 91 = .ok (.getfield 21, 3) := by decide +kernel
theorem dX9_read_94 : decode cX9_read 94 = .ok (.iload 5, 2) := by decide +kernel
theorem dX9_read_96 : decode cX9_read 96 = .ok (.aload_n 3, 1) := by decide +kernel
theorem dX9_read_97 : decode cX9_read 97 = .ok (.getfield 67, 3) := by decide +kernel
theorem dX9_read_100 : decode cX9_read 100 = .ok (.iconst 1, 1) := by decide +kernel
theorem dX9_read_101 : decode cX9_read 101 = .ok (.iadd, 1) := by decide +kernel
theorem dX9_read_102 : decode cX9_read 102 = .ok (.iastore, 1) := by decide +kernel
theorem dX9_read_103 : decode cX9_read 103 = .ok (.aload_n 0, 1) := by decide +kernel
theorem dX9_read_104 : decode cX9_read 104 = .ok (.getfield 25, 3) := by decide +kernel
theorem dX9_read_107 : decode cX9_read 107 = .ok (.aload_n 3, 1) := by decide +kernel
theorem dX9_read_108 : decode cX9_read 108 = .ok (.getfield 67, 3) := by decide +kernel
theorem dX9_read_111 : decode cX9_read 111 = .ok (.iconst 1, 1) := by decide +kernel
theorem dX9_read_112 : decode cX9_read 112 = .ok (.iadd, 1) := by decide +kernel
theorem dX9_read_113 : decode cX9_read 113 = .ok (.aload_n 1, 1) := by decide +kernel
theorem dX9_read_114 : decode cX9_read 114 = .ok (.aload_n 3, 1) := by decide +kernel
theorem dX9_read_115 : decode cX9_read 115 = .ok (.invokevirtual 73, 3) := by decide +kernel
theorem dX9_read_118 : decode cX9_read 118 = .ok (.ifCond .eq 7, 3) := by decide +kernel
theorem dX9_read_121 : decode cX9_read 121 = .ok (.iconst 0, 1) := by decide +kernel
theorem dX9_read_122 : decode cX9_read 122 = .ok (.goto 4, 3) := by decide +kernel
theorem dX9_read_125 : decode cX9_read 125 = .ok (.iconst 1, 1) := by decide +kernel
theorem dX9_read_126 : decode cX9_read 126 = .ok (.iastore, 1) := by decide +kernel
theorem dX9_read_127 : decode cX9_read 127 = .ok (.goto 19, 3) := by decide +kernel
theorem dX9_read_130 : decode cX9_read 130 = .ok (.aload_n 1, 1) := by decide +kernel
theorem dX9_read_131 : decode cX9_read 131 = .ok (.aload_n 3, 1) := by decide +kernel
theorem dX9_read_132 : decode cX9_read 132 = .ok (.invokevirtual 73, 3) := by decide +kernel
theorem dX9_read_135 : decode cX9_read 135 = .ok (.ifCond .eq 11, 3) := by decide +kernel
theorem dX9_read_138 : decode cX9_read 138 = .ok (.aload_n 0, 1) := by decide +kernel
theorem dX9_read_139 : decode cX9_read 139 = .ok (.getfield 25, 3) := by decide +kernel
theorem dX9_read_142 : decode cX9_read 142 = .ok (.iload 5, 2) := by decide +kernel
theorem dX9_read_144 : decode cX9_read 144 = .ok (.iconst 1, 1) := by decide +kernel
theorem dX9_read_145 : decode cX9_read 145 = .ok (.iastore, 1) := by decide +kernel
theorem dX9_read_146 : decode cX9_read 146 = .ok (.aload_n 1, 1) := by decide +kernel
theorem dX9_read_147 : decode cX9_read 147 = .ok (.getfield 43, 3) := by decide +kernel
theorem dX9_read_150 : decode cX9_read 150 = .ok (.getfield 76, 3) := by decide +kernel
theorem dX9_read_153 : decode cX9_read 153 = .ok (.aload_n 3, 1) := by decide +kernel
theorem dX9_read_154 : decode cX9_read 154 = .ok (.getfield 67, 3) := by decide +kernel
theorem dX9_read_157 : decode cX9_read 157 = .ok (.aaload, 1) := by decide +kernel
theorem dX9_read_158 : decode cX9_read 158 = .ok (.astore_n 3, 1) := by decide +kernel
theorem dX9_read_159 : decode cX9_read 159 = .ok (.goto (-142), 3) := by decide +kernel
theorem dX9_read_162 : decode cX9_read 162 = .ok (.aload_n 0, 1) := by decide +kernel
theorem dX9_read_163 : decode cX9_read 163 = .ok (.invokevirtual 79, 3) := by decide +kernel
theorem dX9_read_166 : decode cX9_read 166 = .ok (.return_, 1) := by decide +kernel
theorem kd_9_read : Cond.code yX9_read cX9_read 6 none ∈ lw_g := mt_at 545 (by decide +kernel) rfl
theorem ki_9_read : Cond.instanceMethod yX9_read ∈ lw_g := mt_at 543 (by decide +kernel) rfl
theorem kl_9_read : Cond.selects (kRn 9) yX9_read yX9_read ∈ lw_g := mt_at 544 (by decide +kernel) rfl
theorem cw9_54 : cCw RX9 54 yX10_isApplied cX10_isApplied 3 (some .boolean) 1 := ⟨kd_10_isApplied, mt_at 546 (by decide +kernel) rfl, mt_at 10 (by decide +kernel) rfl, by decide +kernel⟩
theorem cw9_61 : cCw RX9 61 yX0_rowNamed cX0_rowNamed 3 (some (.object "AccordHouse$Row")) 1 := ⟨kd_0_rowNamed, mt_at 547 (by decide +kernel) rfl, mt_at 3 (by decide +kernel) rfl, by decide +kernel⟩
theorem cw9_73 : cCw RX9 73 yX10_isGood cX10_isGood 3 (some .boolean) 1 := ⟨kd_10_isGood, mt_at 548 (by decide +kernel) rfl, mt_at 10 (by decide +kernel) rfl, by decide +kernel⟩
theorem cw9_79 : cCw RX9 79 yX9_gather cX9_gather 3 none 0 := ⟨kd_9_gather, mt_at 549 (by decide +kernel) rfl, mt_at 5 (by decide +kernel) rfl, by decide +kernel⟩
section
variable {p : Program} {l : Launch} {e : Env} {R : Room} {s : State} {m : MethodId} {args : Array Value} {below : List Frame} {meth : Method} {c : Code} {H : Heap} {locs : List Loc} {cells slots : Nat} {Q : State → Prop}
variable {D : cG} {S S0 : cSt} {cc : ByteArray} {nL : Nat} {pc : Nat} {ls : Array Slot} {rest : List Value} {H0 : Heap} {nF nR nC nS : Nat} {ret : Option FieldType} {a : Nat}
theorem gk9_43 (C : cY p R s m args meth c RX9 cc nL nF nC nS nR ret) (X : cX D s) (hW : cW D S H) (hk : kK S a = 11) {x : Nat} (hx : kR S a 7 = some x) (hdg : decode cc pc = .ok (.getfield 43, 3)) (kk : W p l e R s m args below meth c H locs cells slots Q (F0 m (pc + 3) ls (.ref x :: rest))) : W p l e R s m args below meth c H locs cells slots Q (F0 m pc ls (.ref a :: rest)) := c_getN (host := "AccordHouse") C X hW 10 (by decide) ly_10 hk 7 (by decide) (by decide +kernel) hdg (by rw [cV_R (by decide +kernel) hx]; exact kk)
theorem gk9_49 (C : cY p R s m args meth c RX9 cc nL nF nC nS nR ret) (X : cX D s) (hW : cW D S H) (hk : kK S a = 5) {x : Nat} (hx : kR S a 5 = some x) (hdg : decode cc pc = .ok (.getfield 49, 3)) (kk : W p l e R s m args below meth c H locs cells slots Q (F0 m (pc + 3) ls (.ref x :: rest))) : W p l e R s m args below meth c H locs cells slots Q (F0 m pc ls (.ref a :: rest)) := c_get C X hW 4 (by decide) ly_4 hk 5 (by decide) (mt_at 239 (by decide +kernel) (by decide +kernel)) hdg (by rw [cV_R (by decide +kernel) hx]; exact kk)
theorem gk9_58 (C : cY p R s m args meth c RX9 cc nL nF nC nS nR ret) (X : cX D s) (hW : cW D S H) (hk : kK S a = 9) (hdg : decode cc pc = .ok (.getfield 58, 3)) (kk : W p l e R s m args below meth c H locs cells slots Q (F0 m (pc + 3) ls (.int (kF S a 5) :: rest))) : W p l e R s m args below meth c H locs cells slots Q (F0 m pc ls (.ref a :: rest)) := c_get C X hW 8 (by decide) ly_8 hk 5 (by decide) (mt_at 988 (by decide +kernel) (by decide +kernel)) hdg (by rw [cV_I (by decide +kernel)]; exact kk)
theorem gk9_67 (C : cY p R s m args meth c RX9 cc nL nF nC nS nR ret) (X : cX D s) (hW : cW D S H) (hk : kK S a = 9) (hdg : decode cc pc = .ok (.getfield 67, 3)) (kk : W p l e R s m args below meth c H locs cells slots Q (F0 m (pc + 3) ls (.int (kF S a 12) :: rest))) : W p l e R s m args below meth c H locs cells slots Q (F0 m pc ls (.ref a :: rest)) := c_get C X hW 8 (by decide) ly_8 hk 12 (by decide) (mt_at 1026 (by decide +kernel) (by decide +kernel)) hdg (by rw [cV_I (by decide +kernel)]; exact kk)
theorem gk9_70 (C : cY p R s m args meth c RX9 cc nL nF nC nS nR ret) (X : cX D s) (hW : cW D S H) (hk : kK S a = 9) (hdg : decode cc pc = .ok (.getfield 70, 3)) (kk : W p l e R s m args below meth c H locs cells slots Q (F0 m (pc + 3) ls (.int (kF S a 0) :: rest))) : W p l e R s m args below meth c H locs cells slots Q (F0 m pc ls (.ref a :: rest)) := c_get C X hW 8 (by decide) ly_8 hk 0 (by decide) (mt_at 963 (by decide +kernel) (by decide +kernel)) hdg (by rw [cV_I (by decide +kernel)]; exact kk)
theorem gk9_76 (C : cY p R s m args meth c RX9 cc nL nF nC nS nR ret) (X : cX D s) (hW : cW D S H) (hk : kK S a = 5) {x : Nat} (hx : kR S a 4 = some x) (hdg : decode cc pc = .ok (.getfield 76, 3)) (kk : W p l e R s m args below meth c H locs cells slots Q (F0 m (pc + 3) ls (.ref x :: rest))) : W p l e R s m args below meth c H locs cells slots Q (F0 m pc ls (.ref a :: rest)) := c_get C X hW 4 (by decide) ly_4 hk 4 (by decide) (mt_at 236 (by decide +kernel) (by decide +kernel)) hdg (by rw [cV_R (by decide +kernel) hx]; exact kk)
end
section
variable {p : Program} {l : Launch} {e : Env} {R : Room} {s : State} {m : MethodId} {args : Array Value} {below : List Frame} {meth : Method} {c : Code} {D : cG} {S0 S9 : cSt}
noncomputable def fk_9_read_146 (g_17 : cSt → Nat → Nat → Option Nat → Option (cSt)) (S : cSt) (v0 : Nat) (v1 : Nat) (v3 : Option Nat) : Option (cSt) :=
ckk S v1 11 (bd (kR S v1 7) fun a1 =>
ckk S a1 5 (bd (kR S a1 4) fun a2 =>
bd v3 fun a3 =>
ckk S a3 9 (
ckk S a2 30 (ck (kF S a3 12) (kL S a2) (lt (kO S a2 (Int32.toNatClampNeg (kF S a3 12))) fun o4 =>
g_17 S v0 v1 o4)))))
set_option maxRecDepth 100000 in
set_option maxHeartbeats 4000000 in
theorem wk_9_read_146 (C : cY p R s m args meth c RX9 cX9_read 6 1 0 0 22 none) (X : cX D s) {g_17 : cSt → Nat → Nat → Option Nat → Option (cSt)} (hg_17 : ∀ {S : cSt} {v0 : Nat} {v1 : Nat} {v3 : Option Nat} {H : Heap} {locs : List Loc} {ls : Array Slot}, g_17 S v0 v1 v3 = some S9 → cJ D S0 s.heap S H locs → lv_has ls 6 [(0, .ref v0), (1, .ref v1), (3, va_rf v3)] → W p l e R s m args below meth c H locs 0 0 (MQ below (kW none D S0 S9) args s 0 0 (cA S0)) (F0 m 17 ls [])) : ∀ {S : cSt} {v0 : Nat} {v1 : Nat} {v3 : Option Nat} {H : Heap} {locs : List Loc} {ls : Array Slot}, fk_9_read_146 g_17 S v0 v1 v3 = some S9 → cJ D S0 s.heap S H locs → lv_has ls 6 [(0, .ref v0), (1, .ref v1), (3, va_rf v3)] → W p l e R s m args below meth c H locs 0 0 (MQ below (kW none D S0 S9) args s 0 0 (cA S0)) (F0 m 146 ls []) := by
  intro S v0 v1 v3 H locs ls h hJ hl
  unfold fk_9_read_146 at h
  refine lv_aload_n C.1 C.2.1 dX9_read_146 rfl (lv_at hl 1 rfl) ?_
  obtain ⟨hk, h⟩ := ckk_ok h
  obtain ⟨a1, h_a1, h⟩ := bd_ok h
  refine gk9_43 C X hJ.1 hk h_a1 dX9_read_147 ?_
  obtain ⟨hk, h⟩ := ckk_ok h
  obtain ⟨a2, h_a2, h⟩ := bd_ok h
  refine gk9_76 C X hJ.1 hk h_a2 dX9_read_150 ?_
  refine lv_aload_nq (o := v3) C.1 C.2.1 dX9_read_153 rfl (lv_at hl 2 rfl) ?_
  obtain ⟨a3, e_a3, h⟩ := bd_ok h
  revert h; subst e_a3; intro h
  obtain ⟨hk, h⟩ := ckk_ok h
  refine gk9_67 C X hJ.1 hk dX9_read_154 ?_
  obtain ⟨hk, h⟩ := ckk_ok h
  obtain ⟨hin2, h⟩ := ck_ok h
  refine c_aald C 30 (by decide) X.2.2.2.2.1 hJ.1 hk hin2 dX9_read_157 ?_
  refine lt_ok h (fun o4 e_o4 h => ?_)
  refine lv_nmq e_o4 ?_
  refine lv_astore_nq (o := o4) (lv' := [(3, va_rf o4), (0, .ref v0), (1, .ref v1)]) C.1 C.2.1 dX9_read_158 rfl hl (by decide) rfl (fun ls hl => ?_)
  refine lv_goto (tgt := 17) C.1 C.2.1 dX9_read_159 (by decide) ?_
  exact hg_17 h hJ (lv_sub hl [1, 2, 0] rfl)
noncomputable def fk_9_read_126 (g_17 : cSt → Nat → Nat → Option Nat → Option (cSt)) (S : cSt) (v0 : Nat) (v1 : Nat) (v3 : Option Nat) (s0 : Nat) (s1 : Int32) (s2 : Int32) : Option (cSt) :=
ckk S s0 20 (ck s1 (kL S s0) (lt (cWi S s0 (Int32.toNatClampNeg s1) s2) fun S1 =>
fk_9_read_146 g_17 S1 v0 v1 v3))
set_option maxRecDepth 100000 in
set_option maxHeartbeats 4000000 in
theorem wk_9_read_126 (C : cY p R s m args meth c RX9 cX9_read 6 1 0 0 22 none) (X : cX D s) {g_17 : cSt → Nat → Nat → Option Nat → Option (cSt)} (hg_17 : ∀ {S : cSt} {v0 : Nat} {v1 : Nat} {v3 : Option Nat} {H : Heap} {locs : List Loc} {ls : Array Slot}, g_17 S v0 v1 v3 = some S9 → cJ D S0 s.heap S H locs → lv_has ls 6 [(0, .ref v0), (1, .ref v1), (3, va_rf v3)] → W p l e R s m args below meth c H locs 0 0 (MQ below (kW none D S0 S9) args s 0 0 (cA S0)) (F0 m 17 ls [])) : ∀ {S : cSt} {v0 : Nat} {v1 : Nat} {v3 : Option Nat} {s0 : Nat} {s1 : Int32} {s2 : Int32} {H : Heap} {locs : List Loc} {ls : Array Slot}, fk_9_read_126 g_17 S v0 v1 v3 s0 s1 s2 = some S9 → cJ D S0 s.heap S H locs → lv_has ls 6 [(0, .ref v0), (1, .ref v1), (3, va_rf v3)] → W p l e R s m args below meth c H locs 0 0 (MQ below (kW none D S0 S9) args s 0 0 (cA S0)) (F0 m 126 ls [.int s2, .int s1, .ref s0]) := by
  intro S v0 v1 v3 s0 s1 s2 H locs ls h hJ hl
  unfold fk_9_read_126 at h
  obtain ⟨hk, h⟩ := ckk_ok h
  obtain ⟨hin2, h⟩ := ck_ok h
  refine c_iast C X hJ hk hin2 dX9_read_126 (fun H locs hJ => ?_)
  refine lt_ok h (fun S1 e_S1 h => ?_)
  rw [e_S1] at hJ
  refine lv_goto (tgt := 146) C.1 C.2.1 dX9_read_127 (by decide) ?_
  exact wk_9_read_146 C X hg_17 h hJ (lv_sub hl [0, 1, 2] rfl)
noncomputable def fk_9_read_61 (g_17 : cSt → Nat → Nat → Option Nat → Option (cSt)) (S : cSt) (v0 : Nat) (v1 : Nat) (v3 : Option Nat) (s0 : Int32) : Option (cSt) :=
bd v3 fun a1 =>
ckk S a1 9 (
if (kF S a1 0) = (9 : Int32) then (
ckk S v0 10 (bd (kR S v0 3) fun a7 =>
ckk S a1 9 (
ckk S v0 10 (bd (kR S v0 3) fun a8 =>
ckk S a8 20 (ck s0 (kL S a8) (
ckk S a7 20 (ck ((kF S a1 12) + (1 : Int32)) (kL S a7) (lt (cWi S a7 (Int32.toNatClampNeg ((kF S a1 12) + (1 : Int32))) (kI S a8 (Int32.toNatClampNeg s0))) fun S10 =>
ckk S10 v0 10 (bd (kR S10 v0 3) fun a11 =>
ckk S10 a1 9 (
ckk S10 a11 20 (ck s0 (kL S10 a11) (lt (cWi S10 a11 (Int32.toNatClampNeg s0) ((kF S10 a1 12) + (1 : Int32))) fun S12 =>
ckk S12 v0 10 (bd (kR S12 v0 4) fun a13 =>
ckk S12 a1 9 (
ckk S12 v1 11 (bd (fk_10_isGood S12 v1 a1) fun r14 =>
if r14 = 0 then (
fk_9_read_126 g_17 S12 v0 v1 (some a1) a13 ((kF S12 a1 12) + (1 : Int32)) (1 : Int32))
else (
fk_9_read_126 g_17 S12 v0 v1 (some a1) a13 ((kF S12 a1 12) + (1 : Int32)) (0 : Int32)))))))))))))))))
else (
ckk S v1 11 (bd (fk_10_isGood S v1 a1) fun r3 =>
if r3 = 0 then (
fk_9_read_146 g_17 S v0 v1 (some a1))
else (
ckk S v0 10 (bd (kR S v0 4) fun a5 =>
ckk S a5 20 (ck s0 (kL S a5) (lt (cWi S a5 (Int32.toNatClampNeg s0) (1 : Int32)) fun S6 =>
fk_9_read_146 g_17 S6 v0 v1 (some a1))))))))
set_option maxRecDepth 100000 in
set_option maxHeartbeats 4000000 in
theorem wk_9_read_61 (C : cY p R s m args meth c RX9 cX9_read 6 1 0 0 22 none) (X : cX D s) {g_17 : cSt → Nat → Nat → Option Nat → Option (cSt)} (hg_17 : ∀ {S : cSt} {v0 : Nat} {v1 : Nat} {v3 : Option Nat} {H : Heap} {locs : List Loc} {ls : Array Slot}, g_17 S v0 v1 v3 = some S9 → cJ D S0 s.heap S H locs → lv_has ls 6 [(0, .ref v0), (1, .ref v1), (3, va_rf v3)] → W p l e R s m args below meth c H locs 0 0 (MQ below (kW none D S0 S9) args s 0 0 (cA S0)) (F0 m 17 ls [])) : ∀ {S : cSt} {v0 : Nat} {v1 : Nat} {v3 : Option Nat} {s0 : Int32} {H : Heap} {locs : List Loc} {ls : Array Slot}, fk_9_read_61 g_17 S v0 v1 v3 s0 = some S9 → cJ D S0 s.heap S H locs → lv_has ls 6 [(0, .ref v0), (1, .ref v1), (3, va_rf v3)] → W p l e R s m args below meth c H locs 0 0 (MQ below (kW none D S0 S9) args s 0 0 (cA S0)) (F0 m 61 ls [.int s0]) := by
  intro S v0 v1 v3 s0 H locs ls h hJ hl
  unfold fk_9_read_61 at h
  refine lv_istore (lv' := [(5, .int s0), (0, .ref v0), (1, .ref v1), (3, va_rf v3)]) C.1 C.2.1 dX9_read_61 hl (by decide) rfl (fun ls hl => ?_)
  refine lv_aload_nq (o := v3) C.1 C.2.1 dX9_read_63 rfl (lv_at hl 3 rfl) ?_
  obtain ⟨a1, e_a1, h⟩ := bd_ok h
  revert h; subst e_a1; intro h
  obtain ⟨hk, h⟩ := ckk_ok h
  refine gk9_70 C X hJ.1 hk dX9_read_64 ?_
  refine lv_bipush (v := 9) C.1 C.2.1 dX9_read_67 (by decide) ?_
  refine lv_icmp_ne (tgt := 130) C.1 C.2.1 dX9_read_69 (by decide) (fun c2 => ?_) (fun c2 => ?_)
  · have h := if_f h c2
    refine lv_aload_n C.1 C.2.1 dX9_read_130 rfl (lv_at hl 2 rfl) ?_
    refine lv_aload_n C.1 C.2.1 dX9_read_131 rfl (lv_at hl 3 rfl) ?_
    obtain ⟨hk, h⟩ := ckk_ok h
    obtain ⟨r3, h_r3, h⟩ := bd_ok h
    refine c_callR (rest := []) C X hJ.1 hl.1 10 (by decide) hk [.ref a1] (tk_10_isGood l h_r3) cw9_73 ki_10_isGood kl_10_isGood rfl ⟨by decide, by decide⟩ ⟨(by decide), (by decide)⟩ rfl (Nat.le_of_ble_eq_true rfl) dX9_read_132 ?_
    refine W.eq (g2 := F0 m 135 ls [.int r3]) rfl ?_
    refine lv_if_eq (tgt := 146) C.1 C.2.1 dX9_read_135 (by decide) (fun c4 => ?_) (fun c4 => ?_)
    · have h := if_t h c4
      exact wk_9_read_146 C X hg_17 h hJ (lv_sub hl [1, 2, 3] rfl)
    · have h := if_f h c4
      refine lv_aload_n C.1 C.2.1 dX9_read_138 rfl (lv_at hl 1 rfl) ?_
      obtain ⟨hk, h⟩ := ckk_ok h
      obtain ⟨a5, h_a5, h⟩ := bd_ok h
      refine gk9_25 C X hJ.1 hk h_a5 dX9_read_139 ?_
      refine lv_iload C.1 C.2.1 dX9_read_142 (lv_at hl 0 rfl) ?_
      refine lv_iconst (v := 1) C.1 C.2.1 dX9_read_144 (by decide) ?_
      obtain ⟨hk, h⟩ := ckk_ok h
      obtain ⟨hin2, h⟩ := ck_ok h
      refine c_iast C X hJ hk hin2 dX9_read_145 (fun H locs hJ => ?_)
      refine lt_ok h (fun S6 e_S6 h => ?_)
      rw [e_S6] at hJ
      exact wk_9_read_146 C X hg_17 h hJ (lv_sub hl [1, 2, 3] rfl)
  · have h := if_t h c2
    refine lv_aload_n C.1 C.2.1 dX9_read_72 rfl (lv_at hl 1 rfl) ?_
    obtain ⟨hk, h⟩ := ckk_ok h
    obtain ⟨a7, h_a7, h⟩ := bd_ok h
    refine gk9_21 C X hJ.1 hk h_a7 dX9_read_73 ?_
    refine lv_aload_n C.1 C.2.1 dX9_read_76 rfl (lv_at hl 3 rfl) ?_
    obtain ⟨hk, h⟩ := ckk_ok h
    refine gk9_67 C X hJ.1 hk dX9_read_77 ?_
    refine lv_iconst (v := 1) C.1 C.2.1 dX9_read_80 (by decide) ?_
    refine lv_iadd C.1 C.2.1 dX9_read_81 ?_
    refine lv_aload_n C.1 C.2.1 dX9_read_82 rfl (lv_at hl 1 rfl) ?_
    obtain ⟨hk, h⟩ := ckk_ok h
    obtain ⟨a8, h_a8, h⟩ := bd_ok h
    refine gk9_21 C X hJ.1 hk h_a8 dX9_read_83 ?_
    refine lv_iload C.1 C.2.1 dX9_read_86 (lv_at hl 0 rfl) ?_
    obtain ⟨hk, h⟩ := ckk_ok h
    obtain ⟨hin2, h⟩ := ck_ok h
    refine c_iald C X hJ.1 hk hin2 dX9_read_88 ?_
    obtain ⟨hk, h⟩ := ckk_ok h
    obtain ⟨hin2, h⟩ := ck_ok h
    refine c_iast C X hJ hk hin2 dX9_read_89 (fun H locs hJ => ?_)
    refine lt_ok h (fun S10 e_S10 h => ?_)
    rw [e_S10] at hJ
    refine lv_aload_n C.1 C.2.1 dX9_read_90 rfl (lv_at hl 1 rfl) ?_
    obtain ⟨hk, h⟩ := ckk_ok h
    obtain ⟨a11, h_a11, h⟩ := bd_ok h
    refine gk9_21 C X hJ.1 hk h_a11 dX9_read_91 ?_
    refine lv_iload C.1 C.2.1 dX9_read_94 (lv_at hl 0 rfl) ?_
    refine lv_aload_n C.1 C.2.1 dX9_read_96 rfl (lv_at hl 3 rfl) ?_
    obtain ⟨hk, h⟩ := ckk_ok h
    refine gk9_67 C X hJ.1 hk dX9_read_97 ?_
    refine lv_iconst (v := 1) C.1 C.2.1 dX9_read_100 (by decide) ?_
    refine lv_iadd C.1 C.2.1 dX9_read_101 ?_
    obtain ⟨hk, h⟩ := ckk_ok h
    obtain ⟨hin2, h⟩ := ck_ok h
    refine c_iast C X hJ hk hin2 dX9_read_102 (fun H locs hJ => ?_)
    refine lt_ok h (fun S12 e_S12 h => ?_)
    rw [e_S12] at hJ
    refine lv_aload_n C.1 C.2.1 dX9_read_103 rfl (lv_at hl 1 rfl) ?_
    obtain ⟨hk, h⟩ := ckk_ok h
    obtain ⟨a13, h_a13, h⟩ := bd_ok h
    refine gk9_25 C X hJ.1 hk h_a13 dX9_read_104 ?_
    refine lv_aload_n C.1 C.2.1 dX9_read_107 rfl (lv_at hl 3 rfl) ?_
    obtain ⟨hk, h⟩ := ckk_ok h
    refine gk9_67 C X hJ.1 hk dX9_read_108 ?_
    refine lv_iconst (v := 1) C.1 C.2.1 dX9_read_111 (by decide) ?_
    refine lv_iadd C.1 C.2.1 dX9_read_112 ?_
    refine lv_aload_n C.1 C.2.1 dX9_read_113 rfl (lv_at hl 2 rfl) ?_
    refine lv_aload_n C.1 C.2.1 dX9_read_114 rfl (lv_at hl 3 rfl) ?_
    obtain ⟨hk, h⟩ := ckk_ok h
    obtain ⟨r14, h_r14, h⟩ := bd_ok h
    refine c_callR (rest := [.int ((kF S12 a1 12) + (1 : Int32)), .ref a13]) C X hJ.1 hl.1 10 (by decide) hk [.ref a1] (tk_10_isGood l h_r14) cw9_73 ki_10_isGood kl_10_isGood rfl ⟨by decide, by decide⟩ ⟨(by decide), (by decide)⟩ rfl (Nat.le_of_ble_eq_true rfl) dX9_read_115 ?_
    refine W.eq (g2 := F0 m 118 ls [.int r14, .int ((kF S12 a1 12) + (1 : Int32)), .ref a13]) rfl ?_
    refine lv_if_eq (tgt := 125) C.1 C.2.1 dX9_read_118 (by decide) (fun c15 => ?_) (fun c15 => ?_)
    · have h := if_t h c15
      refine lv_iconst (v := 1) C.1 C.2.1 dX9_read_125 (by decide) ?_
      exact wk_9_read_126 C X hg_17 h hJ (lv_sub hl [1, 2, 3] rfl)
    · have h := if_f h c15
      refine lv_iconst (v := 0) C.1 C.2.1 dX9_read_121 (by decide) ?_
      refine lv_goto (tgt := 126) C.1 C.2.1 dX9_read_122 (by decide) ?_
      exact wk_9_read_126 C X hg_17 h hJ (lv_sub hl [1, 2, 3] rfl)
noncomputable def fk_9_read_17 : Nat → cSt → Nat → Nat → Option Nat → Option (cSt)
  | 0, _, _, _, _ => none
  | n + 1, S, v0, v1, v3 =>
    cs v3 (
    ckk S v0 10 (bd (fk_9_gather S v0) fun S2 =>
    some S2)) (fun a1 =>
    ckk S v1 11 (bd (fk_10_isApplied S v1 a1) fun r3 =>
    if r3 = 0 then (
    fk_9_read_146 (fk_9_read_17 n) S v0 v1 (some a1))
    else (
    ckk S v0 10 (bd (kR S v0 2) fun a5 =>
    ckk S a1 9 (
    ckk S a5 1 (bd (fk_0_rowNamed S a5 (kF S a1 5)) fun o6 =>
    cs o6 (
    fk_9_read_61 (fk_9_read_17 n) S v0 v1 (some a1) (0 : Int32)) (fun a7 =>
    ckk S a7 9 (
    fk_9_read_61 (fk_9_read_17 n) S v0 v1 (some a1) ((kF S a7 12) + (1 : Int32))))))))))
set_option maxRecDepth 100000 in
set_option maxHeartbeats 4000000 in
theorem wk_9_read_17 (C : cY p R s m args meth c RX9 cX9_read 6 1 0 0 22 none) (X : cX D s) : ∀ (n : Nat), ∀ {S : cSt} {v0 : Nat} {v1 : Nat} {v3 : Option Nat} {H : Heap} {locs : List Loc} {ls : Array Slot}, fk_9_read_17 n S v0 v1 v3 = some S9 → cJ D S0 s.heap S H locs → lv_has ls 6 [(0, .ref v0), (1, .ref v1), (3, va_rf v3)] → W p l e R s m args below meth c H locs 0 0 (MQ below (kW none D S0 S9) args s 0 0 (cA S0)) (F0 m 17 ls []) := by
  intro n
  induction n with
  | zero =>
    intro S v0 v1 v3 H locs ls h hJ hl
    exact absurd (show (none : Option (cSt)) = _ from h) (fun q => by cases q)
  | succ n ih =>
    intro S v0 v1 v3 H locs ls h hJ hl
    rw [fk_9_read_17] at h
    refine lv_aload_nq (o := v3) C.1 C.2.1 dX9_read_17 rfl (lv_at hl 2 rfl) ?_
    rcases v3 with _ | a1
    · replace h := cs_n h
      refine lv_ifnullN (tgt := 162) C.1 C.2.1 dX9_read_18 (by decide) ?_
      refine lv_aload_n C.1 C.2.1 dX9_read_162 rfl (lv_at hl 0 rfl) ?_
      obtain ⟨hk, h⟩ := ckk_ok h
      obtain ⟨S2, h_S2, h⟩ := bd_ok h
      refine c_callW (rest := []) C X hJ hl.1 9 (by decide) hk [] (tk_9_gather l h_S2) cw9_79 ki_9_gather kl_9_gather rfl ⟨by decide, by decide⟩ ⟨(by decide), (by decide)⟩ rfl (Nat.le_of_ble_eq_true rfl) dX9_read_163 (fun H locs hJ => ?_)
      refine W.eq (g2 := F0 m 166 ls []) rfl ?_
      cases h
      exact c_retvW C hJ dX9_read_166
    · replace h := cs_s h
      refine lv_ifnull C.1 C.2.1 dX9_read_18 ?_
      refine lv_aload_n C.1 C.2.1 dX9_read_21 rfl (lv_at hl 1 rfl) ?_
      refine lv_aload_n C.1 C.2.1 dX9_read_22 rfl (lv_at hl 2 rfl) ?_
      obtain ⟨hk, h⟩ := ckk_ok h
      obtain ⟨r3, h_r3, h⟩ := bd_ok h
      refine c_callR (rest := []) C X hJ.1 hl.1 10 (by decide) hk [.ref a1] (tk_10_isApplied l h_r3) cw9_54 ki_10_isApplied kl_10_isApplied rfl ⟨by decide, by decide⟩ ⟨(by decide), (by decide)⟩ rfl (Nat.le_of_ble_eq_true rfl) dX9_read_23 ?_
      refine W.eq (g2 := F0 m 26 ls [.int r3]) rfl ?_
      refine lv_if_ne (tgt := 32) C.1 C.2.1 dX9_read_26 (by decide) (fun c4 => ?_) (fun c4 => ?_)
      · have h := if_f h c4
        refine lv_aload_n C.1 C.2.1 dX9_read_32 rfl (lv_at hl 0 rfl) ?_
        obtain ⟨hk, h⟩ := ckk_ok h
        obtain ⟨a5, h_a5, h⟩ := bd_ok h
        refine gk9_39 C X hJ.1 hk h_a5 dX9_read_33 ?_
        refine lv_aload_n C.1 C.2.1 dX9_read_36 rfl (lv_at hl 2 rfl) ?_
        obtain ⟨hk, h⟩ := ckk_ok h
        refine gk9_58 C X hJ.1 hk dX9_read_37 ?_
        obtain ⟨hk, h⟩ := ckk_ok h
        obtain ⟨o6, h_o6, h⟩ := bd_ok h
        refine c_callR (rest := []) C X hJ.1 hl.1 0 (by decide) hk [.int (kF S a1 5)] (tk_0_rowNamed l h_o6) cw9_61 ki_0_rowNamed kl_0_rowNamed rfl ⟨by decide, by decide⟩ ⟨(by decide), (by decide)⟩ rfl (Nat.le_of_ble_eq_true rfl) dX9_read_40 ?_
        refine W.eq (g2 := F0 m 43 ls [va_rf o6]) rfl ?_
        refine lv_astoreq (o := o6) (lv' := [(4, va_rf o6), (0, .ref v0), (1, .ref v1), (3, .ref a1)]) C.1 C.2.1 dX9_read_43 hl (by decide) rfl (fun ls hl => ?_)
        refine lv_aloadq (o := o6) C.1 C.2.1 dX9_read_45 (lv_at hl 0 rfl) ?_
        rcases o6 with _ | a7
        · replace h := cs_n h
          refine lv_ifnonnullN C.1 C.2.1 dX9_read_47 ?_
          refine lv_iconst (v := 0) C.1 C.2.1 dX9_read_50 (by decide) ?_
          refine lv_goto (tgt := 61) C.1 C.2.1 dX9_read_51 (by decide) ?_
          exact wk_9_read_61 C X ih h hJ (lv_sub hl [1, 2, 3] rfl)
        · replace h := cs_s h
          refine lv_ifnonnull (tgt := 54) C.1 C.2.1 dX9_read_47 (by decide) ?_
          refine lv_aload C.1 C.2.1 dX9_read_54 (lv_at hl 0 rfl) ?_
          obtain ⟨hk, h⟩ := ckk_ok h
          refine gk9_67 C X hJ.1 hk dX9_read_56 ?_
          refine lv_iconst (v := 1) C.1 C.2.1 dX9_read_59 (by decide) ?_
          refine lv_iadd C.1 C.2.1 dX9_read_60 ?_
          exact wk_9_read_61 C X ih h hJ (lv_sub hl [1, 2, 3] rfl)
      · have h := if_t h c4
        refine lv_goto (tgt := 146) C.1 C.2.1 dX9_read_29 (by decide) ?_
        exact wk_9_read_146 C X ih h hJ (lv_sub hl [0, 1, 2] rfl)
noncomputable def fk_9_read (S : cSt) (v0 : Nat) (v1 : Nat) (v2 : Int32) : Option (cSt) :=
ckk S v0 10 (bd (kR S v0 3) fun a1 =>
ckk S a1 20 (ck (0 : Int32) (kL S a1) (lt (cWi S a1 (Int32.toNatClampNeg (0 : Int32)) (0 : Int32)) fun S2 =>
ckk S2 v1 11 (bd (kR S2 v1 7) fun a3 =>
ckk S2 a3 5 (bd (kR S2 a3 5) fun a4 =>
ckk S2 a4 30 (ck v2 (kL S2 a4) (lt (kO S2 a4 (Int32.toNatClampNeg v2)) fun o5 =>
fk_9_read_17 mFU S2 v0 v1 o5)))))))
set_option maxRecDepth 100000 in
set_option maxHeartbeats 4000000 in
theorem tk_9_read (l : Launch) {D : cG} {S : cSt} {v0 : Nat} {v1 : Nat} {v2 : Int32} {S9 : cSt} (h : fk_9_read S v0 v1 v2 = some S9) : Met l yX9_read (Cond.code yX9_read cX9_read 6 none :: lw_g) { frames := 1, cells := 0, slots := 0, locals := 22 } (kPi [.ref v0, .ref v1, .int v2] D S) (kW none D S S9) 0 0 (cA S) := by
  refine Met.ofW (cc := cX9_read) (maxL := 6) (ret := none) (by decide) rfl ?_
  intro p e s m args below meth c s₁ B hml hv
  obtain ⟨rfl, hW, X⟩ := hv
  have C : cY p (headSpec (Cond.code yX9_read cX9_read 6 none :: lw_g) { frames := 1, cells := 0, slots := 0, locals := 22 }).room s m _ meth c RX9 cX9_read 6 1 0 0 22 none := ⟨B.exec, B.bytes, hml, findClass_of_methodNamed B.named, fun w hw => atoms_spec (ws := Cond.code yX9_read cX9_read 6 none :: lw_g) B.pre w (List.mem_cons_of_mem _ hw), ⟨Nat.le_refl _, Nat.le_refl _, Nat.le_refl _, Nat.le_refl _⟩, B.returns, B.notSynchronized⟩
  have hl := lv_entry ([.ref v0, .ref v1, .int v2]) (n := 6) (Nat.le_of_ble_eq_true rfl)
  rw [lg_entry_eq]
  generalize (lg_sl ([.ref v0, .ref v1, .int v2]) ++ List.replicate (6 - (lg_sl ([.ref v0, .ref v1, .int v2])).length) Slot.unset).toArray = ls at hl ⊢
  have hl : lv_has ls 6 [(0, .ref v0), (1, .ref v1), (2, .int v2)] := hl
  have hJ : cJ D S s.heap S s.heap [] := cJ.rf hW
  unfold fk_9_read at h
  refine lv_aload_n C.1 C.2.1 dX9_read_0 rfl (lv_at hl 0 rfl) ?_
  obtain ⟨hk, h⟩ := ckk_ok h
  obtain ⟨a1, h_a1, h⟩ := bd_ok h
  refine gk9_21 C X hJ.1 hk h_a1 dX9_read_1 ?_
  refine lv_iconst (v := 0) C.1 C.2.1 dX9_read_4 (by decide) ?_
  refine lv_iconst (v := 0) C.1 C.2.1 dX9_read_5 (by decide) ?_
  obtain ⟨hk, h⟩ := ckk_ok h
  obtain ⟨hin2, h⟩ := ck_ok h
  refine c_iast C X hJ hk hin2 dX9_read_6 (fun H locs hJ => ?_)
  refine lt_ok h (fun S2 e_S2 h => ?_)
  rw [e_S2] at hJ
  refine lv_aload_n C.1 C.2.1 dX9_read_7 rfl (lv_at hl 1 rfl) ?_
  obtain ⟨hk, h⟩ := ckk_ok h
  obtain ⟨a3, h_a3, h⟩ := bd_ok h
  refine gk9_43 C X hJ.1 hk h_a3 dX9_read_8 ?_
  obtain ⟨hk, h⟩ := ckk_ok h
  obtain ⟨a4, h_a4, h⟩ := bd_ok h
  refine gk9_49 C X hJ.1 hk h_a4 dX9_read_11 ?_
  refine lv_iload_n C.1 C.2.1 dX9_read_14 rfl (lv_at hl 2 rfl) ?_
  obtain ⟨hk, h⟩ := ckk_ok h
  obtain ⟨hin2, h⟩ := ck_ok h
  refine c_aald C 30 (by decide) X.2.2.2.2.1 hJ.1 hk hin2 dX9_read_15 ?_
  refine lt_ok h (fun o5 e_o5 h => ?_)
  refine lv_nmq e_o5 ?_
  refine lv_astore_nq (o := o5) (lv' := [(3, va_rf o5), (0, .ref v0), (1, .ref v1), (2, .int v2)]) C.1 C.2.1 dX9_read_16 rfl hl (by decide) rfl (fun ls hl => ?_)
  exact wk_9_read_17 C X mFU h hJ (lv_sub hl [1, 2, 0] rfl)
end
theorem dX9_nameAhead_0 : decode cX9_nameAhead 0 = .ok (.iload_n 1, 1) := by decide +kernel
theorem dX9_nameAhead_1 : decode cX9_nameAhead 1 = .ok (.ifCond .le 25, 3) := by decide +kernel
theorem dX9_nameAhead_4 : decode cX9_nameAhead 4 = .ok (.iload_n 1, 1) := by decide +kernel
theorem dX9_nameAhead_5 : decode cX9_nameAhead 5 = .ok (.aload_n 0, 1) := by decide +kernel
theorem dX9_nameAhead_6 : decode cX9_nameAhead 6 = .ok (.getfield 17, 3) := by decide +kernel
theorem dX9_nameAhead_9 : decode cX9_nameAhead 9 = .ok (.if_icmp .gt 17, 3) := by decide +kernel
theorem dX9_nameAhead_12 : decode cX9_nameAhead 12 = .ok (.aload_n 0, 1) := by decide +kernel
theorem dX9_nameAhead_13 : decode cX9_nameAhead 13 = .ok (.getfield 11, 3) := by decide +kernel
theorem dX9_nameAhead_16 : decode cX9_nameAhead 16 = .ok (.iload_n 1, 1) := by decide +kernel
theorem dX9_nameAhead_17 : decode cX9_nameAhead 17 = .ok (.iconst 1, 1) := by decide +kernel
theorem dX9_nameAhead_18 : decode cX9_nameAhead 18 = .ok (.isub, 1) := by decide +kernel
theorem dX9_nameAhead_19 : decode cX9_nameAhead 19 = .ok (.aaload, 1) := by decide +kernel
theorem dX9_nameAhead_20 : decode cX9_nameAhead 20 = .ok (.getfield 85, 3) := by decide +kernel
theorem dX9_nameAhead_23 : decode cX9_nameAhead 23 = .ok (.goto 4, 3) := by decide +kernel
theorem dX9_nameAhead_26 : decode cX9_nameAhead 26 = .ok (.iconst 0, 1) := by decide +kernel
theorem dX9_nameAhead_27 : decode cX9_nameAhead 27 = .ok (.ireturn, 1) := by decide +kernel
theorem kd_9_nameAhead : Cond.code yX9_nameAhead cX9_nameAhead 2 (some .int) ∈ lw_g := mt_at 556 (by decide +kernel) rfl
theorem ki_9_nameAhead : Cond.instanceMethod yX9_nameAhead ∈ lw_g := mt_at 554 (by decide +kernel) rfl
theorem kl_9_nameAhead : Cond.selects (kRn 9) yX9_nameAhead yX9_nameAhead ∈ lw_g := mt_at 555 (by decide +kernel) rfl
section
variable {p : Program} {l : Launch} {e : Env} {R : Room} {s : State} {m : MethodId} {args : Array Value} {below : List Frame} {meth : Method} {c : Code} {H : Heap} {locs : List Loc} {cells slots : Nat} {Q : State → Prop}
variable {D : cG} {S S0 : cSt} {cc : ByteArray} {nL : Nat} {pc : Nat} {ls : Array Slot} {rest : List Value} {H0 : Heap} {nF nR nC nS : Nat} {ret : Option FieldType} {a : Nat}
theorem gk9_85 (C : cY p R s m args meth c RX9 cc nL nF nC nS nR ret) (X : cX D s) (hW : cW D S H) (hk : kK S a = 9) (hdg : decode cc pc = .ok (.getfield 85, 3)) (kk : W p l e R s m args below meth c H locs cells slots Q (F0 m (pc + 3) ls (.int (kF S a 11) :: rest))) : W p l e R s m args below meth c H locs cells slots Q (F0 m pc ls (.ref a :: rest)) := c_get C X hW 8 (by decide) ly_8 hk 11 (by decide) (mt_at 1019 (by decide +kernel) (by decide +kernel)) hdg (by rw [cV_I (by decide +kernel)]; exact kk)
end
section
variable {p : Program} {l : Launch} {e : Env} {R : Room} {s : State} {m : MethodId} {args : Array Value} {below : List Frame} {meth : Method} {c : Code} {D : cG} {S : cSt} {r : Int32}
noncomputable def fk_9_nameAhead_27 (S : cSt) (s0 : Int32) : Option (Int32) :=
some s0
set_option maxRecDepth 100000 in
set_option maxHeartbeats 4000000 in
theorem wk_9_nameAhead_27 (C : cY p R s m args meth c RX9 cX9_nameAhead 2 0 0 0 0 (some .int)) (X : cX D s) (hW : cW D S s.heap) : ∀ {s0 : Int32} {ls : Array Slot}, fk_9_nameAhead_27 S s0 = some r → lv_has ls 2 [] → W p l e R s m args below meth c s.heap [] 0 0 (MQ below (kQ (some (.int r))) args s 0 0 mNo) (F0 m 27 ls [.int s0]) := by
  intro s0 ls h hl
  unfold fk_9_nameAhead_27 at h
  cases h
  exact c_reti C rfl rfl dX9_nameAhead_27
noncomputable def fk_9_nameAhead_26 (S : cSt) : Option (Int32) :=
fk_9_nameAhead_27 S (0 : Int32)
set_option maxRecDepth 100000 in
set_option maxHeartbeats 4000000 in
theorem wk_9_nameAhead_26 (C : cY p R s m args meth c RX9 cX9_nameAhead 2 0 0 0 0 (some .int)) (X : cX D s) (hW : cW D S s.heap) : ∀ {ls : Array Slot}, fk_9_nameAhead_26 S = some r → lv_has ls 2 [] → W p l e R s m args below meth c s.heap [] 0 0 (MQ below (kQ (some (.int r))) args s 0 0 mNo) (F0 m 26 ls []) := by
  intro ls h hl
  unfold fk_9_nameAhead_26 at h
  refine lv_iconst (v := 0) C.1 C.2.1 dX9_nameAhead_26 (by decide) ?_
  exact wk_9_nameAhead_27 C X hW h (lv_sub hl [] rfl)
noncomputable def fk_9_nameAhead (S : cSt) (v0 : Nat) (v1 : Int32) : Option (Int32) :=
if v1 ≤ 0 then (
fk_9_nameAhead_26 S)
else (
ckk S v0 10 (
if (kF S v0 1) < v1 then (
fk_9_nameAhead_26 S)
else (
ckk S v0 10 (bd (kR S v0 0) fun a3 =>
ckk S a3 30 (ck (v1 - (1 : Int32)) (kL S a3) (lt (kO S a3 (Int32.toNatClampNeg (v1 - (1 : Int32)))) fun o4 =>
bd o4 fun a5 =>
ckk S a5 9 (
fk_9_nameAhead_27 S (kF S a5 11))))))))
set_option maxRecDepth 100000 in
set_option maxHeartbeats 4000000 in
theorem tk_9_nameAhead (l : Launch) {D : cG} {S : cSt} {v0 : Nat} {v1 : Int32} {r : Int32}  (h : fk_9_nameAhead S v0 v1 = some r) : Met l yX9_nameAhead (Cond.code yX9_nameAhead cX9_nameAhead 2 (some .int) :: lw_g) { frames := 0, cells := 0, slots := 0, locals := 0 } (kPi [.ref v0, .int v1] D S) (kQ (some (.int r))) 0 0 (mNo) := by
  refine Met.ofW (cc := cX9_nameAhead) (maxL := 2) (ret := (some .int)) (by decide) rfl ?_
  intro p e s m args below meth c s₁ B hml hv
  obtain ⟨rfl, hW, X⟩ := hv
  have C : cY p (headSpec (Cond.code yX9_nameAhead cX9_nameAhead 2 (some .int) :: lw_g) { frames := 0, cells := 0, slots := 0, locals := 0 }).room s m _ meth c RX9 cX9_nameAhead 2 0 0 0 0 (some .int) := ⟨B.exec, B.bytes, hml, findClass_of_methodNamed B.named, fun w hw => atoms_spec (ws := Cond.code yX9_nameAhead cX9_nameAhead 2 (some .int) :: lw_g) B.pre w (List.mem_cons_of_mem _ hw), ⟨Nat.le_refl _, Nat.le_refl _, Nat.le_refl _, Nat.le_refl _⟩, B.returns, B.notSynchronized⟩
  have hl := lv_entry ([.ref v0, .int v1]) (n := 2) (Nat.le_of_ble_eq_true rfl)
  rw [lg_entry_eq]
  generalize (lg_sl ([.ref v0, .int v1]) ++ List.replicate (2 - (lg_sl ([.ref v0, .int v1])).length) Slot.unset).toArray = ls at hl ⊢
  have hl : lv_has ls 2 [(0, .ref v0), (1, .int v1)] := hl
  unfold fk_9_nameAhead at h
  refine lv_iload_n C.1 C.2.1 dX9_nameAhead_0 rfl (lv_at hl 1 rfl) ?_
  refine lv_if_le (tgt := 26) C.1 C.2.1 dX9_nameAhead_1 (by decide) (fun c1 => ?_) (fun c1 => ?_)
  · have h := if_t h c1
    exact wk_9_nameAhead_26 C X hW h (lv_sub hl [] rfl)
  · have h := if_f h c1
    refine lv_iload_n C.1 C.2.1 dX9_nameAhead_4 rfl (lv_at hl 1 rfl) ?_
    refine lv_aload_n C.1 C.2.1 dX9_nameAhead_5 rfl (lv_at hl 0 rfl) ?_
    obtain ⟨hk, h⟩ := ckk_ok h
    refine gk9_17 C X hW hk dX9_nameAhead_6 ?_
    refine lv_icmp_gt (tgt := 26) C.1 C.2.1 dX9_nameAhead_9 (by decide) (fun c2 => ?_) (fun c2 => ?_)
    · have h := if_t h c2
      exact wk_9_nameAhead_26 C X hW h (lv_sub hl [] rfl)
    · have h := if_f h c2
      refine lv_aload_n C.1 C.2.1 dX9_nameAhead_12 rfl (lv_at hl 0 rfl) ?_
      obtain ⟨hk, h⟩ := ckk_ok h
      obtain ⟨a3, h_a3, h⟩ := bd_ok h
      refine gk9_11 C X hW hk h_a3 dX9_nameAhead_13 ?_
      refine lv_iload_n C.1 C.2.1 dX9_nameAhead_16 rfl (lv_at hl 1 rfl) ?_
      refine lv_iconst (v := 1) C.1 C.2.1 dX9_nameAhead_17 (by decide) ?_
      refine lv_isub C.1 C.2.1 dX9_nameAhead_18 ?_
      obtain ⟨hk, h⟩ := ckk_ok h
      obtain ⟨hin2, h⟩ := ck_ok h
      refine c_aald C 30 (by decide) X.2.2.2.2.1 hW hk hin2 dX9_nameAhead_19 ?_
      refine lt_ok h (fun o4 e_o4 h => ?_)
      refine lv_nmq e_o4 ?_
      obtain ⟨a5, e_a5, h⟩ := bd_ok h
      revert h; subst e_a5; intro h
      obtain ⟨hk, h⟩ := ckk_ok h
      refine gk9_85 C X hW hk dX9_nameAhead_20 ?_
      refine lv_goto (tgt := 27) C.1 C.2.1 dX9_nameAhead_23 (by decide) ?_
      exact wk_9_nameAhead_27 C X hW h (lv_sub hl [] rfl)
end
theorem dX9_standingUpTo_0 : decode cX9_standingUpTo 0 = .ok (.iconst 0, 1) := by decide +kernel
theorem dX9_standingUpTo_1 : decode cX9_standingUpTo 1 = .ok (.istore_n 2, 1) := by decide +kernel
theorem dX9_standingUpTo_2 : decode cX9_standingUpTo 2 = .ok (.aload_n 0, 1) := by decide +kernel
theorem dX9_standingUpTo_3 : decode cX9_standingUpTo 3 = .ok (.getfield 21, 3) := by decide +kernel
theorem dX9_standingUpTo_6 : decode cX9_standingUpTo 6 = .ok (.iconst 0, 1) := by decide +kernel
theorem dX9_standingUpTo_7 : decode cX9_standingUpTo 7 = .ok (.iaload, 1) := by decide +kernel
theorem dX9_standingUpTo_8 : decode cX9_standingUpTo 8 = .ok (.istore_n 3, 1) := by decide +kernel
theorem dX9_standingUpTo_9 : decode cX9_standingUpTo 9 = .ok (.iconst 0, 1) := by decide +kernel
theorem dX9_standingUpTo_10 : decode cX9_standingUpTo 10 = .ok (.istore 4, 2) := by decide +kernel
theorem dX9_standingUpTo_12 : decode cX9_standingUpTo 12 = .ok (.iload 4, 2) := by decide +kernel
theorem dX9_standingUpTo_14 : decode cX9_standingUpTo 14 = .ok (.sipush 1000, 3) := by decide +kernel
theorem dX9_standingUpTo_17 : decode cX9_standingUpTo 17 = .ok (.if_icmp .ge 50, 3) := by decide +kernel
theorem dX9_standingUpTo_20 : decode cX9_standingUpTo 20 = .ok (.iload_n 3, 1) := by decide +kernel
theorem dX9_standingUpTo_21 : decode cX9_standingUpTo 21 = .ok (.ifCond .le 46, 3) := by decide +kernel
theorem dX9_standingUpTo_24 : decode cX9_standingUpTo 24 = .ok (.iload_n 2, 1) := by decide +kernel
theorem dX9_standingUpTo_25 : decode cX9_standingUpTo 25 = .ok (.aload_n 0, 1) := by decide +kernel
theorem dX9_standingUpTo_26 : decode cX9_standingUpTo 26 = .ok (.getfield 25, 3) := by decide +kernel
theorem dX9_standingUpTo_29 : decode cX9_standingUpTo 29 = .ok (.iload_n 3, 1) := by decide +kernel
theorem dX9_standingUpTo_30 : decode cX9_standingUpTo 30 = .ok (.iaload, 1) := by decide +kernel
theorem dX9_standingUpTo_31 : decode cX9_standingUpTo 31 = .ok (.ifCond .ne 7, 3) := by decide +kernel
theorem dX9_standingUpTo_34 : decode cX9_standingUpTo 34 = .ok (.iconst 1, 1) := by decide +kernel
theorem dX9_standingUpTo_35 : decode cX9_standingUpTo 35 = .ok (.goto 4, 3) := by decide +kernel
theorem dX9_standingUpTo_38 : decode cX9_standingUpTo 38 = .ok (.iconst 0, 1) := by decide +kernel
theorem dX9_standingUpTo_39 : decode cX9_standingUpTo 39 = .ok (.iadd, 1) := by decide +kernel
theorem dX9_standingUpTo_40 : decode cX9_standingUpTo 40 = .ok (.istore_n 2, 1) := by decide +kernel
theorem dX9_standingUpTo_41 : decode cX9_standingUpTo 41 = .ok (.iload_n 3, 1) := by decide +kernel
theorem dX9_standingUpTo_42 : decode cX9_standingUpTo 42 = .ok (.aload_n 1, 1) := by decide +kernel
theorem dX9_standingUpTo_43 : decode cX9_standingUpTo 43 = .ok (.getfield 67, 3) := by decide +kernel
theorem dX9_standingUpTo_46 : decode cX9_standingUpTo 46 = .ok (.iconst 1, 1) := by decide +kernel
theorem dX9_standingUpTo_47 : decode cX9_standingUpTo 47 = .ok (.iadd, 1) := by decide +kernel
theorem dX9_standingUpTo_48 : decode cX9_standingUpTo 48 = .ok (.if_icmp .ne 6, 3) := by decide +kernel
theorem dX9_standingUpTo_51 : decode cX9_standingUpTo 51 = .ok (.goto 16, 3) := by decide +kernel
theorem dX9_standingUpTo_54 : decode cX9_standingUpTo 54 = .ok (.aload_n 0, 1) := by decide +kernel
theorem dX9_standingUpTo_55 : decode cX9_standingUpTo 55 = .ok (.getfield 21, 3) := by decide +kernel
theorem dX9_standingUpTo_58 : decode cX9_standingUpTo 58 = .ok (.iload_n 3, 1) := by decide +kernel
theorem dX9_standingUpTo_59 : decode cX9_standingUpTo 59 = .ok (.iaload, 1) := by decide +kernel
theorem dX9_standingUpTo_60 : decode cX9_standingUpTo 60 = .ok (.istore_n 3, 1) := by decide +kernel
theorem dX9_standingUpTo_61 : decode cX9_standingUpTo 61 = .ok (.iinc 4 1, 3) := by decide +kernel
theorem dX9_standingUpTo_64 : decode cX9_standingUpTo 64 = .ok (.goto (-52), 3) := by decide +kernel
theorem dX9_standingUpTo_67 : decode cX9_standingUpTo 67 = .ok (.iload_n 2, 1) := by decide +kernel
theorem dX9_standingUpTo_68 : decode cX9_standingUpTo 68 = .ok (.ireturn, 1) := by decide +kernel
theorem kd_9_standingUpTo : Cond.code yX9_standingUpTo cX9_standingUpTo 5 (some .int) ∈ lw_g := mt_at 1224 (by decide +kernel) rfl
theorem ki_9_standingUpTo : Cond.instanceMethod yX9_standingUpTo ∈ lw_g := mt_at 1222 (by decide +kernel) rfl
theorem kl_9_standingUpTo : Cond.selects (kRn 9) yX9_standingUpTo yX9_standingUpTo ∈ lw_g := mt_at 1223 (by decide +kernel) rfl
section
variable {p : Program} {l : Launch} {e : Env} {R : Room} {s : State} {m : MethodId} {args : Array Value} {below : List Frame} {meth : Method} {c : Code} {D : cG} {S : cSt} {r : Int32}
noncomputable def fk_9_standingUpTo_67 (S : cSt) (v2 : Int32) : Option (Int32) :=
some v2
set_option maxRecDepth 100000 in
set_option maxHeartbeats 4000000 in
theorem wk_9_standingUpTo_67 (C : cY p R s m args meth c RX9 cX9_standingUpTo 5 0 0 0 0 (some .int)) (X : cX D s) (hW : cW D S s.heap) : ∀ {v2 : Int32} {ls : Array Slot}, fk_9_standingUpTo_67 S v2 = some r → lv_has ls 5 [(2, .int v2)] → W p l e R s m args below meth c s.heap [] 0 0 (MQ below (kQ (some (.int r))) args s 0 0 mNo) (F0 m 67 ls []) := by
  intro v2 ls h hl
  unfold fk_9_standingUpTo_67 at h
  refine lv_iload_n C.1 C.2.1 dX9_standingUpTo_67 rfl (lv_at hl 0 rfl) ?_
  cases h
  exact c_reti C rfl rfl dX9_standingUpTo_68
noncomputable def fk_9_standingUpTo_39 (g_12 : Nat → Nat → Int32 → Int32 → Int32 → Option (Int32)) (S : cSt) (v0 : Nat) (v1 : Nat) (v3 : Int32) (v4 : Int32) (s0 : Int32) (s1 : Int32) : Option (Int32) :=
lt (s0 + s1) fun x1 =>
ckk S v1 9 (
if v3 = ((kF S v1 12) + (1 : Int32)) then (
fk_9_standingUpTo_67 S x1)
else (
ckk S v0 10 (bd (kR S v0 3) fun a3 =>
ckk S a3 20 (ck v3 (kL S a3) (
lt (kI S a3 (Int32.toNatClampNeg v3)) fun x4 =>
lt (v4 + (1 : Int32)) fun x5 =>
g_12 v0 v1 x1 x4 x5)))))
set_option maxRecDepth 100000 in
set_option maxHeartbeats 4000000 in
theorem wk_9_standingUpTo_39 (C : cY p R s m args meth c RX9 cX9_standingUpTo 5 0 0 0 0 (some .int)) (X : cX D s) (hW : cW D S s.heap) {g_12 : Nat → Nat → Int32 → Int32 → Int32 → Option (Int32)} (hg_12 : ∀ {v0 : Nat} {v1 : Nat} {v2 : Int32} {v3 : Int32} {v4 : Int32} {ls : Array Slot}, g_12 v0 v1 v2 v3 v4 = some r → lv_has ls 5 [(0, .ref v0), (1, .ref v1), (2, .int v2), (3, .int v3), (4, .int v4)] → W p l e R s m args below meth c s.heap [] 0 0 (MQ below (kQ (some (.int r))) args s 0 0 mNo) (F0 m 12 ls [])) : ∀ {v0 : Nat} {v1 : Nat} {v3 : Int32} {v4 : Int32} {s0 : Int32} {s1 : Int32} {ls : Array Slot}, fk_9_standingUpTo_39 g_12 S v0 v1 v3 v4 s0 s1 = some r → lv_has ls 5 [(0, .ref v0), (1, .ref v1), (3, .int v3), (4, .int v4)] → W p l e R s m args below meth c s.heap [] 0 0 (MQ below (kQ (some (.int r))) args s 0 0 mNo) (F0 m 39 ls [.int s1, .int s0]) := by
  intro v0 v1 v3 v4 s0 s1 ls h hl
  unfold fk_9_standingUpTo_39 at h
  refine lv_iadd C.1 C.2.1 dX9_standingUpTo_39 ?_
  refine lt_ok h (fun x1 e_x1 h => ?_)
  refine lv_nm e_x1 ?_
  refine lv_istore_n (lv' := [(2, .int x1), (0, .ref v0), (1, .ref v1), (3, .int v3), (4, .int v4)]) C.1 C.2.1 dX9_standingUpTo_40 rfl hl (by decide) rfl (fun ls hl => ?_)
  refine lv_iload_n C.1 C.2.1 dX9_standingUpTo_41 rfl (lv_at hl 3 rfl) ?_
  refine lv_aload_n C.1 C.2.1 dX9_standingUpTo_42 rfl (lv_at hl 2 rfl) ?_
  obtain ⟨hk, h⟩ := ckk_ok h
  refine gk9_67 C X hW hk dX9_standingUpTo_43 ?_
  refine lv_iconst (v := 1) C.1 C.2.1 dX9_standingUpTo_46 (by decide) ?_
  refine lv_iadd C.1 C.2.1 dX9_standingUpTo_47 ?_
  refine lv_icmp_ne (tgt := 54) C.1 C.2.1 dX9_standingUpTo_48 (by decide) (fun c2 => ?_) (fun c2 => ?_)
  · have h := if_f h c2
    refine lv_aload_n C.1 C.2.1 dX9_standingUpTo_54 rfl (lv_at hl 1 rfl) ?_
    obtain ⟨hk, h⟩ := ckk_ok h
    obtain ⟨a3, h_a3, h⟩ := bd_ok h
    refine gk9_21 C X hW hk h_a3 dX9_standingUpTo_55 ?_
    refine lv_iload_n C.1 C.2.1 dX9_standingUpTo_58 rfl (lv_at hl 3 rfl) ?_
    obtain ⟨hk, h⟩ := ckk_ok h
    obtain ⟨hin2, h⟩ := ck_ok h
    refine c_iald C X hW hk hin2 dX9_standingUpTo_59 ?_
    refine lt_ok h (fun x4 e_x4 h => ?_)
    refine lv_nm e_x4 ?_
    refine lv_istore_n (lv' := [(3, .int x4), (2, .int x1), (0, .ref v0), (1, .ref v1), (4, .int v4)]) C.1 C.2.1 dX9_standingUpTo_60 rfl hl (by decide) rfl (fun ls hl => ?_)
    refine lt_ok h (fun x5 e_x5 h => ?_)
    refine lv_iinc (v := x5) (lv' := [(4, .int x5), (3, .int x4), (2, .int x1), (0, .ref v0), (1, .ref v1)]) C.1 C.2.1 dX9_standingUpTo_61 hl (k := 4) rfl (by rw [← e_x5]; rfl) (by decide) rfl (fun ls hl => ?_)
    refine lv_goto (tgt := 12) C.1 C.2.1 dX9_standingUpTo_64 (by decide) ?_
    exact hg_12 h (lv_sub hl [3, 4, 2, 1, 0] rfl)
  · have h := if_t h c2
    refine lv_goto (tgt := 67) C.1 C.2.1 dX9_standingUpTo_51 (by decide) ?_
    exact wk_9_standingUpTo_67 C X hW h (lv_sub hl [0] rfl)
noncomputable def fk_9_standingUpTo_12 (S : cSt) : Nat → Nat → Nat → Int32 → Int32 → Int32 → Option (Int32)
  | 0, _, _, _, _, _ => none
  | n + 1, v0, v1, v2, v3, v4 =>
    if (1000 : Int32) ≤ v4 then (
    fk_9_standingUpTo_67 S v2)
    else (
    if v3 ≤ 0 then (
    fk_9_standingUpTo_67 S v2)
    else (
    ckk S v0 10 (bd (kR S v0 4) fun a3 =>
    ckk S a3 20 (ck v3 (kL S a3) (
    if (kI S a3 (Int32.toNatClampNeg v3)) = 0 then (
    fk_9_standingUpTo_39 (fk_9_standingUpTo_12 S n) S v0 v1 v3 v4 v2 (1 : Int32))
    else (
    fk_9_standingUpTo_39 (fk_9_standingUpTo_12 S n) S v0 v1 v3 v4 v2 (0 : Int32)))))))
set_option maxRecDepth 100000 in
set_option maxHeartbeats 4000000 in
theorem wk_9_standingUpTo_12 (C : cY p R s m args meth c RX9 cX9_standingUpTo 5 0 0 0 0 (some .int)) (X : cX D s) (hW : cW D S s.heap) : ∀ (n : Nat), ∀ {v0 : Nat} {v1 : Nat} {v2 : Int32} {v3 : Int32} {v4 : Int32} {ls : Array Slot}, fk_9_standingUpTo_12 S n v0 v1 v2 v3 v4 = some r → lv_has ls 5 [(0, .ref v0), (1, .ref v1), (2, .int v2), (3, .int v3), (4, .int v4)] → W p l e R s m args below meth c s.heap [] 0 0 (MQ below (kQ (some (.int r))) args s 0 0 mNo) (F0 m 12 ls []) := by
  intro n
  induction n with
  | zero =>
    intro v0 v1 v2 v3 v4 ls h hl
    exact absurd (show (none : Option (Int32)) = _ from h) (fun q => by cases q)
  | succ n ih =>
    intro v0 v1 v2 v3 v4 ls h hl
    rw [fk_9_standingUpTo_12] at h
    refine lv_iload C.1 C.2.1 dX9_standingUpTo_12 (lv_at hl 4 rfl) ?_
    refine lv_sipush (v := 1000) C.1 C.2.1 dX9_standingUpTo_14 (by decide) ?_
    refine lv_icmp_ge (tgt := 67) C.1 C.2.1 dX9_standingUpTo_17 (by decide) (fun c1 => ?_) (fun c1 => ?_)
    · have h := if_t h c1
      exact wk_9_standingUpTo_67 C X hW h (lv_sub hl [2] rfl)
    · have h := if_f h c1
      refine lv_iload_n C.1 C.2.1 dX9_standingUpTo_20 rfl (lv_at hl 3 rfl) ?_
      refine lv_if_le (tgt := 67) C.1 C.2.1 dX9_standingUpTo_21 (by decide) (fun c2 => ?_) (fun c2 => ?_)
      · have h := if_t h c2
        exact wk_9_standingUpTo_67 C X hW h (lv_sub hl [2] rfl)
      · have h := if_f h c2
        refine lv_iload_n C.1 C.2.1 dX9_standingUpTo_24 rfl (lv_at hl 2 rfl) ?_
        refine lv_aload_n C.1 C.2.1 dX9_standingUpTo_25 rfl (lv_at hl 0 rfl) ?_
        obtain ⟨hk, h⟩ := ckk_ok h
        obtain ⟨a3, h_a3, h⟩ := bd_ok h
        refine gk9_25 C X hW hk h_a3 dX9_standingUpTo_26 ?_
        refine lv_iload_n C.1 C.2.1 dX9_standingUpTo_29 rfl (lv_at hl 3 rfl) ?_
        obtain ⟨hk, h⟩ := ckk_ok h
        obtain ⟨hin2, h⟩ := ck_ok h
        refine c_iald C X hW hk hin2 dX9_standingUpTo_30 ?_
        refine lv_if_ne (tgt := 38) C.1 C.2.1 dX9_standingUpTo_31 (by decide) (fun c4 => ?_) (fun c4 => ?_)
        · have h := if_f h c4
          refine lv_iconst (v := 0) C.1 C.2.1 dX9_standingUpTo_38 (by decide) ?_
          exact wk_9_standingUpTo_39 C X hW ih h (lv_sub hl [0, 1, 3, 4] rfl)
        · have h := if_t h c4
          refine lv_iconst (v := 1) C.1 C.2.1 dX9_standingUpTo_34 (by decide) ?_
          refine lv_goto (tgt := 39) C.1 C.2.1 dX9_standingUpTo_35 (by decide) ?_
          exact wk_9_standingUpTo_39 C X hW ih h (lv_sub hl [0, 1, 3, 4] rfl)
noncomputable def fk_9_standingUpTo (S : cSt) (v0 : Nat) (v1 : Nat) : Option (Int32) :=
ckk S v0 10 (bd (kR S v0 3) fun a1 =>
ckk S a1 20 (ck (0 : Int32) (kL S a1) (
lt (kI S a1 (Int32.toNatClampNeg (0 : Int32))) fun x2 =>
fk_9_standingUpTo_12 S mFU v0 v1 (0 : Int32) x2 (0 : Int32))))
set_option maxRecDepth 100000 in
set_option maxHeartbeats 4000000 in
theorem tk_9_standingUpTo (l : Launch) {D : cG} {S : cSt} {v0 : Nat} {v1 : Nat} {r : Int32}  (h : fk_9_standingUpTo S v0 v1 = some r) : Met l yX9_standingUpTo (Cond.code yX9_standingUpTo cX9_standingUpTo 5 (some .int) :: lw_g) { frames := 0, cells := 0, slots := 0, locals := 0 } (kPi [.ref v0, .ref v1] D S) (kQ (some (.int r))) 0 0 (mNo) := by
  refine Met.ofW (cc := cX9_standingUpTo) (maxL := 5) (ret := (some .int)) (by decide) rfl ?_
  intro p e s m args below meth c s₁ B hml hv
  obtain ⟨rfl, hW, X⟩ := hv
  have C : cY p (headSpec (Cond.code yX9_standingUpTo cX9_standingUpTo 5 (some .int) :: lw_g) { frames := 0, cells := 0, slots := 0, locals := 0 }).room s m _ meth c RX9 cX9_standingUpTo 5 0 0 0 0 (some .int) := ⟨B.exec, B.bytes, hml, findClass_of_methodNamed B.named, fun w hw => atoms_spec (ws := Cond.code yX9_standingUpTo cX9_standingUpTo 5 (some .int) :: lw_g) B.pre w (List.mem_cons_of_mem _ hw), ⟨Nat.le_refl _, Nat.le_refl _, Nat.le_refl _, Nat.le_refl _⟩, B.returns, B.notSynchronized⟩
  have hl := lv_entry ([.ref v0, .ref v1]) (n := 5) (Nat.le_of_ble_eq_true rfl)
  rw [lg_entry_eq]
  generalize (lg_sl ([.ref v0, .ref v1]) ++ List.replicate (5 - (lg_sl ([.ref v0, .ref v1])).length) Slot.unset).toArray = ls at hl ⊢
  have hl : lv_has ls 5 [(0, .ref v0), (1, .ref v1)] := hl
  unfold fk_9_standingUpTo at h
  refine lv_iconst (v := 0) C.1 C.2.1 dX9_standingUpTo_0 (by decide) ?_
  refine lv_istore_n (lv' := [(2, .int (0 : Int32)), (0, .ref v0), (1, .ref v1)]) C.1 C.2.1 dX9_standingUpTo_1 rfl hl (by decide) rfl (fun ls hl => ?_)
  refine lv_aload_n C.1 C.2.1 dX9_standingUpTo_2 rfl (lv_at hl 1 rfl) ?_
  obtain ⟨hk, h⟩ := ckk_ok h
  obtain ⟨a1, h_a1, h⟩ := bd_ok h
  refine gk9_21 C X hW hk h_a1 dX9_standingUpTo_3 ?_
  refine lv_iconst (v := 0) C.1 C.2.1 dX9_standingUpTo_6 (by decide) ?_
  obtain ⟨hk, h⟩ := ckk_ok h
  obtain ⟨hin2, h⟩ := ck_ok h
  refine c_iald C X hW hk hin2 dX9_standingUpTo_7 ?_
  refine lt_ok h (fun x2 e_x2 h => ?_)
  refine lv_nm e_x2 ?_
  refine lv_istore_n (lv' := [(3, .int x2), (2, .int (0 : Int32)), (0, .ref v0), (1, .ref v1)]) C.1 C.2.1 dX9_standingUpTo_8 rfl hl (by decide) rfl (fun ls hl => ?_)
  refine lv_iconst (v := 0) C.1 C.2.1 dX9_standingUpTo_9 (by decide) ?_
  refine lv_istore (lv' := [(4, .int (0 : Int32)), (3, .int x2), (2, .int (0 : Int32)), (0, .ref v0), (1, .ref v1)]) C.1 C.2.1 dX9_standingUpTo_10 hl (by decide) rfl (fun ls hl => ?_)
  exact wk_9_standingUpTo_12 C X hW mFU h (lv_sub hl [3, 4, 2, 1, 0] rfl)
end
theorem dX9_isSame_0 : decode cX9_isSame 0 = .ok (.iload_n 1, 1) := by decide +kernel
theorem dX9_isSame_1 : decode cX9_isSame 1 = .ok (.aload_n 0, 1) := by decide +kernel
theorem dX9_isSame_2 : decode cX9_isSame 2 = .ok (.getfield 17, 3) := by decide +kernel
theorem dX9_isSame_5 : decode cX9_isSame 5 = .ok (.if_icmp .ge 33, 3) := by decide +kernel
theorem dX9_isSame_8 : decode cX9_isSame 8 = .ok (.iload_n 2, 1) := by decide +kernel
theorem dX9_isSame_9 : decode cX9_isSame 9 = .ok (.aload_n 0, 1) := by decide +kernel
theorem dX9_isSame_10 : decode cX9_isSame 10 = .ok (.getfield 32, 3) := by decide +kernel
theorem dX9_isSame_13 : decode cX9_isSame 13 = .ok (.if_icmp .ge 25, 3) := by decide +kernel
theorem dX9_isSame_16 : decode cX9_isSame 16 = .ok (.aload_n 0, 1) := by decide +kernel
theorem dX9_isSame_17 : decode cX9_isSame 17 = .ok (.getfield 11, 3) := by decide +kernel
theorem dX9_isSame_20 : decode cX9_isSame 20 = .ok (.iload_n 1, 1) := by decide +kernel
theorem dX9_isSame_21 : decode cX9_isSame 21 = .ok (.aaload, 1) := by decide +kernel
theorem dX9_isSame_22 : decode cX9_isSame 22 = .ok (.getfield 104, 3) := by decide +kernel
theorem dX9_isSame_25 : decode cX9_isSame 25 = .ok (.aload_n 0, 1) := by decide +kernel
theorem dX9_isSame_26 : decode cX9_isSame 26 = .ok (.getfield 28, 3) := by decide +kernel
theorem dX9_isSame_29 : decode cX9_isSame 29 = .ok (.iload_n 2, 1) := by decide +kernel
theorem dX9_isSame_30 : decode cX9_isSame 30 = .ok (.caload, 1) := by decide +kernel
theorem dX9_isSame_31 : decode cX9_isSame 31 = .ok (.if_icmp .ne 7, 3) := by decide +kernel
theorem dX9_isSame_34 : decode cX9_isSame 34 = .ok (.iconst 1, 1) := by decide +kernel
theorem dX9_isSame_35 : decode cX9_isSame 35 = .ok (.goto 4, 3) := by decide +kernel
theorem dX9_isSame_38 : decode cX9_isSame 38 = .ok (.iconst 0, 1) := by decide +kernel
theorem dX9_isSame_39 : decode cX9_isSame 39 = .ok (.ireturn, 1) := by decide +kernel
theorem kd_9_isSame : Cond.code yX9_isSame cX9_isSame 3 (some .boolean) ∈ lw_g := mt_at 1192 (by decide +kernel) rfl
theorem ki_9_isSame : Cond.instanceMethod yX9_isSame ∈ lw_g := mt_at 1190 (by decide +kernel) rfl
theorem kl_9_isSame : Cond.selects (kRn 9) yX9_isSame yX9_isSame ∈ lw_g := mt_at 1191 (by decide +kernel) rfl
section
variable {p : Program} {l : Launch} {e : Env} {R : Room} {s : State} {m : MethodId} {args : Array Value} {below : List Frame} {meth : Method} {c : Code} {H : Heap} {locs : List Loc} {cells slots : Nat} {Q : State → Prop}
variable {D : cG} {S S0 : cSt} {cc : ByteArray} {nL : Nat} {pc : Nat} {ls : Array Slot} {rest : List Value} {H0 : Heap} {nF nR nC nS : Nat} {ret : Option FieldType} {a : Nat}
theorem gk9_28 (C : cY p R s m args meth c RX9 cc nL nF nC nS nR ret) (X : cX D s) (hW : cW D S H) (hk : kK S a = 10) {x : Nat} (hx : kR S a 5 = some x) (hdg : decode cc pc = .ok (.getfield 28, 3)) (kk : W p l e R s m args below meth c H locs cells slots Q (F0 m (pc + 3) ls (.ref x :: rest))) : W p l e R s m args below meth c H locs cells slots Q (F0 m pc ls (.ref a :: rest)) := c_get C X hW 9 (by decide) ly_9 hk 5 (by decide) (mt_at 134 (by decide +kernel) (by decide +kernel)) hdg (by rw [cV_R (by decide +kernel) hx]; exact kk)
theorem gk9_32 (C : cY p R s m args meth c RX9 cc nL nF nC nS nR ret) (X : cX D s) (hW : cW D S H) (hk : kK S a = 10) (hdg : decode cc pc = .ok (.getfield 32, 3)) (kk : W p l e R s m args below meth c H locs cells slots Q (F0 m (pc + 3) ls (.int (kF S a 6) :: rest))) : W p l e R s m args below meth c H locs cells slots Q (F0 m pc ls (.ref a :: rest)) := c_get C X hW 9 (by decide) ly_9 hk 6 (by decide) (mt_at 135 (by decide +kernel) (by decide +kernel)) hdg (by rw [cV_I (by decide +kernel)]; exact kk)
theorem gk9_104 (C : cY p R s m args meth c RX9 cc nL nF nC nS nR ret) (X : cX D s) (hW : cW D S H) (hk : kK S a = 9) (hdg : decode cc pc = .ok (.getfield 104, 3)) (kk : W p l e R s m args below meth c H locs cells slots Q (F0 m (pc + 3) ls (.int (kF S a 4) :: rest))) : W p l e R s m args below meth c H locs cells slots Q (F0 m pc ls (.ref a :: rest)) := c_get C X hW 8 (by decide) ly_8 hk 4 (by decide) (mt_at 984 (by decide +kernel) (by decide +kernel)) hdg (by rw [cV_I (by decide +kernel)]; exact kk)
end
section
variable {p : Program} {l : Launch} {e : Env} {R : Room} {s : State} {m : MethodId} {args : Array Value} {below : List Frame} {meth : Method} {c : Code} {D : cG} {S : cSt} {r : Int32}
noncomputable def fk_9_isSame_39 (S : cSt) (s0 : Int32) : Option (Int32) :=
ckz s0 (some s0)
set_option maxRecDepth 100000 in
set_option maxHeartbeats 4000000 in
theorem wk_9_isSame_39 (C : cY p R s m args meth c RX9 cX9_isSame 3 0 0 0 0 (some .boolean)) (X : cX D s) (hW : cW D S s.heap) : ∀ {s0 : Int32} {ls : Array Slot}, fk_9_isSame_39 S s0 = some r → lv_has ls 3 [] → W p l e R s m args below meth c s.heap [] 0 0 (MQ below (kQ (some (.int r))) args s 0 0 mNo) (F0 m 39 ls [.int s0]) := by
  intro s0 ls h hl
  unfold fk_9_isSame_39 at h
  obtain ⟨hzo, h⟩ := ckz_ok h
  cases h
  exact c_retn C (by rcases hzo with h9 | h9 <;> (rw [h9]; rfl)) rfl rfl dX9_isSame_39
noncomputable def fk_9_isSame_38 (S : cSt) : Option (Int32) :=
fk_9_isSame_39 S (0 : Int32)
set_option maxRecDepth 100000 in
set_option maxHeartbeats 4000000 in
theorem wk_9_isSame_38 (C : cY p R s m args meth c RX9 cX9_isSame 3 0 0 0 0 (some .boolean)) (X : cX D s) (hW : cW D S s.heap) : ∀ {ls : Array Slot}, fk_9_isSame_38 S = some r → lv_has ls 3 [] → W p l e R s m args below meth c s.heap [] 0 0 (MQ below (kQ (some (.int r))) args s 0 0 mNo) (F0 m 38 ls []) := by
  intro ls h hl
  unfold fk_9_isSame_38 at h
  refine lv_iconst (v := 0) C.1 C.2.1 dX9_isSame_38 (by decide) ?_
  exact wk_9_isSame_39 C X hW h (lv_sub hl [] rfl)
noncomputable def fk_9_isSame (S : cSt) (v0 : Nat) (v1 : Int32) (v2 : Int32) : Option (Int32) :=
ckk S v0 10 (
if (kF S v0 1) ≤ v1 then (
fk_9_isSame_38 S)
else (
ckk S v0 10 (
if (kF S v0 6) ≤ v2 then (
fk_9_isSame_38 S)
else (
ckk S v0 10 (bd (kR S v0 0) fun a3 =>
ckk S a3 30 (ck v1 (kL S a3) (lt (kO S a3 (Int32.toNatClampNeg v1)) fun o4 =>
bd o4 fun a5 =>
ckk S a5 9 (
ckk S v0 10 (bd (kR S v0 5) fun a6 =>
ckk S a6 22 (ck v2 (kL S a6) (
if (kF S a5 4) = (kI S a6 (Int32.toNatClampNeg v2)) then (
fk_9_isSame_39 S (1 : Int32))
else (
fk_9_isSame_38 S))))))))))))
set_option maxRecDepth 100000 in
set_option maxHeartbeats 4000000 in
theorem tk_9_isSame (l : Launch) {D : cG} {S : cSt} {v0 : Nat} {v1 : Int32} {v2 : Int32} {r : Int32}  (h : fk_9_isSame S v0 v1 v2 = some r) : Met l yX9_isSame (Cond.code yX9_isSame cX9_isSame 3 (some .boolean) :: lw_g) { frames := 0, cells := 0, slots := 0, locals := 0 } (kPi [.ref v0, .int v1, .int v2] D S) (kQ (some (.int r))) 0 0 (mNo) := by
  refine Met.ofW (cc := cX9_isSame) (maxL := 3) (ret := (some .boolean)) (by decide) rfl ?_
  intro p e s m args below meth c s₁ B hml hv
  obtain ⟨rfl, hW, X⟩ := hv
  have C : cY p (headSpec (Cond.code yX9_isSame cX9_isSame 3 (some .boolean) :: lw_g) { frames := 0, cells := 0, slots := 0, locals := 0 }).room s m _ meth c RX9 cX9_isSame 3 0 0 0 0 (some .boolean) := ⟨B.exec, B.bytes, hml, findClass_of_methodNamed B.named, fun w hw => atoms_spec (ws := Cond.code yX9_isSame cX9_isSame 3 (some .boolean) :: lw_g) B.pre w (List.mem_cons_of_mem _ hw), ⟨Nat.le_refl _, Nat.le_refl _, Nat.le_refl _, Nat.le_refl _⟩, B.returns, B.notSynchronized⟩
  have hl := lv_entry ([.ref v0, .int v1, .int v2]) (n := 3) (Nat.le_of_ble_eq_true rfl)
  rw [lg_entry_eq]
  generalize (lg_sl ([.ref v0, .int v1, .int v2]) ++ List.replicate (3 - (lg_sl ([.ref v0, .int v1, .int v2])).length) Slot.unset).toArray = ls at hl ⊢
  have hl : lv_has ls 3 [(0, .ref v0), (1, .int v1), (2, .int v2)] := hl
  unfold fk_9_isSame at h
  refine lv_iload_n C.1 C.2.1 dX9_isSame_0 rfl (lv_at hl 1 rfl) ?_
  refine lv_aload_n C.1 C.2.1 dX9_isSame_1 rfl (lv_at hl 0 rfl) ?_
  obtain ⟨hk, h⟩ := ckk_ok h
  refine gk9_17 C X hW hk dX9_isSame_2 ?_
  refine lv_icmp_ge (tgt := 38) C.1 C.2.1 dX9_isSame_5 (by decide) (fun c1 => ?_) (fun c1 => ?_)
  · have h := if_t h c1
    exact wk_9_isSame_38 C X hW h (lv_sub hl [] rfl)
  · have h := if_f h c1
    refine lv_iload_n C.1 C.2.1 dX9_isSame_8 rfl (lv_at hl 2 rfl) ?_
    refine lv_aload_n C.1 C.2.1 dX9_isSame_9 rfl (lv_at hl 0 rfl) ?_
    obtain ⟨hk, h⟩ := ckk_ok h
    refine gk9_32 C X hW hk dX9_isSame_10 ?_
    refine lv_icmp_ge (tgt := 38) C.1 C.2.1 dX9_isSame_13 (by decide) (fun c2 => ?_) (fun c2 => ?_)
    · have h := if_t h c2
      exact wk_9_isSame_38 C X hW h (lv_sub hl [] rfl)
    · have h := if_f h c2
      refine lv_aload_n C.1 C.2.1 dX9_isSame_16 rfl (lv_at hl 0 rfl) ?_
      obtain ⟨hk, h⟩ := ckk_ok h
      obtain ⟨a3, h_a3, h⟩ := bd_ok h
      refine gk9_11 C X hW hk h_a3 dX9_isSame_17 ?_
      refine lv_iload_n C.1 C.2.1 dX9_isSame_20 rfl (lv_at hl 1 rfl) ?_
      obtain ⟨hk, h⟩ := ckk_ok h
      obtain ⟨hin2, h⟩ := ck_ok h
      refine c_aald C 30 (by decide) X.2.2.2.2.1 hW hk hin2 dX9_isSame_21 ?_
      refine lt_ok h (fun o4 e_o4 h => ?_)
      refine lv_nmq e_o4 ?_
      obtain ⟨a5, e_a5, h⟩ := bd_ok h
      revert h; subst e_a5; intro h
      obtain ⟨hk, h⟩ := ckk_ok h
      refine gk9_104 C X hW hk dX9_isSame_22 ?_
      refine lv_aload_n C.1 C.2.1 dX9_isSame_25 rfl (lv_at hl 0 rfl) ?_
      obtain ⟨hk, h⟩ := ckk_ok h
      obtain ⟨a6, h_a6, h⟩ := bd_ok h
      refine gk9_28 C X hW hk h_a6 dX9_isSame_26 ?_
      refine lv_iload_n C.1 C.2.1 dX9_isSame_29 rfl (lv_at hl 2 rfl) ?_
      obtain ⟨hk, h⟩ := ckk_ok h
      obtain ⟨hin2, h⟩ := ck_ok h
      refine c_cald C X hW hk hin2 dX9_isSame_30 ?_
      refine lv_icmp_ne (tgt := 38) C.1 C.2.1 dX9_isSame_31 (by decide) (fun c7 => ?_) (fun c7 => ?_)
      · have h := if_f h c7
        exact wk_9_isSame_38 C X hW h (lv_sub hl [] rfl)
      · have h := if_t h c7
        refine lv_iconst (v := 1) C.1 C.2.1 dX9_isSame_34 (by decide) ?_
        refine lv_goto (tgt := 39) C.1 C.2.1 dX9_isSame_35 (by decide) ?_
        exact wk_9_isSame_39 C X hW h (lv_sub hl [] rfl)
end
theorem dX9_common_0 : decode cX9_common 0 = .ok (.iload_n 1, 1) := by decide +kernel
theorem dX9_common_1 : decode cX9_common 1 = .ok (.aload_n 0, 1) := by decide +kernel
theorem dX9_common_2 : decode cX9_common 2 = .ok (.getfield 17, 3) := by decide +kernel
theorem dX9_common_5 : decode cX9_common 5 = .ok (.if_icmp .gt 29, 3) := by decide +kernel
theorem dX9_common_8 : decode cX9_common 8 = .ok (.iload_n 2, 1) := by decide +kernel
theorem dX9_common_9 : decode cX9_common 9 = .ok (.aload_n 0, 1) := by decide +kernel
theorem dX9_common_10 : decode cX9_common 10 = .ok (.getfield 32, 3) := by decide +kernel
theorem dX9_common_13 : decode cX9_common 13 = .ok (.if_icmp .gt 21, 3) := by decide +kernel
theorem dX9_common_16 : decode cX9_common 16 = .ok (.aload_n 0, 1) := by decide +kernel
theorem dX9_common_17 : decode cX9_common 17 = .ok (.getfield 35, 3) := by decide +kernel
theorem dX9_common_20 : decode cX9_common 20 = .ok (.iload_n 1, 1) := by decide +kernel
theorem dX9_common_21 : decode cX9_common 21 = .ok (.aload_n 0, 1) := by decide +kernel
theorem dX9_common_22 : decode cX9_common 22 = .ok (.getfield 32, 3) := by decide +kernel
theorem dX9_common_25 : decode cX9_common 25 = .ok (.iconst 1, 1) := by decide +kernel
theorem dX9_common_26 : decode cX9_common 26 = .ok (.iadd, 1) := by decide +kernel
theorem dX9_common_27 : decode cX9_common 27 = .ok (.imul, 1) := by decide +kernel
theorem dX9_common_28 : decode cX9_common 28 = .ok (.iload_n 2, 1) := by decide +kernel
theorem dX9_common_29 : decode cX9_common 29 = .ok (.iadd, 1) := by decide +kernel
theorem dX9_common_30 : decode cX9_common 30 = .ok (.baload, 1) := by decide +kernel
theorem dX9_common_31 : decode cX9_common 31 = .ok (.goto 4, 3) := by decide +kernel
theorem dX9_common_34 : decode cX9_common 34 = .ok (.iconst 0, 1) := by decide +kernel
theorem dX9_common_35 : decode cX9_common 35 = .ok (.ireturn, 1) := by decide +kernel
theorem kd_9_common : Cond.code yX9_common cX9_common 3 (some .int) ∈ lw_g := mt_at 1196 (by decide +kernel) rfl
theorem ki_9_common : Cond.instanceMethod yX9_common ∈ lw_g := mt_at 1194 (by decide +kernel) rfl
theorem kl_9_common : Cond.selects (kRn 9) yX9_common yX9_common ∈ lw_g := mt_at 1195 (by decide +kernel) rfl
section
variable {p : Program} {l : Launch} {e : Env} {R : Room} {s : State} {m : MethodId} {args : Array Value} {below : List Frame} {meth : Method} {c : Code} {H : Heap} {locs : List Loc} {cells slots : Nat} {Q : State → Prop}
variable {D : cG} {S S0 : cSt} {cc : ByteArray} {nL : Nat} {pc : Nat} {ls : Array Slot} {rest : List Value} {H0 : Heap} {nF nR nC nS : Nat} {ret : Option FieldType} {a : Nat}
theorem gk9_35 (C : cY p R s m args meth c RX9 cc nL nF nC nS nR ret) (X : cX D s) (hW : cW D S H) (hk : kK S a = 10) {x : Nat} (hx : kR S a 7 = some x) (hdg : decode cc pc = .ok (.getfield 35, 3)) (kk : W p l e R s m args below meth c H locs cells slots Q (F0 m (pc + 3) ls (.ref x :: rest))) : W p l e R s m args below meth c H locs cells slots Q (F0 m pc ls (.ref a :: rest)) := c_get C X hW 9 (by decide) ly_9 hk 7 (by decide) (mt_at 136 (by decide +kernel) (by decide +kernel)) hdg (by rw [cV_R (by decide +kernel) hx]; exact kk)
end
section
variable {p : Program} {l : Launch} {e : Env} {R : Room} {s : State} {m : MethodId} {args : Array Value} {below : List Frame} {meth : Method} {c : Code} {D : cG} {S : cSt} {r : Int32}
noncomputable def fk_9_common_35 (S : cSt) (s0 : Int32) : Option (Int32) :=
some s0
set_option maxRecDepth 100000 in
set_option maxHeartbeats 4000000 in
theorem wk_9_common_35 (C : cY p R s m args meth c RX9 cX9_common 3 0 0 0 0 (some .int)) (X : cX D s) (hW : cW D S s.heap) : ∀ {s0 : Int32} {ls : Array Slot}, fk_9_common_35 S s0 = some r → lv_has ls 3 [] → W p l e R s m args below meth c s.heap [] 0 0 (MQ below (kQ (some (.int r))) args s 0 0 mNo) (F0 m 35 ls [.int s0]) := by
  intro s0 ls h hl
  unfold fk_9_common_35 at h
  cases h
  exact c_reti C rfl rfl dX9_common_35
noncomputable def fk_9_common_34 (S : cSt) : Option (Int32) :=
fk_9_common_35 S (0 : Int32)
set_option maxRecDepth 100000 in
set_option maxHeartbeats 4000000 in
theorem wk_9_common_34 (C : cY p R s m args meth c RX9 cX9_common 3 0 0 0 0 (some .int)) (X : cX D s) (hW : cW D S s.heap) : ∀ {ls : Array Slot}, fk_9_common_34 S = some r → lv_has ls 3 [] → W p l e R s m args below meth c s.heap [] 0 0 (MQ below (kQ (some (.int r))) args s 0 0 mNo) (F0 m 34 ls []) := by
  intro ls h hl
  unfold fk_9_common_34 at h
  refine lv_iconst (v := 0) C.1 C.2.1 dX9_common_34 (by decide) ?_
  exact wk_9_common_35 C X hW h (lv_sub hl [] rfl)
noncomputable def fk_9_common (S : cSt) (v0 : Nat) (v1 : Int32) (v2 : Int32) : Option (Int32) :=
ckk S v0 10 (
if (kF S v0 1) < v1 then (
fk_9_common_34 S)
else (
ckk S v0 10 (
if (kF S v0 6) < v2 then (
fk_9_common_34 S)
else (
ckk S v0 10 (bd (kR S v0 7) fun a3 =>
ckk S v0 10 (
ckk S a3 21 (ck ((v1 * ((kF S v0 6) + (1 : Int32))) + v2) (kL S a3) (
fk_9_common_35 S (kI S a3 (Int32.toNatClampNeg ((v1 * ((kF S v0 6) + (1 : Int32))) + v2)))))))))))
set_option maxRecDepth 100000 in
set_option maxHeartbeats 4000000 in
theorem tk_9_common (l : Launch) {D : cG} {S : cSt} {v0 : Nat} {v1 : Int32} {v2 : Int32} {r : Int32}  (h : fk_9_common S v0 v1 v2 = some r) : Met l yX9_common (Cond.code yX9_common cX9_common 3 (some .int) :: lw_g) { frames := 0, cells := 0, slots := 0, locals := 0 } (kPi [.ref v0, .int v1, .int v2] D S) (kQ (some (.int r))) 0 0 (mNo) := by
  refine Met.ofW (cc := cX9_common) (maxL := 3) (ret := (some .int)) (by decide) rfl ?_
  intro p e s m args below meth c s₁ B hml hv
  obtain ⟨rfl, hW, X⟩ := hv
  have C : cY p (headSpec (Cond.code yX9_common cX9_common 3 (some .int) :: lw_g) { frames := 0, cells := 0, slots := 0, locals := 0 }).room s m _ meth c RX9 cX9_common 3 0 0 0 0 (some .int) := ⟨B.exec, B.bytes, hml, findClass_of_methodNamed B.named, fun w hw => atoms_spec (ws := Cond.code yX9_common cX9_common 3 (some .int) :: lw_g) B.pre w (List.mem_cons_of_mem _ hw), ⟨Nat.le_refl _, Nat.le_refl _, Nat.le_refl _, Nat.le_refl _⟩, B.returns, B.notSynchronized⟩
  have hl := lv_entry ([.ref v0, .int v1, .int v2]) (n := 3) (Nat.le_of_ble_eq_true rfl)
  rw [lg_entry_eq]
  generalize (lg_sl ([.ref v0, .int v1, .int v2]) ++ List.replicate (3 - (lg_sl ([.ref v0, .int v1, .int v2])).length) Slot.unset).toArray = ls at hl ⊢
  have hl : lv_has ls 3 [(0, .ref v0), (1, .int v1), (2, .int v2)] := hl
  unfold fk_9_common at h
  refine lv_iload_n C.1 C.2.1 dX9_common_0 rfl (lv_at hl 1 rfl) ?_
  refine lv_aload_n C.1 C.2.1 dX9_common_1 rfl (lv_at hl 0 rfl) ?_
  obtain ⟨hk, h⟩ := ckk_ok h
  refine gk9_17 C X hW hk dX9_common_2 ?_
  refine lv_icmp_gt (tgt := 34) C.1 C.2.1 dX9_common_5 (by decide) (fun c1 => ?_) (fun c1 => ?_)
  · have h := if_t h c1
    exact wk_9_common_34 C X hW h (lv_sub hl [] rfl)
  · have h := if_f h c1
    refine lv_iload_n C.1 C.2.1 dX9_common_8 rfl (lv_at hl 2 rfl) ?_
    refine lv_aload_n C.1 C.2.1 dX9_common_9 rfl (lv_at hl 0 rfl) ?_
    obtain ⟨hk, h⟩ := ckk_ok h
    refine gk9_32 C X hW hk dX9_common_10 ?_
    refine lv_icmp_gt (tgt := 34) C.1 C.2.1 dX9_common_13 (by decide) (fun c2 => ?_) (fun c2 => ?_)
    · have h := if_t h c2
      exact wk_9_common_34 C X hW h (lv_sub hl [] rfl)
    · have h := if_f h c2
      refine lv_aload_n C.1 C.2.1 dX9_common_16 rfl (lv_at hl 0 rfl) ?_
      obtain ⟨hk, h⟩ := ckk_ok h
      obtain ⟨a3, h_a3, h⟩ := bd_ok h
      refine gk9_35 C X hW hk h_a3 dX9_common_17 ?_
      refine lv_iload_n C.1 C.2.1 dX9_common_20 rfl (lv_at hl 1 rfl) ?_
      refine lv_aload_n C.1 C.2.1 dX9_common_21 rfl (lv_at hl 0 rfl) ?_
      obtain ⟨hk, h⟩ := ckk_ok h
      refine gk9_32 C X hW hk dX9_common_22 ?_
      refine lv_iconst (v := 1) C.1 C.2.1 dX9_common_25 (by decide) ?_
      refine lv_iadd C.1 C.2.1 dX9_common_26 ?_
      refine lv_imul C.1 C.2.1 dX9_common_27 ?_
      refine lv_iload_n C.1 C.2.1 dX9_common_28 rfl (lv_at hl 2 rfl) ?_
      refine lv_iadd C.1 C.2.1 dX9_common_29 ?_
      obtain ⟨hk, h⟩ := ckk_ok h
      obtain ⟨hin2, h⟩ := ck_ok h
      refine c_bald C X hW hk hin2 dX9_common_30 ?_
      refine lv_goto (tgt := 35) C.1 C.2.1 dX9_common_31 (by decide) ?_
      exact wk_9_common_35 C X hW h (lv_sub hl [] rfl)
end
theorem dX9_commonFrom_0 : decode cX9_commonFrom 0 = .ok (.iload_n 1, 1) := by decide +kernel
theorem dX9_commonFrom_1 : decode cX9_commonFrom 1 = .ok (.aload_n 0, 1) := by decide +kernel
theorem dX9_commonFrom_2 : decode cX9_commonFrom 2 = .ok (.getfield 17, 3) := by decide +kernel
theorem dX9_commonFrom_5 : decode cX9_commonFrom 5 = .ok (.if_icmp .ge 11, 3) := by decide +kernel
theorem dX9_commonFrom_8 : decode cX9_commonFrom 8 = .ok (.iload_n 2, 1) := by decide +kernel
theorem dX9_commonFrom_9 : decode cX9_commonFrom 9 = .ok (.aload_n 0, 1) := by decide +kernel
theorem dX9_commonFrom_10 : decode cX9_commonFrom 10 = .ok (.getfield 32, 3) := by decide +kernel
theorem dX9_commonFrom_13 : decode cX9_commonFrom 13 = .ok (.if_icmp .lt 5, 3) := by decide +kernel
theorem dX9_commonFrom_16 : decode cX9_commonFrom 16 = .ok (.iconst 0, 1) := by decide +kernel
theorem dX9_commonFrom_17 : decode cX9_commonFrom 17 = .ok (.ireturn, 1) := by decide +kernel
theorem dX9_commonFrom_18 : decode cX9_commonFrom 18 = .ok (.aload_n 0, 1) := by decide +kernel
theorem dX9_commonFrom_19 : decode cX9_commonFrom 19 = .ok (.iload_n 1, 1) := by decide +kernel
theorem dX9_commonFrom_20 : decode cX9_commonFrom 20 = .ok (.iload_n 2, 1) := by decide +kernel
theorem dX9_commonFrom_21 : decode cX9_commonFrom 21 = .ok (.invokevirtual 97, 3) := by decide +kernel
theorem dX9_commonFrom_24 : decode cX9_commonFrom 24 = .ok (.ifCond .eq 16, 3) := by decide +kernel
theorem dX9_commonFrom_27 : decode cX9_commonFrom 27 = .ok (.iconst 1, 1) := by decide +kernel
theorem dX9_commonFrom_28 : decode cX9_commonFrom 28 = .ok (.aload_n 0, 1) := by decide +kernel
theorem dX9_commonFrom_29 : decode cX9_commonFrom 29 = .ok (.iload_n 1, 1) := by decide +kernel
theorem dX9_commonFrom_30 : decode cX9_commonFrom 30 = .ok (.iconst 1, 1) := by decide +kernel
theorem dX9_commonFrom_31 : decode cX9_commonFrom 31 = .ok (.iadd, 1) := by decide +kernel
theorem dX9_commonFrom_32 : decode cX9_commonFrom 32 = .ok (.iload_n 2, 1) := by decide +kernel
theorem dX9_commonFrom_33 : decode cX9_commonFrom 33 = .ok (.iconst 1, 1) := by decide +kernel
theorem dX9_commonFrom_34 : decode cX9_commonFrom 34 = .ok (.iadd, 1) := by decide +kernel
theorem dX9_commonFrom_35 : decode cX9_commonFrom 35 = .ok (.invokevirtual 101, 3) := by decide +kernel
theorem dX9_commonFrom_38 : decode cX9_commonFrom 38 = .ok (.iadd, 1) := by decide +kernel
theorem dX9_commonFrom_39 : decode cX9_commonFrom 39 = .ok (.ireturn, 1) := by decide +kernel
theorem dX9_commonFrom_40 : decode cX9_commonFrom 40 = .ok (.aload_n 0, 1) := by decide +kernel
theorem dX9_commonFrom_41 : decode cX9_commonFrom 41 = .ok (.iload_n 1, 1) := by decide +kernel
theorem dX9_commonFrom_42 : decode cX9_commonFrom 42 = .ok (.iconst 1, 1) := by decide +kernel
theorem dX9_commonFrom_43 : decode cX9_commonFrom 43 = .ok (.iadd, 1) := by decide +kernel
theorem dX9_commonFrom_44 : decode cX9_commonFrom 44 = .ok (.iload_n 2, 1) := by decide +kernel
theorem dX9_commonFrom_45 : decode cX9_commonFrom 45 = .ok (.invokevirtual 101, 3) := by decide +kernel
theorem dX9_commonFrom_48 : decode cX9_commonFrom 48 = .ok (.aload_n 0, 1) := by decide +kernel
theorem dX9_commonFrom_49 : decode cX9_commonFrom 49 = .ok (.iload_n 1, 1) := by decide +kernel
theorem dX9_commonFrom_50 : decode cX9_commonFrom 50 = .ok (.iload_n 2, 1) := by decide +kernel
theorem dX9_commonFrom_51 : decode cX9_commonFrom 51 = .ok (.iconst 1, 1) := by decide +kernel
theorem dX9_commonFrom_52 : decode cX9_commonFrom 52 = .ok (.iadd, 1) := by decide +kernel
theorem dX9_commonFrom_53 : decode cX9_commonFrom 53 = .ok (.invokevirtual 101, 3) := by decide +kernel
theorem dX9_commonFrom_56 : decode cX9_commonFrom 56 = .ok (.invokestatic 88, 3) := by decide +kernel
theorem dX9_commonFrom_59 : decode cX9_commonFrom 59 = .ok (.ireturn, 1) := by decide +kernel
theorem kd_9_commonFrom : Cond.code yX9_commonFrom cX9_commonFrom 3 (some .int) ∈ lw_g := mt_at 1188 (by decide +kernel) rfl
theorem ki_9_commonFrom : Cond.instanceMethod yX9_commonFrom ∈ lw_g := mt_at 1187 (by decide +kernel) rfl
theorem kl_9_commonFrom : Cond.selects (kRn 9) yX9_commonFrom yX9_commonFrom ∈ lw_g := mt_sel 22 (by decide +kernel) rfl
theorem mm9_88 : Cond.methodLink RX9 88 Lib.Math.max.name ∈ lw_g := mt_at 1184 (by decide +kernel) rfl
theorem cw9_97 : cCw RX9 97 yX9_isSame cX9_isSame 3 (some .boolean) 2 := ⟨kd_9_isSame, mt_at 1189 (by decide +kernel) rfl, mt_at 5 (by decide +kernel) rfl, by decide +kernel⟩
theorem cw9_101 : cCw RX9 101 yX9_common cX9_common 3 (some .int) 2 := ⟨kd_9_common, mt_at 1193 (by decide +kernel) rfl, mt_at 5 (by decide +kernel) rfl, by decide +kernel⟩
section
variable {p : Program} {l : Launch} {e : Env} {R : Room} {s : State} {m : MethodId} {args : Array Value} {below : List Frame} {meth : Method} {c : Code} {D : cG} {S : cSt} {r : Int32}
noncomputable def fk_9_commonFrom_16 (S : cSt) : Option (Int32) :=
some (0 : Int32)
set_option maxRecDepth 100000 in
set_option maxHeartbeats 4000000 in
theorem wk_9_commonFrom_16 (C : cY p R s m args meth c RX9 cX9_commonFrom 3 2 0 0 60 (some .int)) (X : cX D s) (hW : cW D S s.heap) : ∀ {ls : Array Slot}, fk_9_commonFrom_16 S = some r → lv_has ls 3 [] → W p l e R s m args below meth c s.heap [] 0 0 (MQ below (kQ (some (.int r))) args s 0 0 mNo) (F0 m 16 ls []) := by
  intro ls h hl
  unfold fk_9_commonFrom_16 at h
  refine lv_iconst (v := 0) C.1 C.2.1 dX9_commonFrom_16 (by decide) ?_
  cases h
  exact c_reti C rfl rfl dX9_commonFrom_17
noncomputable def fk_9_commonFrom (S : cSt) (v0 : Nat) (v1 : Int32) (v2 : Int32) : Option (Int32) :=
ckk S v0 10 (
if (kF S v0 1) ≤ v1 then (
fk_9_commonFrom_16 S)
else (
ckk S v0 10 (
if v2 < (kF S v0 6) then (
ckk S v0 10 (bd (fk_9_isSame S v0 v1 v2) fun r3 =>
if r3 = 0 then (
ckk S v0 10 (bd (fk_9_common S v0 (v1 + (1 : Int32)) v2) fun r5 =>
ckk S v0 10 (bd (fk_9_common S v0 v1 (v2 + (1 : Int32))) fun r6 =>
some (if r5 < r6 then r6 else r5))))
else (
ckk S v0 10 (bd (fk_9_common S v0 (v1 + (1 : Int32)) (v2 + (1 : Int32))) fun r7 =>
some ((1 : Int32) + r7)))))
else (
fk_9_commonFrom_16 S))))
set_option maxRecDepth 100000 in
set_option maxHeartbeats 4000000 in
theorem tk_9_commonFrom (l : Launch) {D : cG} {S : cSt} {v0 : Nat} {v1 : Int32} {v2 : Int32} {r : Int32}  (h : fk_9_commonFrom S v0 v1 v2 = some r) : Met l yX9_commonFrom (Cond.code yX9_commonFrom cX9_commonFrom 3 (some .int) :: lw_g) { frames := 2, cells := 0, slots := 0, locals := 60 } (kPi [.ref v0, .int v1, .int v2] D S) (kQ (some (.int r))) 0 0 (mNo) := by
  refine Met.ofW (cc := cX9_commonFrom) (maxL := 3) (ret := (some .int)) (by decide) rfl ?_
  intro p e s m args below meth c s₁ B hml hv
  obtain ⟨rfl, hW, X⟩ := hv
  have C : cY p (headSpec (Cond.code yX9_commonFrom cX9_commonFrom 3 (some .int) :: lw_g) { frames := 2, cells := 0, slots := 0, locals := 60 }).room s m _ meth c RX9 cX9_commonFrom 3 2 0 0 60 (some .int) := ⟨B.exec, B.bytes, hml, findClass_of_methodNamed B.named, fun w hw => atoms_spec (ws := Cond.code yX9_commonFrom cX9_commonFrom 3 (some .int) :: lw_g) B.pre w (List.mem_cons_of_mem _ hw), ⟨Nat.le_refl _, Nat.le_refl _, Nat.le_refl _, Nat.le_refl _⟩, B.returns, B.notSynchronized⟩
  have hl := lv_entry ([.ref v0, .int v1, .int v2]) (n := 3) (Nat.le_of_ble_eq_true rfl)
  rw [lg_entry_eq]
  generalize (lg_sl ([.ref v0, .int v1, .int v2]) ++ List.replicate (3 - (lg_sl ([.ref v0, .int v1, .int v2])).length) Slot.unset).toArray = ls at hl ⊢
  have hl : lv_has ls 3 [(0, .ref v0), (1, .int v1), (2, .int v2)] := hl
  unfold fk_9_commonFrom at h
  refine lv_iload_n C.1 C.2.1 dX9_commonFrom_0 rfl (lv_at hl 1 rfl) ?_
  refine lv_aload_n C.1 C.2.1 dX9_commonFrom_1 rfl (lv_at hl 0 rfl) ?_
  obtain ⟨hk, h⟩ := ckk_ok h
  refine gk9_17 C X hW hk dX9_commonFrom_2 ?_
  refine lv_icmp_ge (tgt := 16) C.1 C.2.1 dX9_commonFrom_5 (by decide) (fun c1 => ?_) (fun c1 => ?_)
  · have h := if_t h c1
    exact wk_9_commonFrom_16 C X hW h (lv_sub hl [] rfl)
  · have h := if_f h c1
    refine lv_iload_n C.1 C.2.1 dX9_commonFrom_8 rfl (lv_at hl 2 rfl) ?_
    refine lv_aload_n C.1 C.2.1 dX9_commonFrom_9 rfl (lv_at hl 0 rfl) ?_
    obtain ⟨hk, h⟩ := ckk_ok h
    refine gk9_32 C X hW hk dX9_commonFrom_10 ?_
    refine lv_icmp_lt (tgt := 18) C.1 C.2.1 dX9_commonFrom_13 (by decide) (fun c2 => ?_) (fun c2 => ?_)
    · have h := if_t h c2
      refine lv_aload_n C.1 C.2.1 dX9_commonFrom_18 rfl (lv_at hl 0 rfl) ?_
      refine lv_iload_n C.1 C.2.1 dX9_commonFrom_19 rfl (lv_at hl 1 rfl) ?_
      refine lv_iload_n C.1 C.2.1 dX9_commonFrom_20 rfl (lv_at hl 2 rfl) ?_
      obtain ⟨hk, h⟩ := ckk_ok h
      obtain ⟨r3, h_r3, h⟩ := bd_ok h
      refine c_callR (rest := []) C X hW hl.1 9 (by decide) hk [.int v1, .int v2] (tk_9_isSame l h_r3) cw9_97 ki_9_isSame kl_9_isSame rfl ⟨by decide, by decide⟩ ⟨(by decide), (by decide)⟩ rfl (Nat.le_of_ble_eq_true rfl) dX9_commonFrom_21 ?_
      refine W.eq (g2 := F0 m 24 ls [.int r3]) rfl ?_
      refine lv_if_eq (tgt := 40) C.1 C.2.1 dX9_commonFrom_24 (by decide) (fun c4 => ?_) (fun c4 => ?_)
      · have h := if_t h c4
        refine lv_aload_n C.1 C.2.1 dX9_commonFrom_40 rfl (lv_at hl 0 rfl) ?_
        refine lv_iload_n C.1 C.2.1 dX9_commonFrom_41 rfl (lv_at hl 1 rfl) ?_
        refine lv_iconst (v := 1) C.1 C.2.1 dX9_commonFrom_42 (by decide) ?_
        refine lv_iadd C.1 C.2.1 dX9_commonFrom_43 ?_
        refine lv_iload_n C.1 C.2.1 dX9_commonFrom_44 rfl (lv_at hl 2 rfl) ?_
        obtain ⟨hk, h⟩ := ckk_ok h
        obtain ⟨r5, h_r5, h⟩ := bd_ok h
        refine c_callR (rest := []) C X hW hl.1 9 (by decide) hk [.int (v1 + (1 : Int32)), .int v2] (tk_9_common l h_r5) cw9_101 ki_9_common kl_9_common rfl ⟨by decide, by decide⟩ ⟨(by decide), (by decide)⟩ rfl (Nat.le_of_ble_eq_true rfl) dX9_commonFrom_45 ?_
        refine W.eq (g2 := F0 m 48 ls [.int r5]) rfl ?_
        refine lv_aload_n C.1 C.2.1 dX9_commonFrom_48 rfl (lv_at hl 0 rfl) ?_
        refine lv_iload_n C.1 C.2.1 dX9_commonFrom_49 rfl (lv_at hl 1 rfl) ?_
        refine lv_iload_n C.1 C.2.1 dX9_commonFrom_50 rfl (lv_at hl 2 rfl) ?_
        refine lv_iconst (v := 1) C.1 C.2.1 dX9_commonFrom_51 (by decide) ?_
        refine lv_iadd C.1 C.2.1 dX9_commonFrom_52 ?_
        obtain ⟨hk, h⟩ := ckk_ok h
        obtain ⟨r6, h_r6, h⟩ := bd_ok h
        refine c_callR (rest := [.int r5]) C X hW hl.1 9 (by decide) hk [.int v1, .int (v2 + (1 : Int32))] (tk_9_common l h_r6) cw9_101 ki_9_common kl_9_common rfl ⟨by decide, by decide⟩ ⟨(by decide), (by decide)⟩ rfl (Nat.le_of_ble_eq_true rfl) dX9_commonFrom_53 ?_
        refine W.eq (g2 := F0 m 56 ls [.int r6, .int r5]) rfl ?_
        refine va_mmax (rest := []) C.1 C.2.1 (C.2.2.1.trans hl.1.symm) (own := RX9) C.2.2.2.1 (C.2.2.2.2.1 _ mm9_88) (C.2.2.2.2.1 _ mmax_s) (C.2.2.2.2.1 _ ma_i) (C.2.2.2.2.1 _ mmax_c) (Nat.le_trans (by decide) C.2.2.2.2.2.1.1) (Nat.le_trans (Nat.le_of_ble_eq_true rfl) C.2.2.2.2.2.1.2.2.2) (Nat.le_trans (by decide) C.2.2.2.2.2.1.2.1) (Nat.le_trans (by decide) C.2.2.2.2.2.1.2.2.1) dX9_commonFrom_56 ?_
        cases h
        exact c_reti C rfl rfl dX9_commonFrom_59
      · have h := if_f h c4
        refine lv_iconst (v := 1) C.1 C.2.1 dX9_commonFrom_27 (by decide) ?_
        refine lv_aload_n C.1 C.2.1 dX9_commonFrom_28 rfl (lv_at hl 0 rfl) ?_
        refine lv_iload_n C.1 C.2.1 dX9_commonFrom_29 rfl (lv_at hl 1 rfl) ?_
        refine lv_iconst (v := 1) C.1 C.2.1 dX9_commonFrom_30 (by decide) ?_
        refine lv_iadd C.1 C.2.1 dX9_commonFrom_31 ?_
        refine lv_iload_n C.1 C.2.1 dX9_commonFrom_32 rfl (lv_at hl 2 rfl) ?_
        refine lv_iconst (v := 1) C.1 C.2.1 dX9_commonFrom_33 (by decide) ?_
        refine lv_iadd C.1 C.2.1 dX9_commonFrom_34 ?_
        obtain ⟨hk, h⟩ := ckk_ok h
        obtain ⟨r7, h_r7, h⟩ := bd_ok h
        refine c_callR (rest := [.int (1 : Int32)]) C X hW hl.1 9 (by decide) hk [.int (v1 + (1 : Int32)), .int (v2 + (1 : Int32))] (tk_9_common l h_r7) cw9_101 ki_9_common kl_9_common rfl ⟨by decide, by decide⟩ ⟨(by decide), (by decide)⟩ rfl (Nat.le_of_ble_eq_true rfl) dX9_commonFrom_35 ?_
        refine W.eq (g2 := F0 m 38 ls [.int r7, .int (1 : Int32)]) rfl ?_
        refine lv_iadd C.1 C.2.1 dX9_commonFrom_38 ?_
        cases h
        exact c_reti C rfl rfl dX9_commonFrom_39
    · have h := if_f h c2
      exact wk_9_commonFrom_16 C X hW h (lv_sub hl [] rfl)
end
theorem dX9_compare_0 : decode cX9_compare 0 = .ok (.aload_n 0, 1) := by decide +kernel
theorem dX9_compare_1 : decode cX9_compare 1 = .ok (.aload_n 1, 1) := by decide +kernel
theorem dX9_compare_2 : decode cX9_compare 2 = .ok (.putfield 28, 3) := by decide +kernel
theorem dX9_compare_5 : decode cX9_compare 5 = .ok (.aload_n 0, 1) := by decide +kernel
theorem dX9_compare_6 : decode cX9_compare 6 = .ok (.iload_n 2, 1) := by decide +kernel
theorem dX9_compare_7 : decode cX9_compare 7 = .ok (.putfield 32, 3) := by decide +kernel
theorem dX9_compare_10 : decode cX9_compare 10 = .ok (.aload_n 0, 1) := by decide +kernel
theorem dX9_compare_11 : decode cX9_compare 11 = .ok (.getfield 17, 3) := by decide +kernel
theorem dX9_compare_14 : decode cX9_compare 14 = .ok (.iconst 1, 1) := by decide +kernel
theorem dX9_compare_15 : decode cX9_compare 15 = .ok (.iadd, 1) := by decide +kernel
theorem dX9_compare_16 : decode cX9_compare 16 = .ok (.aload_n 0, 1) := by decide +kernel
theorem dX9_compare_17 : decode cX9_compare 17 = .ok (.getfield 32, 3) := by decide +kernel
theorem dX9_compare_20 : decode cX9_compare 20 = .ok (.iconst 1, 1) := by decide +kernel
theorem dX9_compare_21 : decode cX9_compare 21 = .ok (.iadd, 1) := by decide +kernel
theorem dX9_compare_22 : decode cX9_compare 22 = .ok (.imul, 1) := by decide +kernel
theorem dX9_compare_23 : decode cX9_compare 23 = .ok (.istore_n 3, 1) := by decide +kernel
theorem dX9_compare_24 : decode cX9_compare 24 = .ok (.aload_n 0, 1) := by decide +kernel
theorem dX9_compare_25 : decode cX9_compare 25 = .ok (.getfield 35, 3) := by decide +kernel
theorem dX9_compare_28 : decode cX9_compare 28 = .ok (.arraylength, 1) := by decide +kernel
theorem dX9_compare_29 : decode cX9_compare 29 = .ok (.iload_n 3, 1) := by decide +kernel
theorem dX9_compare_30 : decode cX9_compare 30 = .ok (.if_icmp .ge 20, 3) := by decide +kernel
theorem dX9_compare_33 : decode cX9_compare 33 = .ok (.aload_n 0, 1) := by decide +kernel
theorem dX9_compare_34 : decode cX9_compare 34 = .ok (.iload_n 3, 1) := by decide +kernel
theorem dX9_compare_35 : decode cX9_compare 35 = .ok (.iconst 2, 1) := by decide +kernel
theorem dX9_compare_36 : decode cX9_compare 36 = .ok (.aload_n 0, 1) := by decide +kernel
theorem dX9_compare_37 : decode cX9_compare 37 = .ok (.getfield 35, 3) := by decide +kernel
theorem dX9_compare_40 : decode cX9_compare 40 = .ok (.arraylength, 1) := by decide +kernel
theorem dX9_compare_41 : decode cX9_compare 41 = .ok (.imul, 1) := by decide +kernel
theorem dX9_compare_42 : decode cX9_compare 42 = .ok (.invokestatic 88, 3) := by decide +kernel
theorem dX9_compare_45 : decode cX9_compare 45 = .ok (.newarray .byte, 2) := by decide +kernel
theorem dX9_compare_47 : decode cX9_compare 47 = .ok (.putfield 35, 3) := by decide +kernel
theorem dX9_compare_50 : decode cX9_compare 50 = .ok (.aload_n 0, 1) := by decide +kernel
theorem dX9_compare_51 : decode cX9_compare 51 = .ok (.getfield 17, 3) := by decide +kernel
theorem dX9_compare_54 : decode cX9_compare 54 = .ok (.istore 4, 2) := by decide +kernel
theorem dX9_compare_56 : decode cX9_compare 56 = .ok (.iload 4, 2) := by decide +kernel
theorem dX9_compare_58 : decode cX9_compare 58 = .ok (.ifCond .lt 52, 3) := by decide +kernel
theorem dX9_compare_61 : decode cX9_compare 61 = .ok (.aload_n 0, 1) := by decide +kernel
theorem dX9_compare_62 : decode cX9_compare 62 = .ok (.getfield 32, 3) := by decide +kernel
theorem dX9_compare_65 : decode cX9_compare 65 = .ok (.istore 5, 2) := by decide +kernel
theorem dX9_compare_67 : decode cX9_compare 67 = .ok (.iload 5, 2) := by decide +kernel
theorem dX9_compare_69 : decode cX9_compare 69 = .ok (.ifCond .lt 35, 3) := by decide +kernel
theorem dX9_compare_72 : decode cX9_compare 72 = .ok (.aload_n 0, 1) := by decide +kernel
theorem dX9_compare_73 : decode cX9_compare 73 = .ok (.getfield 35, 3) := by decide +kernel
theorem dX9_compare_76 : decode cX9_compare 76 = .ok (.iload 4, 2) := by decide +kernel
theorem dX9_compare_78 : decode cX9_compare 78 = .ok (.aload_n 0, 1) := by decide +kernel
theorem dX9_compare_79 : decode cX9_compare 79 = .ok (.getfield 32, 3) := by decide +kernel
theorem dX9_compare_82 : decode cX9_compare 82 = .ok (.iconst 1, 1) := by decide +kernel
theorem dX9_compare_83 : decode cX9_compare 83 = .ok (.iadd, 1) := by decide +kernel
theorem dX9_compare_84 : decode cX9_compare 84 = .ok (.imul, 1) := by decide +kernel
theorem dX9_compare_85 : decode cX9_compare 85 = .ok (.iload 5, 2) := by decide +kernel
theorem dX9_compare_87 : decode cX9_compare 87 = .ok (.iadd, 1) := by decide +kernel
theorem dX9_compare_88 : decode cX9_compare 88 = .ok (.aload_n 0, 1) := by decide +kernel
theorem dX9_compare_89 : decode cX9_compare 89 = .ok (.iload 4, 2) := by decide +kernel
theorem dX9_compare_91 : decode cX9_compare 91 = .ok (.iload 5, 2) := by decide +kernel
theorem dX9_compare_93 : decode cX9_compare 93 = .ok (.invokevirtual 94, 3) := by decide +kernel
theorem dX9_compare_96 : decode cX9_compare 96 = .ok (.i2b, 1) := by decide +kernel
theorem dX9_compare_97 : decode cX9_compare 97 = .ok (.bastore, 1) := by decide +kernel
theorem dX9_compare_98 : decode cX9_compare 98 = .ok (.iinc 5 (-1), 3) := by decide +kernel
theorem dX9_compare_101 : decode cX9_compare 101 = .ok (.goto (-34), 3) := by decide +kernel
theorem dX9_compare_104 : decode cX9_compare 104 = .ok (.iinc 4 (-1), 3) := by decide +kernel
theorem dX9_compare_107 : decode cX9_compare 107 = .ok (.goto (-51), 3) := by decide +kernel
theorem dX9_compare_110 : decode cX9_compare 110 = .ok (.return_, 1) := by decide +kernel
theorem kd_9_compare : Cond.code yX9_compare cX9_compare 6 none ∈ lw_g := mt_at 1183 (by decide +kernel) rfl
theorem ki_9_compare : Cond.instanceMethod yX9_compare ∈ lw_g := mt_at 1181 (by decide +kernel) rfl
theorem kl_9_compare : Cond.selects (kRn 9) yX9_compare yX9_compare ∈ lw_g := mt_at 1182 (by decide +kernel) rfl
theorem cw9_94 : cCw RX9 94 yX9_commonFrom cX9_commonFrom 3 (some .int) 2 := ⟨kd_9_commonFrom, mt_at 1185 (by decide +kernel) rfl, mt_at 5 (by decide +kernel) rfl, by decide +kernel⟩
section
variable {p : Program} {l : Launch} {e : Env} {R : Room} {s : State} {m : MethodId} {args : Array Value} {below : List Frame} {meth : Method} {c : Code} {D : cG} {S0 S9 : cSt}
noncomputable def fk_9_compare_67 (g_56 : cSt → Nat → Int32 → Option (cSt)) : Nat → cSt → Nat → Int32 → Int32 → Option (cSt)
  | 0, _, _, _, _ => none
  | n + 1, S, v0, v4, v5 =>
    if v5 < 0 then (
    lt (v4 + (-1 : Int32)) fun x2 =>
    g_56 S v0 x2)
    else (
    ckk S v0 10 (bd (kR S v0 7) fun a3 =>
    ckk S v0 10 (
    ckk S v0 10 (bd (fk_9_commonFrom S v0 v4 v5) fun r4 =>
    ckk S a3 21 (ck ((v4 * ((kF S v0 6) + (1 : Int32))) + v5) (kL S a3) (ckp (vp_nar .byte (r4.toInt8.toInt32) = (r4.toInt8.toInt32)) (lt (cWi S a3 (Int32.toNatClampNeg ((v4 * ((kF S v0 6) + (1 : Int32))) + v5)) (r4.toInt8.toInt32)) fun S5 =>
    lt (v5 + (-1 : Int32)) fun x6 =>
    fk_9_compare_67 g_56 n S5 v0 v4 x6)))))))
set_option maxRecDepth 100000 in
set_option maxHeartbeats 4000000 in
theorem wk_9_compare_67 (C : cY p R s m args meth c RX9 cX9_compare 6 3 1 82082 82 none) (X : cX D s) {g_56 : cSt → Nat → Int32 → Option (cSt)} (hg_56 : ∀ {S : cSt} {v0 : Nat} {v4 : Int32} {H : Heap} {locs : List Loc} {ls : Array Slot}, g_56 S v0 v4 = some S9 → cJ D S0 s.heap S H locs → lv_has ls 6 [(0, .ref v0), (4, .int v4)] → W p l e R s m args below meth c H locs 1 82082 (MQ below (kW none D S0 S9) args s 1 82082 (cA S0)) (F0 m 56 ls [])) : ∀ (n : Nat), ∀ {S : cSt} {v0 : Nat} {v4 : Int32} {v5 : Int32} {H : Heap} {locs : List Loc} {ls : Array Slot}, fk_9_compare_67 g_56 n S v0 v4 v5 = some S9 → cJ D S0 s.heap S H locs → lv_has ls 6 [(0, .ref v0), (4, .int v4), (5, .int v5)] → W p l e R s m args below meth c H locs 1 82082 (MQ below (kW none D S0 S9) args s 1 82082 (cA S0)) (F0 m 67 ls []) := by
  intro n
  induction n with
  | zero =>
    intro S v0 v4 v5 H locs ls h hJ hl
    exact absurd (show (none : Option (cSt)) = _ from h) (fun q => by cases q)
  | succ n ih =>
    intro S v0 v4 v5 H locs ls h hJ hl
    rw [fk_9_compare_67] at h
    refine lv_iload C.1 C.2.1 dX9_compare_67 (lv_at hl 2 rfl) ?_
    refine lv_if_lt (tgt := 104) C.1 C.2.1 dX9_compare_69 (by decide) (fun c1 => ?_) (fun c1 => ?_)
    · have h := if_t h c1
      refine lt_ok h (fun x2 e_x2 h => ?_)
      refine lv_iinc (v := x2) (lv' := [(4, .int x2), (0, .ref v0), (5, .int v5)]) C.1 C.2.1 dX9_compare_104 hl (k := 1) rfl (by rw [← e_x2]; rfl) (by decide) rfl (fun ls hl => ?_)
      refine lv_goto (tgt := 56) C.1 C.2.1 dX9_compare_107 (by decide) ?_
      exact hg_56 h hJ (lv_sub hl [1, 0] rfl)
    · have h := if_f h c1
      refine lv_aload_n C.1 C.2.1 dX9_compare_72 rfl (lv_at hl 0 rfl) ?_
      obtain ⟨hk, h⟩ := ckk_ok h
      obtain ⟨a3, h_a3, h⟩ := bd_ok h
      refine gk9_35 C X hJ.1 hk h_a3 dX9_compare_73 ?_
      refine lv_iload C.1 C.2.1 dX9_compare_76 (lv_at hl 1 rfl) ?_
      refine lv_aload_n C.1 C.2.1 dX9_compare_78 rfl (lv_at hl 0 rfl) ?_
      obtain ⟨hk, h⟩ := ckk_ok h
      refine gk9_32 C X hJ.1 hk dX9_compare_79 ?_
      refine lv_iconst (v := 1) C.1 C.2.1 dX9_compare_82 (by decide) ?_
      refine lv_iadd C.1 C.2.1 dX9_compare_83 ?_
      refine lv_imul C.1 C.2.1 dX9_compare_84 ?_
      refine lv_iload C.1 C.2.1 dX9_compare_85 (lv_at hl 2 rfl) ?_
      refine lv_iadd C.1 C.2.1 dX9_compare_87 ?_
      refine lv_aload_n C.1 C.2.1 dX9_compare_88 rfl (lv_at hl 0 rfl) ?_
      refine lv_iload C.1 C.2.1 dX9_compare_89 (lv_at hl 1 rfl) ?_
      refine lv_iload C.1 C.2.1 dX9_compare_91 (lv_at hl 2 rfl) ?_
      obtain ⟨hk, h⟩ := ckk_ok h
      obtain ⟨r4, h_r4, h⟩ := bd_ok h
      refine c_callR (rest := [.int ((v4 * ((kF S v0 6) + (1 : Int32))) + v5), .ref a3]) C X hJ.1 hl.1 9 (by decide) hk [.int v4, .int v5] (tk_9_commonFrom l h_r4) cw9_94 ki_9_commonFrom kl_9_commonFrom rfl ⟨by decide, by decide⟩ ⟨(by decide), (by decide)⟩ rfl (Nat.le_of_ble_eq_true rfl) dX9_compare_93 ?_
      refine W.eq (g2 := F0 m 96 ls [.int r4, .int ((v4 * ((kF S v0 6) + (1 : Int32))) + v5), .ref a3]) rfl ?_
      refine lv_i2b (v := r4.toInt8.toInt32) C.1 C.2.1 dX9_compare_96 rfl ?_
      obtain ⟨hk, h⟩ := ckk_ok h
      obtain ⟨hin2, h⟩ := ck_ok h
      obtain ⟨hnr, h⟩ := ckp_ok h
      refine c_bast C X hJ hk hnr hin2 dX9_compare_97 (fun H locs hJ => ?_)
      refine lt_ok h (fun S5 e_S5 h => ?_)
      rw [e_S5] at hJ
      refine lt_ok h (fun x6 e_x6 h => ?_)
      refine lv_iinc (v := x6) (lv' := [(5, .int x6), (0, .ref v0), (4, .int v4)]) C.1 C.2.1 dX9_compare_98 hl (k := 2) rfl (by rw [← e_x6]; rfl) (by decide) rfl (fun ls hl => ?_)
      refine lv_goto (tgt := 67) C.1 C.2.1 dX9_compare_101 (by decide) ?_
      exact ih h hJ (lv_sub hl [1, 2, 0] rfl)
noncomputable def fk_9_compare_56 : Nat → cSt → Nat → Int32 → Option (cSt)
  | 0, _, _, _ => none
  | n + 1, S, v0, v4 =>
    if v4 < 0 then (
    some S)
    else (
    ckk S v0 10 (
    lt (kF S v0 6) fun x2 =>
    fk_9_compare_67 (fk_9_compare_56 n) mFU S v0 v4 x2))
set_option maxRecDepth 100000 in
set_option maxHeartbeats 4000000 in
theorem wk_9_compare_56 (C : cY p R s m args meth c RX9 cX9_compare 6 3 1 82082 82 none) (X : cX D s) : ∀ (n : Nat), ∀ {S : cSt} {v0 : Nat} {v4 : Int32} {H : Heap} {locs : List Loc} {ls : Array Slot}, fk_9_compare_56 n S v0 v4 = some S9 → cJ D S0 s.heap S H locs → lv_has ls 6 [(0, .ref v0), (4, .int v4)] → W p l e R s m args below meth c H locs 1 82082 (MQ below (kW none D S0 S9) args s 1 82082 (cA S0)) (F0 m 56 ls []) := by
  intro n
  induction n with
  | zero =>
    intro S v0 v4 H locs ls h hJ hl
    exact absurd (show (none : Option (cSt)) = _ from h) (fun q => by cases q)
  | succ n ih =>
    intro S v0 v4 H locs ls h hJ hl
    rw [fk_9_compare_56] at h
    refine lv_iload C.1 C.2.1 dX9_compare_56 (lv_at hl 1 rfl) ?_
    refine lv_if_lt (tgt := 110) C.1 C.2.1 dX9_compare_58 (by decide) (fun c1 => ?_) (fun c1 => ?_)
    · have h := if_t h c1
      cases h
      exact c_retvW C hJ dX9_compare_110
    · have h := if_f h c1
      refine lv_aload_n C.1 C.2.1 dX9_compare_61 rfl (lv_at hl 0 rfl) ?_
      obtain ⟨hk, h⟩ := ckk_ok h
      refine gk9_32 C X hJ.1 hk dX9_compare_62 ?_
      refine lt_ok h (fun x2 e_x2 h => ?_)
      refine lv_nm e_x2 ?_
      refine lv_istore (lv' := [(5, .int x2), (0, .ref v0), (4, .int v4)]) C.1 C.2.1 dX9_compare_65 hl (by decide) rfl (fun ls hl => ?_)
      exact wk_9_compare_67 C X ih mFU h hJ (lv_sub hl [1, 2, 0] rfl)
noncomputable def fk_9_compare_50 (S : cSt) (v0 : Nat) : Option (cSt) :=
ckk S v0 10 (
lt (kF S v0 1) fun x1 =>
fk_9_compare_56 mFU S v0 x1)
set_option maxRecDepth 100000 in
set_option maxHeartbeats 4000000 in
theorem wk_9_compare_50 (C : cY p R s m args meth c RX9 cX9_compare 6 3 1 82082 82 none) (X : cX D s) : ∀ {S : cSt} {v0 : Nat} {H : Heap} {locs : List Loc} {ls : Array Slot}, fk_9_compare_50 S v0 = some S9 → cJ D S0 s.heap S H locs → lv_has ls 6 [(0, .ref v0)] → W p l e R s m args below meth c H locs 1 82082 (MQ below (kW none D S0 S9) args s 1 82082 (cA S0)) (F0 m 50 ls []) := by
  intro S v0 H locs ls h hJ hl
  unfold fk_9_compare_50 at h
  refine lv_aload_n C.1 C.2.1 dX9_compare_50 rfl (lv_at hl 0 rfl) ?_
  obtain ⟨hk, h⟩ := ckk_ok h
  refine gk9_17 C X hJ.1 hk dX9_compare_51 ?_
  refine lt_ok h (fun x1 e_x1 h => ?_)
  refine lv_nm e_x1 ?_
  refine lv_istore (lv' := [(4, .int x1), (0, .ref v0)]) C.1 C.2.1 dX9_compare_54 hl (by decide) rfl (fun ls hl => ?_)
  exact wk_9_compare_56 C X mFU h hJ (lv_sub hl [1, 0] rfl)
noncomputable def fk_9_compare (S : cSt) (v0 : Nat) (v1 : Nat) (v2 : Int32) : Option (cSt) :=
ckk S v0 10 (lt (cPr S v0 5 (some v1)) fun S1 =>
ckk S1 v0 10 (lt (cPi S1 v0 6 v2) fun S2 =>
ckk S2 v0 10 (
ckk S2 v0 10 (
lt (((kF S2 v0 1) + (1 : Int32)) * ((kF S2 v0 6) + (1 : Int32))) fun x3 =>
ckk S2 v0 10 (bd (kR S2 v0 7) fun a4 =>
ckk S2 a4 21 (
if x3 ≤ (Int32.ofNat (kL S2 a4)) then (
fk_9_compare_50 S2 v0)
else (
ckk S2 v0 10 (bd (kR S2 v0 7) fun a6 =>
ckk S2 a6 21 (
ckp (¬ (if x3 < ((2 : Int32) * (Int32.ofNat (kL S2 a6))) then ((2 : Int32) * (Int32.ofNat (kL S2 a6))) else x3) < 0 ∧ Int32.toNatClampNeg (if x3 < ((2 : Int32) * (Int32.ofNat (kL S2 a6))) then ((2 : Int32) * (Int32.ofNat (kL S2 a6))) else x3) ≤ 82082) (lt (kZ S2) fun a8 => lt (cNw S2 21 (Int32.toNatClampNeg (if x3 < ((2 : Int32) * (Int32.ofNat (kL S2 a6))) then ((2 : Int32) * (Int32.ofNat (kL S2 a6))) else x3))) fun S7 =>
ckk S7 v0 10 (lt (cPr S7 v0 7 (some a8)) fun S10 =>
fk_9_compare_50 S10 v0)))))))))))
set_option maxRecDepth 100000 in
set_option maxHeartbeats 4000000 in
theorem tk_9_compare (l : Launch) {D : cG} {S : cSt} {v0 : Nat} {v1 : Nat} {v2 : Int32} {S9 : cSt} (h : fk_9_compare S v0 v1 v2 = some S9) : Met l yX9_compare (Cond.code yX9_compare cX9_compare 6 none :: lw_g) { frames := 3, cells := 1, slots := 82082, locals := 82 } (kPi [.ref v0, .ref v1, .int v2] D S) (kW none D S S9) 1 82082 (cA S) := by
  refine Met.ofW (cc := cX9_compare) (maxL := 6) (ret := none) (by decide) rfl ?_
  intro p e s m args below meth c s₁ B hml hv
  obtain ⟨rfl, hW, X⟩ := hv
  have C : cY p (headSpec (Cond.code yX9_compare cX9_compare 6 none :: lw_g) { frames := 3, cells := 1, slots := 82082, locals := 82 }).room s m _ meth c RX9 cX9_compare 6 3 1 82082 82 none := ⟨B.exec, B.bytes, hml, findClass_of_methodNamed B.named, fun w hw => atoms_spec (ws := Cond.code yX9_compare cX9_compare 6 none :: lw_g) B.pre w (List.mem_cons_of_mem _ hw), ⟨Nat.le_refl _, Nat.le_refl _, Nat.le_refl _, Nat.le_refl _⟩, B.returns, B.notSynchronized⟩
  have hl := lv_entry ([.ref v0, .ref v1, .int v2]) (n := 6) (Nat.le_of_ble_eq_true rfl)
  rw [lg_entry_eq]
  generalize (lg_sl ([.ref v0, .ref v1, .int v2]) ++ List.replicate (6 - (lg_sl ([.ref v0, .ref v1, .int v2])).length) Slot.unset).toArray = ls at hl ⊢
  have hl : lv_has ls 6 [(0, .ref v0), (1, .ref v1), (2, .int v2)] := hl
  have hJ : cJ D S s.heap S s.heap [] := cJ.rf hW
  unfold fk_9_compare at h
  refine lv_aload_n C.1 C.2.1 dX9_compare_0 rfl (lv_at hl 0 rfl) ?_
  refine lv_aload_n C.1 C.2.1 dX9_compare_1 rfl (lv_at hl 1 rfl) ?_
  obtain ⟨hk, h⟩ := ckk_ok h
  refine pk9_28 (o := (some v1)) C X hJ hk dX9_compare_2 (fun H locs hJ => ?_)
  refine lt_ok h (fun S1 e_S1 h => ?_)
  rw [e_S1] at hJ
  refine lv_aload_n C.1 C.2.1 dX9_compare_5 rfl (lv_at hl 0 rfl) ?_
  refine lv_iload_n C.1 C.2.1 dX9_compare_6 rfl (lv_at hl 2 rfl) ?_
  obtain ⟨hk, h⟩ := ckk_ok h
  refine pk9_32 C X hJ hk dX9_compare_7 (fun H locs hJ => ?_)
  refine lt_ok h (fun S2 e_S2 h => ?_)
  rw [e_S2] at hJ
  refine lv_aload_n C.1 C.2.1 dX9_compare_10 rfl (lv_at hl 0 rfl) ?_
  obtain ⟨hk, h⟩ := ckk_ok h
  refine gk9_17 C X hJ.1 hk dX9_compare_11 ?_
  refine lv_iconst (v := 1) C.1 C.2.1 dX9_compare_14 (by decide) ?_
  refine lv_iadd C.1 C.2.1 dX9_compare_15 ?_
  refine lv_aload_n C.1 C.2.1 dX9_compare_16 rfl (lv_at hl 0 rfl) ?_
  obtain ⟨hk, h⟩ := ckk_ok h
  refine gk9_32 C X hJ.1 hk dX9_compare_17 ?_
  refine lv_iconst (v := 1) C.1 C.2.1 dX9_compare_20 (by decide) ?_
  refine lv_iadd C.1 C.2.1 dX9_compare_21 ?_
  refine lv_imul C.1 C.2.1 dX9_compare_22 ?_
  refine lt_ok h (fun x3 e_x3 h => ?_)
  refine lv_nm e_x3 ?_
  refine lv_istore_n (lv' := [(3, .int x3), (0, .ref v0), (1, .ref v1), (2, .int v2)]) C.1 C.2.1 dX9_compare_23 rfl hl (by decide) rfl (fun ls hl => ?_)
  refine lv_aload_n C.1 C.2.1 dX9_compare_24 rfl (lv_at hl 1 rfl) ?_
  obtain ⟨hk, h⟩ := ckk_ok h
  obtain ⟨a4, h_a4, h⟩ := bd_ok h
  refine gk9_35 C X hJ.1 hk h_a4 dX9_compare_25 ?_
  obtain ⟨hk, h⟩ := ckk_ok h
  refine c_leni C 21 (by decide) (by decide) X.2.2.1 hJ.1 hk dX9_compare_28 ?_
  refine lv_iload_n C.1 C.2.1 dX9_compare_29 rfl (lv_at hl 0 rfl) ?_
  refine lv_icmp_ge (tgt := 50) C.1 C.2.1 dX9_compare_30 (by decide) (fun c5 => ?_) (fun c5 => ?_)
  · have h := if_t h c5
    refine W.widen (k := 1) (n := 82082) (by decide) (by decide) ?_
    exact wk_9_compare_50 C X h hJ (lv_sub hl [1] rfl)
  · have h := if_f h c5
    refine lv_aload_n C.1 C.2.1 dX9_compare_33 rfl (lv_at hl 1 rfl) ?_
    refine lv_iload_n C.1 C.2.1 dX9_compare_34 rfl (lv_at hl 0 rfl) ?_
    refine lv_iconst (v := 2) C.1 C.2.1 dX9_compare_35 (by decide) ?_
    refine lv_aload_n C.1 C.2.1 dX9_compare_36 rfl (lv_at hl 1 rfl) ?_
    obtain ⟨hk, h⟩ := ckk_ok h
    obtain ⟨a6, h_a6, h⟩ := bd_ok h
    refine gk9_35 C X hJ.1 hk h_a6 dX9_compare_37 ?_
    obtain ⟨hk, h⟩ := ckk_ok h
    refine c_leni C 21 (by decide) (by decide) X.2.2.1 hJ.1 hk dX9_compare_40 ?_
    refine lv_imul C.1 C.2.1 dX9_compare_41 ?_
    refine va_mmax (rest := [.ref v0]) C.1 C.2.1 (C.2.2.1.trans hl.1.symm) (own := RX9) C.2.2.2.1 (C.2.2.2.2.1 _ mm9_88) (C.2.2.2.2.1 _ mmax_s) (C.2.2.2.2.1 _ ma_i) (C.2.2.2.2.1 _ mmax_c) (Nat.le_trans (by decide) C.2.2.2.2.2.1.1) (Nat.le_trans (Nat.le_of_ble_eq_true rfl) C.2.2.2.2.2.1.2.2.2) (Nat.le_trans (by decide) C.2.2.2.2.2.1.2.1) (Nat.le_trans (by decide) C.2.2.2.2.2.1.2.2.1) dX9_compare_42 ?_
    obtain ⟨hdy, h⟩ := ckp_ok h
    refine c_newa C hJ 21 (by decide) (by decide) X.2.2.1 rfl id rfl ar_21 hdy.1 rfl (Nat.le_trans (Nat.mul_le_mul_right _ hdy.2) (by decide)) (by decide) (Nat.le_trans (Nat.add_le_add_left hdy.2 _) (by decide)) dX9_compare_45 (fun H hJ => ?_)
    refine W.widen (k := 1) (n := 82082) (Nat.le_refl _) (Nat.add_le_add_left hdy.2 _) ?_
    refine lt_ok h (fun a8 e_a8 h => ?_)
    refine lt_ok h (fun S7 e_S7 h => ?_)
    rw [e_S7] at hJ
    rw [e_a8]
    obtain ⟨hk, h⟩ := ckk_ok h
    refine pk9_35 (o := (some a8)) C X hJ hk dX9_compare_47 (fun H locs hJ => ?_)
    refine lt_ok h (fun S10 e_S10 h => ?_)
    rw [e_S10] at hJ
    exact wk_9_compare_50 C X h hJ (lv_sub hl [1] rfl)
end
theorem dX10_lookBack_0 : decode cX10_lookBack 0 = .ok (.aload_n 0, 1) := by decide +kernel
theorem dX10_lookBack_1 : decode cX10_lookBack 1 = .ok (.aload_n 1, 1) := by decide +kernel
theorem dX10_lookBack_2 : decode cX10_lookBack 2 = .ok (.putfield 38, 3) := by decide +kernel
theorem dX10_lookBack_5 : decode cX10_lookBack 5 = .ok (.aload_n 0, 1) := by decide +kernel
theorem dX10_lookBack_6 : decode cX10_lookBack 6 = .ok (.iload_n 2, 1) := by decide +kernel
theorem dX10_lookBack_7 : decode cX10_lookBack 7 = .ok (.putfield 30, 3) := by decide +kernel
theorem dX10_lookBack_10 : decode cX10_lookBack 10 = .ok (.aload_n 0, 1) := by decide +kernel
theorem dX10_lookBack_11 : decode cX10_lookBack 11 = .ok (.getfield 42, 3) := by decide +kernel
theorem dX10_lookBack_14 : decode cX10_lookBack 14 = .ok (.iconst 0, 1) := by decide +kernel
theorem dX10_lookBack_15 : decode cX10_lookBack 15 = .ok (.invokestatic 45, 3) := by decide +kernel
theorem dX10_lookBack_18 : decode cX10_lookBack 18 = .ok (.iconst 0, 1) := by decide +kernel
theorem dX10_lookBack_19 : decode cX10_lookBack 19 = .ok (.istore_n 3, 1) := by decide +kernel
theorem dX10_lookBack_20 : decode cX10_lookBack 20 = .ok (.iload_n 3, 1) := by decide +kernel
theorem dX10_lookBack_21 : decode cX10_lookBack 21 = .ok (.iload_n 2, 1) := by decide +kernel
theorem dX10_lookBack_22 : decode cX10_lookBack 22 = .ok (.if_icmp .ge 31, 3) := by decide +kernel
theorem dX10_lookBack_25 : decode cX10_lookBack 25 = .ok (.aload_n 1, 1) := by decide +kernel
theorem dX10_lookBack_26 : decode cX10_lookBack 26 = .ok (.aload_n 0, 1) := by decide +kernel
theorem dX10_lookBack_27 : decode cX10_lookBack 27 = .ok (.getfield 34, 3) := by decide +kernel
theorem dX10_lookBack_30 : decode cX10_lookBack 30 = .ok (.getfield 51, 3) := by decide +kernel
theorem dX10_lookBack_33 : decode cX10_lookBack 33 = .ok (.aload_n 1, 1) := by decide +kernel
theorem dX10_lookBack_34 : decode cX10_lookBack 34 = .ok (.getfield 56, 3) := by decide +kernel
theorem dX10_lookBack_37 : decode cX10_lookBack 37 = .ok (.iload_n 3, 1) := by decide +kernel
theorem dX10_lookBack_38 : decode cX10_lookBack 38 = .ok (.iaload, 1) := by decide +kernel
theorem dX10_lookBack_39 : decode cX10_lookBack 39 = .ok (.aaload, 1) := by decide +kernel
theorem dX10_lookBack_40 : decode cX10_lookBack 40 = .ok (.aload_n 0, 1) := by decide +kernel
theorem dX10_lookBack_41 : decode cX10_lookBack 41 = .ok (.getfield 42, 3) := by decide +kernel
theorem dX10_lookBack_44 : decode cX10_lookBack 44 = .ok (.invokevirtual 61, 3) := by decide +kernel
theorem dX10_lookBack_47 : decode cX10_lookBack 47 = .ok (.iinc 3 1, 3) := by decide +kernel
theorem dX10_lookBack_50 : decode cX10_lookBack 50 = .ok (.goto (-30), 3) := by decide +kernel
theorem dX10_lookBack_53 : decode cX10_lookBack 53 = .ok (.return_, 1) := by decide +kernel
theorem kd_10_lookBack : Cond.code yX10_lookBack cX10_lookBack 4 none ∈ lw_g := mt_at 1517 (by decide +kernel) rfl
theorem ki_10_lookBack : Cond.instanceMethod yX10_lookBack ∈ lw_g := mt_at 1515 (by decide +kernel) rfl
theorem kl_10_lookBack : Cond.selects (kRn 10) yX10_lookBack yX10_lookBack ∈ lw_g := mt_at 1516 (by decide +kernel) rfl
theorem cw10_61 : cCw RX10 61 yX4_mark cX4_mark 4 none 2 := ⟨kd_4_mark, mt_at 1518 (by decide +kernel) rfl, mt_at 9 (by decide +kernel) rfl, by decide +kernel⟩
section
variable {p : Program} {l : Launch} {e : Env} {R : Room} {s : State} {m : MethodId} {args : Array Value} {below : List Frame} {meth : Method} {c : Code} {H : Heap} {locs : List Loc} {cells slots : Nat} {Q : State → Prop}
variable {D : cG} {S S0 : cSt} {cc : ByteArray} {nL : Nat} {pc : Nat} {ls : Array Slot} {rest : List Value} {H0 : Heap} {nF nR nC nS : Nat} {ret : Option FieldType} {a : Nat}
theorem gk10_51 (C : cY p R s m args meth c RX10 cc nL nF nC nS nR ret) (X : cX D s) (hW : cW D S H) (hk : kK S a = 1) {x : Nat} (hx : kR S a 0 = some x) (hdg : decode cc pc = .ok (.getfield 51, 3)) (kk : W p l e R s m args below meth c H locs cells slots Q (F0 m (pc + 3) ls (.ref x :: rest))) : W p l e R s m args below meth c H locs cells slots Q (F0 m pc ls (.ref a :: rest)) := c_get C X hW 0 (by decide) ly_0 hk 0 (by decide) (mt_at 80 (by decide +kernel) (by decide +kernel)) hdg (by rw [cV_R (by decide +kernel) hx]; exact kk)
theorem gk10_56 (C : cY p R s m args meth c RX10 cc nL nF nC nS nR ret) (X : cX D s) (hW : cW D S H) (hk : kK S a = 5) {x : Nat} (hx : kR S a 0 = some x) (hdg : decode cc pc = .ok (.getfield 56, 3)) (kk : W p l e R s m args below meth c H locs cells slots Q (F0 m (pc + 3) ls (.ref x :: rest))) : W p l e R s m args below meth c H locs cells slots Q (F0 m pc ls (.ref a :: rest)) := c_get C X hW 4 (by decide) ly_4 hk 0 (by decide) (mt_at 227 (by decide +kernel) (by decide +kernel)) hdg (by rw [cV_R (by decide +kernel) hx]; exact kk)
end
section
variable {p : Program} {l : Launch} {e : Env} {R : Room} {s : State} {m : MethodId} {args : Array Value} {below : List Frame} {meth : Method} {c : Code} {D : cG} {S0 S9 : cSt}
noncomputable def fk_10_lookBack_20 : Nat → cSt → Nat → Nat → Int32 → Int32 → Option (cSt)
  | 0, _, _, _, _, _ => none
  | n + 1, S, v0, v1, v2, v3 =>
    if v2 ≤ v3 then (
    some S)
    else (
    ckk S v0 11 (bd (kR S v0 1) fun a2 =>
    ckk S a2 1 (bd (kR S a2 0) fun a3 =>
    ckk S v1 5 (bd (kR S v1 0) fun a4 =>
    ckk S a4 20 (ck v3 (kL S a4) (
    ckk S a3 30 (ck (kI S a4 (Int32.toNatClampNeg v3)) (kL S a3) (lt (kO S a3 (Int32.toNatClampNeg (kI S a4 (Int32.toNatClampNeg v3)))) fun o5 =>
    ckk S v0 11 (bd (kR S v0 2) fun a6 =>
    bd o5 fun a7 =>
    ckk S v1 5 (bd (fk_4_mark S v1 a7 a6) fun S8 =>
    lt (v3 + (1 : Int32)) fun x9 =>
    fk_10_lookBack_20 n S8 v0 v1 v2 x9))))))))))
set_option maxRecDepth 100000 in
set_option maxHeartbeats 4000000 in
theorem wk_10_lookBack_20 (C : cY p R s m args meth c RX10 cX10_lookBack 4 2 0 0 45 none) (X : cX D s) : ∀ (n : Nat), ∀ {S : cSt} {v0 : Nat} {v1 : Nat} {v2 : Int32} {v3 : Int32} {H : Heap} {locs : List Loc} {ls : Array Slot}, fk_10_lookBack_20 n S v0 v1 v2 v3 = some S9 → cJ D S0 s.heap S H locs → lv_has ls 4 [(0, .ref v0), (1, .ref v1), (2, .int v2), (3, .int v3)] → W p l e R s m args below meth c H locs 0 0 (MQ below (kW none D S0 S9) args s 0 0 (cA S0)) (F0 m 20 ls []) := by
  intro n
  induction n with
  | zero =>
    intro S v0 v1 v2 v3 H locs ls h hJ hl
    exact absurd (show (none : Option (cSt)) = _ from h) (fun q => by cases q)
  | succ n ih =>
    intro S v0 v1 v2 v3 H locs ls h hJ hl
    rw [fk_10_lookBack_20] at h
    refine lv_iload_n C.1 C.2.1 dX10_lookBack_20 rfl (lv_at hl 3 rfl) ?_
    refine lv_iload_n C.1 C.2.1 dX10_lookBack_21 rfl (lv_at hl 2 rfl) ?_
    refine lv_icmp_ge (tgt := 53) C.1 C.2.1 dX10_lookBack_22 (by decide) (fun c1 => ?_) (fun c1 => ?_)
    · have h := if_t h c1
      cases h
      exact c_retvW C hJ dX10_lookBack_53
    · have h := if_f h c1
      refine lv_aload_n C.1 C.2.1 dX10_lookBack_25 rfl (lv_at hl 1 rfl) ?_
      refine lv_aload_n C.1 C.2.1 dX10_lookBack_26 rfl (lv_at hl 0 rfl) ?_
      obtain ⟨hk, h⟩ := ckk_ok h
      obtain ⟨a2, h_a2, h⟩ := bd_ok h
      refine gk10_34 C X hJ.1 hk h_a2 dX10_lookBack_27 ?_
      obtain ⟨hk, h⟩ := ckk_ok h
      obtain ⟨a3, h_a3, h⟩ := bd_ok h
      refine gk10_51 C X hJ.1 hk h_a3 dX10_lookBack_30 ?_
      refine lv_aload_n C.1 C.2.1 dX10_lookBack_33 rfl (lv_at hl 1 rfl) ?_
      obtain ⟨hk, h⟩ := ckk_ok h
      obtain ⟨a4, h_a4, h⟩ := bd_ok h
      refine gk10_56 C X hJ.1 hk h_a4 dX10_lookBack_34 ?_
      refine lv_iload_n C.1 C.2.1 dX10_lookBack_37 rfl (lv_at hl 3 rfl) ?_
      obtain ⟨hk, h⟩ := ckk_ok h
      obtain ⟨hin2, h⟩ := ck_ok h
      refine c_iald C X hJ.1 hk hin2 dX10_lookBack_38 ?_
      obtain ⟨hk, h⟩ := ckk_ok h
      obtain ⟨hin2, h⟩ := ck_ok h
      refine c_aald C 30 (by decide) X.2.2.2.2.1 hJ.1 hk hin2 dX10_lookBack_39 ?_
      refine lt_ok h (fun o5 e_o5 h => ?_)
      refine lv_nmq e_o5 ?_
      refine lv_aload_n C.1 C.2.1 dX10_lookBack_40 rfl (lv_at hl 0 rfl) ?_
      obtain ⟨hk, h⟩ := ckk_ok h
      obtain ⟨a6, h_a6, h⟩ := bd_ok h
      refine gk10_42 C X hJ.1 hk h_a6 dX10_lookBack_41 ?_
      obtain ⟨a7, e_a7, h⟩ := bd_ok h
      revert h; subst e_a7; intro h
      obtain ⟨hk, h⟩ := ckk_ok h
      obtain ⟨S8, h_S8, h⟩ := bd_ok h
      refine c_callW (rest := []) C X hJ hl.1 4 (by decide) hk [.ref a7, .ref a6] (tk_4_mark l h_S8) cw10_61 ki_4_mark kl_4_mark rfl ⟨by decide, by decide⟩ ⟨(by decide), (by decide)⟩ rfl (Nat.le_of_ble_eq_true rfl) dX10_lookBack_44 (fun H locs hJ => ?_)
      refine W.eq (g2 := F0 m 47 ls []) rfl ?_
      refine lt_ok h (fun x9 e_x9 h => ?_)
      refine lv_iinc (v := x9) (lv' := [(3, .int x9), (0, .ref v0), (1, .ref v1), (2, .int v2)]) C.1 C.2.1 dX10_lookBack_47 hl (k := 3) rfl (by rw [← e_x9]; rfl) (by decide) rfl (fun ls hl => ?_)
      refine lv_goto (tgt := 20) C.1 C.2.1 dX10_lookBack_50 (by decide) ?_
      exact ih h hJ (lv_sub hl [1, 2, 3, 0] rfl)
noncomputable def fk_10_lookBack (S : cSt) (v0 : Nat) (v1 : Nat) (v2 : Int32) : Option (cSt) :=
ckk S v0 11 (lt (cPr S v0 7 (some v1)) fun S1 =>
ckk S1 v0 11 (lt (cPi S1 v0 8 v2) fun S2 =>
ckk S2 v0 11 (bd (kR S2 v0 2) fun a3 =>
bd (fk_107_fill_53178 S2 a3 (0 : Int32)) fun S4 =>
fk_10_lookBack_20 mFU S4 v0 v1 v2 (0 : Int32))))
set_option maxRecDepth 100000 in
set_option maxHeartbeats 4000000 in
theorem tk_10_lookBack (l : Launch) {D : cG} {S : cSt} {v0 : Nat} {v1 : Nat} {v2 : Int32} {S9 : cSt} (h : fk_10_lookBack S v0 v1 v2 = some S9) : Met l yX10_lookBack (Cond.code yX10_lookBack cX10_lookBack 4 none :: lw_g) { frames := 2, cells := 0, slots := 0, locals := 45 } (kPi [.ref v0, .ref v1, .int v2] D S) (kW none D S S9) 0 0 (cA S) := by
  refine Met.ofW (cc := cX10_lookBack) (maxL := 4) (ret := none) (by decide) rfl ?_
  intro p e s m args below meth c s₁ B hml hv
  obtain ⟨rfl, hW, X⟩ := hv
  have C : cY p (headSpec (Cond.code yX10_lookBack cX10_lookBack 4 none :: lw_g) { frames := 2, cells := 0, slots := 0, locals := 45 }).room s m _ meth c RX10 cX10_lookBack 4 2 0 0 45 none := ⟨B.exec, B.bytes, hml, findClass_of_methodNamed B.named, fun w hw => atoms_spec (ws := Cond.code yX10_lookBack cX10_lookBack 4 none :: lw_g) B.pre w (List.mem_cons_of_mem _ hw), ⟨Nat.le_refl _, Nat.le_refl _, Nat.le_refl _, Nat.le_refl _⟩, B.returns, B.notSynchronized⟩
  have hl := lv_entry ([.ref v0, .ref v1, .int v2]) (n := 4) (Nat.le_of_ble_eq_true rfl)
  rw [lg_entry_eq]
  generalize (lg_sl ([.ref v0, .ref v1, .int v2]) ++ List.replicate (4 - (lg_sl ([.ref v0, .ref v1, .int v2])).length) Slot.unset).toArray = ls at hl ⊢
  have hl : lv_has ls 4 [(0, .ref v0), (1, .ref v1), (2, .int v2)] := hl
  have hJ : cJ D S s.heap S s.heap [] := cJ.rf hW
  unfold fk_10_lookBack at h
  refine lv_aload_n C.1 C.2.1 dX10_lookBack_0 rfl (lv_at hl 0 rfl) ?_
  refine lv_aload_n C.1 C.2.1 dX10_lookBack_1 rfl (lv_at hl 1 rfl) ?_
  obtain ⟨hk, h⟩ := ckk_ok h
  refine pk10_38 (o := (some v1)) C X hJ hk dX10_lookBack_2 (fun H locs hJ => ?_)
  refine lt_ok h (fun S1 e_S1 h => ?_)
  rw [e_S1] at hJ
  refine lv_aload_n C.1 C.2.1 dX10_lookBack_5 rfl (lv_at hl 0 rfl) ?_
  refine lv_iload_n C.1 C.2.1 dX10_lookBack_6 rfl (lv_at hl 2 rfl) ?_
  obtain ⟨hk, h⟩ := ckk_ok h
  refine pk10_30 C X hJ hk dX10_lookBack_7 (fun H locs hJ => ?_)
  refine lt_ok h (fun S2 e_S2 h => ?_)
  rw [e_S2] at hJ
  refine lv_aload_n C.1 C.2.1 dX10_lookBack_10 rfl (lv_at hl 0 rfl) ?_
  obtain ⟨hk, h⟩ := ckk_ok h
  obtain ⟨a3, h_a3, h⟩ := bd_ok h
  refine gk10_42 C X hJ.1 hk h_a3 dX10_lookBack_11 ?_
  refine lv_iconst (v := 0) C.1 C.2.1 dX10_lookBack_14 (by decide) ?_
  obtain ⟨S4, h_S4, h⟩ := bd_ok h
  refine c_callSW (rest := []) C X hJ hl.1 [.ref a3, .int (0 : Int32)] (tk_107_fill_53178 l h_S4) cw10_45 ks_107_fill_53178 rfl ⟨by decide, by decide⟩ ⟨(by decide), (by decide)⟩ rfl (Nat.le_of_ble_eq_true rfl) dX10_lookBack_15 (fun H locs hJ => ?_)
  refine W.eq (g2 := F0 m 18 ls []) rfl ?_
  refine lv_iconst (v := 0) C.1 C.2.1 dX10_lookBack_18 (by decide) ?_
  refine lv_istore_n (lv' := [(3, .int (0 : Int32)), (0, .ref v0), (1, .ref v1), (2, .int v2)]) C.1 C.2.1 dX10_lookBack_19 rfl hl (by decide) rfl (fun ls hl => ?_)
  exact wk_10_lookBack_20 C X mFU h hJ (lv_sub hl [1, 2, 3, 0] rfl)
end
theorem dX10_isThereOf_0 : decode cX10_isThereOf 0 = .ok (.aload_n 0, 1) := by decide +kernel
theorem dX10_isThereOf_1 : decode cX10_isThereOf 1 = .ok (.iload_n 1, 1) := by decide +kernel
theorem dX10_isThereOf_2 : decode cX10_isThereOf 2 = .ok (.invokevirtual 86, 3) := by decide +kernel
theorem dX10_isThereOf_5 : decode cX10_isThereOf 5 = .ok (.ifCond .eq 19, 3) := by decide +kernel
theorem dX10_isThereOf_8 : decode cX10_isThereOf 8 = .ok (.aload_n 0, 1) := by decide +kernel
theorem dX10_isThereOf_9 : decode cX10_isThereOf 9 = .ok (.getfield 34, 3) := by decide +kernel
theorem dX10_isThereOf_12 : decode cX10_isThereOf 12 = .ok (.iload_n 1, 1) := by decide +kernel
theorem dX10_isThereOf_13 : decode cX10_isThereOf 13 = .ok (.invokevirtual 89, 3) := by decide +kernel
theorem dX10_isThereOf_16 : decode cX10_isThereOf 16 = .ok (.iload_n 2, 1) := by decide +kernel
theorem dX10_isThereOf_17 : decode cX10_isThereOf 17 = .ok (.if_icmp .ne 7, 3) := by decide +kernel
theorem dX10_isThereOf_20 : decode cX10_isThereOf 20 = .ok (.iconst 1, 1) := by decide +kernel
theorem dX10_isThereOf_21 : decode cX10_isThereOf 21 = .ok (.goto 4, 3) := by decide +kernel
theorem dX10_isThereOf_24 : decode cX10_isThereOf 24 = .ok (.iconst 0, 1) := by decide +kernel
theorem dX10_isThereOf_25 : decode cX10_isThereOf 25 = .ok (.ireturn, 1) := by decide +kernel
theorem kd_10_isThereOf : Cond.code yX10_isThereOf cX10_isThereOf 3 (some .boolean) ∈ lw_g := mt_at 1499 (by decide +kernel) rfl
theorem ki_10_isThereOf : Cond.instanceMethod yX10_isThereOf ∈ lw_g := mt_at 1497 (by decide +kernel) rfl
theorem kl_10_isThereOf : Cond.selects (kRn 10) yX10_isThereOf yX10_isThereOf ∈ lw_g := mt_at 1498 (by decide +kernel) rfl
theorem cw10_89 : cCw RX10 89 yX0_kindOf cX0_kindOf 3 (some .int) 1 := ⟨kd_0_kindOf, mt_at 1500 (by decide +kernel) rfl, mt_at 3 (by decide +kernel) rfl, by decide +kernel⟩
section
variable {p : Program} {l : Launch} {e : Env} {R : Room} {s : State} {m : MethodId} {args : Array Value} {below : List Frame} {meth : Method} {c : Code} {D : cG} {S : cSt} {r : Int32}
noncomputable def fk_10_isThereOf_25 (S : cSt) (s0 : Int32) : Option (Int32) :=
ckz s0 (some s0)
set_option maxRecDepth 100000 in
set_option maxHeartbeats 4000000 in
theorem wk_10_isThereOf_25 (C : cY p R s m args meth c RX10 cX10_isThereOf 3 3 0 0 65 (some .boolean)) (X : cX D s) (hW : cW D S s.heap) : ∀ {s0 : Int32} {ls : Array Slot}, fk_10_isThereOf_25 S s0 = some r → lv_has ls 3 [] → W p l e R s m args below meth c s.heap [] 0 0 (MQ below (kQ (some (.int r))) args s 0 0 mNo) (F0 m 25 ls [.int s0]) := by
  intro s0 ls h hl
  unfold fk_10_isThereOf_25 at h
  obtain ⟨hzo, h⟩ := ckz_ok h
  cases h
  exact c_retn C (by rcases hzo with h9 | h9 <;> (rw [h9]; rfl)) rfl rfl dX10_isThereOf_25
noncomputable def fk_10_isThereOf_24 (S : cSt) : Option (Int32) :=
fk_10_isThereOf_25 S (0 : Int32)
set_option maxRecDepth 100000 in
set_option maxHeartbeats 4000000 in
theorem wk_10_isThereOf_24 (C : cY p R s m args meth c RX10 cX10_isThereOf 3 3 0 0 65 (some .boolean)) (X : cX D s) (hW : cW D S s.heap) : ∀ {ls : Array Slot}, fk_10_isThereOf_24 S = some r → lv_has ls 3 [] → W p l e R s m args below meth c s.heap [] 0 0 (MQ below (kQ (some (.int r))) args s 0 0 mNo) (F0 m 24 ls []) := by
  intro ls h hl
  unfold fk_10_isThereOf_24 at h
  refine lv_iconst (v := 0) C.1 C.2.1 dX10_isThereOf_24 (by decide) ?_
  exact wk_10_isThereOf_25 C X hW h (lv_sub hl [] rfl)
noncomputable def fk_10_isThereOf (S : cSt) (v0 : Nat) (v1 : Int32) (v2 : Int32) : Option (Int32) :=
ckk S v0 11 (bd (fk_10_isThere S v0 v1) fun r1 =>
if r1 = 0 then (
fk_10_isThereOf_24 S)
else (
ckk S v0 11 (bd (kR S v0 1) fun a3 =>
ckk S a3 1 (bd (fk_0_kindOf S a3 v1) fun r4 =>
if r4 = v2 then (
fk_10_isThereOf_25 S (1 : Int32))
else (
fk_10_isThereOf_24 S)))))
set_option maxRecDepth 100000 in
set_option maxHeartbeats 4000000 in
theorem tk_10_isThereOf (l : Launch) {D : cG} {S : cSt} {v0 : Nat} {v1 : Int32} {v2 : Int32} {r : Int32}  (h : fk_10_isThereOf S v0 v1 v2 = some r) : Met l yX10_isThereOf (Cond.code yX10_isThereOf cX10_isThereOf 3 (some .boolean) :: lw_g) { frames := 3, cells := 0, slots := 0, locals := 65 } (kPi [.ref v0, .int v1, .int v2] D S) (kQ (some (.int r))) 0 0 (mNo) := by
  refine Met.ofW (cc := cX10_isThereOf) (maxL := 3) (ret := (some .boolean)) (by decide) rfl ?_
  intro p e s m args below meth c s₁ B hml hv
  obtain ⟨rfl, hW, X⟩ := hv
  have C : cY p (headSpec (Cond.code yX10_isThereOf cX10_isThereOf 3 (some .boolean) :: lw_g) { frames := 3, cells := 0, slots := 0, locals := 65 }).room s m _ meth c RX10 cX10_isThereOf 3 3 0 0 65 (some .boolean) := ⟨B.exec, B.bytes, hml, findClass_of_methodNamed B.named, fun w hw => atoms_spec (ws := Cond.code yX10_isThereOf cX10_isThereOf 3 (some .boolean) :: lw_g) B.pre w (List.mem_cons_of_mem _ hw), ⟨Nat.le_refl _, Nat.le_refl _, Nat.le_refl _, Nat.le_refl _⟩, B.returns, B.notSynchronized⟩
  have hl := lv_entry ([.ref v0, .int v1, .int v2]) (n := 3) (Nat.le_of_ble_eq_true rfl)
  rw [lg_entry_eq]
  generalize (lg_sl ([.ref v0, .int v1, .int v2]) ++ List.replicate (3 - (lg_sl ([.ref v0, .int v1, .int v2])).length) Slot.unset).toArray = ls at hl ⊢
  have hl : lv_has ls 3 [(0, .ref v0), (1, .int v1), (2, .int v2)] := hl
  unfold fk_10_isThereOf at h
  refine lv_aload_n C.1 C.2.1 dX10_isThereOf_0 rfl (lv_at hl 0 rfl) ?_
  refine lv_iload_n C.1 C.2.1 dX10_isThereOf_1 rfl (lv_at hl 1 rfl) ?_
  obtain ⟨hk, h⟩ := ckk_ok h
  obtain ⟨r1, h_r1, h⟩ := bd_ok h
  refine c_callR (rest := []) C X hW hl.1 10 (by decide) hk [.int v1] (tk_10_isThere l h_r1) cw10_86 ki_10_isThere kl_10_isThere rfl ⟨by decide, by decide⟩ ⟨(by decide), (by decide)⟩ rfl (Nat.le_of_ble_eq_true rfl) dX10_isThereOf_2 ?_
  refine W.eq (g2 := F0 m 5 ls [.int r1]) rfl ?_
  refine lv_if_eq (tgt := 24) C.1 C.2.1 dX10_isThereOf_5 (by decide) (fun c2 => ?_) (fun c2 => ?_)
  · have h := if_t h c2
    exact wk_10_isThereOf_24 C X hW h (lv_sub hl [] rfl)
  · have h := if_f h c2
    refine lv_aload_n C.1 C.2.1 dX10_isThereOf_8 rfl (lv_at hl 0 rfl) ?_
    obtain ⟨hk, h⟩ := ckk_ok h
    obtain ⟨a3, h_a3, h⟩ := bd_ok h
    refine gk10_34 C X hW hk h_a3 dX10_isThereOf_9 ?_
    refine lv_iload_n C.1 C.2.1 dX10_isThereOf_12 rfl (lv_at hl 1 rfl) ?_
    obtain ⟨hk, h⟩ := ckk_ok h
    obtain ⟨r4, h_r4, h⟩ := bd_ok h
    refine c_callR (rest := []) C X hW hl.1 0 (by decide) hk [.int v1] (tk_0_kindOf l h_r4) cw10_89 ki_0_kindOf kl_0_kindOf rfl ⟨by decide, by decide⟩ ⟨(by decide), (by decide)⟩ rfl (Nat.le_of_ble_eq_true rfl) dX10_isThereOf_13 ?_
    refine W.eq (g2 := F0 m 16 ls [.int r4]) rfl ?_
    refine lv_iload_n C.1 C.2.1 dX10_isThereOf_16 rfl (lv_at hl 2 rfl) ?_
    refine lv_icmp_ne (tgt := 24) C.1 C.2.1 dX10_isThereOf_17 (by decide) (fun c5 => ?_) (fun c5 => ?_)
    · have h := if_f h c5
      exact wk_10_isThereOf_24 C X hW h (lv_sub hl [] rfl)
    · have h := if_t h c5
      refine lv_iconst (v := 1) C.1 C.2.1 dX10_isThereOf_20 (by decide) ?_
      refine lv_goto (tgt := 25) C.1 C.2.1 dX10_isThereOf_21 (by decide) ?_
      exact wk_10_isThereOf_25 C X hW h (lv_sub hl [] rfl)
end
theorem dX10_shareOf_0 : decode cX10_shareOf 0 = .ok (.aload_n 0, 1) := by decide +kernel
theorem dX10_shareOf_1 : decode cX10_shareOf 1 = .ok (.iload_n 1, 1) := by decide +kernel
theorem dX10_shareOf_2 : decode cX10_shareOf 2 = .ok (.invokevirtual 114, 3) := by decide +kernel
theorem dX10_shareOf_5 : decode cX10_shareOf 5 = .ok (.aload_n 0, 1) := by decide +kernel
theorem dX10_shareOf_6 : decode cX10_shareOf 6 = .ok (.getfield 27, 3) := by decide +kernel
theorem dX10_shareOf_9 : decode cX10_shareOf 9 = .ok (.iload_n 2, 1) := by decide +kernel
theorem dX10_shareOf_10 : decode cX10_shareOf 10 = .ok (.iaload, 1) := by decide +kernel
theorem dX10_shareOf_11 : decode cX10_shareOf 11 = .ok (.ireturn, 1) := by decide +kernel
theorem kd_10_shareOf : Cond.code yX10_shareOf cX10_shareOf 3 (some .int) ∈ lw_g := mt_at 599 (by decide +kernel) rfl
theorem ki_10_shareOf : Cond.instanceMethod yX10_shareOf ∈ lw_g := mt_at 597 (by decide +kernel) rfl
theorem kl_10_shareOf : Cond.selects (kRn 10) yX10_shareOf yX10_shareOf ∈ lw_g := mt_at 598 (by decide +kernel) rfl
section
variable {p : Program} {l : Launch} {e : Env} {R : Room} {s : State} {m : MethodId} {args : Array Value} {below : List Frame} {meth : Method} {c : Code} {D : cG} {S0 S9 : cSt} {r : Int32}
noncomputable def fk_10_shareOf (S : cSt) (v0 : Nat) (v1 : Int32) (v2 : Int32) : Option (Int32 × cSt) :=
ckk S v0 11 (bd (fk_10_findShares S v0 v1) fun S1 =>
ckk S1 v0 11 (bd (kR S1 v0 6) fun a2 =>
ckk S1 a2 20 (ck v2 (kL S1 a2) (
some (kI S1 a2 (Int32.toNatClampNeg v2), S1)))))
set_option maxRecDepth 100000 in
set_option maxHeartbeats 4000000 in
theorem tk_10_shareOf (l : Launch) {D : cG} {S : cSt} {v0 : Nat} {v1 : Int32} {v2 : Int32} {r : Int32} {S9 : cSt} (h : fk_10_shareOf S v0 v1 v2 = some (r, S9)) : Met l yX10_shareOf (Cond.code yX10_shareOf cX10_shareOf 3 (some .int) :: lw_g) { frames := 2, cells := 0, slots := 0, locals := 45 } (kPi [.ref v0, .int v1, .int v2] D S) (kW (some (.int r)) D S S9) 0 0 (cA S) := by
  refine Met.ofW (cc := cX10_shareOf) (maxL := 3) (ret := (some .int)) (by decide) rfl ?_
  intro p e s m args below meth c s₁ B hml hv
  obtain ⟨rfl, hW, X⟩ := hv
  have C : cY p (headSpec (Cond.code yX10_shareOf cX10_shareOf 3 (some .int) :: lw_g) { frames := 2, cells := 0, slots := 0, locals := 45 }).room s m _ meth c RX10 cX10_shareOf 3 2 0 0 45 (some .int) := ⟨B.exec, B.bytes, hml, findClass_of_methodNamed B.named, fun w hw => atoms_spec (ws := Cond.code yX10_shareOf cX10_shareOf 3 (some .int) :: lw_g) B.pre w (List.mem_cons_of_mem _ hw), ⟨Nat.le_refl _, Nat.le_refl _, Nat.le_refl _, Nat.le_refl _⟩, B.returns, B.notSynchronized⟩
  have hl := lv_entry ([.ref v0, .int v1, .int v2]) (n := 3) (Nat.le_of_ble_eq_true rfl)
  rw [lg_entry_eq]
  generalize (lg_sl ([.ref v0, .int v1, .int v2]) ++ List.replicate (3 - (lg_sl ([.ref v0, .int v1, .int v2])).length) Slot.unset).toArray = ls at hl ⊢
  have hl : lv_has ls 3 [(0, .ref v0), (1, .int v1), (2, .int v2)] := hl
  have hJ : cJ D S s.heap S s.heap [] := cJ.rf hW
  unfold fk_10_shareOf at h
  refine lv_aload_n C.1 C.2.1 dX10_shareOf_0 rfl (lv_at hl 0 rfl) ?_
  refine lv_iload_n C.1 C.2.1 dX10_shareOf_1 rfl (lv_at hl 1 rfl) ?_
  obtain ⟨hk, h⟩ := ckk_ok h
  obtain ⟨S1, h_S1, h⟩ := bd_ok h
  refine c_callW (rest := []) C X hJ hl.1 10 (by decide) hk [.int v1] (tk_10_findShares l h_S1) cw10_114 ki_10_findShares kl_10_findShares rfl ⟨by decide, by decide⟩ ⟨(by decide), (by decide)⟩ rfl (Nat.le_of_ble_eq_true rfl) dX10_shareOf_2 (fun H locs hJ => ?_)
  refine W.eq (g2 := F0 m 5 ls []) rfl ?_
  refine lv_aload_n C.1 C.2.1 dX10_shareOf_5 rfl (lv_at hl 0 rfl) ?_
  obtain ⟨hk, h⟩ := ckk_ok h
  obtain ⟨a2, h_a2, h⟩ := bd_ok h
  refine gk10_27 C X hJ.1 hk h_a2 dX10_shareOf_6 ?_
  refine lv_iload_n C.1 C.2.1 dX10_shareOf_9 rfl (lv_at hl 2 rfl) ?_
  obtain ⟨hk, h⟩ := ckk_ok h
  obtain ⟨hin2, h⟩ := ck_ok h
  refine c_iald C X hJ.1 hk hin2 dX10_shareOf_10 ?_
  cases h
  exact c_retiW C hJ dX10_shareOf_11
end
