-- made by wip/whole/gen12.py: 5_isFull, 5_at, 5_open, 5_remove, 6_init, 6_add, 6_read, 10_init, 7_init, 7_timeNow, 7_knownOf, 7_hasRoomFor, 107_checkLength_df160, 107_copyOfRangeInt_feecc, 107_copyOfRange_feecc, 8_chainFor, 8_init
theorem dX5_isFull_0 : decode cX5_isFull 0 = .ok (.aload_n 0, 1) := by decide +kernel
theorem dX5_isFull_1 : decode cX5_isFull 1 = .ok (.getfield 9, 3) := by decide +kernel
theorem dX5_isFull_4 : decode cX5_isFull 4 = .ok (.bipush 60, 2) := by decide +kernel
theorem dX5_isFull_6 : decode cX5_isFull 6 = .ok (.if_icmp .lt 7, 3) := by decide +kernel
theorem dX5_isFull_9 : decode cX5_isFull 9 = .ok (.iconst 1, 1) := by decide +kernel
theorem dX5_isFull_10 : decode cX5_isFull 10 = .ok (.goto 4, 3) := by decide +kernel
theorem dX5_isFull_13 : decode cX5_isFull 13 = .ok (.iconst 0, 1) := by decide +kernel
theorem dX5_isFull_14 : decode cX5_isFull 14 = .ok (.ireturn, 1) := by decide +kernel
theorem kd_5_isFull : Cond.code yX5_isFull cX5_isFull 1 (some .boolean) ∈ lw_g := mt_at 1254 (by decide +kernel) rfl
theorem ki_5_isFull : Cond.instanceMethod yX5_isFull ∈ lw_g := mt_at 1252 (by decide +kernel) rfl
theorem kl_5_isFull : Cond.selects (kRn 5) yX5_isFull yX5_isFull ∈ lw_g := mt_at 1253 (by decide +kernel) rfl
section
variable {p : Program} {l : Launch} {e : Env} {R : Room} {s : State} {m : MethodId} {args : Array Value} {below : List Frame} {meth : Method} {c : Code} {H : Heap} {locs : List Loc} {cells slots : Nat} {Q : State → Prop}
variable {D : cG} {S S0 : cSt} {cc : ByteArray} {nL : Nat} {pc : Nat} {ls : Array Slot} {rest : List Value} {H0 : Heap} {nF nR nC nS : Nat} {ret : Option FieldType} {a : Nat}
theorem gk5_9 (C : cY p R s m args meth c RX5 cc nL nF nC nS nR ret) (X : cX D s) (hW : cW D S H) (hk : kK S a = 6) (hdg : decode cc pc = .ok (.getfield 9, 3)) (kk : W p l e R s m args below meth c H locs cells slots Q (F0 m (pc + 3) ls (.int (kF S a 0) :: rest))) : W p l e R s m args below meth c H locs cells slots Q (F0 m pc ls (.ref a :: rest)) := c_get C X hW 5 (by decide) ly_5 hk 0 (by decide) (mt_at 104 (by decide +kernel) (by decide +kernel)) hdg (by rw [cV_I (by decide +kernel)]; exact kk)
end
section
variable {p : Program} {l : Launch} {e : Env} {R : Room} {s : State} {m : MethodId} {args : Array Value} {below : List Frame} {meth : Method} {c : Code} {D : cG} {S : cSt} {r : Int32}
noncomputable def fk_5_isFull_14 (S : cSt) (s0 : Int32) : Option (Int32) :=
ckz s0 (some s0)
set_option maxRecDepth 100000 in
set_option maxHeartbeats 4000000 in
theorem wk_5_isFull_14 (C : cY p R s m args meth c RX5 cX5_isFull 1 0 0 0 0 (some .boolean)) (X : cX D s) (hW : cW D S s.heap) : ∀ {s0 : Int32} {ls : Array Slot}, fk_5_isFull_14 S s0 = some r → lv_has ls 1 [] → W p l e R s m args below meth c s.heap [] 0 0 (MQ below (kQ (some (.int r))) args s 0 0 mNo) (F0 m 14 ls [.int s0]) := by
  intro s0 ls h hl
  unfold fk_5_isFull_14 at h
  obtain ⟨hzo, h⟩ := ckz_ok h
  cases h
  exact c_retn C (by rcases hzo with h9 | h9 <;> (rw [h9]; rfl)) rfl rfl dX5_isFull_14
noncomputable def fk_5_isFull (S : cSt) (v0 : Nat) : Option (Int32) :=
ckk S v0 6 (
if (kF S v0 0) < (60 : Int32) then (
fk_5_isFull_14 S (0 : Int32))
else (
fk_5_isFull_14 S (1 : Int32)))
set_option maxRecDepth 100000 in
set_option maxHeartbeats 4000000 in
theorem tk_5_isFull (l : Launch) {D : cG} {S : cSt} {v0 : Nat} {r : Int32}  (h : fk_5_isFull S v0 = some r) : Met l yX5_isFull (Cond.code yX5_isFull cX5_isFull 1 (some .boolean) :: lw_g) { frames := 0, cells := 0, slots := 0, locals := 0 } (kPi [.ref v0] D S) (kQ (some (.int r))) 0 0 (mNo) := by
  refine Met.ofW (cc := cX5_isFull) (maxL := 1) (ret := (some .boolean)) (by decide) rfl ?_
  intro p e s m args below meth c s₁ B hml hv
  obtain ⟨rfl, hW, X⟩ := hv
  have C : cY p (headSpec (Cond.code yX5_isFull cX5_isFull 1 (some .boolean) :: lw_g) { frames := 0, cells := 0, slots := 0, locals := 0 }).room s m _ meth c RX5 cX5_isFull 1 0 0 0 0 (some .boolean) := ⟨B.exec, B.bytes, hml, findClass_of_methodNamed B.named, fun w hw => atoms_spec (ws := Cond.code yX5_isFull cX5_isFull 1 (some .boolean) :: lw_g) B.pre w (List.mem_cons_of_mem _ hw), ⟨Nat.le_refl _, Nat.le_refl _, Nat.le_refl _, Nat.le_refl _⟩, B.returns, B.notSynchronized⟩
  have hl := lv_entry ([.ref v0]) (n := 1) (Nat.le_of_ble_eq_true rfl)
  rw [lg_entry_eq]
  generalize (lg_sl ([.ref v0]) ++ List.replicate (1 - (lg_sl ([.ref v0])).length) Slot.unset).toArray = ls at hl ⊢
  have hl : lv_has ls 1 [(0, .ref v0)] := hl
  unfold fk_5_isFull at h
  refine lv_aload_n C.1 C.2.1 dX5_isFull_0 rfl (lv_at hl 0 rfl) ?_
  obtain ⟨hk, h⟩ := ckk_ok h
  refine gk5_9 C X hW hk dX5_isFull_1 ?_
  refine lv_bipush (v := 60) C.1 C.2.1 dX5_isFull_4 (by decide) ?_
  refine lv_icmp_lt (tgt := 13) C.1 C.2.1 dX5_isFull_6 (by decide) (fun c1 => ?_) (fun c1 => ?_)
  · have h := if_t h c1
    refine lv_iconst (v := 0) C.1 C.2.1 dX5_isFull_13 (by decide) ?_
    exact wk_5_isFull_14 C X hW h (lv_sub hl [] rfl)
  · have h := if_f h c1
    refine lv_iconst (v := 1) C.1 C.2.1 dX5_isFull_9 (by decide) ?_
    refine lv_goto (tgt := 14) C.1 C.2.1 dX5_isFull_10 (by decide) ?_
    exact wk_5_isFull_14 C X hW h (lv_sub hl [] rfl)
end
theorem dX5_at_0 : decode cX5_at 0 = .ok (.iload_n 1, 1) := by decide +kernel
theorem dX5_at_1 : decode cX5_at 1 = .ok (.ifCond .lt 20, 3) := by decide +kernel
theorem dX5_at_4 : decode cX5_at 4 = .ok (.iload_n 1, 1) := by decide +kernel
theorem dX5_at_5 : decode cX5_at 5 = .ok (.aload_n 0, 1) := by decide +kernel
theorem dX5_at_6 : decode cX5_at 6 = .ok (.getfield 9, 3) := by decide +kernel
theorem dX5_at_9 : decode cX5_at 9 = .ok (.if_icmp .ge 12, 3) := by decide +kernel
theorem dX5_at_12 : decode cX5_at 12 = .ok (.aload_n 0, 1) := by decide +kernel
theorem dX5_at_13 : decode cX5_at 13 = .ok (.getfield 23, 3) := by decide +kernel
theorem dX5_at_16 : decode cX5_at 16 = .ok (.iload_n 1, 1) := by decide +kernel
theorem dX5_at_17 : decode cX5_at 17 = .ok (.aaload, 1) := by decide +kernel
theorem dX5_at_18 : decode cX5_at 18 = .ok (.goto 4, 3) := by decide +kernel
theorem dX5_at_21 : decode cX5_at 21 = .ok (.aconst_null, 1) := by decide +kernel
theorem dX5_at_22 : decode cX5_at 22 = .ok (.areturn, 1) := by decide +kernel
theorem kd_5_at : Cond.code yX5_at cX5_at 2 (some (.object "AccordHouse$Frame")) ∈ lw_g := mt_at 1338 (by decide +kernel) rfl
theorem ki_5_at : Cond.instanceMethod yX5_at ∈ lw_g := mt_at 1336 (by decide +kernel) rfl
theorem kl_5_at : Cond.selects (kRn 5) yX5_at yX5_at ∈ lw_g := mt_at 1337 (by decide +kernel) rfl
section
variable {p : Program} {l : Launch} {e : Env} {R : Room} {s : State} {m : MethodId} {args : Array Value} {below : List Frame} {meth : Method} {c : Code} {H : Heap} {locs : List Loc} {cells slots : Nat} {Q : State → Prop}
variable {D : cG} {S S0 : cSt} {cc : ByteArray} {nL : Nat} {pc : Nat} {ls : Array Slot} {rest : List Value} {H0 : Heap} {nF nR nC nS : Nat} {ret : Option FieldType} {a : Nat}
theorem gk5_23 (C : cY p R s m args meth c RX5 cc nL nF nC nS nR ret) (X : cX D s) (hW : cW D S H) (hk : kK S a = 6) {x : Nat} (hx : kR S a 3 = some x) (hdg : decode cc pc = .ok (.getfield 23, 3)) (kk : W p l e R s m args below meth c H locs cells slots Q (F0 m (pc + 3) ls (.ref x :: rest))) : W p l e R s m args below meth c H locs cells slots Q (F0 m pc ls (.ref a :: rest)) := c_get C X hW 5 (by decide) ly_5 hk 3 (by decide) (mt_at 110 (by decide +kernel) (by decide +kernel)) hdg (by rw [cV_R (by decide +kernel) hx]; exact kk)
end
section
variable {p : Program} {l : Launch} {e : Env} {R : Room} {s : State} {m : MethodId} {args : Array Value} {below : List Frame} {meth : Method} {c : Code} {D : cG} {S : cSt} {r : Option Nat}
noncomputable def fk_5_at_22 (S : cSt) (s0 : Option Nat) : Option (Option Nat) :=
some s0
set_option maxRecDepth 100000 in
set_option maxHeartbeats 4000000 in
theorem wk_5_at_22 (C : cY p R s m args meth c RX5 cX5_at 2 0 0 0 0 (some (.object "AccordHouse$Frame"))) (X : cX D s) (hW : cW D S s.heap) : ∀ {s0 : Option Nat} {ls : Array Slot}, fk_5_at_22 S s0 = some r → lv_has ls 2 [] → W p l e R s m args below meth c s.heap [] 0 0 (MQ below (kQ (some (va_rf r))) args s 0 0 mNo) (F0 m 22 ls [va_rf s0]) := by
  intro s0 ls h hl
  unfold fk_5_at_22 at h
  cases h
  exact c_reta C rfl rfl dX5_at_22
noncomputable def fk_5_at_21 (S : cSt) : Option (Option Nat) :=
fk_5_at_22 S none
set_option maxRecDepth 100000 in
set_option maxHeartbeats 4000000 in
theorem wk_5_at_21 (C : cY p R s m args meth c RX5 cX5_at 2 0 0 0 0 (some (.object "AccordHouse$Frame"))) (X : cX D s) (hW : cW D S s.heap) : ∀ {ls : Array Slot}, fk_5_at_21 S = some r → lv_has ls 2 [] → W p l e R s m args below meth c s.heap [] 0 0 (MQ below (kQ (some (va_rf r))) args s 0 0 mNo) (F0 m 21 ls []) := by
  intro ls h hl
  unfold fk_5_at_21 at h
  refine lv_null C.1 C.2.1 dX5_at_21 ?_
  exact wk_5_at_22 C X hW h (lv_sub hl [] rfl)
noncomputable def fk_5_at (S : cSt) (v0 : Nat) (v1 : Int32) : Option (Option Nat) :=
if v1 < 0 then (
fk_5_at_21 S)
else (
ckk S v0 6 (
if (kF S v0 0) ≤ v1 then (
fk_5_at_21 S)
else (
ckk S v0 6 (bd (kR S v0 3) fun a3 =>
ckk S a3 32 (ck v1 (kL S a3) (lt (kO S a3 (Int32.toNatClampNeg v1)) fun o4 =>
fk_5_at_22 S o4))))))
set_option maxRecDepth 100000 in
set_option maxHeartbeats 4000000 in
theorem tk_5_at (l : Launch) {D : cG} {S : cSt} {v0 : Nat} {v1 : Int32} {r : Option Nat}  (h : fk_5_at S v0 v1 = some r) : Met l yX5_at (Cond.code yX5_at cX5_at 2 (some (.object "AccordHouse$Frame")) :: lw_g) { frames := 0, cells := 0, slots := 0, locals := 0 } (kPi [.ref v0, .int v1] D S) (kQ (some (va_rf r))) 0 0 (mNo) := by
  refine Met.ofW (cc := cX5_at) (maxL := 2) (ret := (some (.object "AccordHouse$Frame"))) (by decide) rfl ?_
  intro p e s m args below meth c s₁ B hml hv
  obtain ⟨rfl, hW, X⟩ := hv
  have C : cY p (headSpec (Cond.code yX5_at cX5_at 2 (some (.object "AccordHouse$Frame")) :: lw_g) { frames := 0, cells := 0, slots := 0, locals := 0 }).room s m _ meth c RX5 cX5_at 2 0 0 0 0 (some (.object "AccordHouse$Frame")) := ⟨B.exec, B.bytes, hml, findClass_of_methodNamed B.named, fun w hw => atoms_spec (ws := Cond.code yX5_at cX5_at 2 (some (.object "AccordHouse$Frame")) :: lw_g) B.pre w (List.mem_cons_of_mem _ hw), ⟨Nat.le_refl _, Nat.le_refl _, Nat.le_refl _, Nat.le_refl _⟩, B.returns, B.notSynchronized⟩
  have hl := lv_entry ([.ref v0, .int v1]) (n := 2) (Nat.le_of_ble_eq_true rfl)
  rw [lg_entry_eq]
  generalize (lg_sl ([.ref v0, .int v1]) ++ List.replicate (2 - (lg_sl ([.ref v0, .int v1])).length) Slot.unset).toArray = ls at hl ⊢
  have hl : lv_has ls 2 [(0, .ref v0), (1, .int v1)] := hl
  unfold fk_5_at at h
  refine lv_iload_n C.1 C.2.1 dX5_at_0 rfl (lv_at hl 1 rfl) ?_
  refine lv_if_lt (tgt := 21) C.1 C.2.1 dX5_at_1 (by decide) (fun c1 => ?_) (fun c1 => ?_)
  · have h := if_t h c1
    exact wk_5_at_21 C X hW h (lv_sub hl [] rfl)
  · have h := if_f h c1
    refine lv_iload_n C.1 C.2.1 dX5_at_4 rfl (lv_at hl 1 rfl) ?_
    refine lv_aload_n C.1 C.2.1 dX5_at_5 rfl (lv_at hl 0 rfl) ?_
    obtain ⟨hk, h⟩ := ckk_ok h
    refine gk5_9 C X hW hk dX5_at_6 ?_
    refine lv_icmp_ge (tgt := 21) C.1 C.2.1 dX5_at_9 (by decide) (fun c2 => ?_) (fun c2 => ?_)
    · have h := if_t h c2
      exact wk_5_at_21 C X hW h (lv_sub hl [] rfl)
    · have h := if_f h c2
      refine lv_aload_n C.1 C.2.1 dX5_at_12 rfl (lv_at hl 0 rfl) ?_
      obtain ⟨hk, h⟩ := ckk_ok h
      obtain ⟨a3, h_a3, h⟩ := bd_ok h
      refine gk5_23 C X hW hk h_a3 dX5_at_13 ?_
      refine lv_iload_n C.1 C.2.1 dX5_at_16 rfl (lv_at hl 1 rfl) ?_
      obtain ⟨hk, h⟩ := ckk_ok h
      obtain ⟨hin2, h⟩ := ck_ok h
      refine c_aald C 32 (by decide) X.2.2.2.2.2.2.1 hW hk hin2 dX5_at_17 ?_
      refine lt_ok h (fun o4 e_o4 h => ?_)
      refine lv_nmq e_o4 ?_
      refine lv_goto (tgt := 22) C.1 C.2.1 dX5_at_18 (by decide) ?_
      exact wk_5_at_22 C X hW h (lv_sub hl [] rfl)
end
theorem dX5_open_0 : decode cX5_open 0 = .ok (.aload_n 0, 1) := by decide +kernel
theorem dX5_open_1 : decode cX5_open 1 = .ok (.getfield 23, 3) := by decide +kernel
theorem dX5_open_4 : decode cX5_open 4 = .ok (.aload_n 0, 1) := by decide +kernel
theorem dX5_open_5 : decode cX5_open 5 = .ok (.getfield 9, 3) := by decide +kernel
theorem dX5_open_8 : decode cX5_open 8 = .ok (.aaload, 1) := by decide +kernel
theorem dX5_open_9 : decode cX5_open 9 = .ok (.ifnonnull 19, 3) := by decide +kernel
theorem dX5_open_12 : decode cX5_open 12 = .ok (.aload_n 0, 1) := by decide +kernel
theorem dX5_open_13 : decode cX5_open 13 = .ok (.getfield 23, 3) := by decide +kernel
theorem dX5_open_16 : decode cX5_open 16 = .ok (.aload_n 0, 1) := by decide +kernel
theorem dX5_open_17 : decode cX5_open 17 = .ok (.getfield 9, 3) := by decide +kernel
theorem dX5_open_20 : decode cX5_open 20 = .ok (.new 21, 3) := by decide +kernel
theorem dX5_open_23 : decode cX5_open 23 = .ok (.dup, 1) := by decide +kernel
theorem dX5_open_24 : decode cX5_open 24 = .ok (.invokespecial 27, 3) := by decide +kernel
theorem dX5_open_27 : decode cX5_open 27 = .ok (.aastore, 1) := by decide +kernel
theorem dX5_open_28 : decode cX5_open 28 = .ok (.aload_n 0, 1) := by decide +kernel
theorem dX5_open_29 : decode cX5_open 29 = .ok (.dup, 1) := by decide +kernel
theorem dX5_open_30 : decode cX5_open 30 = .ok (.getfield 9, 3) := by decide +kernel
theorem dX5_open_33 : decode cX5_open 33 = .ok (.iconst 1, 1) := by decide +kernel
theorem dX5_open_34 : decode cX5_open 34 = .ok (.iadd, 1) := by decide +kernel
theorem dX5_open_35 : decode cX5_open 35 = .ok (.putfield 9, 3) := by decide +kernel
theorem dX5_open_38 : decode cX5_open 38 = .ok (.aload_n 0, 1) := by decide +kernel
theorem dX5_open_39 : decode cX5_open 39 = .ok (.getfield 23, 3) := by decide +kernel
theorem dX5_open_42 : decode cX5_open 42 = .ok (.aload_n 0, 1) := by decide +kernel
theorem dX5_open_43 : decode cX5_open 43 = .ok (.getfield 9, 3) := by decide +kernel
theorem dX5_open_46 : decode cX5_open 46 = .ok (.iconst 1, 1) := by decide +kernel
theorem dX5_open_47 : decode cX5_open 47 = .ok (.isub, 1) := by decide +kernel
theorem dX5_open_48 : decode cX5_open 48 = .ok (.aaload, 1) := by decide +kernel
theorem dX5_open_49 : decode cX5_open 49 = .ok (.areturn, 1) := by decide +kernel
theorem kd_5_open : Cond.code yX5_open cX5_open 1 (some (.object "AccordHouse$Frame")) ∈ lw_g := mt_at 1262 (by decide +kernel) rfl
theorem ki_5_open : Cond.instanceMethod yX5_open ∈ lw_g := mt_at 1260 (by decide +kernel) rfl
theorem kl_5_open : Cond.selects (kRn 5) yX5_open yX5_open ∈ lw_g := mt_at 1261 (by decide +kernel) rfl
theorem cw5_27 : cCn RX5 27 yX2_init "AccordHouse" cX2_init 1 none 0 := ⟨kd_2_init, by decide +kernel, mt_at 30 (by decide +kernel) rfl, by decide +kernel⟩
section
variable {p : Program} {l : Launch} {e : Env} {R : Room} {s : State} {m : MethodId} {args : Array Value} {below : List Frame} {meth : Method} {c : Code} {H : Heap} {locs : List Loc} {cells slots : Nat} {Q : State → Prop}
variable {D : cG} {S S0 : cSt} {cc : ByteArray} {nL : Nat} {pc : Nat} {ls : Array Slot} {rest : List Value} {H0 : Heap} {nF nR nC nS : Nat} {ret : Option FieldType} {a : Nat}
theorem nk5_21 (C : cY p R s m args meth c RX5 cc nL nF nC nS nR ret) (X : cX D s) (hJ : cJ D S0 H0 S H locs) (hce : cells + 1 ≤ nC) (hsl : slots + 11 ≤ nS) (hdg : decode cc pc = .ok (.new 21, 3)) (kk : ∀ (H1 : Heap), cJ D S0 H0 (cNw S 3 0) H1 locs → W p l e R s m args below meth c H1 locs (cells + 1) (slots + 11) Q (F0 m (pc + 3) ls (.ref (kZ S) :: rest))) : W p l e R s m args below meth c H locs cells slots Q (F0 m pc ls (rest)) := c_new C X hJ 2 (by decide) ly_2 (fun j hj => by match j, hj with | 0, _ => rfl | 1, _ => rfl | 2, _ => rfl | 3, _ => rfl | 4, _ => rfl | 5, _ => rfl | 6, _ => rfl | 7, _ => rfl | 8, _ => rfl | 9, _ => rfl | 10, _ => rfl) (mt_at 102 (by decide +kernel) rfl) (mt_at 1263 (by decide +kernel) rfl) (mt_at 30 (by decide +kernel) rfl) hce hsl hdg kk
end
section
variable {p : Program} {l : Launch} {e : Env} {R : Room} {s : State} {m : MethodId} {args : Array Value} {below : List Frame} {meth : Method} {c : Code} {D : cG} {S0 S9 : cSt} {r : Option Nat}
noncomputable def fk_5_open_28 (S : cSt) (v0 : Nat) : Option ((Option Nat) × cSt) :=
ckk S v0 6 (
ckk S v0 6 (lt (cPi S v0 0 ((kF S v0 0) + (1 : Int32))) fun S1 =>
ckk S1 v0 6 (bd (kR S1 v0 3) fun a2 =>
ckk S1 v0 6 (
ckk S1 a2 32 (ck ((kF S1 v0 0) - (1 : Int32)) (kL S1 a2) (lt (kO S1 a2 (Int32.toNatClampNeg ((kF S1 v0 0) - (1 : Int32)))) fun o3 =>
some (o3, S1)))))))
set_option maxRecDepth 100000 in
set_option maxHeartbeats 4000000 in
theorem wk_5_open_28 (C : cY p R s m args meth c RX5 cX5_open 1 3 6 39 80 (some (.object "AccordHouse$Frame"))) (X : cX D s) : ∀ {S : cSt} {v0 : Nat} {H : Heap} {locs : List Loc} {ls : Array Slot}, fk_5_open_28 S v0 = some (r, S9) → cJ D S0 s.heap S H locs → lv_has ls 1 [(0, .ref v0)] → W p l e R s m args below meth c H locs 6 39 (MQ below (kW (some (va_rf r)) D S0 S9) args s 6 39 (cA S0)) (F0 m 28 ls []) := by
  intro S v0 H locs ls h hJ hl
  unfold fk_5_open_28 at h
  refine lv_aload_n C.1 C.2.1 dX5_open_28 rfl (lv_at hl 0 rfl) ?_
  refine lv_dup C.1 C.2.1 dX5_open_29 rfl ?_
  obtain ⟨hk, h⟩ := ckk_ok h
  refine gk5_9 C X hJ.1 hk dX5_open_30 ?_
  refine lv_iconst (v := 1) C.1 C.2.1 dX5_open_33 (by decide) ?_
  refine lv_iadd C.1 C.2.1 dX5_open_34 ?_
  obtain ⟨hk, h⟩ := ckk_ok h
  refine pk5_9 C X hJ hk dX5_open_35 (fun H locs hJ => ?_)
  refine lt_ok h (fun S1 e_S1 h => ?_)
  rw [e_S1] at hJ
  refine lv_aload_n C.1 C.2.1 dX5_open_38 rfl (lv_at hl 0 rfl) ?_
  obtain ⟨hk, h⟩ := ckk_ok h
  obtain ⟨a2, h_a2, h⟩ := bd_ok h
  refine gk5_23 C X hJ.1 hk h_a2 dX5_open_39 ?_
  refine lv_aload_n C.1 C.2.1 dX5_open_42 rfl (lv_at hl 0 rfl) ?_
  obtain ⟨hk, h⟩ := ckk_ok h
  refine gk5_9 C X hJ.1 hk dX5_open_43 ?_
  refine lv_iconst (v := 1) C.1 C.2.1 dX5_open_46 (by decide) ?_
  refine lv_isub C.1 C.2.1 dX5_open_47 ?_
  obtain ⟨hk, h⟩ := ckk_ok h
  obtain ⟨hin2, h⟩ := ck_ok h
  refine c_aald C 32 (by decide) X.2.2.2.2.2.2.1 hJ.1 hk hin2 dX5_open_48 ?_
  refine lt_ok h (fun o3 e_o3 h => ?_)
  refine lv_nmq e_o3 ?_
  cases h
  exact c_retaW C hJ dX5_open_49
noncomputable def fk_5_open (S : cSt) (v0 : Nat) : Option ((Option Nat) × cSt) :=
ckk S v0 6 (bd (kR S v0 3) fun a1 =>
ckk S v0 6 (
ckk S a1 32 (ck (kF S v0 0) (kL S a1) (lt (kO S a1 (Int32.toNatClampNeg (kF S v0 0))) fun o2 =>
cs o2 (
ckk S v0 6 (bd (kR S v0 3) fun a4 =>
ckk S v0 6 (
lt (kZ S) fun a6 => lt (cNw S 3 0) fun S5 =>
bd (fk_2_init S5 a6) fun S7 =>
ckk S7 a4 32 (ck (kF S v0 0) (kL S7 a4) (ckq S7 (some a6) 3 (lt (cWo S7 a4 (Int32.toNatClampNeg (kF S v0 0)) (some a6)) fun S8 =>
fk_5_open_28 S8 v0)))))) (fun a3 =>
fk_5_open_28 S v0)))))
set_option maxRecDepth 100000 in
set_option maxHeartbeats 4000000 in
theorem tk_5_open (l : Launch) {D : cG} {S : cSt} {v0 : Nat} {r : Option Nat} {S9 : cSt} (h : fk_5_open S v0 = some (r, S9)) : Met l yX5_open (Cond.code yX5_open cX5_open 1 (some (.object "AccordHouse$Frame")) :: lw_g) { frames := 3, cells := 6, slots := 39, locals := 80 } (kPi [.ref v0] D S) (kW (some (va_rf r)) D S S9) 6 39 (cA S) := by
  refine Met.ofW (cc := cX5_open) (maxL := 1) (ret := (some (.object "AccordHouse$Frame"))) (by decide) rfl ?_
  intro p e s m args below meth c s₁ B hml hv
  obtain ⟨rfl, hW, X⟩ := hv
  have C : cY p (headSpec (Cond.code yX5_open cX5_open 1 (some (.object "AccordHouse$Frame")) :: lw_g) { frames := 3, cells := 6, slots := 39, locals := 80 }).room s m _ meth c RX5 cX5_open 1 3 6 39 80 (some (.object "AccordHouse$Frame")) := ⟨B.exec, B.bytes, hml, findClass_of_methodNamed B.named, fun w hw => atoms_spec (ws := Cond.code yX5_open cX5_open 1 (some (.object "AccordHouse$Frame")) :: lw_g) B.pre w (List.mem_cons_of_mem _ hw), ⟨Nat.le_refl _, Nat.le_refl _, Nat.le_refl _, Nat.le_refl _⟩, B.returns, B.notSynchronized⟩
  have hl := lv_entry ([.ref v0]) (n := 1) (Nat.le_of_ble_eq_true rfl)
  rw [lg_entry_eq]
  generalize (lg_sl ([.ref v0]) ++ List.replicate (1 - (lg_sl ([.ref v0])).length) Slot.unset).toArray = ls at hl ⊢
  have hl : lv_has ls 1 [(0, .ref v0)] := hl
  have hJ : cJ D S s.heap S s.heap [] := cJ.rf hW
  unfold fk_5_open at h
  refine lv_aload_n C.1 C.2.1 dX5_open_0 rfl (lv_at hl 0 rfl) ?_
  obtain ⟨hk, h⟩ := ckk_ok h
  obtain ⟨a1, h_a1, h⟩ := bd_ok h
  refine gk5_23 C X hJ.1 hk h_a1 dX5_open_1 ?_
  refine lv_aload_n C.1 C.2.1 dX5_open_4 rfl (lv_at hl 0 rfl) ?_
  obtain ⟨hk, h⟩ := ckk_ok h
  refine gk5_9 C X hJ.1 hk dX5_open_5 ?_
  obtain ⟨hk, h⟩ := ckk_ok h
  obtain ⟨hin2, h⟩ := ck_ok h
  refine c_aald C 32 (by decide) X.2.2.2.2.2.2.1 hJ.1 hk hin2 dX5_open_8 ?_
  refine lt_ok h (fun o2 e_o2 h => ?_)
  refine lv_nmq e_o2 ?_
  rcases o2 with _ | a3
  · replace h := cs_n h
    refine lv_ifnonnullN C.1 C.2.1 dX5_open_9 ?_
    refine lv_aload_n C.1 C.2.1 dX5_open_12 rfl (lv_at hl 0 rfl) ?_
    obtain ⟨hk, h⟩ := ckk_ok h
    obtain ⟨a4, h_a4, h⟩ := bd_ok h
    refine gk5_23 C X hJ.1 hk h_a4 dX5_open_13 ?_
    refine lv_aload_n C.1 C.2.1 dX5_open_16 rfl (lv_at hl 0 rfl) ?_
    obtain ⟨hk, h⟩ := ckk_ok h
    refine gk5_9 C X hJ.1 hk dX5_open_17 ?_
    refine nk5_21 C X hJ (by decide) (by decide) dX5_open_20 (fun H hJ => ?_)
    refine lt_ok h (fun a6 e_a6 h => ?_)
    refine lt_ok h (fun S5 e_S5 h => ?_)
    rw [e_S5] at hJ
    rw [e_a6]
    refine lv_dup C.1 C.2.1 dX5_open_23 rfl ?_
    obtain ⟨S7, h_S7, h⟩ := bd_ok h
    refine c_callIN (rest := [.ref a6, .int (kF S v0 0), .ref a4]) C X hJ hl.1 [] (tk_2_init l h_S7) cw5_27 ki_2_init rfl rfl ⟨by decide, by decide⟩ ⟨(by decide), (by decide)⟩ rfl (Nat.le_of_ble_eq_true rfl) dX5_open_24 (fun H locs hJ => ?_)
    refine W.eq (g2 := F0 m 27 ls [.ref a6, .int (kF S v0 0), .ref a4]) rfl ?_
    obtain ⟨hk, h⟩ := ckk_ok h
    obtain ⟨hin2, h⟩ := ck_ok h
    obtain ⟨hkv, h⟩ := ckq_ok h
    refine c_aastq (o := (some a6)) C X 32 2 (by decide) (by decide) X.2.2.2.2.2.2.1 hJ hk hkv hin2 dX5_open_27 (fun H locs hJ => ?_)
    refine lt_ok h (fun S8 e_S8 h => ?_)
    rw [e_S8] at hJ
    exact wk_5_open_28 C X h hJ (lv_sub hl [0] rfl)
  · replace h := cs_s h
    refine lv_ifnonnull (tgt := 28) C.1 C.2.1 dX5_open_9 (by decide) ?_
    refine W.widen (k := 6) (n := 39) (by decide) (by decide) ?_
    exact wk_5_open_28 C X h hJ (lv_sub hl [0] rfl)
end
theorem dX5_remove_0 : decode cX5_remove 0 = .ok (.aload_n 0, 1) := by decide +kernel
theorem dX5_remove_1 : decode cX5_remove 1 = .ok (.getfield 23, 3) := by decide +kernel
theorem dX5_remove_4 : decode cX5_remove 4 = .ok (.iload_n 1, 1) := by decide +kernel
theorem dX5_remove_5 : decode cX5_remove 5 = .ok (.aaload, 1) := by decide +kernel
theorem dX5_remove_6 : decode cX5_remove 6 = .ok (.astore_n 2, 1) := by decide +kernel
theorem dX5_remove_7 : decode cX5_remove 7 = .ok (.iload_n 1, 1) := by decide +kernel
theorem dX5_remove_8 : decode cX5_remove 8 = .ok (.istore_n 3, 1) := by decide +kernel
theorem dX5_remove_9 : decode cX5_remove 9 = .ok (.iload_n 3, 1) := by decide +kernel
theorem dX5_remove_10 : decode cX5_remove 10 = .ok (.aload_n 0, 1) := by decide +kernel
theorem dX5_remove_11 : decode cX5_remove 11 = .ok (.getfield 9, 3) := by decide +kernel
theorem dX5_remove_14 : decode cX5_remove 14 = .ok (.iconst 1, 1) := by decide +kernel
theorem dX5_remove_15 : decode cX5_remove 15 = .ok (.isub, 1) := by decide +kernel
theorem dX5_remove_16 : decode cX5_remove 16 = .ok (.if_icmp .ge 23, 3) := by decide +kernel
theorem dX5_remove_19 : decode cX5_remove 19 = .ok (.aload_n 0, 1) := by decide +kernel
theorem dX5_remove_20 : decode cX5_remove 20 = .ok (.getfield 23, 3) := by decide +kernel
theorem dX5_remove_23 : decode cX5_remove 23 = .ok (.iload_n 3, 1) := by decide +kernel
theorem dX5_remove_24 : decode cX5_remove 24 = .ok (.aload_n 0, 1) := by decide +kernel
theorem dX5_remove_25 : decode cX5_remove 25 = .ok (.getfield 23, 3) := by decide +kernel
theorem dX5_remove_28 : decode cX5_remove 28 = .ok (.iload_n 3, 1) := by decide +kernel
theorem dX5_remove_29 : decode cX5_remove 29 = .ok (.iconst 1, 1) := by decide +kernel
theorem dX5_remove_30 : decode cX5_remove 30 = .ok (.iadd, 1) := by decide +kernel
theorem dX5_remove_31 : decode cX5_remove 31 = .ok (.aaload, 1) := by decide +kernel
theorem dX5_remove_32 : decode cX5_remove 32 = .ok (.aastore, 1) := by decide +kernel
theorem dX5_remove_33 : decode cX5_remove 33 = .ok (.iinc 3 1, 3) := by decide +kernel
theorem dX5_remove_36 : decode cX5_remove 36 = .ok (.goto (-27), 3) := by decide +kernel
theorem dX5_remove_39 : decode cX5_remove 39 = .ok (.aload_n 0, 1) := by decide +kernel
theorem dX5_remove_40 : decode cX5_remove 40 = .ok (.dup, 1) := by decide +kernel
theorem dX5_remove_41 : decode cX5_remove 41 = .ok (.getfield 9, 3) := by decide +kernel
theorem dX5_remove_44 : decode cX5_remove 44 = .ok (.iconst 1, 1) := by decide +kernel
theorem dX5_remove_45 : decode cX5_remove 45 = .ok (.isub, 1) := by decide +kernel
theorem dX5_remove_46 : decode cX5_remove 46 = .ok (.putfield 9, 3) := by decide +kernel
theorem dX5_remove_49 : decode cX5_remove 49 = .ok (.aload_n 0, 1) := by decide +kernel
theorem dX5_remove_50 : decode cX5_remove 50 = .ok (.getfield 23, 3) := by decide +kernel
theorem dX5_remove_53 : decode cX5_remove 53 = .ok (.aload_n 0, 1) := by decide +kernel
theorem dX5_remove_54 : decode cX5_remove 54 = .ok (.getfield 9, 3) := by decide +kernel
theorem dX5_remove_57 : decode cX5_remove 57 = .ok (.aload_n 2, 1) := by decide +kernel
theorem dX5_remove_58 : decode cX5_remove 58 = .ok (.aastore, 1) := by decide +kernel
theorem dX5_remove_59 : decode cX5_remove 59 = .ok (.return_, 1) := by decide +kernel
theorem kd_5_remove : Cond.code yX5_remove cX5_remove 4 none ∈ lw_g := mt_at 1342 (by decide +kernel) rfl
theorem ki_5_remove : Cond.instanceMethod yX5_remove ∈ lw_g := mt_at 1340 (by decide +kernel) rfl
theorem kl_5_remove : Cond.selects (kRn 5) yX5_remove yX5_remove ∈ lw_g := mt_at 1341 (by decide +kernel) rfl
section
variable {p : Program} {l : Launch} {e : Env} {R : Room} {s : State} {m : MethodId} {args : Array Value} {below : List Frame} {meth : Method} {c : Code} {D : cG} {S0 S9 : cSt}
noncomputable def fk_5_remove_9 : Nat → cSt → Nat → Option Nat → Int32 → Option (cSt)
  | 0, _, _, _, _ => none
  | n + 1, S, v0, v2, v3 =>
    ckk S v0 6 (
    if ((kF S v0 0) - (1 : Int32)) ≤ v3 then (
    ckk S v0 6 (
    ckk S v0 6 (lt (cPi S v0 0 ((kF S v0 0) - (1 : Int32))) fun S2 =>
    ckk S2 v0 6 (bd (kR S2 v0 3) fun a3 =>
    ckk S2 v0 6 (
    ckk S2 a3 32 (ck (kF S2 v0 0) (kL S2 a3) (ckq S2 v2 3 (lt (cWo S2 a3 (Int32.toNatClampNeg (kF S2 v0 0)) v2) fun S4 =>
    some S4))))))))
    else (
    ckk S v0 6 (bd (kR S v0 3) fun a5 =>
    ckk S v0 6 (bd (kR S v0 3) fun a6 =>
    ckk S a6 32 (ck (v3 + (1 : Int32)) (kL S a6) (lt (kO S a6 (Int32.toNatClampNeg (v3 + (1 : Int32)))) fun o7 =>
    ckk S a5 32 (ck v3 (kL S a5) (ckq S o7 3 (lt (cWo S a5 (Int32.toNatClampNeg v3) o7) fun S8 =>
    lt (v3 + (1 : Int32)) fun x9 =>
    fk_5_remove_9 n S8 v0 v2 x9)))))))))
set_option maxRecDepth 100000 in
set_option maxHeartbeats 4000000 in
theorem wk_5_remove_9 (C : cY p R s m args meth c RX5 cX5_remove 4 0 0 0 0 none) (X : cX D s) : ∀ (n : Nat), ∀ {S : cSt} {v0 : Nat} {v2 : Option Nat} {v3 : Int32} {H : Heap} {locs : List Loc} {ls : Array Slot}, fk_5_remove_9 n S v0 v2 v3 = some S9 → cJ D S0 s.heap S H locs → lv_has ls 4 [(0, .ref v0), (2, va_rf v2), (3, .int v3)] → W p l e R s m args below meth c H locs 0 0 (MQ below (kW none D S0 S9) args s 0 0 (cA S0)) (F0 m 9 ls []) := by
  intro n
  induction n with
  | zero =>
    intro S v0 v2 v3 H locs ls h hJ hl
    exact absurd (show (none : Option (cSt)) = _ from h) (fun q => by cases q)
  | succ n ih =>
    intro S v0 v2 v3 H locs ls h hJ hl
    rw [fk_5_remove_9] at h
    refine lv_iload_n C.1 C.2.1 dX5_remove_9 rfl (lv_at hl 2 rfl) ?_
    refine lv_aload_n C.1 C.2.1 dX5_remove_10 rfl (lv_at hl 0 rfl) ?_
    obtain ⟨hk, h⟩ := ckk_ok h
    refine gk5_9 C X hJ.1 hk dX5_remove_11 ?_
    refine lv_iconst (v := 1) C.1 C.2.1 dX5_remove_14 (by decide) ?_
    refine lv_isub C.1 C.2.1 dX5_remove_15 ?_
    refine lv_icmp_ge (tgt := 39) C.1 C.2.1 dX5_remove_16 (by decide) (fun c1 => ?_) (fun c1 => ?_)
    · have h := if_t h c1
      refine lv_aload_n C.1 C.2.1 dX5_remove_39 rfl (lv_at hl 0 rfl) ?_
      refine lv_dup C.1 C.2.1 dX5_remove_40 rfl ?_
      obtain ⟨hk, h⟩ := ckk_ok h
      refine gk5_9 C X hJ.1 hk dX5_remove_41 ?_
      refine lv_iconst (v := 1) C.1 C.2.1 dX5_remove_44 (by decide) ?_
      refine lv_isub C.1 C.2.1 dX5_remove_45 ?_
      obtain ⟨hk, h⟩ := ckk_ok h
      refine pk5_9 C X hJ hk dX5_remove_46 (fun H locs hJ => ?_)
      refine lt_ok h (fun S2 e_S2 h => ?_)
      rw [e_S2] at hJ
      refine lv_aload_n C.1 C.2.1 dX5_remove_49 rfl (lv_at hl 0 rfl) ?_
      obtain ⟨hk, h⟩ := ckk_ok h
      obtain ⟨a3, h_a3, h⟩ := bd_ok h
      refine gk5_23 C X hJ.1 hk h_a3 dX5_remove_50 ?_
      refine lv_aload_n C.1 C.2.1 dX5_remove_53 rfl (lv_at hl 0 rfl) ?_
      obtain ⟨hk, h⟩ := ckk_ok h
      refine gk5_9 C X hJ.1 hk dX5_remove_54 ?_
      refine lv_aload_nq (o := v2) C.1 C.2.1 dX5_remove_57 rfl (lv_at hl 1 rfl) ?_
      obtain ⟨hk, h⟩ := ckk_ok h
      obtain ⟨hin2, h⟩ := ck_ok h
      obtain ⟨hkv, h⟩ := ckq_ok h
      refine c_aastq (o := v2) C X 32 2 (by decide) (by decide) X.2.2.2.2.2.2.1 hJ hk hkv hin2 dX5_remove_58 (fun H locs hJ => ?_)
      refine lt_ok h (fun S4 e_S4 h => ?_)
      rw [e_S4] at hJ
      cases h
      exact c_retvW C hJ dX5_remove_59
    · have h := if_f h c1
      refine lv_aload_n C.1 C.2.1 dX5_remove_19 rfl (lv_at hl 0 rfl) ?_
      obtain ⟨hk, h⟩ := ckk_ok h
      obtain ⟨a5, h_a5, h⟩ := bd_ok h
      refine gk5_23 C X hJ.1 hk h_a5 dX5_remove_20 ?_
      refine lv_iload_n C.1 C.2.1 dX5_remove_23 rfl (lv_at hl 2 rfl) ?_
      refine lv_aload_n C.1 C.2.1 dX5_remove_24 rfl (lv_at hl 0 rfl) ?_
      obtain ⟨hk, h⟩ := ckk_ok h
      obtain ⟨a6, h_a6, h⟩ := bd_ok h
      refine gk5_23 C X hJ.1 hk h_a6 dX5_remove_25 ?_
      refine lv_iload_n C.1 C.2.1 dX5_remove_28 rfl (lv_at hl 2 rfl) ?_
      refine lv_iconst (v := 1) C.1 C.2.1 dX5_remove_29 (by decide) ?_
      refine lv_iadd C.1 C.2.1 dX5_remove_30 ?_
      obtain ⟨hk, h⟩ := ckk_ok h
      obtain ⟨hin2, h⟩ := ck_ok h
      refine c_aald C 32 (by decide) X.2.2.2.2.2.2.1 hJ.1 hk hin2 dX5_remove_31 ?_
      refine lt_ok h (fun o7 e_o7 h => ?_)
      refine lv_nmq e_o7 ?_
      obtain ⟨hk, h⟩ := ckk_ok h
      obtain ⟨hin2, h⟩ := ck_ok h
      obtain ⟨hkv, h⟩ := ckq_ok h
      refine c_aastq (o := o7) C X 32 2 (by decide) (by decide) X.2.2.2.2.2.2.1 hJ hk hkv hin2 dX5_remove_32 (fun H locs hJ => ?_)
      refine lt_ok h (fun S8 e_S8 h => ?_)
      rw [e_S8] at hJ
      refine lt_ok h (fun x9 e_x9 h => ?_)
      refine lv_iinc (v := x9) (lv' := [(3, .int x9), (0, .ref v0), (2, va_rf v2)]) C.1 C.2.1 dX5_remove_33 hl (k := 2) rfl (by rw [← e_x9]; rfl) (by decide) (by cases v2 <;> rfl) (fun ls hl => ?_)
      refine lv_goto (tgt := 9) C.1 C.2.1 dX5_remove_36 (by decide) ?_
      exact ih h hJ (lv_sub hl [1, 2, 0] rfl)
noncomputable def fk_5_remove (S : cSt) (v0 : Nat) (v1 : Int32) : Option (cSt) :=
ckk S v0 6 (bd (kR S v0 3) fun a1 =>
ckk S a1 32 (ck v1 (kL S a1) (lt (kO S a1 (Int32.toNatClampNeg v1)) fun o2 =>
fk_5_remove_9 mFU S v0 o2 v1)))
set_option maxRecDepth 100000 in
set_option maxHeartbeats 4000000 in
theorem tk_5_remove (l : Launch) {D : cG} {S : cSt} {v0 : Nat} {v1 : Int32} {S9 : cSt} (h : fk_5_remove S v0 v1 = some S9) : Met l yX5_remove (Cond.code yX5_remove cX5_remove 4 none :: lw_g) { frames := 0, cells := 0, slots := 0, locals := 0 } (kPi [.ref v0, .int v1] D S) (kW none D S S9) 0 0 (cA S) := by
  refine Met.ofW (cc := cX5_remove) (maxL := 4) (ret := none) (by decide) rfl ?_
  intro p e s m args below meth c s₁ B hml hv
  obtain ⟨rfl, hW, X⟩ := hv
  have C : cY p (headSpec (Cond.code yX5_remove cX5_remove 4 none :: lw_g) { frames := 0, cells := 0, slots := 0, locals := 0 }).room s m _ meth c RX5 cX5_remove 4 0 0 0 0 none := ⟨B.exec, B.bytes, hml, findClass_of_methodNamed B.named, fun w hw => atoms_spec (ws := Cond.code yX5_remove cX5_remove 4 none :: lw_g) B.pre w (List.mem_cons_of_mem _ hw), ⟨Nat.le_refl _, Nat.le_refl _, Nat.le_refl _, Nat.le_refl _⟩, B.returns, B.notSynchronized⟩
  have hl := lv_entry ([.ref v0, .int v1]) (n := 4) (Nat.le_of_ble_eq_true rfl)
  rw [lg_entry_eq]
  generalize (lg_sl ([.ref v0, .int v1]) ++ List.replicate (4 - (lg_sl ([.ref v0, .int v1])).length) Slot.unset).toArray = ls at hl ⊢
  have hl : lv_has ls 4 [(0, .ref v0), (1, .int v1)] := hl
  have hJ : cJ D S s.heap S s.heap [] := cJ.rf hW
  unfold fk_5_remove at h
  refine lv_aload_n C.1 C.2.1 dX5_remove_0 rfl (lv_at hl 0 rfl) ?_
  obtain ⟨hk, h⟩ := ckk_ok h
  obtain ⟨a1, h_a1, h⟩ := bd_ok h
  refine gk5_23 C X hJ.1 hk h_a1 dX5_remove_1 ?_
  refine lv_iload_n C.1 C.2.1 dX5_remove_4 rfl (lv_at hl 1 rfl) ?_
  obtain ⟨hk, h⟩ := ckk_ok h
  obtain ⟨hin2, h⟩ := ck_ok h
  refine c_aald C 32 (by decide) X.2.2.2.2.2.2.1 hJ.1 hk hin2 dX5_remove_5 ?_
  refine lt_ok h (fun o2 e_o2 h => ?_)
  refine lv_nmq e_o2 ?_
  refine lv_astore_nq (o := o2) (lv' := [(2, va_rf o2), (0, .ref v0), (1, .int v1)]) C.1 C.2.1 dX5_remove_6 rfl hl (by decide) rfl (fun ls hl => ?_)
  refine lv_iload_n C.1 C.2.1 dX5_remove_7 rfl (lv_at hl 2 rfl) ?_
  refine lv_istore_n (lv' := [(3, .int v1), (2, va_rf o2), (0, .ref v0), (1, .int v1)]) C.1 C.2.1 dX5_remove_8 rfl hl (by decide) (by cases o2 <;> rfl) (fun ls hl => ?_)
  exact wk_5_remove_9 C X mFU h hJ (lv_sub hl [2, 1, 0] rfl)
end
theorem dX6_init_0 : decode cX6_init 0 = .ok (.aload_n 0, 1) := by decide +kernel
theorem dX6_init_1 : decode cX6_init 1 = .ok (.invokespecial 3, 3) := by decide +kernel
theorem dX6_init_4 : decode cX6_init 4 = .ok (.aload_n 0, 1) := by decide +kernel
theorem dX6_init_5 : decode cX6_init 5 = .ok (.iconst 0, 1) := by decide +kernel
theorem dX6_init_6 : decode cX6_init 6 = .ok (.putfield 9, 3) := by decide +kernel
theorem dX6_init_9 : decode cX6_init 9 = .ok (.aload_n 0, 1) := by decide +kernel
theorem dX6_init_10 : decode cX6_init 10 = .ok (.iload_n 1, 1) := by decide +kernel
theorem dX6_init_11 : decode cX6_init 11 = .ok (.putfield 15, 3) := by decide +kernel
theorem dX6_init_14 : decode cX6_init 14 = .ok (.aload_n 0, 1) := by decide +kernel
theorem dX6_init_15 : decode cX6_init 15 = .ok (.iload_n 2, 1) := by decide +kernel
theorem dX6_init_16 : decode cX6_init 16 = .ok (.putfield 18, 3) := by decide +kernel
theorem dX6_init_19 : decode cX6_init 19 = .ok (.aload_n 0, 1) := by decide +kernel
theorem dX6_init_20 : decode cX6_init 20 = .ok (.iload_n 1, 1) := by decide +kernel
theorem dX6_init_21 : decode cX6_init 21 = .ok (.iload_n 2, 1) := by decide +kernel
theorem dX6_init_22 : decode cX6_init 22 = .ok (.imul, 1) := by decide +kernel
theorem dX6_init_23 : decode cX6_init 23 = .ok (.newarray .int, 2) := by decide +kernel
theorem dX6_init_25 : decode cX6_init 25 = .ok (.putfield 21, 3) := by decide +kernel
theorem dX6_init_28 : decode cX6_init 28 = .ok (.return_, 1) := by decide +kernel
theorem kd_6_init : Cond.code yX6_init cX6_init 3 none ∈ lw_g := mt_at 202 (by decide +kernel) rfl
theorem ki_6_init : Cond.instanceMethod yX6_init ∈ lw_g := mt_at 201 (by decide +kernel) rfl
theorem oi6 : Cond.methodLink RX6 3 objectInit ∈ lw_g := mt_at 203 (by decide +kernel) rfl
section
variable {p : Program} {l : Launch} {e : Env} {R : Room} {s : State} {m : MethodId} {args : Array Value} {below : List Frame} {meth : Method} {c : Code} {H : Heap} {locs : List Loc} {cells slots : Nat} {Q : State → Prop}
variable {D : cG} {S S0 : cSt} {cc : ByteArray} {nL : Nat} {pc : Nat} {ls : Array Slot} {rest : List Value} {H0 : Heap} {nF nR nC nS : Nat} {ret : Option FieldType} {a : Nat}
theorem pk6_9 {x : Int32} (C : cY p R s m args meth c RX6 cc nL nF nC nS nR ret) (X : cX D s) (hJ : cJ D S0 H0 S H locs) (hk : kK S a = 7) (hdg : decode cc pc = .ok (.putfield 9, 3)) (kk : ∀ (H1 : Heap) (locs1 : List Loc), cJ D S0 H0 (cPi S a 0 x) H1 locs1 → W p l e R s m args below meth c H1 locs1 cells slots Q (F0 m (pc + 3) ls (rest))) : W p l e R s m args below meth c H locs cells slots Q (F0 m pc ls (.int x :: .ref a :: rest)) := c_put (S1 := (cPi S a 0 x)) C X hJ 6 (by decide) ly_6 hk 0 (by decide) (by decide +kernel)  rfl rfl (by decide) rfl rfl (fun j _ => c_vI (by decide +kernel)) c_oPi (mt_at 204 (by decide +kernel) (by decide +kernel)) hdg kk
theorem pk6_15 {x : Int32} (C : cY p R s m args meth c RX6 cc nL nF nC nS nR ret) (hin : meth.name = "<init>") (X : cX D s) (hJ : cJ D S0 H0 S H locs) (hk : kK S a = 7) (hdg : decode cc pc = .ok (.putfield 15, 3)) (kk : ∀ (H1 : Heap) (locs1 : List Loc), cJ D S0 H0 (cPi S a 1 x) H1 locs1 → W p l e R s m args below meth c H1 locs1 cells slots Q (F0 m (pc + 3) ls (rest))) : W p l e R s m args below meth c H locs cells slots Q (F0 m pc ls (.int x :: .ref a :: rest)) := c_putF (S1 := (cPi S a 1 x)) C X hJ 6 (by decide) ly_6 hk 1 (by decide) (by decide +kernel) hin rfl rfl rfl (by decide) rfl rfl (fun j _ => c_vI (by decide +kernel)) c_oPi (mt_at 206 (by decide +kernel) (by decide +kernel)) hdg kk
theorem pk6_18 {x : Int32} (C : cY p R s m args meth c RX6 cc nL nF nC nS nR ret) (hin : meth.name = "<init>") (X : cX D s) (hJ : cJ D S0 H0 S H locs) (hk : kK S a = 7) (hdg : decode cc pc = .ok (.putfield 18, 3)) (kk : ∀ (H1 : Heap) (locs1 : List Loc), cJ D S0 H0 (cPi S a 2 x) H1 locs1 → W p l e R s m args below meth c H1 locs1 cells slots Q (F0 m (pc + 3) ls (rest))) : W p l e R s m args below meth c H locs cells slots Q (F0 m pc ls (.int x :: .ref a :: rest)) := c_putF (S1 := (cPi S a 2 x)) C X hJ 6 (by decide) ly_6 hk 2 (by decide) (by decide +kernel) hin rfl rfl rfl (by decide) rfl rfl (fun j _ => c_vI (by decide +kernel)) c_oPi (mt_at 207 (by decide +kernel) (by decide +kernel)) hdg kk
theorem pk6_21 {o : Option Nat} (C : cY p R s m args meth c RX6 cc nL nF nC nS nR ret) (hin : meth.name = "<init>") (X : cX D s) (hJ : cJ D S0 H0 S H locs) (hk : kK S a = 7) (hdg : decode cc pc = .ok (.putfield 21, 3)) (kk : ∀ (H1 : Heap) (locs1 : List Loc), cJ D S0 H0 (cPr S a 3 o) H1 locs1 → W p l e R s m args below meth c H1 locs1 cells slots Q (F0 m (pc + 3) ls (rest))) : W p l e R s m args below meth c H locs cells slots Q (F0 m pc ls (va_rf o :: .ref a :: rest)) := c_putF (S1 := (cPr S a 3 o)) C X hJ 6 (by decide) ly_6 hk 3 (by decide) (by decide +kernel) hin rfl nar_ra fit_ra (by decide) rfl rfl (fun j _ => c_vR (by decide +kernel)) c_oPr (mt_at 208 (by decide +kernel) (by decide +kernel)) hdg kk
end
section
variable {p : Program} {l : Launch} {e : Env} {R : Room} {s : State} {m : MethodId} {args : Array Value} {below : List Frame} {meth : Method} {c : Code} {D : cG} {S0 S9 : cSt}
noncomputable def fk_6_init (S : cSt) (v0 : Nat) (v1 : Int32) (v2 : Int32) : Option (cSt) :=
ckk S v0 7 (lt (cPi S v0 0 (0 : Int32)) fun S1 =>
ckk S1 v0 7 (lt (cPi S1 v0 1 v1) fun S2 =>
ckk S2 v0 7 (lt (cPi S2 v0 2 v2) fun S3 =>
ckp (¬ (v1 * v2) < 0 ∧ Int32.toNatClampNeg (v1 * v2) ≤ 1000) (lt (kZ S3) fun a5 => lt (cNw S3 20 (Int32.toNatClampNeg (v1 * v2))) fun S4 =>
ckk S4 v0 7 (lt (cPr S4 v0 3 (some a5)) fun S6 =>
some S6)))))
set_option maxRecDepth 100000 in
set_option maxHeartbeats 4000000 in
theorem tk_6_init (l : Launch) {D : cG} {S : cSt} {v0 : Nat} {v1 : Int32} {v2 : Int32} {S9 : cSt} (h : fk_6_init S v0 v1 v2 = some S9) : Met l yX6_init (Cond.code yX6_init cX6_init 3 none :: lw_g) { frames := 2, cells := 1, slots := 1000, locals := 60 } (kPi [.ref v0, .int v1, .int v2] D S) (kW none D S S9) 1 1000 (cA S) := by
  refine Met.ofW (cc := cX6_init) (maxL := 3) (ret := none) (by decide) rfl ?_
  intro p e s m args below meth c s₁ B hml hv
  obtain ⟨rfl, hW, X⟩ := hv
  have C : cY p (headSpec (Cond.code yX6_init cX6_init 3 none :: lw_g) { frames := 2, cells := 1, slots := 1000, locals := 60 }).room s m _ meth c RX6 cX6_init 3 2 1 1000 60 none := ⟨B.exec, B.bytes, hml, findClass_of_methodNamed B.named, fun w hw => atoms_spec (ws := Cond.code yX6_init cX6_init 3 none :: lw_g) B.pre w (List.mem_cons_of_mem _ hw), ⟨Nat.le_refl _, Nat.le_refl _, Nat.le_refl _, Nat.le_refl _⟩, B.returns, B.notSynchronized⟩
  have hin : meth.name = "<init>" := (name_of_methodNamed B.named B.method).1
  have hl := lv_entry ([.ref v0, .int v1, .int v2]) (n := 3) (Nat.le_of_ble_eq_true rfl)
  rw [lg_entry_eq]
  generalize (lg_sl ([.ref v0, .int v1, .int v2]) ++ List.replicate (3 - (lg_sl ([.ref v0, .int v1, .int v2])).length) Slot.unset).toArray = ls at hl ⊢
  have hl : lv_has ls 3 [(0, .ref v0), (1, .int v1), (2, .int v2)] := hl
  have hJ : cJ D S s.heap S s.heap [] := cJ.rf hW
  unfold fk_6_init at h
  refine lv_aload_n C.1 C.2.1 dX6_init_0 rfl (lv_at hl 0 rfl) ?_
  refine W.objInit C.1 C.2.1 C.2.2.2.1 (C.2.2.2.2.1 _ oi6) (C.2.2.2.2.1 _ oi_i) (C.2.2.2.2.1 _ oi_c) rfl (by rw [C.2.2.1]; exact hl.1) rfl dX6_init_1 (Nat.le_trans (by decide) C.2.2.2.2.2.1.1) (Nat.le_trans (Nat.le_of_ble_eq_true rfl) C.2.2.2.2.2.1.2.2.2) ?_
  refine W.eq (g2 := F0 m 4 ls []) rfl ?_
  refine lv_aload_n C.1 C.2.1 dX6_init_4 rfl (lv_at hl 0 rfl) ?_
  refine lv_iconst (v := 0) C.1 C.2.1 dX6_init_5 (by decide) ?_
  obtain ⟨hk, h⟩ := ckk_ok h
  refine pk6_9 C X hJ hk dX6_init_6 (fun H locs hJ => ?_)
  refine lt_ok h (fun S1 e_S1 h => ?_)
  rw [e_S1] at hJ
  refine lv_aload_n C.1 C.2.1 dX6_init_9 rfl (lv_at hl 0 rfl) ?_
  refine lv_iload_n C.1 C.2.1 dX6_init_10 rfl (lv_at hl 1 rfl) ?_
  obtain ⟨hk, h⟩ := ckk_ok h
  refine pk6_15 C hin X hJ hk dX6_init_11 (fun H locs hJ => ?_)
  refine lt_ok h (fun S2 e_S2 h => ?_)
  rw [e_S2] at hJ
  refine lv_aload_n C.1 C.2.1 dX6_init_14 rfl (lv_at hl 0 rfl) ?_
  refine lv_iload_n C.1 C.2.1 dX6_init_15 rfl (lv_at hl 2 rfl) ?_
  obtain ⟨hk, h⟩ := ckk_ok h
  refine pk6_18 C hin X hJ hk dX6_init_16 (fun H locs hJ => ?_)
  refine lt_ok h (fun S3 e_S3 h => ?_)
  rw [e_S3] at hJ
  refine lv_aload_n C.1 C.2.1 dX6_init_19 rfl (lv_at hl 0 rfl) ?_
  refine lv_iload_n C.1 C.2.1 dX6_init_20 rfl (lv_at hl 1 rfl) ?_
  refine lv_iload_n C.1 C.2.1 dX6_init_21 rfl (lv_at hl 2 rfl) ?_
  refine lv_imul C.1 C.2.1 dX6_init_22 ?_
  obtain ⟨hdy, h⟩ := ckp_ok h
  refine c_newa C hJ 20 (by decide) (by decide) X.2.1 rfl id rfl ar_20 hdy.1 rfl (Nat.le_trans (Nat.mul_le_mul_right _ hdy.2) (by decide)) (by decide) (Nat.le_trans (Nat.add_le_add_left hdy.2 _) (by decide)) dX6_init_23 (fun H hJ => ?_)
  refine W.widen (k := 1) (n := 1000) (Nat.le_refl _) (Nat.add_le_add_left hdy.2 _) ?_
  refine lt_ok h (fun a5 e_a5 h => ?_)
  refine lt_ok h (fun S4 e_S4 h => ?_)
  rw [e_S4] at hJ
  rw [e_a5]
  obtain ⟨hk, h⟩ := ckk_ok h
  refine pk6_21 (o := (some a5)) C hin X hJ hk dX6_init_25 (fun H locs hJ => ?_)
  refine lt_ok h (fun S6 e_S6 h => ?_)
  rw [e_S6] at hJ
  cases h
  exact c_retvW C hJ dX6_init_28
end
theorem dX6_add_0 : decode cX6_add 0 = .ok (.aload_n 0, 1) := by decide +kernel
theorem dX6_add_1 : decode cX6_add 1 = .ok (.getfield 9, 3) := by decide +kernel
theorem dX6_add_4 : decode cX6_add 4 = .ok (.aload_n 0, 1) := by decide +kernel
theorem dX6_add_5 : decode cX6_add 5 = .ok (.getfield 18, 3) := by decide +kernel
theorem dX6_add_8 : decode cX6_add 8 = .ok (.if_icmp .lt 4, 3) := by decide +kernel
theorem dX6_add_11 : decode cX6_add 11 = .ok (.return_, 1) := by decide +kernel
theorem dX6_add_12 : decode cX6_add 12 = .ok (.aload_n 0, 1) := by decide +kernel
theorem dX6_add_13 : decode cX6_add 13 = .ok (.getfield 9, 3) := by decide +kernel
theorem dX6_add_16 : decode cX6_add 16 = .ok (.aload_n 0, 1) := by decide +kernel
theorem dX6_add_17 : decode cX6_add 17 = .ok (.getfield 15, 3) := by decide +kernel
theorem dX6_add_20 : decode cX6_add 20 = .ok (.imul, 1) := by decide +kernel
theorem dX6_add_21 : decode cX6_add 21 = .ok (.istore 5, 2) := by decide +kernel
theorem dX6_add_23 : decode cX6_add 23 = .ok (.aload_n 0, 1) := by decide +kernel
theorem dX6_add_24 : decode cX6_add 24 = .ok (.getfield 21, 3) := by decide +kernel
theorem dX6_add_27 : decode cX6_add 27 = .ok (.iload 5, 2) := by decide +kernel
theorem dX6_add_29 : decode cX6_add 29 = .ok (.iload_n 1, 1) := by decide +kernel
theorem dX6_add_30 : decode cX6_add 30 = .ok (.iastore, 1) := by decide +kernel
theorem dX6_add_31 : decode cX6_add 31 = .ok (.aload_n 0, 1) := by decide +kernel
theorem dX6_add_32 : decode cX6_add 32 = .ok (.getfield 21, 3) := by decide +kernel
theorem dX6_add_35 : decode cX6_add 35 = .ok (.iload 5, 2) := by decide +kernel
theorem dX6_add_37 : decode cX6_add 37 = .ok (.iconst 1, 1) := by decide +kernel
theorem dX6_add_38 : decode cX6_add 38 = .ok (.iadd, 1) := by decide +kernel
theorem dX6_add_39 : decode cX6_add 39 = .ok (.iload_n 2, 1) := by decide +kernel
theorem dX6_add_40 : decode cX6_add 40 = .ok (.iastore, 1) := by decide +kernel
theorem dX6_add_41 : decode cX6_add 41 = .ok (.aload_n 0, 1) := by decide +kernel
theorem dX6_add_42 : decode cX6_add 42 = .ok (.getfield 21, 3) := by decide +kernel
theorem dX6_add_45 : decode cX6_add 45 = .ok (.iload 5, 2) := by decide +kernel
theorem dX6_add_47 : decode cX6_add 47 = .ok (.iconst 2, 1) := by decide +kernel
theorem dX6_add_48 : decode cX6_add 48 = .ok (.iadd, 1) := by decide +kernel
theorem dX6_add_49 : decode cX6_add 49 = .ok (.iload_n 3, 1) := by decide +kernel
theorem dX6_add_50 : decode cX6_add 50 = .ok (.iastore, 1) := by decide +kernel
theorem dX6_add_51 : decode cX6_add 51 = .ok (.aload_n 0, 1) := by decide +kernel
theorem dX6_add_52 : decode cX6_add 52 = .ok (.getfield 15, 3) := by decide +kernel
theorem dX6_add_55 : decode cX6_add 55 = .ok (.iconst 3, 1) := by decide +kernel
theorem dX6_add_56 : decode cX6_add 56 = .ok (.if_icmp .le 14, 3) := by decide +kernel
theorem dX6_add_59 : decode cX6_add 59 = .ok (.aload_n 0, 1) := by decide +kernel
theorem dX6_add_60 : decode cX6_add 60 = .ok (.getfield 21, 3) := by decide +kernel
theorem dX6_add_63 : decode cX6_add 63 = .ok (.iload 5, 2) := by decide +kernel
theorem dX6_add_65 : decode cX6_add 65 = .ok (.iconst 3, 1) := by decide +kernel
theorem dX6_add_66 : decode cX6_add 66 = .ok (.iadd, 1) := by decide +kernel
theorem dX6_add_67 : decode cX6_add 67 = .ok (.iload 4, 2) := by decide +kernel
theorem dX6_add_69 : decode cX6_add 69 = .ok (.iastore, 1) := by decide +kernel
theorem dX6_add_70 : decode cX6_add 70 = .ok (.aload_n 0, 1) := by decide +kernel
theorem dX6_add_71 : decode cX6_add 71 = .ok (.dup, 1) := by decide +kernel
theorem dX6_add_72 : decode cX6_add 72 = .ok (.getfield 9, 3) := by decide +kernel
theorem dX6_add_75 : decode cX6_add 75 = .ok (.iconst 1, 1) := by decide +kernel
theorem dX6_add_76 : decode cX6_add 76 = .ok (.iadd, 1) := by decide +kernel
theorem dX6_add_77 : decode cX6_add 77 = .ok (.putfield 9, 3) := by decide +kernel
theorem dX6_add_80 : decode cX6_add 80 = .ok (.return_, 1) := by decide +kernel
theorem kd_6_add : Cond.code yX6_add cX6_add 6 none ∈ lw_g := mt_at 1167 (by decide +kernel) rfl
theorem ki_6_add : Cond.instanceMethod yX6_add ∈ lw_g := mt_at 1165 (by decide +kernel) rfl
theorem kl_6_add : Cond.selects (kRn 6) yX6_add yX6_add ∈ lw_g := mt_at 1166 (by decide +kernel) rfl
section
variable {p : Program} {l : Launch} {e : Env} {R : Room} {s : State} {m : MethodId} {args : Array Value} {below : List Frame} {meth : Method} {c : Code} {H : Heap} {locs : List Loc} {cells slots : Nat} {Q : State → Prop}
variable {D : cG} {S S0 : cSt} {cc : ByteArray} {nL : Nat} {pc : Nat} {ls : Array Slot} {rest : List Value} {H0 : Heap} {nF nR nC nS : Nat} {ret : Option FieldType} {a : Nat}
theorem gk6_9 (C : cY p R s m args meth c RX6 cc nL nF nC nS nR ret) (X : cX D s) (hW : cW D S H) (hk : kK S a = 7) (hdg : decode cc pc = .ok (.getfield 9, 3)) (kk : W p l e R s m args below meth c H locs cells slots Q (F0 m (pc + 3) ls (.int (kF S a 0) :: rest))) : W p l e R s m args below meth c H locs cells slots Q (F0 m pc ls (.ref a :: rest)) := c_get C X hW 6 (by decide) ly_6 hk 0 (by decide) (mt_at 204 (by decide +kernel) (by decide +kernel)) hdg (by rw [cV_I (by decide +kernel)]; exact kk)
theorem gk6_15 (C : cY p R s m args meth c RX6 cc nL nF nC nS nR ret) (X : cX D s) (hW : cW D S H) (hk : kK S a = 7) (hdg : decode cc pc = .ok (.getfield 15, 3)) (kk : W p l e R s m args below meth c H locs cells slots Q (F0 m (pc + 3) ls (.int (kF S a 1) :: rest))) : W p l e R s m args below meth c H locs cells slots Q (F0 m pc ls (.ref a :: rest)) := c_get C X hW 6 (by decide) ly_6 hk 1 (by decide) (mt_at 206 (by decide +kernel) (by decide +kernel)) hdg (by rw [cV_I (by decide +kernel)]; exact kk)
theorem gk6_18 (C : cY p R s m args meth c RX6 cc nL nF nC nS nR ret) (X : cX D s) (hW : cW D S H) (hk : kK S a = 7) (hdg : decode cc pc = .ok (.getfield 18, 3)) (kk : W p l e R s m args below meth c H locs cells slots Q (F0 m (pc + 3) ls (.int (kF S a 2) :: rest))) : W p l e R s m args below meth c H locs cells slots Q (F0 m pc ls (.ref a :: rest)) := c_get C X hW 6 (by decide) ly_6 hk 2 (by decide) (mt_at 207 (by decide +kernel) (by decide +kernel)) hdg (by rw [cV_I (by decide +kernel)]; exact kk)
theorem gk6_21 (C : cY p R s m args meth c RX6 cc nL nF nC nS nR ret) (X : cX D s) (hW : cW D S H) (hk : kK S a = 7) {x : Nat} (hx : kR S a 3 = some x) (hdg : decode cc pc = .ok (.getfield 21, 3)) (kk : W p l e R s m args below meth c H locs cells slots Q (F0 m (pc + 3) ls (.ref x :: rest))) : W p l e R s m args below meth c H locs cells slots Q (F0 m pc ls (.ref a :: rest)) := c_get C X hW 6 (by decide) ly_6 hk 3 (by decide) (mt_at 208 (by decide +kernel) (by decide +kernel)) hdg (by rw [cV_R (by decide +kernel) hx]; exact kk)
end
section
variable {p : Program} {l : Launch} {e : Env} {R : Room} {s : State} {m : MethodId} {args : Array Value} {below : List Frame} {meth : Method} {c : Code} {D : cG} {S0 S9 : cSt}
noncomputable def fk_6_add_70 (S : cSt) (v0 : Nat) : Option (cSt) :=
ckk S v0 7 (
ckk S v0 7 (lt (cPi S v0 0 ((kF S v0 0) + (1 : Int32))) fun S1 =>
some S1))
set_option maxRecDepth 100000 in
set_option maxHeartbeats 4000000 in
theorem wk_6_add_70 (C : cY p R s m args meth c RX6 cX6_add 6 0 0 0 0 none) (X : cX D s) : ∀ {S : cSt} {v0 : Nat} {H : Heap} {locs : List Loc} {ls : Array Slot}, fk_6_add_70 S v0 = some S9 → cJ D S0 s.heap S H locs → lv_has ls 6 [(0, .ref v0)] → W p l e R s m args below meth c H locs 0 0 (MQ below (kW none D S0 S9) args s 0 0 (cA S0)) (F0 m 70 ls []) := by
  intro S v0 H locs ls h hJ hl
  unfold fk_6_add_70 at h
  refine lv_aload_n C.1 C.2.1 dX6_add_70 rfl (lv_at hl 0 rfl) ?_
  refine lv_dup C.1 C.2.1 dX6_add_71 rfl ?_
  obtain ⟨hk, h⟩ := ckk_ok h
  refine gk6_9 C X hJ.1 hk dX6_add_72 ?_
  refine lv_iconst (v := 1) C.1 C.2.1 dX6_add_75 (by decide) ?_
  refine lv_iadd C.1 C.2.1 dX6_add_76 ?_
  obtain ⟨hk, h⟩ := ckk_ok h
  refine pk6_9 C X hJ hk dX6_add_77 (fun H locs hJ => ?_)
  refine lt_ok h (fun S1 e_S1 h => ?_)
  rw [e_S1] at hJ
  cases h
  exact c_retvW C hJ dX6_add_80
noncomputable def fk_6_add (S : cSt) (v0 : Nat) (v1 : Int32) (v2 : Int32) (v3 : Int32) (v4 : Int32) : Option (cSt) :=
ckk S v0 7 (
ckk S v0 7 (
if (kF S v0 0) < (kF S v0 2) then (
ckk S v0 7 (
ckk S v0 7 (
lt ((kF S v0 0) * (kF S v0 1)) fun x2 =>
ckk S v0 7 (bd (kR S v0 3) fun a3 =>
ckk S a3 20 (ck x2 (kL S a3) (lt (cWi S a3 (Int32.toNatClampNeg x2) v1) fun S4 =>
ckk S4 v0 7 (bd (kR S4 v0 3) fun a5 =>
ckk S4 a5 20 (ck (x2 + (1 : Int32)) (kL S4 a5) (lt (cWi S4 a5 (Int32.toNatClampNeg (x2 + (1 : Int32))) v2) fun S6 =>
ckk S6 v0 7 (bd (kR S6 v0 3) fun a7 =>
ckk S6 a7 20 (ck (x2 + (2 : Int32)) (kL S6 a7) (lt (cWi S6 a7 (Int32.toNatClampNeg (x2 + (2 : Int32))) v3) fun S8 =>
ckk S8 v0 7 (
if (kF S8 v0 1) ≤ (3 : Int32) then (
fk_6_add_70 S8 v0)
else (
ckk S8 v0 7 (bd (kR S8 v0 3) fun a10 =>
ckk S8 a10 20 (ck (x2 + (3 : Int32)) (kL S8 a10) (lt (cWi S8 a10 (Int32.toNatClampNeg (x2 + (3 : Int32))) v4) fun S11 =>
fk_6_add_70 S11 v0)))))))))))))))))
else (
some S)))
set_option maxRecDepth 100000 in
set_option maxHeartbeats 4000000 in
theorem tk_6_add (l : Launch) {D : cG} {S : cSt} {v0 : Nat} {v1 : Int32} {v2 : Int32} {v3 : Int32} {v4 : Int32} {S9 : cSt} (h : fk_6_add S v0 v1 v2 v3 v4 = some S9) : Met l yX6_add (Cond.code yX6_add cX6_add 6 none :: lw_g) { frames := 0, cells := 0, slots := 0, locals := 0 } (kPi [.ref v0, .int v1, .int v2, .int v3, .int v4] D S) (kW none D S S9) 0 0 (cA S) := by
  refine Met.ofW (cc := cX6_add) (maxL := 6) (ret := none) (by decide) rfl ?_
  intro p e s m args below meth c s₁ B hml hv
  obtain ⟨rfl, hW, X⟩ := hv
  have C : cY p (headSpec (Cond.code yX6_add cX6_add 6 none :: lw_g) { frames := 0, cells := 0, slots := 0, locals := 0 }).room s m _ meth c RX6 cX6_add 6 0 0 0 0 none := ⟨B.exec, B.bytes, hml, findClass_of_methodNamed B.named, fun w hw => atoms_spec (ws := Cond.code yX6_add cX6_add 6 none :: lw_g) B.pre w (List.mem_cons_of_mem _ hw), ⟨Nat.le_refl _, Nat.le_refl _, Nat.le_refl _, Nat.le_refl _⟩, B.returns, B.notSynchronized⟩
  have hl := lv_entry ([.ref v0, .int v1, .int v2, .int v3, .int v4]) (n := 6) (Nat.le_of_ble_eq_true rfl)
  rw [lg_entry_eq]
  generalize (lg_sl ([.ref v0, .int v1, .int v2, .int v3, .int v4]) ++ List.replicate (6 - (lg_sl ([.ref v0, .int v1, .int v2, .int v3, .int v4])).length) Slot.unset).toArray = ls at hl ⊢
  have hl : lv_has ls 6 [(0, .ref v0), (1, .int v1), (2, .int v2), (3, .int v3), (4, .int v4)] := hl
  have hJ : cJ D S s.heap S s.heap [] := cJ.rf hW
  unfold fk_6_add at h
  refine lv_aload_n C.1 C.2.1 dX6_add_0 rfl (lv_at hl 0 rfl) ?_
  obtain ⟨hk, h⟩ := ckk_ok h
  refine gk6_9 C X hJ.1 hk dX6_add_1 ?_
  refine lv_aload_n C.1 C.2.1 dX6_add_4 rfl (lv_at hl 0 rfl) ?_
  obtain ⟨hk, h⟩ := ckk_ok h
  refine gk6_18 C X hJ.1 hk dX6_add_5 ?_
  refine lv_icmp_lt (tgt := 12) C.1 C.2.1 dX6_add_8 (by decide) (fun c1 => ?_) (fun c1 => ?_)
  · have h := if_t h c1
    refine lv_aload_n C.1 C.2.1 dX6_add_12 rfl (lv_at hl 0 rfl) ?_
    obtain ⟨hk, h⟩ := ckk_ok h
    refine gk6_9 C X hJ.1 hk dX6_add_13 ?_
    refine lv_aload_n C.1 C.2.1 dX6_add_16 rfl (lv_at hl 0 rfl) ?_
    obtain ⟨hk, h⟩ := ckk_ok h
    refine gk6_15 C X hJ.1 hk dX6_add_17 ?_
    refine lv_imul C.1 C.2.1 dX6_add_20 ?_
    refine lt_ok h (fun x2 e_x2 h => ?_)
    refine lv_nm e_x2 ?_
    refine lv_istore (lv' := [(5, .int x2), (0, .ref v0), (1, .int v1), (2, .int v2), (3, .int v3), (4, .int v4)]) C.1 C.2.1 dX6_add_21 hl (by decide) rfl (fun ls hl => ?_)
    refine lv_aload_n C.1 C.2.1 dX6_add_23 rfl (lv_at hl 1 rfl) ?_
    obtain ⟨hk, h⟩ := ckk_ok h
    obtain ⟨a3, h_a3, h⟩ := bd_ok h
    refine gk6_21 C X hJ.1 hk h_a3 dX6_add_24 ?_
    refine lv_iload C.1 C.2.1 dX6_add_27 (lv_at hl 0 rfl) ?_
    refine lv_iload_n C.1 C.2.1 dX6_add_29 rfl (lv_at hl 2 rfl) ?_
    obtain ⟨hk, h⟩ := ckk_ok h
    obtain ⟨hin2, h⟩ := ck_ok h
    refine c_iast C X hJ hk hin2 dX6_add_30 (fun H locs hJ => ?_)
    refine lt_ok h (fun S4 e_S4 h => ?_)
    rw [e_S4] at hJ
    refine lv_aload_n C.1 C.2.1 dX6_add_31 rfl (lv_at hl 1 rfl) ?_
    obtain ⟨hk, h⟩ := ckk_ok h
    obtain ⟨a5, h_a5, h⟩ := bd_ok h
    refine gk6_21 C X hJ.1 hk h_a5 dX6_add_32 ?_
    refine lv_iload C.1 C.2.1 dX6_add_35 (lv_at hl 0 rfl) ?_
    refine lv_iconst (v := 1) C.1 C.2.1 dX6_add_37 (by decide) ?_
    refine lv_iadd C.1 C.2.1 dX6_add_38 ?_
    refine lv_iload_n C.1 C.2.1 dX6_add_39 rfl (lv_at hl 3 rfl) ?_
    obtain ⟨hk, h⟩ := ckk_ok h
    obtain ⟨hin2, h⟩ := ck_ok h
    refine c_iast C X hJ hk hin2 dX6_add_40 (fun H locs hJ => ?_)
    refine lt_ok h (fun S6 e_S6 h => ?_)
    rw [e_S6] at hJ
    refine lv_aload_n C.1 C.2.1 dX6_add_41 rfl (lv_at hl 1 rfl) ?_
    obtain ⟨hk, h⟩ := ckk_ok h
    obtain ⟨a7, h_a7, h⟩ := bd_ok h
    refine gk6_21 C X hJ.1 hk h_a7 dX6_add_42 ?_
    refine lv_iload C.1 C.2.1 dX6_add_45 (lv_at hl 0 rfl) ?_
    refine lv_iconst (v := 2) C.1 C.2.1 dX6_add_47 (by decide) ?_
    refine lv_iadd C.1 C.2.1 dX6_add_48 ?_
    refine lv_iload_n C.1 C.2.1 dX6_add_49 rfl (lv_at hl 4 rfl) ?_
    obtain ⟨hk, h⟩ := ckk_ok h
    obtain ⟨hin2, h⟩ := ck_ok h
    refine c_iast C X hJ hk hin2 dX6_add_50 (fun H locs hJ => ?_)
    refine lt_ok h (fun S8 e_S8 h => ?_)
    rw [e_S8] at hJ
    refine lv_aload_n C.1 C.2.1 dX6_add_51 rfl (lv_at hl 1 rfl) ?_
    obtain ⟨hk, h⟩ := ckk_ok h
    refine gk6_15 C X hJ.1 hk dX6_add_52 ?_
    refine lv_iconst (v := 3) C.1 C.2.1 dX6_add_55 (by decide) ?_
    refine lv_icmp_le (tgt := 70) C.1 C.2.1 dX6_add_56 (by decide) (fun c9 => ?_) (fun c9 => ?_)
    · have h := if_t h c9
      exact wk_6_add_70 C X h hJ (lv_sub hl [1] rfl)
    · have h := if_f h c9
      refine lv_aload_n C.1 C.2.1 dX6_add_59 rfl (lv_at hl 1 rfl) ?_
      obtain ⟨hk, h⟩ := ckk_ok h
      obtain ⟨a10, h_a10, h⟩ := bd_ok h
      refine gk6_21 C X hJ.1 hk h_a10 dX6_add_60 ?_
      refine lv_iload C.1 C.2.1 dX6_add_63 (lv_at hl 0 rfl) ?_
      refine lv_iconst (v := 3) C.1 C.2.1 dX6_add_65 (by decide) ?_
      refine lv_iadd C.1 C.2.1 dX6_add_66 ?_
      refine lv_iload C.1 C.2.1 dX6_add_67 (lv_at hl 5 rfl) ?_
      obtain ⟨hk, h⟩ := ckk_ok h
      obtain ⟨hin2, h⟩ := ck_ok h
      refine c_iast C X hJ hk hin2 dX6_add_69 (fun H locs hJ => ?_)
      refine lt_ok h (fun S11 e_S11 h => ?_)
      rw [e_S11] at hJ
      exact wk_6_add_70 C X h hJ (lv_sub hl [1] rfl)
  · have h := if_f h c1
    cases h
    exact c_retvW C hJ dX6_add_11
end
theorem dX6_read_0 : decode cX6_read 0 = .ok (.iload_n 1, 1) := by decide +kernel
theorem dX6_read_1 : decode cX6_read 1 = .ok (.ifCond .lt 27, 3) := by decide +kernel
theorem dX6_read_4 : decode cX6_read 4 = .ok (.iload_n 1, 1) := by decide +kernel
theorem dX6_read_5 : decode cX6_read 5 = .ok (.aload_n 0, 1) := by decide +kernel
theorem dX6_read_6 : decode cX6_read 6 = .ok (.getfield 9, 3) := by decide +kernel
theorem dX6_read_9 : decode cX6_read 9 = .ok (.if_icmp .ge 19, 3) := by decide +kernel
theorem dX6_read_12 : decode cX6_read 12 = .ok (.iload_n 2, 1) := by decide +kernel
theorem dX6_read_13 : decode cX6_read 13 = .ok (.ifCond .lt 15, 3) := by decide +kernel
theorem dX6_read_16 : decode cX6_read 16 = .ok (.iload_n 2, 1) := by decide +kernel
theorem dX6_read_17 : decode cX6_read 17 = .ok (.aload_n 0, 1) := by decide +kernel
theorem dX6_read_18 : decode cX6_read 18 = .ok (.getfield 15, 3) := by decide +kernel
theorem dX6_read_21 : decode cX6_read 21 = .ok (.if_icmp .ge 7, 3) := by decide +kernel
theorem dX6_read_24 : decode cX6_read 24 = .ok (.iconst 1, 1) := by decide +kernel
theorem dX6_read_25 : decode cX6_read 25 = .ok (.goto 4, 3) := by decide +kernel
theorem dX6_read_28 : decode cX6_read 28 = .ok (.iconst 0, 1) := by decide +kernel
theorem dX6_read_29 : decode cX6_read 29 = .ok (.istore_n 3, 1) := by decide +kernel
theorem dX6_read_30 : decode cX6_read 30 = .ok (.iload_n 3, 1) := by decide +kernel
theorem dX6_read_31 : decode cX6_read 31 = .ok (.ifCond .eq 19, 3) := by decide +kernel
theorem dX6_read_34 : decode cX6_read 34 = .ok (.aload_n 0, 1) := by decide +kernel
theorem dX6_read_35 : decode cX6_read 35 = .ok (.getfield 21, 3) := by decide +kernel
theorem dX6_read_38 : decode cX6_read 38 = .ok (.iload_n 1, 1) := by decide +kernel
theorem dX6_read_39 : decode cX6_read 39 = .ok (.aload_n 0, 1) := by decide +kernel
theorem dX6_read_40 : decode cX6_read 40 = .ok (.getfield 15, 3) := by decide +kernel
theorem dX6_read_43 : decode cX6_read 43 = .ok (.imul, 1) := by decide +kernel
theorem dX6_read_44 : decode cX6_read 44 = .ok (.iload_n 2, 1) := by decide +kernel
theorem dX6_read_45 : decode cX6_read 45 = .ok (.iadd, 1) := by decide +kernel
theorem dX6_read_46 : decode cX6_read 46 = .ok (.iaload, 1) := by decide +kernel
theorem dX6_read_47 : decode cX6_read 47 = .ok (.goto 4, 3) := by decide +kernel
theorem dX6_read_50 : decode cX6_read 50 = .ok (.iconst (-1), 1) := by decide +kernel
theorem dX6_read_51 : decode cX6_read 51 = .ok (.ireturn, 1) := by decide +kernel
theorem kd_6_read : Cond.code yX6_read cX6_read 4 (some .int) ∈ lw_g := mt_at 1246 (by decide +kernel) rfl
theorem ki_6_read : Cond.instanceMethod yX6_read ∈ lw_g := mt_at 1244 (by decide +kernel) rfl
theorem kl_6_read : Cond.selects (kRn 6) yX6_read yX6_read ∈ lw_g := mt_at 1245 (by decide +kernel) rfl
section
variable {p : Program} {l : Launch} {e : Env} {R : Room} {s : State} {m : MethodId} {args : Array Value} {below : List Frame} {meth : Method} {c : Code} {D : cG} {S : cSt} {r : Int32}
noncomputable def fk_6_read_51 (S : cSt) (s0 : Int32) : Option (Int32) :=
some s0
set_option maxRecDepth 100000 in
set_option maxHeartbeats 4000000 in
theorem wk_6_read_51 (C : cY p R s m args meth c RX6 cX6_read 4 0 0 0 0 (some .int)) (X : cX D s) (hW : cW D S s.heap) : ∀ {s0 : Int32} {ls : Array Slot}, fk_6_read_51 S s0 = some r → lv_has ls 4 [] → W p l e R s m args below meth c s.heap [] 0 0 (MQ below (kQ (some (.int r))) args s 0 0 mNo) (F0 m 51 ls [.int s0]) := by
  intro s0 ls h hl
  unfold fk_6_read_51 at h
  cases h
  exact c_reti C rfl rfl dX6_read_51
noncomputable def fk_6_read_29 (S : cSt) (v0 : Nat) (v1 : Int32) (v2 : Int32) (s0 : Int32) : Option (Int32) :=
if s0 = 0 then (
fk_6_read_51 S (-1 : Int32))
else (
ckk S v0 7 (bd (kR S v0 3) fun a2 =>
ckk S v0 7 (
ckk S a2 20 (ck ((v1 * (kF S v0 1)) + v2) (kL S a2) (
fk_6_read_51 S (kI S a2 (Int32.toNatClampNeg ((v1 * (kF S v0 1)) + v2))))))))
set_option maxRecDepth 100000 in
set_option maxHeartbeats 4000000 in
theorem wk_6_read_29 (C : cY p R s m args meth c RX6 cX6_read 4 0 0 0 0 (some .int)) (X : cX D s) (hW : cW D S s.heap) : ∀ {v0 : Nat} {v1 : Int32} {v2 : Int32} {s0 : Int32} {ls : Array Slot}, fk_6_read_29 S v0 v1 v2 s0 = some r → lv_has ls 4 [(0, .ref v0), (1, .int v1), (2, .int v2)] → W p l e R s m args below meth c s.heap [] 0 0 (MQ below (kQ (some (.int r))) args s 0 0 mNo) (F0 m 29 ls [.int s0]) := by
  intro v0 v1 v2 s0 ls h hl
  unfold fk_6_read_29 at h
  refine lv_istore_n (lv' := [(3, .int s0), (0, .ref v0), (1, .int v1), (2, .int v2)]) C.1 C.2.1 dX6_read_29 rfl hl (by decide) rfl (fun ls hl => ?_)
  refine lv_iload_n C.1 C.2.1 dX6_read_30 rfl (lv_at hl 0 rfl) ?_
  refine lv_if_eq (tgt := 50) C.1 C.2.1 dX6_read_31 (by decide) (fun c1 => ?_) (fun c1 => ?_)
  · have h := if_t h c1
    refine lv_iconst (v := -1) C.1 C.2.1 dX6_read_50 (by decide) ?_
    exact wk_6_read_51 C X hW h (lv_sub hl [] rfl)
  · have h := if_f h c1
    refine lv_aload_n C.1 C.2.1 dX6_read_34 rfl (lv_at hl 1 rfl) ?_
    obtain ⟨hk, h⟩ := ckk_ok h
    obtain ⟨a2, h_a2, h⟩ := bd_ok h
    refine gk6_21 C X hW hk h_a2 dX6_read_35 ?_
    refine lv_iload_n C.1 C.2.1 dX6_read_38 rfl (lv_at hl 2 rfl) ?_
    refine lv_aload_n C.1 C.2.1 dX6_read_39 rfl (lv_at hl 1 rfl) ?_
    obtain ⟨hk, h⟩ := ckk_ok h
    refine gk6_15 C X hW hk dX6_read_40 ?_
    refine lv_imul C.1 C.2.1 dX6_read_43 ?_
    refine lv_iload_n C.1 C.2.1 dX6_read_44 rfl (lv_at hl 3 rfl) ?_
    refine lv_iadd C.1 C.2.1 dX6_read_45 ?_
    obtain ⟨hk, h⟩ := ckk_ok h
    obtain ⟨hin2, h⟩ := ck_ok h
    refine c_iald C X hW hk hin2 dX6_read_46 ?_
    refine lv_goto (tgt := 51) C.1 C.2.1 dX6_read_47 (by decide) ?_
    exact wk_6_read_51 C X hW h (lv_sub hl [] rfl)
noncomputable def fk_6_read_28 (S : cSt) (v0 : Nat) (v1 : Int32) (v2 : Int32) : Option (Int32) :=
fk_6_read_29 S v0 v1 v2 (0 : Int32)
set_option maxRecDepth 100000 in
set_option maxHeartbeats 4000000 in
theorem wk_6_read_28 (C : cY p R s m args meth c RX6 cX6_read 4 0 0 0 0 (some .int)) (X : cX D s) (hW : cW D S s.heap) : ∀ {v0 : Nat} {v1 : Int32} {v2 : Int32} {ls : Array Slot}, fk_6_read_28 S v0 v1 v2 = some r → lv_has ls 4 [(0, .ref v0), (1, .int v1), (2, .int v2)] → W p l e R s m args below meth c s.heap [] 0 0 (MQ below (kQ (some (.int r))) args s 0 0 mNo) (F0 m 28 ls []) := by
  intro v0 v1 v2 ls h hl
  unfold fk_6_read_28 at h
  refine lv_iconst (v := 0) C.1 C.2.1 dX6_read_28 (by decide) ?_
  exact wk_6_read_29 C X hW h (lv_sub hl [0, 1, 2] rfl)
noncomputable def fk_6_read (S : cSt) (v0 : Nat) (v1 : Int32) (v2 : Int32) : Option (Int32) :=
if v1 < 0 then (
fk_6_read_28 S v0 v1 v2)
else (
ckk S v0 7 (
if (kF S v0 0) ≤ v1 then (
fk_6_read_28 S v0 v1 v2)
else (
if v2 < 0 then (
fk_6_read_28 S v0 v1 v2)
else (
ckk S v0 7 (
if (kF S v0 1) ≤ v2 then (
fk_6_read_28 S v0 v1 v2)
else (
fk_6_read_29 S v0 v1 v2 (1 : Int32)))))))
set_option maxRecDepth 100000 in
set_option maxHeartbeats 4000000 in
theorem tk_6_read (l : Launch) {D : cG} {S : cSt} {v0 : Nat} {v1 : Int32} {v2 : Int32} {r : Int32}  (h : fk_6_read S v0 v1 v2 = some r) : Met l yX6_read (Cond.code yX6_read cX6_read 4 (some .int) :: lw_g) { frames := 0, cells := 0, slots := 0, locals := 0 } (kPi [.ref v0, .int v1, .int v2] D S) (kQ (some (.int r))) 0 0 (mNo) := by
  refine Met.ofW (cc := cX6_read) (maxL := 4) (ret := (some .int)) (by decide) rfl ?_
  intro p e s m args below meth c s₁ B hml hv
  obtain ⟨rfl, hW, X⟩ := hv
  have C : cY p (headSpec (Cond.code yX6_read cX6_read 4 (some .int) :: lw_g) { frames := 0, cells := 0, slots := 0, locals := 0 }).room s m _ meth c RX6 cX6_read 4 0 0 0 0 (some .int) := ⟨B.exec, B.bytes, hml, findClass_of_methodNamed B.named, fun w hw => atoms_spec (ws := Cond.code yX6_read cX6_read 4 (some .int) :: lw_g) B.pre w (List.mem_cons_of_mem _ hw), ⟨Nat.le_refl _, Nat.le_refl _, Nat.le_refl _, Nat.le_refl _⟩, B.returns, B.notSynchronized⟩
  have hl := lv_entry ([.ref v0, .int v1, .int v2]) (n := 4) (Nat.le_of_ble_eq_true rfl)
  rw [lg_entry_eq]
  generalize (lg_sl ([.ref v0, .int v1, .int v2]) ++ List.replicate (4 - (lg_sl ([.ref v0, .int v1, .int v2])).length) Slot.unset).toArray = ls at hl ⊢
  have hl : lv_has ls 4 [(0, .ref v0), (1, .int v1), (2, .int v2)] := hl
  unfold fk_6_read at h
  refine lv_iload_n C.1 C.2.1 dX6_read_0 rfl (lv_at hl 1 rfl) ?_
  refine lv_if_lt (tgt := 28) C.1 C.2.1 dX6_read_1 (by decide) (fun c1 => ?_) (fun c1 => ?_)
  · have h := if_t h c1
    exact wk_6_read_28 C X hW h (lv_sub hl [0, 1, 2] rfl)
  · have h := if_f h c1
    refine lv_iload_n C.1 C.2.1 dX6_read_4 rfl (lv_at hl 1 rfl) ?_
    refine lv_aload_n C.1 C.2.1 dX6_read_5 rfl (lv_at hl 0 rfl) ?_
    obtain ⟨hk, h⟩ := ckk_ok h
    refine gk6_9 C X hW hk dX6_read_6 ?_
    refine lv_icmp_ge (tgt := 28) C.1 C.2.1 dX6_read_9 (by decide) (fun c2 => ?_) (fun c2 => ?_)
    · have h := if_t h c2
      exact wk_6_read_28 C X hW h (lv_sub hl [0, 1, 2] rfl)
    · have h := if_f h c2
      refine lv_iload_n C.1 C.2.1 dX6_read_12 rfl (lv_at hl 2 rfl) ?_
      refine lv_if_lt (tgt := 28) C.1 C.2.1 dX6_read_13 (by decide) (fun c3 => ?_) (fun c3 => ?_)
      · have h := if_t h c3
        exact wk_6_read_28 C X hW h (lv_sub hl [0, 1, 2] rfl)
      · have h := if_f h c3
        refine lv_iload_n C.1 C.2.1 dX6_read_16 rfl (lv_at hl 2 rfl) ?_
        refine lv_aload_n C.1 C.2.1 dX6_read_17 rfl (lv_at hl 0 rfl) ?_
        obtain ⟨hk, h⟩ := ckk_ok h
        refine gk6_15 C X hW hk dX6_read_18 ?_
        refine lv_icmp_ge (tgt := 28) C.1 C.2.1 dX6_read_21 (by decide) (fun c4 => ?_) (fun c4 => ?_)
        · have h := if_t h c4
          exact wk_6_read_28 C X hW h (lv_sub hl [0, 1, 2] rfl)
        · have h := if_f h c4
          refine lv_iconst (v := 1) C.1 C.2.1 dX6_read_24 (by decide) ?_
          refine lv_goto (tgt := 29) C.1 C.2.1 dX6_read_25 (by decide) ?_
          exact wk_6_read_29 C X hW h (lv_sub hl [0, 1, 2] rfl)
end
theorem dX10_init_0 : decode cX10_init 0 = .ok (.aload_n 0, 1) := by decide +kernel
theorem dX10_init_1 : decode cX10_init 1 = .ok (.invokespecial 3, 3) := by decide +kernel
theorem dX10_init_4 : decode cX10_init 4 = .ok (.aload_n 0, 1) := by decide +kernel
theorem dX10_init_5 : decode cX10_init 5 = .ok (.iconst 4, 1) := by decide +kernel
theorem dX10_init_6 : decode cX10_init 6 = .ok (.anewarray 9, 3) := by decide +kernel
theorem dX10_init_9 : decode cX10_init 9 = .ok (.putfield 11, 3) := by decide +kernel
theorem dX10_init_12 : decode cX10_init 12 = .ok (.aload_n 0, 1) := by decide +kernel
theorem dX10_init_13 : decode cX10_init 13 = .ok (.iconst 4, 1) := by decide +kernel
theorem dX10_init_14 : decode cX10_init 14 = .ok (.newarray .int, 2) := by decide +kernel
theorem dX10_init_16 : decode cX10_init 16 = .ok (.putfield 17, 3) := by decide +kernel
theorem dX10_init_19 : decode cX10_init 19 = .ok (.aload_n 0, 1) := by decide +kernel
theorem dX10_init_20 : decode cX10_init 20 = .ok (.sipush 256, 3) := by decide +kernel
theorem dX10_init_23 : decode cX10_init 23 = .ok (.newarray .int, 2) := by decide +kernel
theorem dX10_init_25 : decode cX10_init 25 = .ok (.putfield 21, 3) := by decide +kernel
theorem dX10_init_28 : decode cX10_init 28 = .ok (.aload_n 0, 1) := by decide +kernel
theorem dX10_init_29 : decode cX10_init 29 = .ok (.bipush 64, 2) := by decide +kernel
theorem dX10_init_31 : decode cX10_init 31 = .ok (.anewarray 9, 3) := by decide +kernel
theorem dX10_init_34 : decode cX10_init 34 = .ok (.putfield 24, 3) := by decide +kernel
theorem dX10_init_37 : decode cX10_init 37 = .ok (.aload_n 0, 1) := by decide +kernel
theorem dX10_init_38 : decode cX10_init 38 = .ok (.iconst 5, 1) := by decide +kernel
theorem dX10_init_39 : decode cX10_init 39 = .ok (.newarray .int, 2) := by decide +kernel
theorem dX10_init_41 : decode cX10_init 41 = .ok (.putfield 27, 3) := by decide +kernel
theorem dX10_init_44 : decode cX10_init 44 = .ok (.aload_n 0, 1) := by decide +kernel
theorem dX10_init_45 : decode cX10_init 45 = .ok (.sipush 1000, 3) := by decide +kernel
theorem dX10_init_48 : decode cX10_init 48 = .ok (.putfield 30, 3) := by decide +kernel
theorem dX10_init_51 : decode cX10_init 51 = .ok (.aload_n 0, 1) := by decide +kernel
theorem dX10_init_52 : decode cX10_init 52 = .ok (.aload_n 1, 1) := by decide +kernel
theorem dX10_init_53 : decode cX10_init 53 = .ok (.putfield 34, 3) := by decide +kernel
theorem dX10_init_56 : decode cX10_init 56 = .ok (.aload_n 0, 1) := by decide +kernel
theorem dX10_init_57 : decode cX10_init 57 = .ok (.aload_n 2, 1) := by decide +kernel
theorem dX10_init_58 : decode cX10_init 58 = .ok (.putfield 38, 3) := by decide +kernel
theorem dX10_init_61 : decode cX10_init 61 = .ok (.aload_n 0, 1) := by decide +kernel
theorem dX10_init_62 : decode cX10_init 62 = .ok (.aload_n 3, 1) := by decide +kernel
theorem dX10_init_63 : decode cX10_init 63 = .ok (.putfield 42, 3) := by decide +kernel
theorem dX10_init_66 : decode cX10_init 66 = .ok (.return_, 1) := by decide +kernel
theorem kd_10_init : Cond.code yX10_init cX10_init 4 none ∈ lw_g := mt_at 269 (by decide +kernel) rfl
theorem ki_10_init : Cond.instanceMethod yX10_init ∈ lw_g := mt_at 268 (by decide +kernel) rfl
theorem oi10 : Cond.methodLink RX10 3 objectInit ∈ lw_g := mt_at 270 (by decide +kernel) rfl
theorem cl10_9 : Cond.classLink RX10 9 RX8 ∈ lw_g := mt_at 271 (by decide +kernel) rfl
section
variable {p : Program} {l : Launch} {e : Env} {R : Room} {s : State} {m : MethodId} {args : Array Value} {below : List Frame} {meth : Method} {c : Code} {H : Heap} {locs : List Loc} {cells slots : Nat} {Q : State → Prop}
variable {D : cG} {S S0 : cSt} {cc : ByteArray} {nL : Nat} {pc : Nat} {ls : Array Slot} {rest : List Value} {H0 : Heap} {nF nR nC nS : Nat} {ret : Option FieldType} {a : Nat}
theorem pk10_11 {o : Option Nat} (C : cY p R s m args meth c RX10 cc nL nF nC nS nR ret) (hin : meth.name = "<init>") (X : cX D s) (hJ : cJ D S0 H0 S H locs) (hk : kK S a = 11) (hdg : decode cc pc = .ok (.putfield 11, 3)) (kk : ∀ (H1 : Heap) (locs1 : List Loc), cJ D S0 H0 (cPr S a 0 o) H1 locs1 → W p l e R s m args below meth c H1 locs1 cells slots Q (F0 m (pc + 3) ls (rest))) : W p l e R s m args below meth c H locs cells slots Q (F0 m pc ls (va_rf o :: .ref a :: rest)) := c_putF (S1 := (cPr S a 0 o)) C X hJ 10 (by decide) ly_10 hk 0 (by decide) (by decide +kernel) hin rfl nar_ra fit_ra (by decide) rfl rfl (fun j _ => c_vR (by decide +kernel)) c_oPr (mt_at 272 (by decide +kernel) (by decide +kernel)) hdg kk
theorem pk10_17 {o : Option Nat} (C : cY p R s m args meth c RX10 cc nL nF nC nS nR ret) (hin : meth.name = "<init>") (X : cX D s) (hJ : cJ D S0 H0 S H locs) (hk : kK S a = 11) (hdg : decode cc pc = .ok (.putfield 17, 3)) (kk : ∀ (H1 : Heap) (locs1 : List Loc), cJ D S0 H0 (cPr S a 3 o) H1 locs1 → W p l e R s m args below meth c H1 locs1 cells slots Q (F0 m (pc + 3) ls (rest))) : W p l e R s m args below meth c H locs cells slots Q (F0 m pc ls (va_rf o :: .ref a :: rest)) := c_putF (S1 := (cPr S a 3 o)) C X hJ 10 (by decide) ly_10 hk 3 (by decide) (by decide +kernel) hin rfl nar_ra fit_ra (by decide) rfl rfl (fun j _ => c_vR (by decide +kernel)) c_oPr (mt_at 276 (by decide +kernel) (by decide +kernel)) hdg kk
theorem pk10_21 {o : Option Nat} (C : cY p R s m args meth c RX10 cc nL nF nC nS nR ret) (hin : meth.name = "<init>") (X : cX D s) (hJ : cJ D S0 H0 S H locs) (hk : kK S a = 11) (hdg : decode cc pc = .ok (.putfield 21, 3)) (kk : ∀ (H1 : Heap) (locs1 : List Loc), cJ D S0 H0 (cPr S a 4 o) H1 locs1 → W p l e R s m args below meth c H1 locs1 cells slots Q (F0 m (pc + 3) ls (rest))) : W p l e R s m args below meth c H locs cells slots Q (F0 m pc ls (va_rf o :: .ref a :: rest)) := c_putF (S1 := (cPr S a 4 o)) C X hJ 10 (by decide) ly_10 hk 4 (by decide) (by decide +kernel) hin rfl nar_ra fit_ra (by decide) rfl rfl (fun j _ => c_vR (by decide +kernel)) c_oPr (mt_at 277 (by decide +kernel) (by decide +kernel)) hdg kk
theorem pk10_24 {o : Option Nat} (C : cY p R s m args meth c RX10 cc nL nF nC nS nR ret) (hin : meth.name = "<init>") (X : cX D s) (hJ : cJ D S0 H0 S H locs) (hk : kK S a = 11) (hdg : decode cc pc = .ok (.putfield 24, 3)) (kk : ∀ (H1 : Heap) (locs1 : List Loc), cJ D S0 H0 (cPr S a 5 o) H1 locs1 → W p l e R s m args below meth c H1 locs1 cells slots Q (F0 m (pc + 3) ls (rest))) : W p l e R s m args below meth c H locs cells slots Q (F0 m pc ls (va_rf o :: .ref a :: rest)) := c_putF (S1 := (cPr S a 5 o)) C X hJ 10 (by decide) ly_10 hk 5 (by decide) (by decide +kernel) hin rfl nar_ra fit_ra (by decide) rfl rfl (fun j _ => c_vR (by decide +kernel)) c_oPr (mt_at 278 (by decide +kernel) (by decide +kernel)) hdg kk
theorem pk10_27 {o : Option Nat} (C : cY p R s m args meth c RX10 cc nL nF nC nS nR ret) (hin : meth.name = "<init>") (X : cX D s) (hJ : cJ D S0 H0 S H locs) (hk : kK S a = 11) (hdg : decode cc pc = .ok (.putfield 27, 3)) (kk : ∀ (H1 : Heap) (locs1 : List Loc), cJ D S0 H0 (cPr S a 6 o) H1 locs1 → W p l e R s m args below meth c H1 locs1 cells slots Q (F0 m (pc + 3) ls (rest))) : W p l e R s m args below meth c H locs cells slots Q (F0 m pc ls (va_rf o :: .ref a :: rest)) := c_putF (S1 := (cPr S a 6 o)) C X hJ 10 (by decide) ly_10 hk 6 (by decide) (by decide +kernel) hin rfl nar_ra fit_ra (by decide) rfl rfl (fun j _ => c_vR (by decide +kernel)) c_oPr (mt_at 279 (by decide +kernel) (by decide +kernel)) hdg kk
theorem pk10_30 {x : Int32} (C : cY p R s m args meth c RX10 cc nL nF nC nS nR ret) (X : cX D s) (hJ : cJ D S0 H0 S H locs) (hk : kK S a = 11) (hdg : decode cc pc = .ok (.putfield 30, 3)) (kk : ∀ (H1 : Heap) (locs1 : List Loc), cJ D S0 H0 (cPi S a 8 x) H1 locs1 → W p l e R s m args below meth c H1 locs1 cells slots Q (F0 m (pc + 3) ls (rest))) : W p l e R s m args below meth c H locs cells slots Q (F0 m pc ls (.int x :: .ref a :: rest)) := c_put (S1 := (cPi S a 8 x)) C X hJ 10 (by decide) ly_10 hk 8 (by decide) (by decide +kernel)  rfl rfl (by decide) rfl rfl (fun j _ => c_vI (by decide +kernel)) c_oPi (mt_at 282 (by decide +kernel) (by decide +kernel)) hdg kk
theorem pk10_34 {o : Option Nat} (C : cY p R s m args meth c RX10 cc nL nF nC nS nR ret) (hin : meth.name = "<init>") (X : cX D s) (hJ : cJ D S0 H0 S H locs) (hk : kK S a = 11) (hdg : decode cc pc = .ok (.putfield 34, 3)) (kk : ∀ (H1 : Heap) (locs1 : List Loc), cJ D S0 H0 (cPr S a 1 o) H1 locs1 → W p l e R s m args below meth c H1 locs1 cells slots Q (F0 m (pc + 3) ls (rest))) : W p l e R s m args below meth c H locs cells slots Q (F0 m pc ls (va_rf o :: .ref a :: rest)) := c_putF (S1 := (cPr S a 1 o)) C X hJ 10 (by decide) ly_10 hk 1 (by decide) (by decide +kernel) hin rfl nar_rf fit_rf (by decide) rfl rfl (fun j _ => c_vR (by decide +kernel)) c_oPr (mt_at 274 (by decide +kernel) (by decide +kernel)) hdg kk
theorem pk10_38 {o : Option Nat} (C : cY p R s m args meth c RX10 cc nL nF nC nS nR ret) (X : cX D s) (hJ : cJ D S0 H0 S H locs) (hk : kK S a = 11) (hdg : decode cc pc = .ok (.putfield 38, 3)) (kk : ∀ (H1 : Heap) (locs1 : List Loc), cJ D S0 H0 (cPr S a 7 o) H1 locs1 → W p l e R s m args below meth c H1 locs1 cells slots Q (F0 m (pc + 3) ls (rest))) : W p l e R s m args below meth c H locs cells slots Q (F0 m pc ls (va_rf o :: .ref a :: rest)) := c_put (S1 := (cPr S a 7 o)) C X hJ 10 (by decide) ly_10 hk 7 (by decide) (by decide +kernel)  nar_rf fit_rf (by decide) rfl rfl (fun j _ => c_vR (by decide +kernel)) c_oPr (mt_at 280 (by decide +kernel) (by decide +kernel)) hdg kk
theorem pk10_42 {o : Option Nat} (C : cY p R s m args meth c RX10 cc nL nF nC nS nR ret) (hin : meth.name = "<init>") (X : cX D s) (hJ : cJ D S0 H0 S H locs) (hk : kK S a = 11) (hdg : decode cc pc = .ok (.putfield 42, 3)) (kk : ∀ (H1 : Heap) (locs1 : List Loc), cJ D S0 H0 (cPr S a 2 o) H1 locs1 → W p l e R s m args below meth c H1 locs1 cells slots Q (F0 m (pc + 3) ls (rest))) : W p l e R s m args below meth c H locs cells slots Q (F0 m pc ls (va_rf o :: .ref a :: rest)) := c_putF (S1 := (cPr S a 2 o)) C X hJ 10 (by decide) ly_10 hk 2 (by decide) (by decide +kernel) hin rfl nar_ra fit_ra (by decide) rfl rfl (fun j _ => c_vR (by decide +kernel)) c_oPr (mt_at 275 (by decide +kernel) (by decide +kernel)) hdg kk
end
section
variable {p : Program} {l : Launch} {e : Env} {R : Room} {s : State} {m : MethodId} {args : Array Value} {below : List Frame} {meth : Method} {c : Code} {D : cG} {S0 S9 : cSt}
noncomputable def fk_10_init (S : cSt) (v0 : Nat) (v1 : Nat) (v2 : Nat) (v3 : Nat) : Option (cSt) :=
lt (kZ S) fun a2 => lt (cNw S 30 4) fun S1 =>
ckk S1 v0 11 (lt (cPr S1 v0 0 (some a2)) fun S3 =>
lt (kZ S3) fun a5 => lt (cNw S3 20 4) fun S4 =>
ckk S4 v0 11 (lt (cPr S4 v0 3 (some a5)) fun S6 =>
lt (kZ S6) fun a8 => lt (cNw S6 20 256) fun S7 =>
ckk S7 v0 11 (lt (cPr S7 v0 4 (some a8)) fun S10 =>
lt (kZ S10) fun a12 => lt (cNw S10 30 64) fun S11 =>
ckk S11 v0 11 (lt (cPr S11 v0 5 (some a12)) fun S13 =>
lt (kZ S13) fun a15 => lt (cNw S13 20 5) fun S14 =>
ckk S14 v0 11 (lt (cPr S14 v0 6 (some a15)) fun S16 =>
ckk S16 v0 11 (lt (cPi S16 v0 8 (1000 : Int32)) fun S17 =>
ckk S17 v0 11 (lt (cPr S17 v0 1 (some v1)) fun S18 =>
ckk S18 v0 11 (lt (cPr S18 v0 7 (some v2)) fun S19 =>
ckk S19 v0 11 (lt (cPr S19 v0 2 (some v3)) fun S20 =>
some S20)))))))))
set_option maxRecDepth 100000 in
set_option maxHeartbeats 4000000 in
theorem tk_10_init (l : Launch) {D : cG} {S : cSt} {v0 : Nat} {v1 : Nat} {v2 : Nat} {v3 : Nat} {S9 : cSt} (h : fk_10_init S v0 v1 v2 v3 = some S9) : Met l yX10_init (Cond.code yX10_init cX10_init 4 none :: lw_g) { frames := 2, cells := 5, slots := 333, locals := 60 } (kPi [.ref v0, .ref v1, .ref v2, .ref v3] D S) (kW none D S S9) 5 333 (cA S) := by
  refine Met.ofW (cc := cX10_init) (maxL := 4) (ret := none) (by decide) rfl ?_
  intro p e s m args below meth c s₁ B hml hv
  obtain ⟨rfl, hW, X⟩ := hv
  have C : cY p (headSpec (Cond.code yX10_init cX10_init 4 none :: lw_g) { frames := 2, cells := 5, slots := 333, locals := 60 }).room s m _ meth c RX10 cX10_init 4 2 5 333 60 none := ⟨B.exec, B.bytes, hml, findClass_of_methodNamed B.named, fun w hw => atoms_spec (ws := Cond.code yX10_init cX10_init 4 none :: lw_g) B.pre w (List.mem_cons_of_mem _ hw), ⟨Nat.le_refl _, Nat.le_refl _, Nat.le_refl _, Nat.le_refl _⟩, B.returns, B.notSynchronized⟩
  have hin : meth.name = "<init>" := (name_of_methodNamed B.named B.method).1
  have hl := lv_entry ([.ref v0, .ref v1, .ref v2, .ref v3]) (n := 4) (Nat.le_of_ble_eq_true rfl)
  rw [lg_entry_eq]
  generalize (lg_sl ([.ref v0, .ref v1, .ref v2, .ref v3]) ++ List.replicate (4 - (lg_sl ([.ref v0, .ref v1, .ref v2, .ref v3])).length) Slot.unset).toArray = ls at hl ⊢
  have hl : lv_has ls 4 [(0, .ref v0), (1, .ref v1), (2, .ref v2), (3, .ref v3)] := hl
  have hJ : cJ D S s.heap S s.heap [] := cJ.rf hW
  unfold fk_10_init at h
  refine lv_aload_n C.1 C.2.1 dX10_init_0 rfl (lv_at hl 0 rfl) ?_
  refine W.objInit C.1 C.2.1 C.2.2.2.1 (C.2.2.2.2.1 _ oi10) (C.2.2.2.2.1 _ oi_i) (C.2.2.2.2.1 _ oi_c) rfl (by rw [C.2.2.1]; exact hl.1) rfl dX10_init_1 (Nat.le_trans (by decide) C.2.2.2.2.2.1.1) (Nat.le_trans (Nat.le_of_ble_eq_true rfl) C.2.2.2.2.2.1.2.2.2) ?_
  refine W.eq (g2 := F0 m 4 ls []) rfl ?_
  refine lv_aload_n C.1 C.2.1 dX10_init_4 rfl (lv_at hl 0 rfl) ?_
  refine lv_iconst (v := 4) C.1 C.2.1 dX10_init_5 (by decide) ?_
  refine c_anew (N := 4) C hJ 30 (by decide) X.2.2.2.2.1 cl10_9 X.2.2.2.2.2.2.2.1.1 (by decide) (by decide) (by decide) (by decide) (by decide) dX10_init_6 (fun H hJ => ?_)
  refine lt_ok h (fun a2 e_a2 h => ?_)
  refine lt_ok h (fun S1 e_S1 h => ?_)
  rw [e_S1] at hJ
  rw [e_a2]
  obtain ⟨hk, h⟩ := ckk_ok h
  refine pk10_11 (o := (some a2)) C hin X hJ hk dX10_init_9 (fun H locs hJ => ?_)
  refine lt_ok h (fun S3 e_S3 h => ?_)
  rw [e_S3] at hJ
  refine lv_aload_n C.1 C.2.1 dX10_init_12 rfl (lv_at hl 0 rfl) ?_
  refine lv_iconst (v := 4) C.1 C.2.1 dX10_init_13 (by decide) ?_
  refine c_newa (N := 4) C hJ 20 (by decide) (by decide) X.2.1 rfl id rfl ar_20 (by decide) (by decide) (by decide) (by decide) (by decide) dX10_init_14 (fun H hJ => ?_)
  refine lt_ok h (fun a5 e_a5 h => ?_)
  refine lt_ok h (fun S4 e_S4 h => ?_)
  rw [e_S4] at hJ
  rw [e_a5]
  obtain ⟨hk, h⟩ := ckk_ok h
  refine pk10_17 (o := (some a5)) C hin X hJ hk dX10_init_16 (fun H locs hJ => ?_)
  refine lt_ok h (fun S6 e_S6 h => ?_)
  rw [e_S6] at hJ
  refine lv_aload_n C.1 C.2.1 dX10_init_19 rfl (lv_at hl 0 rfl) ?_
  refine lv_sipush (v := 256) C.1 C.2.1 dX10_init_20 (by decide) ?_
  refine c_newa (N := 256) C hJ 20 (by decide) (by decide) X.2.1 rfl id rfl ar_20 (by decide) (by decide) (by decide) (by decide) (by decide) dX10_init_23 (fun H hJ => ?_)
  refine lt_ok h (fun a8 e_a8 h => ?_)
  refine lt_ok h (fun S7 e_S7 h => ?_)
  rw [e_S7] at hJ
  rw [e_a8]
  obtain ⟨hk, h⟩ := ckk_ok h
  refine pk10_21 (o := (some a8)) C hin X hJ hk dX10_init_25 (fun H locs hJ => ?_)
  refine lt_ok h (fun S10 e_S10 h => ?_)
  rw [e_S10] at hJ
  refine lv_aload_n C.1 C.2.1 dX10_init_28 rfl (lv_at hl 0 rfl) ?_
  refine lv_bipush (v := 64) C.1 C.2.1 dX10_init_29 (by decide) ?_
  refine c_anew (N := 64) C hJ 30 (by decide) X.2.2.2.2.1 cl10_9 X.2.2.2.2.2.2.2.1.1 (by decide) (by decide) (by decide) (by decide) (by decide) dX10_init_31 (fun H hJ => ?_)
  refine lt_ok h (fun a12 e_a12 h => ?_)
  refine lt_ok h (fun S11 e_S11 h => ?_)
  rw [e_S11] at hJ
  rw [e_a12]
  obtain ⟨hk, h⟩ := ckk_ok h
  refine pk10_24 (o := (some a12)) C hin X hJ hk dX10_init_34 (fun H locs hJ => ?_)
  refine lt_ok h (fun S13 e_S13 h => ?_)
  rw [e_S13] at hJ
  refine lv_aload_n C.1 C.2.1 dX10_init_37 rfl (lv_at hl 0 rfl) ?_
  refine lv_iconst (v := 5) C.1 C.2.1 dX10_init_38 (by decide) ?_
  refine c_newa (N := 5) C hJ 20 (by decide) (by decide) X.2.1 rfl id rfl ar_20 (by decide) (by decide) (by decide) (by decide) (by decide) dX10_init_39 (fun H hJ => ?_)
  refine lt_ok h (fun a15 e_a15 h => ?_)
  refine lt_ok h (fun S14 e_S14 h => ?_)
  rw [e_S14] at hJ
  rw [e_a15]
  obtain ⟨hk, h⟩ := ckk_ok h
  refine pk10_27 (o := (some a15)) C hin X hJ hk dX10_init_41 (fun H locs hJ => ?_)
  refine lt_ok h (fun S16 e_S16 h => ?_)
  rw [e_S16] at hJ
  refine lv_aload_n C.1 C.2.1 dX10_init_44 rfl (lv_at hl 0 rfl) ?_
  refine lv_sipush (v := 1000) C.1 C.2.1 dX10_init_45 (by decide) ?_
  obtain ⟨hk, h⟩ := ckk_ok h
  refine pk10_30 C X hJ hk dX10_init_48 (fun H locs hJ => ?_)
  refine lt_ok h (fun S17 e_S17 h => ?_)
  rw [e_S17] at hJ
  refine lv_aload_n C.1 C.2.1 dX10_init_51 rfl (lv_at hl 0 rfl) ?_
  refine lv_aload_n C.1 C.2.1 dX10_init_52 rfl (lv_at hl 1 rfl) ?_
  obtain ⟨hk, h⟩ := ckk_ok h
  refine pk10_34 (o := (some v1)) C hin X hJ hk dX10_init_53 (fun H locs hJ => ?_)
  refine lt_ok h (fun S18 e_S18 h => ?_)
  rw [e_S18] at hJ
  refine lv_aload_n C.1 C.2.1 dX10_init_56 rfl (lv_at hl 0 rfl) ?_
  refine lv_aload_n C.1 C.2.1 dX10_init_57 rfl (lv_at hl 2 rfl) ?_
  obtain ⟨hk, h⟩ := ckk_ok h
  refine pk10_38 (o := (some v2)) C X hJ hk dX10_init_58 (fun H locs hJ => ?_)
  refine lt_ok h (fun S19 e_S19 h => ?_)
  rw [e_S19] at hJ
  refine lv_aload_n C.1 C.2.1 dX10_init_61 rfl (lv_at hl 0 rfl) ?_
  refine lv_aload_n C.1 C.2.1 dX10_init_62 rfl (lv_at hl 3 rfl) ?_
  obtain ⟨hk, h⟩ := ckk_ok h
  refine pk10_42 (o := (some v3)) C hin X hJ hk dX10_init_63 (fun H locs hJ => ?_)
  refine lt_ok h (fun S20 e_S20 h => ?_)
  rw [e_S20] at hJ
  cases h
  exact c_retvW C hJ dX10_init_66
end
theorem dX7_init_0 : decode cX7_init 0 = .ok (.aload_n 0, 1) := by decide +kernel
theorem dX7_init_1 : decode cX7_init 1 = .ok (.invokespecial 3, 3) := by decide +kernel
theorem dX7_init_4 : decode cX7_init 4 = .ok (.aload_n 0, 1) := by decide +kernel
theorem dX7_init_5 : decode cX7_init 5 = .ok (.new 9, 3) := by decide +kernel
theorem dX7_init_8 : decode cX7_init 8 = .ok (.dup, 1) := by decide +kernel
theorem dX7_init_9 : decode cX7_init 9 = .ok (.iconst 3, 1) := by decide +kernel
theorem dX7_init_10 : decode cX7_init 10 = .ok (.sipush 250, 3) := by decide +kernel
theorem dX7_init_13 : decode cX7_init 13 = .ok (.invokespecial 11, 3) := by decide +kernel
theorem dX7_init_16 : decode cX7_init 16 = .ok (.putfield 14, 3) := by decide +kernel
theorem dX7_init_19 : decode cX7_init 19 = .ok (.aload_n 0, 1) := by decide +kernel
theorem dX7_init_20 : decode cX7_init 20 = .ok (.new 9, 3) := by decide +kernel
theorem dX7_init_23 : decode cX7_init 23 = .ok (.dup, 1) := by decide +kernel
theorem dX7_init_24 : decode cX7_init 24 = .ok (.iconst 4, 1) := by decide +kernel
theorem dX7_init_25 : decode cX7_init 25 = .ok (.sipush 200, 3) := by decide +kernel
theorem dX7_init_28 : decode cX7_init 28 = .ok (.invokespecial 11, 3) := by decide +kernel
theorem dX7_init_31 : decode cX7_init 31 = .ok (.putfield 20, 3) := by decide +kernel
theorem dX7_init_34 : decode cX7_init 34 = .ok (.aload_n 0, 1) := by decide +kernel
theorem dX7_init_35 : decode cX7_init 35 = .ok (.bipush 16, 2) := by decide +kernel
theorem dX7_init_37 : decode cX7_init 37 = .ok (.newarray .int, 2) := by decide +kernel
theorem dX7_init_39 : decode cX7_init 39 = .ok (.putfield 23, 3) := by decide +kernel
theorem dX7_init_42 : decode cX7_init 42 = .ok (.aload_n 0, 1) := by decide +kernel
theorem dX7_init_43 : decode cX7_init 43 = .ok (.bipush 16, 2) := by decide +kernel
theorem dX7_init_45 : decode cX7_init 45 = .ok (.newarray .int, 2) := by decide +kernel
theorem dX7_init_47 : decode cX7_init 47 = .ok (.putfield 27, 3) := by decide +kernel
theorem dX7_init_50 : decode cX7_init 50 = .ok (.aload_n 0, 1) := by decide +kernel
theorem dX7_init_51 : decode cX7_init 51 = .ok (.bipush 16, 2) := by decide +kernel
theorem dX7_init_53 : decode cX7_init 53 = .ok (.newarray .int, 2) := by decide +kernel
theorem dX7_init_55 : decode cX7_init 55 = .ok (.putfield 30, 3) := by decide +kernel
theorem dX7_init_58 : decode cX7_init 58 = .ok (.aload_n 0, 1) := by decide +kernel
theorem dX7_init_59 : decode cX7_init 59 = .ok (.iconst 0, 1) := by decide +kernel
theorem dX7_init_60 : decode cX7_init 60 = .ok (.putfield 33, 3) := by decide +kernel
theorem dX7_init_63 : decode cX7_init 63 = .ok (.aload_n 0, 1) := by decide +kernel
theorem dX7_init_64 : decode cX7_init 64 = .ok (.iconst 0, 1) := by decide +kernel
theorem dX7_init_65 : decode cX7_init 65 = .ok (.putfield 37, 3) := by decide +kernel
theorem dX7_init_68 : decode cX7_init 68 = .ok (.aload_n 0, 1) := by decide +kernel
theorem dX7_init_69 : decode cX7_init 69 = .ok (.iconst 0, 1) := by decide +kernel
theorem dX7_init_70 : decode cX7_init 70 = .ok (.putfield 40, 3) := by decide +kernel
theorem dX7_init_73 : decode cX7_init 73 = .ok (.aload_n 0, 1) := by decide +kernel
theorem dX7_init_74 : decode cX7_init 74 = .ok (.iconst 0, 1) := by decide +kernel
theorem dX7_init_75 : decode cX7_init 75 = .ok (.putfield 43, 3) := by decide +kernel
theorem dX7_init_78 : decode cX7_init 78 = .ok (.aload_n 0, 1) := by decide +kernel
theorem dX7_init_79 : decode cX7_init 79 = .ok (.bipush 30, 2) := by decide +kernel
theorem dX7_init_81 : decode cX7_init 81 = .ok (.anewarray 46, 3) := by decide +kernel
theorem dX7_init_84 : decode cX7_init 84 = .ok (.putfield 48, 3) := by decide +kernel
theorem dX7_init_87 : decode cX7_init 87 = .ok (.aload_n 0, 1) := by decide +kernel
theorem dX7_init_88 : decode cX7_init 88 = .ok (.bipush 48, 2) := by decide +kernel
theorem dX7_init_90 : decode cX7_init 90 = .ok (.newarray .int, 2) := by decide +kernel
theorem dX7_init_92 : decode cX7_init 92 = .ok (.putfield 52, 3) := by decide +kernel
theorem dX7_init_95 : decode cX7_init 95 = .ok (.aload_n 0, 1) := by decide +kernel
theorem dX7_init_96 : decode cX7_init 96 = .ok (.bipush 48, 2) := by decide +kernel
theorem dX7_init_98 : decode cX7_init 98 = .ok (.newarray .int, 2) := by decide +kernel
theorem dX7_init_100 : decode cX7_init 100 = .ok (.putfield 55, 3) := by decide +kernel
theorem dX7_init_103 : decode cX7_init 103 = .ok (.aload_n 0, 1) := by decide +kernel
theorem dX7_init_104 : decode cX7_init 104 = .ok (.bipush 16, 2) := by decide +kernel
theorem dX7_init_106 : decode cX7_init 106 = .ok (.newarray .int, 2) := by decide +kernel
theorem dX7_init_108 : decode cX7_init 108 = .ok (.putfield 58, 3) := by decide +kernel
theorem dX7_init_111 : decode cX7_init 111 = .ok (.aload_n 0, 1) := by decide +kernel
theorem dX7_init_112 : decode cX7_init 112 = .ok (.iload_n 1, 1) := by decide +kernel
theorem dX7_init_113 : decode cX7_init 113 = .ok (.putfield 61, 3) := by decide +kernel
theorem dX7_init_116 : decode cX7_init 116 = .ok (.aload_n 0, 1) := by decide +kernel
theorem dX7_init_117 : decode cX7_init 117 = .ok (.aload_n 2, 1) := by decide +kernel
theorem dX7_init_118 : decode cX7_init 118 = .ok (.putfield 64, 3) := by decide +kernel
theorem dX7_init_121 : decode cX7_init 121 = .ok (.aload_n 0, 1) := by decide +kernel
theorem dX7_init_122 : decode cX7_init 122 = .ok (.new 68, 3) := by decide +kernel
theorem dX7_init_125 : decode cX7_init 125 = .ok (.dup, 1) := by decide +kernel
theorem dX7_init_126 : decode cX7_init 126 = .ok (.aload_n 2, 1) := by decide +kernel
theorem dX7_init_127 : decode cX7_init 127 = .ok (.invokespecial 70, 3) := by decide +kernel
theorem dX7_init_130 : decode cX7_init 130 = .ok (.putfield 73, 3) := by decide +kernel
theorem dX7_init_133 : decode cX7_init 133 = .ok (.aload_n 0, 1) := by decide +kernel
theorem dX7_init_134 : decode cX7_init 134 = .ok (.new 77, 3) := by decide +kernel
theorem dX7_init_137 : decode cX7_init 137 = .ok (.dup, 1) := by decide +kernel
theorem dX7_init_138 : decode cX7_init 138 = .ok (.aload_n 2, 1) := by decide +kernel
theorem dX7_init_139 : decode cX7_init 139 = .ok (.aload_n 0, 1) := by decide +kernel
theorem dX7_init_140 : decode cX7_init 140 = .ok (.getfield 73, 3) := by decide +kernel
theorem dX7_init_143 : decode cX7_init 143 = .ok (.aload_n 0, 1) := by decide +kernel
theorem dX7_init_144 : decode cX7_init 144 = .ok (.getfield 73, 3) := by decide +kernel
theorem dX7_init_147 : decode cX7_init 147 = .ok (.getfield 79, 3) := by decide +kernel
theorem dX7_init_150 : decode cX7_init 150 = .ok (.invokespecial 82, 3) := by decide +kernel
theorem dX7_init_153 : decode cX7_init 153 = .ok (.putfield 85, 3) := by decide +kernel
theorem dX7_init_156 : decode cX7_init 156 = .ok (.return_, 1) := by decide +kernel
theorem kd_7_init : Cond.code yX7_init cX7_init 3 none ∈ lw_g := mt_at 196 (by decide +kernel) rfl
theorem ki_7_init : Cond.instanceMethod yX7_init ∈ lw_g := mt_at 195 (by decide +kernel) rfl
theorem oi7 : Cond.methodLink RX7 3 objectInit ∈ lw_g := mt_at 197 (by decide +kernel) rfl
theorem cw7_11 : cCw RX7 11 yX6_init cX6_init 3 none 2 := ⟨kd_6_init, mt_at 200 (by decide +kernel) rfl, mt_at 8 (by decide +kernel) rfl, by decide +kernel⟩
theorem cw7_70 : cCw RX7 70 yX4_init cX4_init 2 none 1 := ⟨kd_4_init, mt_at 221 (by decide +kernel) rfl, mt_at 9 (by decide +kernel) rfl, by decide +kernel⟩
theorem cw7_82 : cCw RX7 82 yX10_init cX10_init 4 none 3 := ⟨kd_10_init, mt_at 267 (by decide +kernel) rfl, mt_at 10 (by decide +kernel) rfl, by decide +kernel⟩
theorem cl7_46 : Cond.classLink RX7 46 RX8 ∈ lw_g := mt_at 218 (by decide +kernel) rfl
section
variable {p : Program} {l : Launch} {e : Env} {R : Room} {s : State} {m : MethodId} {args : Array Value} {below : List Frame} {meth : Method} {c : Code} {H : Heap} {locs : List Loc} {cells slots : Nat} {Q : State → Prop}
variable {D : cG} {S S0 : cSt} {cc : ByteArray} {nL : Nat} {pc : Nat} {ls : Array Slot} {rest : List Value} {H0 : Heap} {nF nR nC nS : Nat} {ret : Option FieldType} {a : Nat}
theorem nk7_9 (C : cY p R s m args meth c RX7 cc nL nF nC nS nR ret) (X : cX D s) (hJ : cJ D S0 H0 S H locs) (hce : cells + 1 ≤ nC) (hsl : slots + 4 ≤ nS) (hdg : decode cc pc = .ok (.new 9, 3)) (kk : ∀ (H1 : Heap), cJ D S0 H0 (cNw S 7 0) H1 locs → W p l e R s m args below meth c H1 locs (cells + 1) (slots + 4) Q (F0 m (pc + 3) ls (.ref (kZ S) :: rest))) : W p l e R s m args below meth c H locs cells slots Q (F0 m pc ls (rest)) := c_new C X hJ 6 (by decide) ly_6 (fun j hj => by match j, hj with | 0, _ => rfl | 1, _ => rfl | 2, _ => rfl | 3, _ => rfl) (mt_at 198 (by decide +kernel) rfl) (mt_at 199 (by decide +kernel) rfl) (mt_at 8 (by decide +kernel) rfl) hce hsl hdg kk
theorem nk7_68 (C : cY p R s m args meth c RX7 cc nL nF nC nS nR ret) (X : cX D s) (hJ : cJ D S0 H0 S H locs) (hce : cells + 1 ≤ nC) (hsl : slots + 9 ≤ nS) (hdg : decode cc pc = .ok (.new 68, 3)) (kk : ∀ (H1 : Heap), cJ D S0 H0 (cNw S 5 0) H1 locs → W p l e R s m args below meth c H1 locs (cells + 1) (slots + 9) Q (F0 m (pc + 3) ls (.ref (kZ S) :: rest))) : W p l e R s m args below meth c H locs cells slots Q (F0 m pc ls (rest)) := c_new C X hJ 4 (by decide) ly_4 (fun j hj => by match j, hj with | 0, _ => rfl | 1, _ => rfl | 2, _ => rfl | 3, _ => rfl | 4, _ => rfl | 5, _ => rfl | 6, _ => rfl | 7, _ => rfl | 8, _ => rfl) (mt_at 219 (by decide +kernel) rfl) (mt_at 220 (by decide +kernel) rfl) (mt_at 9 (by decide +kernel) rfl) hce hsl hdg kk
theorem nk7_77 (C : cY p R s m args meth c RX7 cc nL nF nC nS nR ret) (X : cX D s) (hJ : cJ D S0 H0 S H locs) (hce : cells + 1 ≤ nC) (hsl : slots + 9 ≤ nS) (hdg : decode cc pc = .ok (.new 77, 3)) (kk : ∀ (H1 : Heap), cJ D S0 H0 (cNw S 11 0) H1 locs → W p l e R s m args below meth c H1 locs (cells + 1) (slots + 9) Q (F0 m (pc + 3) ls (.ref (kZ S) :: rest))) : W p l e R s m args below meth c H locs cells slots Q (F0 m pc ls (rest)) := c_new C X hJ 10 (by decide) ly_10 (fun j hj => by match j, hj with | 0, _ => rfl | 1, _ => rfl | 2, _ => rfl | 3, _ => rfl | 4, _ => rfl | 5, _ => rfl | 6, _ => rfl | 7, _ => rfl | 8, _ => rfl) (mt_at 265 (by decide +kernel) rfl) (mt_at 266 (by decide +kernel) rfl) (mt_at 10 (by decide +kernel) rfl) hce hsl hdg kk
theorem gk7_73 (C : cY p R s m args meth c RX7 cc nL nF nC nS nR ret) (X : cX D s) (hW : cW D S H) (hk : kK S a = 8) {x : Nat} (hx : kR S a 1 = some x) (hdg : decode cc pc = .ok (.getfield 73, 3)) (kk : W p l e R s m args below meth c H locs cells slots Q (F0 m (pc + 3) ls (.ref x :: rest))) : W p l e R s m args below meth c H locs cells slots Q (F0 m pc ls (.ref a :: rest)) := c_get C X hW 7 (by decide) ly_7 hk 1 (by decide) (mt_at 305 (by decide +kernel) (by decide +kernel)) hdg (by rw [cV_R (by decide +kernel) hx]; exact kk)
theorem gk7_79 (C : cY p R s m args meth c RX7 cc nL nF nC nS nR ret) (X : cX D s) (hW : cW D S H) (hk : kK S a = 5) {x : Nat} (hx : kR S a 2 = some x) (hdg : decode cc pc = .ok (.getfield 79, 3)) (kk : W p l e R s m args below meth c H locs cells slots Q (F0 m (pc + 3) ls (.ref x :: rest))) : W p l e R s m args below meth c H locs cells slots Q (F0 m pc ls (.ref a :: rest)) := c_get C X hW 4 (by decide) ly_4 hk 2 (by decide) (mt_at 232 (by decide +kernel) (by decide +kernel)) hdg (by rw [cV_R (by decide +kernel) hx]; exact kk)
theorem pk7_14 {o : Option Nat} (C : cY p R s m args meth c RX7 cc nL nF nC nS nR ret) (hin : meth.name = "<init>") (X : cX D s) (hJ : cJ D S0 H0 S H locs) (hk : kK S a = 8) (hdg : decode cc pc = .ok (.putfield 14, 3)) (kk : ∀ (H1 : Heap) (locs1 : List Loc), cJ D S0 H0 (cPr S a 3 o) H1 locs1 → W p l e R s m args below meth c H1 locs1 cells slots Q (F0 m (pc + 3) ls (rest))) : W p l e R s m args below meth c H locs cells slots Q (F0 m pc ls (va_rf o :: .ref a :: rest)) := c_putF (S1 := (cPr S a 3 o)) C X hJ 7 (by decide) ly_7 hk 3 (by decide) (by decide +kernel) hin rfl nar_rf fit_rf (by decide) rfl rfl (fun j _ => c_vR (by decide +kernel)) c_oPr (mt_at 309 (by decide +kernel) (by decide +kernel)) hdg kk
theorem pk7_20 {o : Option Nat} (C : cY p R s m args meth c RX7 cc nL nF nC nS nR ret) (hin : meth.name = "<init>") (X : cX D s) (hJ : cJ D S0 H0 S H locs) (hk : kK S a = 8) (hdg : decode cc pc = .ok (.putfield 20, 3)) (kk : ∀ (H1 : Heap) (locs1 : List Loc), cJ D S0 H0 (cPr S a 4 o) H1 locs1 → W p l e R s m args below meth c H1 locs1 cells slots Q (F0 m (pc + 3) ls (rest))) : W p l e R s m args below meth c H locs cells slots Q (F0 m pc ls (va_rf o :: .ref a :: rest)) := c_putF (S1 := (cPr S a 4 o)) C X hJ 7 (by decide) ly_7 hk 4 (by decide) (by decide +kernel) hin rfl nar_rf fit_rf (by decide) rfl rfl (fun j _ => c_vR (by decide +kernel)) c_oPr (mt_at 311 (by decide +kernel) (by decide +kernel)) hdg kk
theorem pk7_23 {o : Option Nat} (C : cY p R s m args meth c RX7 cc nL nF nC nS nR ret) (hin : meth.name = "<init>") (X : cX D s) (hJ : cJ D S0 H0 S H locs) (hk : kK S a = 8) (hdg : decode cc pc = .ok (.putfield 23, 3)) (kk : ∀ (H1 : Heap) (locs1 : List Loc), cJ D S0 H0 (cPr S a 5 o) H1 locs1 → W p l e R s m args below meth c H1 locs1 cells slots Q (F0 m (pc + 3) ls (rest))) : W p l e R s m args below meth c H locs cells slots Q (F0 m pc ls (va_rf o :: .ref a :: rest)) := c_putF (S1 := (cPr S a 5 o)) C X hJ 7 (by decide) ly_7 hk 5 (by decide) (by decide +kernel) hin rfl nar_ra fit_ra (by decide) rfl rfl (fun j _ => c_vR (by decide +kernel)) c_oPr (mt_at 313 (by decide +kernel) (by decide +kernel)) hdg kk
theorem pk7_27 {o : Option Nat} (C : cY p R s m args meth c RX7 cc nL nF nC nS nR ret) (hin : meth.name = "<init>") (X : cX D s) (hJ : cJ D S0 H0 S H locs) (hk : kK S a = 8) (hdg : decode cc pc = .ok (.putfield 27, 3)) (kk : ∀ (H1 : Heap) (locs1 : List Loc), cJ D S0 H0 (cPr S a 6 o) H1 locs1 → W p l e R s m args below meth c H1 locs1 cells slots Q (F0 m (pc + 3) ls (rest))) : W p l e R s m args below meth c H locs cells slots Q (F0 m pc ls (va_rf o :: .ref a :: rest)) := c_putF (S1 := (cPr S a 6 o)) C X hJ 7 (by decide) ly_7 hk 6 (by decide) (by decide +kernel) hin rfl nar_ra fit_ra (by decide) rfl rfl (fun j _ => c_vR (by decide +kernel)) c_oPr (mt_at 316 (by decide +kernel) (by decide +kernel)) hdg kk
theorem pk7_30 {o : Option Nat} (C : cY p R s m args meth c RX7 cc nL nF nC nS nR ret) (hin : meth.name = "<init>") (X : cX D s) (hJ : cJ D S0 H0 S H locs) (hk : kK S a = 8) (hdg : decode cc pc = .ok (.putfield 30, 3)) (kk : ∀ (H1 : Heap) (locs1 : List Loc), cJ D S0 H0 (cPr S a 7 o) H1 locs1 → W p l e R s m args below meth c H1 locs1 cells slots Q (F0 m (pc + 3) ls (rest))) : W p l e R s m args below meth c H locs cells slots Q (F0 m pc ls (va_rf o :: .ref a :: rest)) := c_putF (S1 := (cPr S a 7 o)) C X hJ 7 (by decide) ly_7 hk 7 (by decide) (by decide +kernel) hin rfl nar_ra fit_ra (by decide) rfl rfl (fun j _ => c_vR (by decide +kernel)) c_oPr (mt_at 318 (by decide +kernel) (by decide +kernel)) hdg kk
theorem pk7_33 {x : Int32} (C : cY p R s m args meth c RX7 cc nL nF nC nS nR ret) (X : cX D s) (hJ : cJ D S0 H0 S H locs) (hk : kK S a = 8) (hdg : decode cc pc = .ok (.putfield 33, 3)) (kk : ∀ (H1 : Heap) (locs1 : List Loc), cJ D S0 H0 (cPi S a 8 x) H1 locs1 → W p l e R s m args below meth c H1 locs1 cells slots Q (F0 m (pc + 3) ls (rest))) : W p l e R s m args below meth c H locs cells slots Q (F0 m pc ls (.int x :: .ref a :: rest)) := c_put (S1 := (cPi S a 8 x)) C X hJ 7 (by decide) ly_7 hk 8 (by decide) (by decide +kernel)  rfl rfl (by decide) rfl rfl (fun j _ => c_vI (by decide +kernel)) c_oPi (mt_at 321 (by decide +kernel) (by decide +kernel)) hdg kk
theorem pk7_37 {x : Int32} (C : cY p R s m args meth c RX7 cc nL nF nC nS nR ret) (X : cX D s) (hJ : cJ D S0 H0 S H locs) (hk : kK S a = 8) (hdg : decode cc pc = .ok (.putfield 37, 3)) (kk : ∀ (H1 : Heap) (locs1 : List Loc), cJ D S0 H0 (cPi S a 9 x) H1 locs1 → W p l e R s m args below meth c H1 locs1 cells slots Q (F0 m (pc + 3) ls (rest))) : W p l e R s m args below meth c H locs cells slots Q (F0 m pc ls (.int x :: .ref a :: rest)) := c_put (S1 := (cPi S a 9 x)) C X hJ 7 (by decide) ly_7 hk 9 (by decide) (by decide +kernel)  rfl rfl (by decide) rfl rfl (fun j _ => c_vI (by decide +kernel)) c_oPi (mt_at 323 (by decide +kernel) (by decide +kernel)) hdg kk
theorem pk7_40 {x : Int32} (C : cY p R s m args meth c RX7 cc nL nF nC nS nR ret) (X : cX D s) (hJ : cJ D S0 H0 S H locs) (hk : kK S a = 8) (hdg : decode cc pc = .ok (.putfield 40, 3)) (kk : ∀ (H1 : Heap) (locs1 : List Loc), cJ D S0 H0 (cPi S a 10 x) H1 locs1 → W p l e R s m args below meth c H1 locs1 cells slots Q (F0 m (pc + 3) ls (rest))) : W p l e R s m args below meth c H locs cells slots Q (F0 m pc ls (.int x :: .ref a :: rest)) := c_put (S1 := (cPi S a 10 x)) C X hJ 7 (by decide) ly_7 hk 10 (by decide) (by decide +kernel)  rfl rfl (by decide) rfl rfl (fun j _ => c_vI (by decide +kernel)) c_oPi (mt_at 325 (by decide +kernel) (by decide +kernel)) hdg kk
theorem pk7_43 {x : Int32} (C : cY p R s m args meth c RX7 cc nL nF nC nS nR ret) (X : cX D s) (hJ : cJ D S0 H0 S H locs) (hk : kK S a = 8) (hdg : decode cc pc = .ok (.putfield 43, 3)) (kk : ∀ (H1 : Heap) (locs1 : List Loc), cJ D S0 H0 (cPi S a 11 x) H1 locs1 → W p l e R s m args below meth c H1 locs1 cells slots Q (F0 m (pc + 3) ls (rest))) : W p l e R s m args below meth c H locs cells slots Q (F0 m pc ls (.int x :: .ref a :: rest)) := c_put (S1 := (cPi S a 11 x)) C X hJ 7 (by decide) ly_7 hk 11 (by decide) (by decide +kernel)  rfl rfl (by decide) rfl rfl (fun j _ => c_vI (by decide +kernel)) c_oPi (mt_at 327 (by decide +kernel) (by decide +kernel)) hdg kk
theorem pk7_48 {o : Option Nat} (C : cY p R s m args meth c RX7 cc nL nF nC nS nR ret) (hin : meth.name = "<init>") (X : cX D s) (hJ : cJ D S0 H0 S H locs) (hk : kK S a = 8) (hdg : decode cc pc = .ok (.putfield 48, 3)) (kk : ∀ (H1 : Heap) (locs1 : List Loc), cJ D S0 H0 (cPr S a 13 o) H1 locs1 → W p l e R s m args below meth c H1 locs1 cells slots Q (F0 m (pc + 3) ls (rest))) : W p l e R s m args below meth c H locs cells slots Q (F0 m pc ls (va_rf o :: .ref a :: rest)) := c_putF (S1 := (cPr S a 13 o)) C X hJ 7 (by decide) ly_7 hk 13 (by decide) (by decide +kernel) hin rfl nar_ra fit_ra (by decide) rfl rfl (fun j _ => c_vR (by decide +kernel)) c_oPr (mt_at 330 (by decide +kernel) (by decide +kernel)) hdg kk
theorem pk7_52 {o : Option Nat} (C : cY p R s m args meth c RX7 cc nL nF nC nS nR ret) (hin : meth.name = "<init>") (X : cX D s) (hJ : cJ D S0 H0 S H locs) (hk : kK S a = 8) (hdg : decode cc pc = .ok (.putfield 52, 3)) (kk : ∀ (H1 : Heap) (locs1 : List Loc), cJ D S0 H0 (cPr S a 14 o) H1 locs1 → W p l e R s m args below meth c H1 locs1 cells slots Q (F0 m (pc + 3) ls (rest))) : W p l e R s m args below meth c H locs cells slots Q (F0 m pc ls (va_rf o :: .ref a :: rest)) := c_putF (S1 := (cPr S a 14 o)) C X hJ 7 (by decide) ly_7 hk 14 (by decide) (by decide +kernel) hin rfl nar_ra fit_ra (by decide) rfl rfl (fun j _ => c_vR (by decide +kernel)) c_oPr (mt_at 331 (by decide +kernel) (by decide +kernel)) hdg kk
theorem pk7_55 {o : Option Nat} (C : cY p R s m args meth c RX7 cc nL nF nC nS nR ret) (hin : meth.name = "<init>") (X : cX D s) (hJ : cJ D S0 H0 S H locs) (hk : kK S a = 8) (hdg : decode cc pc = .ok (.putfield 55, 3)) (kk : ∀ (H1 : Heap) (locs1 : List Loc), cJ D S0 H0 (cPr S a 15 o) H1 locs1 → W p l e R s m args below meth c H1 locs1 cells slots Q (F0 m (pc + 3) ls (rest))) : W p l e R s m args below meth c H locs cells slots Q (F0 m pc ls (va_rf o :: .ref a :: rest)) := c_putF (S1 := (cPr S a 15 o)) C X hJ 7 (by decide) ly_7 hk 15 (by decide) (by decide +kernel) hin rfl nar_ra fit_ra (by decide) rfl rfl (fun j _ => c_vR (by decide +kernel)) c_oPr (mt_at 332 (by decide +kernel) (by decide +kernel)) hdg kk
theorem pk7_58 {o : Option Nat} (C : cY p R s m args meth c RX7 cc nL nF nC nS nR ret) (hin : meth.name = "<init>") (X : cX D s) (hJ : cJ D S0 H0 S H locs) (hk : kK S a = 8) (hdg : decode cc pc = .ok (.putfield 58, 3)) (kk : ∀ (H1 : Heap) (locs1 : List Loc), cJ D S0 H0 (cPr S a 16 o) H1 locs1 → W p l e R s m args below meth c H1 locs1 cells slots Q (F0 m (pc + 3) ls (rest))) : W p l e R s m args below meth c H locs cells slots Q (F0 m pc ls (va_rf o :: .ref a :: rest)) := c_putF (S1 := (cPr S a 16 o)) C X hJ 7 (by decide) ly_7 hk 16 (by decide) (by decide +kernel) hin rfl nar_ra fit_ra (by decide) rfl rfl (fun j _ => c_vR (by decide +kernel)) c_oPr (mt_at 333 (by decide +kernel) (by decide +kernel)) hdg kk
theorem pk7_61 {x : Int32} (C : cY p R s m args meth c RX7 cc nL nF nC nS nR ret) (hin : meth.name = "<init>") (X : cX D s) (hJ : cJ D S0 H0 S H locs) (hk : kK S a = 8) (hdg : decode cc pc = .ok (.putfield 61, 3)) (kk : ∀ (H1 : Heap) (locs1 : List Loc), cJ D S0 H0 (cPi S a 0 x) H1 locs1 → W p l e R s m args below meth c H1 locs1 cells slots Q (F0 m (pc + 3) ls (rest))) : W p l e R s m args below meth c H locs cells slots Q (F0 m pc ls (.int x :: .ref a :: rest)) := c_putF (S1 := (cPi S a 0 x)) C X hJ 7 (by decide) ly_7 hk 0 (by decide) (by decide +kernel) hin rfl rfl rfl (by decide) rfl rfl (fun j _ => c_vI (by decide +kernel)) c_oPi (mt_at 302 (by decide +kernel) (by decide +kernel)) hdg kk
theorem pk7_64 {o : Option Nat} (C : cY p R s m args meth c RX7 cc nL nF nC nS nR ret) (hin : meth.name = "<init>") (X : cX D s) (hJ : cJ D S0 H0 S H locs) (hk : kK S a = 8) (hdg : decode cc pc = .ok (.putfield 64, 3)) (kk : ∀ (H1 : Heap) (locs1 : List Loc), cJ D S0 H0 (cPr S a 12 o) H1 locs1 → W p l e R s m args below meth c H1 locs1 cells slots Q (F0 m (pc + 3) ls (rest))) : W p l e R s m args below meth c H locs cells slots Q (F0 m pc ls (va_rf o :: .ref a :: rest)) := c_putF (S1 := (cPr S a 12 o)) C X hJ 7 (by decide) ly_7 hk 12 (by decide) (by decide +kernel) hin rfl nar_rf fit_rf (by decide) rfl rfl (fun j _ => c_vR (by decide +kernel)) c_oPr (mt_at 329 (by decide +kernel) (by decide +kernel)) hdg kk
theorem pk7_73 {o : Option Nat} (C : cY p R s m args meth c RX7 cc nL nF nC nS nR ret) (hin : meth.name = "<init>") (X : cX D s) (hJ : cJ D S0 H0 S H locs) (hk : kK S a = 8) (hdg : decode cc pc = .ok (.putfield 73, 3)) (kk : ∀ (H1 : Heap) (locs1 : List Loc), cJ D S0 H0 (cPr S a 1 o) H1 locs1 → W p l e R s m args below meth c H1 locs1 cells slots Q (F0 m (pc + 3) ls (rest))) : W p l e R s m args below meth c H locs cells slots Q (F0 m pc ls (va_rf o :: .ref a :: rest)) := c_putF (S1 := (cPr S a 1 o)) C X hJ 7 (by decide) ly_7 hk 1 (by decide) (by decide +kernel) hin rfl nar_rf fit_rf (by decide) rfl rfl (fun j _ => c_vR (by decide +kernel)) c_oPr (mt_at 305 (by decide +kernel) (by decide +kernel)) hdg kk
theorem pk7_85 {o : Option Nat} (C : cY p R s m args meth c RX7 cc nL nF nC nS nR ret) (hin : meth.name = "<init>") (X : cX D s) (hJ : cJ D S0 H0 S H locs) (hk : kK S a = 8) (hdg : decode cc pc = .ok (.putfield 85, 3)) (kk : ∀ (H1 : Heap) (locs1 : List Loc), cJ D S0 H0 (cPr S a 2 o) H1 locs1 → W p l e R s m args below meth c H1 locs1 cells slots Q (F0 m (pc + 3) ls (rest))) : W p l e R s m args below meth c H locs cells slots Q (F0 m pc ls (va_rf o :: .ref a :: rest)) := c_putF (S1 := (cPr S a 2 o)) C X hJ 7 (by decide) ly_7 hk 2 (by decide) (by decide +kernel) hin rfl nar_rf fit_rf (by decide) rfl rfl (fun j _ => c_vR (by decide +kernel)) c_oPr (mt_at 307 (by decide +kernel) (by decide +kernel)) hdg kk
end
section
variable {p : Program} {l : Launch} {e : Env} {R : Room} {s : State} {m : MethodId} {args : Array Value} {below : List Frame} {meth : Method} {c : Code} {D : cG} {S0 S9 : cSt}
noncomputable def fk_7_init (S : cSt) (v0 : Nat) (v1 : Int32) (v2 : Nat) : Option (cSt) :=
lt (kZ S) fun a2 => lt (cNw S 7 0) fun S1 =>
bd (fk_6_init S1 a2 (3 : Int32) (250 : Int32)) fun S3 =>
ckk S3 v0 8 (lt (cPr S3 v0 3 (some a2)) fun S4 =>
lt (kZ S4) fun a6 => lt (cNw S4 7 0) fun S5 =>
bd (fk_6_init S5 a6 (4 : Int32) (200 : Int32)) fun S7 =>
ckk S7 v0 8 (lt (cPr S7 v0 4 (some a6)) fun S8 =>
lt (kZ S8) fun a11 => lt (cNw S8 20 16) fun S10 =>
ckk S10 v0 8 (lt (cPr S10 v0 5 (some a11)) fun S12 =>
lt (kZ S12) fun a14 => lt (cNw S12 20 16) fun S13 =>
ckk S13 v0 8 (lt (cPr S13 v0 6 (some a14)) fun S15 =>
lt (kZ S15) fun a17 => lt (cNw S15 20 16) fun S16 =>
ckk S16 v0 8 (lt (cPr S16 v0 7 (some a17)) fun S18 =>
ckk S18 v0 8 (lt (cPi S18 v0 8 (0 : Int32)) fun S19 =>
ckk S19 v0 8 (lt (cPi S19 v0 9 (0 : Int32)) fun S20 =>
ckk S20 v0 8 (lt (cPi S20 v0 10 (0 : Int32)) fun S21 =>
ckk S21 v0 8 (lt (cPi S21 v0 11 (0 : Int32)) fun S22 =>
lt (kZ S22) fun a24 => lt (cNw S22 30 30) fun S23 =>
ckk S23 v0 8 (lt (cPr S23 v0 13 (some a24)) fun S25 =>
lt (kZ S25) fun a27 => lt (cNw S25 20 48) fun S26 =>
ckk S26 v0 8 (lt (cPr S26 v0 14 (some a27)) fun S28 =>
lt (kZ S28) fun a30 => lt (cNw S28 20 48) fun S29 =>
ckk S29 v0 8 (lt (cPr S29 v0 15 (some a30)) fun S31 =>
lt (kZ S31) fun a33 => lt (cNw S31 20 16) fun S32 =>
ckk S32 v0 8 (lt (cPr S32 v0 16 (some a33)) fun S34 =>
ckk S34 v0 8 (lt (cPi S34 v0 0 v1) fun S35 =>
ckk S35 v0 8 (lt (cPr S35 v0 12 (some v2)) fun S36 =>
lt (kZ S36) fun a38 => lt (cNw S36 5 0) fun S37 =>
bd (fk_4_init S37 a38 v2) fun S39 =>
ckk S39 v0 8 (lt (cPr S39 v0 1 (some a38)) fun S40 =>
lt (kZ S40) fun a42 => lt (cNw S40 11 0) fun S41 =>
ckk S41 v0 8 (bd (kR S41 v0 1) fun a43 =>
ckk S41 v0 8 (bd (kR S41 v0 1) fun a44 =>
ckk S41 a44 5 (bd (kR S41 a44 2) fun a45 =>
bd (fk_10_init S41 a42 v2 a43 a45) fun S46 =>
ckk S46 v0 8 (lt (cPr S46 v0 2 (some a42)) fun S47 =>
some S47))))))))))))))))))))
set_option maxRecDepth 100000 in
set_option maxHeartbeats 4000000 in
theorem tk_7_init (l : Launch) {D : cG} {S : cSt} {v0 : Nat} {v1 : Int32} {v2 : Nat} {S9 : cSt} (h : fk_7_init S v0 v1 v2 = some S9) : Met l yX7_init (Cond.code yX7_init cX7_init 3 none :: lw_g) { frames := 3, cells := 25, slots := 8319, locals := 83 } (kPi [.ref v0, .int v1, .ref v2] D S) (kW none D S S9) 25 8319 (cA S) := by
  refine Met.ofW (cc := cX7_init) (maxL := 3) (ret := none) (by decide) rfl ?_
  intro p e s m args below meth c s₁ B hml hv
  obtain ⟨rfl, hW, X⟩ := hv
  have C : cY p (headSpec (Cond.code yX7_init cX7_init 3 none :: lw_g) { frames := 3, cells := 25, slots := 8319, locals := 83 }).room s m _ meth c RX7 cX7_init 3 3 25 8319 83 none := ⟨B.exec, B.bytes, hml, findClass_of_methodNamed B.named, fun w hw => atoms_spec (ws := Cond.code yX7_init cX7_init 3 none :: lw_g) B.pre w (List.mem_cons_of_mem _ hw), ⟨Nat.le_refl _, Nat.le_refl _, Nat.le_refl _, Nat.le_refl _⟩, B.returns, B.notSynchronized⟩
  have hin : meth.name = "<init>" := (name_of_methodNamed B.named B.method).1
  have hl := lv_entry ([.ref v0, .int v1, .ref v2]) (n := 3) (Nat.le_of_ble_eq_true rfl)
  rw [lg_entry_eq]
  generalize (lg_sl ([.ref v0, .int v1, .ref v2]) ++ List.replicate (3 - (lg_sl ([.ref v0, .int v1, .ref v2])).length) Slot.unset).toArray = ls at hl ⊢
  have hl : lv_has ls 3 [(0, .ref v0), (1, .int v1), (2, .ref v2)] := hl
  have hJ : cJ D S s.heap S s.heap [] := cJ.rf hW
  unfold fk_7_init at h
  refine lv_aload_n C.1 C.2.1 dX7_init_0 rfl (lv_at hl 0 rfl) ?_
  refine W.objInit C.1 C.2.1 C.2.2.2.1 (C.2.2.2.2.1 _ oi7) (C.2.2.2.2.1 _ oi_i) (C.2.2.2.2.1 _ oi_c) rfl (by rw [C.2.2.1]; exact hl.1) rfl dX7_init_1 (Nat.le_trans (by decide) C.2.2.2.2.2.1.1) (Nat.le_trans (Nat.le_of_ble_eq_true rfl) C.2.2.2.2.2.1.2.2.2) ?_
  refine W.eq (g2 := F0 m 4 ls []) rfl ?_
  refine lv_aload_n C.1 C.2.1 dX7_init_4 rfl (lv_at hl 0 rfl) ?_
  refine nk7_9 C X hJ (by decide) (by decide) dX7_init_5 (fun H hJ => ?_)
  refine lt_ok h (fun a2 e_a2 h => ?_)
  refine lt_ok h (fun S1 e_S1 h => ?_)
  rw [e_S1] at hJ
  rw [e_a2]
  refine lv_dup C.1 C.2.1 dX7_init_8 rfl ?_
  refine lv_iconst (v := 3) C.1 C.2.1 dX7_init_9 (by decide) ?_
  refine lv_sipush (v := 250) C.1 C.2.1 dX7_init_10 (by decide) ?_
  obtain ⟨S3, h_S3, h⟩ := bd_ok h
  refine c_callI (rest := [.ref a2, .ref v0]) C X hJ hl.1 [.int (3 : Int32), .int (250 : Int32)] (tk_6_init l h_S3) cw7_11 ki_6_init rfl rfl ⟨by decide, by decide⟩ ⟨(by decide), (by decide)⟩ rfl (Nat.le_of_ble_eq_true rfl) dX7_init_13 (fun H locs hJ => ?_)
  refine W.eq (g2 := F0 m 16 ls [.ref a2, .ref v0]) rfl ?_
  obtain ⟨hk, h⟩ := ckk_ok h
  refine pk7_14 (o := (some a2)) C hin X hJ hk dX7_init_16 (fun H locs hJ => ?_)
  refine lt_ok h (fun S4 e_S4 h => ?_)
  rw [e_S4] at hJ
  refine lv_aload_n C.1 C.2.1 dX7_init_19 rfl (lv_at hl 0 rfl) ?_
  refine nk7_9 C X hJ (by decide) (by decide) dX7_init_20 (fun H hJ => ?_)
  refine lt_ok h (fun a6 e_a6 h => ?_)
  refine lt_ok h (fun S5 e_S5 h => ?_)
  rw [e_S5] at hJ
  rw [e_a6]
  refine lv_dup C.1 C.2.1 dX7_init_23 rfl ?_
  refine lv_iconst (v := 4) C.1 C.2.1 dX7_init_24 (by decide) ?_
  refine lv_sipush (v := 200) C.1 C.2.1 dX7_init_25 (by decide) ?_
  obtain ⟨S7, h_S7, h⟩ := bd_ok h
  refine c_callI (rest := [.ref a6, .ref v0]) C X hJ hl.1 [.int (4 : Int32), .int (200 : Int32)] (tk_6_init l h_S7) cw7_11 ki_6_init rfl rfl ⟨by decide, by decide⟩ ⟨(by decide), (by decide)⟩ rfl (Nat.le_of_ble_eq_true rfl) dX7_init_28 (fun H locs hJ => ?_)
  refine W.eq (g2 := F0 m 31 ls [.ref a6, .ref v0]) rfl ?_
  obtain ⟨hk, h⟩ := ckk_ok h
  refine pk7_20 (o := (some a6)) C hin X hJ hk dX7_init_31 (fun H locs hJ => ?_)
  refine lt_ok h (fun S8 e_S8 h => ?_)
  rw [e_S8] at hJ
  refine lv_aload_n C.1 C.2.1 dX7_init_34 rfl (lv_at hl 0 rfl) ?_
  refine lv_bipush (v := 16) C.1 C.2.1 dX7_init_35 (by decide) ?_
  refine c_newa (N := 16) C hJ 20 (by decide) (by decide) X.2.1 rfl id rfl ar_20 (by decide) (by decide) (by decide) (by decide) (by decide) dX7_init_37 (fun H hJ => ?_)
  refine lt_ok h (fun a11 e_a11 h => ?_)
  refine lt_ok h (fun S10 e_S10 h => ?_)
  rw [e_S10] at hJ
  rw [e_a11]
  obtain ⟨hk, h⟩ := ckk_ok h
  refine pk7_23 (o := (some a11)) C hin X hJ hk dX7_init_39 (fun H locs hJ => ?_)
  refine lt_ok h (fun S12 e_S12 h => ?_)
  rw [e_S12] at hJ
  refine lv_aload_n C.1 C.2.1 dX7_init_42 rfl (lv_at hl 0 rfl) ?_
  refine lv_bipush (v := 16) C.1 C.2.1 dX7_init_43 (by decide) ?_
  refine c_newa (N := 16) C hJ 20 (by decide) (by decide) X.2.1 rfl id rfl ar_20 (by decide) (by decide) (by decide) (by decide) (by decide) dX7_init_45 (fun H hJ => ?_)
  refine lt_ok h (fun a14 e_a14 h => ?_)
  refine lt_ok h (fun S13 e_S13 h => ?_)
  rw [e_S13] at hJ
  rw [e_a14]
  obtain ⟨hk, h⟩ := ckk_ok h
  refine pk7_27 (o := (some a14)) C hin X hJ hk dX7_init_47 (fun H locs hJ => ?_)
  refine lt_ok h (fun S15 e_S15 h => ?_)
  rw [e_S15] at hJ
  refine lv_aload_n C.1 C.2.1 dX7_init_50 rfl (lv_at hl 0 rfl) ?_
  refine lv_bipush (v := 16) C.1 C.2.1 dX7_init_51 (by decide) ?_
  refine c_newa (N := 16) C hJ 20 (by decide) (by decide) X.2.1 rfl id rfl ar_20 (by decide) (by decide) (by decide) (by decide) (by decide) dX7_init_53 (fun H hJ => ?_)
  refine lt_ok h (fun a17 e_a17 h => ?_)
  refine lt_ok h (fun S16 e_S16 h => ?_)
  rw [e_S16] at hJ
  rw [e_a17]
  obtain ⟨hk, h⟩ := ckk_ok h
  refine pk7_30 (o := (some a17)) C hin X hJ hk dX7_init_55 (fun H locs hJ => ?_)
  refine lt_ok h (fun S18 e_S18 h => ?_)
  rw [e_S18] at hJ
  refine lv_aload_n C.1 C.2.1 dX7_init_58 rfl (lv_at hl 0 rfl) ?_
  refine lv_iconst (v := 0) C.1 C.2.1 dX7_init_59 (by decide) ?_
  obtain ⟨hk, h⟩ := ckk_ok h
  refine pk7_33 C X hJ hk dX7_init_60 (fun H locs hJ => ?_)
  refine lt_ok h (fun S19 e_S19 h => ?_)
  rw [e_S19] at hJ
  refine lv_aload_n C.1 C.2.1 dX7_init_63 rfl (lv_at hl 0 rfl) ?_
  refine lv_iconst (v := 0) C.1 C.2.1 dX7_init_64 (by decide) ?_
  obtain ⟨hk, h⟩ := ckk_ok h
  refine pk7_37 C X hJ hk dX7_init_65 (fun H locs hJ => ?_)
  refine lt_ok h (fun S20 e_S20 h => ?_)
  rw [e_S20] at hJ
  refine lv_aload_n C.1 C.2.1 dX7_init_68 rfl (lv_at hl 0 rfl) ?_
  refine lv_iconst (v := 0) C.1 C.2.1 dX7_init_69 (by decide) ?_
  obtain ⟨hk, h⟩ := ckk_ok h
  refine pk7_40 C X hJ hk dX7_init_70 (fun H locs hJ => ?_)
  refine lt_ok h (fun S21 e_S21 h => ?_)
  rw [e_S21] at hJ
  refine lv_aload_n C.1 C.2.1 dX7_init_73 rfl (lv_at hl 0 rfl) ?_
  refine lv_iconst (v := 0) C.1 C.2.1 dX7_init_74 (by decide) ?_
  obtain ⟨hk, h⟩ := ckk_ok h
  refine pk7_43 C X hJ hk dX7_init_75 (fun H locs hJ => ?_)
  refine lt_ok h (fun S22 e_S22 h => ?_)
  rw [e_S22] at hJ
  refine lv_aload_n C.1 C.2.1 dX7_init_78 rfl (lv_at hl 0 rfl) ?_
  refine lv_bipush (v := 30) C.1 C.2.1 dX7_init_79 (by decide) ?_
  refine c_anew (N := 30) C hJ 30 (by decide) X.2.2.2.2.1 cl7_46 X.2.2.2.2.2.2.2.1.1 (by decide) (by decide) (by decide) (by decide) (by decide) dX7_init_81 (fun H hJ => ?_)
  refine lt_ok h (fun a24 e_a24 h => ?_)
  refine lt_ok h (fun S23 e_S23 h => ?_)
  rw [e_S23] at hJ
  rw [e_a24]
  obtain ⟨hk, h⟩ := ckk_ok h
  refine pk7_48 (o := (some a24)) C hin X hJ hk dX7_init_84 (fun H locs hJ => ?_)
  refine lt_ok h (fun S25 e_S25 h => ?_)
  rw [e_S25] at hJ
  refine lv_aload_n C.1 C.2.1 dX7_init_87 rfl (lv_at hl 0 rfl) ?_
  refine lv_bipush (v := 48) C.1 C.2.1 dX7_init_88 (by decide) ?_
  refine c_newa (N := 48) C hJ 20 (by decide) (by decide) X.2.1 rfl id rfl ar_20 (by decide) (by decide) (by decide) (by decide) (by decide) dX7_init_90 (fun H hJ => ?_)
  refine lt_ok h (fun a27 e_a27 h => ?_)
  refine lt_ok h (fun S26 e_S26 h => ?_)
  rw [e_S26] at hJ
  rw [e_a27]
  obtain ⟨hk, h⟩ := ckk_ok h
  refine pk7_52 (o := (some a27)) C hin X hJ hk dX7_init_92 (fun H locs hJ => ?_)
  refine lt_ok h (fun S28 e_S28 h => ?_)
  rw [e_S28] at hJ
  refine lv_aload_n C.1 C.2.1 dX7_init_95 rfl (lv_at hl 0 rfl) ?_
  refine lv_bipush (v := 48) C.1 C.2.1 dX7_init_96 (by decide) ?_
  refine c_newa (N := 48) C hJ 20 (by decide) (by decide) X.2.1 rfl id rfl ar_20 (by decide) (by decide) (by decide) (by decide) (by decide) dX7_init_98 (fun H hJ => ?_)
  refine lt_ok h (fun a30 e_a30 h => ?_)
  refine lt_ok h (fun S29 e_S29 h => ?_)
  rw [e_S29] at hJ
  rw [e_a30]
  obtain ⟨hk, h⟩ := ckk_ok h
  refine pk7_55 (o := (some a30)) C hin X hJ hk dX7_init_100 (fun H locs hJ => ?_)
  refine lt_ok h (fun S31 e_S31 h => ?_)
  rw [e_S31] at hJ
  refine lv_aload_n C.1 C.2.1 dX7_init_103 rfl (lv_at hl 0 rfl) ?_
  refine lv_bipush (v := 16) C.1 C.2.1 dX7_init_104 (by decide) ?_
  refine c_newa (N := 16) C hJ 20 (by decide) (by decide) X.2.1 rfl id rfl ar_20 (by decide) (by decide) (by decide) (by decide) (by decide) dX7_init_106 (fun H hJ => ?_)
  refine lt_ok h (fun a33 e_a33 h => ?_)
  refine lt_ok h (fun S32 e_S32 h => ?_)
  rw [e_S32] at hJ
  rw [e_a33]
  obtain ⟨hk, h⟩ := ckk_ok h
  refine pk7_58 (o := (some a33)) C hin X hJ hk dX7_init_108 (fun H locs hJ => ?_)
  refine lt_ok h (fun S34 e_S34 h => ?_)
  rw [e_S34] at hJ
  refine lv_aload_n C.1 C.2.1 dX7_init_111 rfl (lv_at hl 0 rfl) ?_
  refine lv_iload_n C.1 C.2.1 dX7_init_112 rfl (lv_at hl 1 rfl) ?_
  obtain ⟨hk, h⟩ := ckk_ok h
  refine pk7_61 C hin X hJ hk dX7_init_113 (fun H locs hJ => ?_)
  refine lt_ok h (fun S35 e_S35 h => ?_)
  rw [e_S35] at hJ
  refine lv_aload_n C.1 C.2.1 dX7_init_116 rfl (lv_at hl 0 rfl) ?_
  refine lv_aload_n C.1 C.2.1 dX7_init_117 rfl (lv_at hl 2 rfl) ?_
  obtain ⟨hk, h⟩ := ckk_ok h
  refine pk7_64 (o := (some v2)) C hin X hJ hk dX7_init_118 (fun H locs hJ => ?_)
  refine lt_ok h (fun S36 e_S36 h => ?_)
  rw [e_S36] at hJ
  refine lv_aload_n C.1 C.2.1 dX7_init_121 rfl (lv_at hl 0 rfl) ?_
  refine nk7_68 C X hJ (by decide) (by decide) dX7_init_122 (fun H hJ => ?_)
  refine lt_ok h (fun a38 e_a38 h => ?_)
  refine lt_ok h (fun S37 e_S37 h => ?_)
  rw [e_S37] at hJ
  rw [e_a38]
  refine lv_dup C.1 C.2.1 dX7_init_125 rfl ?_
  refine lv_aload_n C.1 C.2.1 dX7_init_126 rfl (lv_at hl 2 rfl) ?_
  obtain ⟨S39, h_S39, h⟩ := bd_ok h
  refine c_callI (rest := [.ref a38, .ref v0]) C X hJ hl.1 [.ref v2] (tk_4_init l h_S39) cw7_70 ki_4_init rfl rfl ⟨by decide, by decide⟩ ⟨(by decide), (by decide)⟩ rfl (Nat.le_of_ble_eq_true rfl) dX7_init_127 (fun H locs hJ => ?_)
  refine W.eq (g2 := F0 m 130 ls [.ref a38, .ref v0]) rfl ?_
  obtain ⟨hk, h⟩ := ckk_ok h
  refine pk7_73 (o := (some a38)) C hin X hJ hk dX7_init_130 (fun H locs hJ => ?_)
  refine lt_ok h (fun S40 e_S40 h => ?_)
  rw [e_S40] at hJ
  refine lv_aload_n C.1 C.2.1 dX7_init_133 rfl (lv_at hl 0 rfl) ?_
  refine nk7_77 C X hJ (by decide) (by decide) dX7_init_134 (fun H hJ => ?_)
  refine lt_ok h (fun a42 e_a42 h => ?_)
  refine lt_ok h (fun S41 e_S41 h => ?_)
  rw [e_S41] at hJ
  rw [e_a42]
  refine lv_dup C.1 C.2.1 dX7_init_137 rfl ?_
  refine lv_aload_n C.1 C.2.1 dX7_init_138 rfl (lv_at hl 2 rfl) ?_
  refine lv_aload_n C.1 C.2.1 dX7_init_139 rfl (lv_at hl 0 rfl) ?_
  obtain ⟨hk, h⟩ := ckk_ok h
  obtain ⟨a43, h_a43, h⟩ := bd_ok h
  refine gk7_73 C X hJ.1 hk h_a43 dX7_init_140 ?_
  refine lv_aload_n C.1 C.2.1 dX7_init_143 rfl (lv_at hl 0 rfl) ?_
  obtain ⟨hk, h⟩ := ckk_ok h
  obtain ⟨a44, h_a44, h⟩ := bd_ok h
  refine gk7_73 C X hJ.1 hk h_a44 dX7_init_144 ?_
  obtain ⟨hk, h⟩ := ckk_ok h
  obtain ⟨a45, h_a45, h⟩ := bd_ok h
  refine gk7_79 C X hJ.1 hk h_a45 dX7_init_147 ?_
  obtain ⟨S46, h_S46, h⟩ := bd_ok h
  refine c_callI (rest := [.ref a42, .ref v0]) C X hJ hl.1 [.ref v2, .ref a43, .ref a45] (tk_10_init l h_S46) cw7_82 ki_10_init rfl rfl ⟨by decide, by decide⟩ ⟨(by decide), (by decide)⟩ rfl (Nat.le_of_ble_eq_true rfl) dX7_init_150 (fun H locs hJ => ?_)
  refine W.eq (g2 := F0 m 153 ls [.ref a42, .ref v0]) rfl ?_
  obtain ⟨hk, h⟩ := ckk_ok h
  refine pk7_85 (o := (some a42)) C hin X hJ hk dX7_init_153 (fun H locs hJ => ?_)
  refine lt_ok h (fun S47 e_S47 h => ?_)
  rw [e_S47] at hJ
  cases h
  exact c_retvW C hJ dX7_init_156
end
theorem dX7_timeNow_0 : decode cX7_timeNow 0 = .ok (.aload_n 0, 1) := by decide +kernel
theorem dX7_timeNow_1 : decode cX7_timeNow 1 = .ok (.getfield 33, 3) := by decide +kernel
theorem dX7_timeNow_4 : decode cX7_timeNow 4 = .ok (.aload_n 0, 1) := by decide +kernel
theorem dX7_timeNow_5 : decode cX7_timeNow 5 = .ok (.getfield 37, 3) := by decide +kernel
theorem dX7_timeNow_8 : decode cX7_timeNow 8 = .ok (.invokestatic 89, 3) := by decide +kernel
theorem dX7_timeNow_11 : decode cX7_timeNow 11 = .ok (.ireturn, 1) := by decide +kernel
theorem kd_7_timeNow : Cond.code yX7_timeNow cX7_timeNow 1 (some .int) ∈ lw_g := mt_at 610 (by decide +kernel) rfl
theorem ki_7_timeNow : Cond.instanceMethod yX7_timeNow ∈ lw_g := mt_at 608 (by decide +kernel) rfl
theorem kl_7_timeNow : Cond.selects (kRn 7) yX7_timeNow yX7_timeNow ∈ lw_g := mt_at 609 (by decide +kernel) rfl
theorem mm7_89 : Cond.methodLink RX7 89 Lib.Math.max.name ∈ lw_g := mt_at 611 (by decide +kernel) rfl
section
variable {p : Program} {l : Launch} {e : Env} {R : Room} {s : State} {m : MethodId} {args : Array Value} {below : List Frame} {meth : Method} {c : Code} {H : Heap} {locs : List Loc} {cells slots : Nat} {Q : State → Prop}
variable {D : cG} {S S0 : cSt} {cc : ByteArray} {nL : Nat} {pc : Nat} {ls : Array Slot} {rest : List Value} {H0 : Heap} {nF nR nC nS : Nat} {ret : Option FieldType} {a : Nat}
theorem gk7_33 (C : cY p R s m args meth c RX7 cc nL nF nC nS nR ret) (X : cX D s) (hW : cW D S H) (hk : kK S a = 8) (hdg : decode cc pc = .ok (.getfield 33, 3)) (kk : W p l e R s m args below meth c H locs cells slots Q (F0 m (pc + 3) ls (.int (kF S a 8) :: rest))) : W p l e R s m args below meth c H locs cells slots Q (F0 m pc ls (.ref a :: rest)) := c_get C X hW 7 (by decide) ly_7 hk 8 (by decide) (mt_at 321 (by decide +kernel) (by decide +kernel)) hdg (by rw [cV_I (by decide +kernel)]; exact kk)
theorem gk7_37 (C : cY p R s m args meth c RX7 cc nL nF nC nS nR ret) (X : cX D s) (hW : cW D S H) (hk : kK S a = 8) (hdg : decode cc pc = .ok (.getfield 37, 3)) (kk : W p l e R s m args below meth c H locs cells slots Q (F0 m (pc + 3) ls (.int (kF S a 9) :: rest))) : W p l e R s m args below meth c H locs cells slots Q (F0 m pc ls (.ref a :: rest)) := c_get C X hW 7 (by decide) ly_7 hk 9 (by decide) (mt_at 323 (by decide +kernel) (by decide +kernel)) hdg (by rw [cV_I (by decide +kernel)]; exact kk)
end
section
variable {p : Program} {l : Launch} {e : Env} {R : Room} {s : State} {m : MethodId} {args : Array Value} {below : List Frame} {meth : Method} {c : Code} {D : cG} {S : cSt} {r : Int32}
noncomputable def fk_7_timeNow (S : cSt) (v0 : Nat) : Option (Int32) :=
ckk S v0 8 (
ckk S v0 8 (
some (if (kF S v0 8) < (kF S v0 9) then (kF S v0 9) else (kF S v0 8))))
set_option maxRecDepth 100000 in
set_option maxHeartbeats 4000000 in
theorem tk_7_timeNow (l : Launch) {D : cG} {S : cSt} {v0 : Nat} {r : Int32}  (h : fk_7_timeNow S v0 = some r) : Met l yX7_timeNow (Cond.code yX7_timeNow cX7_timeNow 1 (some .int) :: lw_g) { frames := 2, cells := 0, slots := 0, locals := 60 } (kPi [.ref v0] D S) (kQ (some (.int r))) 0 0 (mNo) := by
  refine Met.ofW (cc := cX7_timeNow) (maxL := 1) (ret := (some .int)) (by decide) rfl ?_
  intro p e s m args below meth c s₁ B hml hv
  obtain ⟨rfl, hW, X⟩ := hv
  have C : cY p (headSpec (Cond.code yX7_timeNow cX7_timeNow 1 (some .int) :: lw_g) { frames := 2, cells := 0, slots := 0, locals := 60 }).room s m _ meth c RX7 cX7_timeNow 1 2 0 0 60 (some .int) := ⟨B.exec, B.bytes, hml, findClass_of_methodNamed B.named, fun w hw => atoms_spec (ws := Cond.code yX7_timeNow cX7_timeNow 1 (some .int) :: lw_g) B.pre w (List.mem_cons_of_mem _ hw), ⟨Nat.le_refl _, Nat.le_refl _, Nat.le_refl _, Nat.le_refl _⟩, B.returns, B.notSynchronized⟩
  have hl := lv_entry ([.ref v0]) (n := 1) (Nat.le_of_ble_eq_true rfl)
  rw [lg_entry_eq]
  generalize (lg_sl ([.ref v0]) ++ List.replicate (1 - (lg_sl ([.ref v0])).length) Slot.unset).toArray = ls at hl ⊢
  have hl : lv_has ls 1 [(0, .ref v0)] := hl
  unfold fk_7_timeNow at h
  refine lv_aload_n C.1 C.2.1 dX7_timeNow_0 rfl (lv_at hl 0 rfl) ?_
  obtain ⟨hk, h⟩ := ckk_ok h
  refine gk7_33 C X hW hk dX7_timeNow_1 ?_
  refine lv_aload_n C.1 C.2.1 dX7_timeNow_4 rfl (lv_at hl 0 rfl) ?_
  obtain ⟨hk, h⟩ := ckk_ok h
  refine gk7_37 C X hW hk dX7_timeNow_5 ?_
  refine va_mmax (rest := []) C.1 C.2.1 (C.2.2.1.trans hl.1.symm) (own := RX7) C.2.2.2.1 (C.2.2.2.2.1 _ mm7_89) (C.2.2.2.2.1 _ mmax_s) (C.2.2.2.2.1 _ ma_i) (C.2.2.2.2.1 _ mmax_c) (Nat.le_trans (by decide) C.2.2.2.2.2.1.1) (Nat.le_trans (Nat.le_of_ble_eq_true rfl) C.2.2.2.2.2.1.2.2.2) (Nat.le_trans (by decide) C.2.2.2.2.2.1.2.1) (Nat.le_trans (by decide) C.2.2.2.2.2.1.2.2.1) dX7_timeNow_8 ?_
  cases h
  exact c_reti C rfl rfl dX7_timeNow_11
end
theorem dX7_knownOf_0 : decode cX7_knownOf 0 = .ok (.aload_n 0, 1) := by decide +kernel
theorem dX7_knownOf_1 : decode cX7_knownOf 1 = .ok (.getfield 23, 3) := by decide +kernel
theorem dX7_knownOf_4 : decode cX7_knownOf 4 = .ok (.iconst 4, 1) := by decide +kernel
theorem dX7_knownOf_5 : decode cX7_knownOf 5 = .ok (.aload_n 0, 1) := by decide +kernel
theorem dX7_knownOf_6 : decode cX7_knownOf 6 = .ok (.getfield 61, 3) := by decide +kernel
theorem dX7_knownOf_9 : decode cX7_knownOf 9 = .ok (.imul, 1) := by decide +kernel
theorem dX7_knownOf_10 : decode cX7_knownOf 10 = .ok (.iload_n 1, 1) := by decide +kernel
theorem dX7_knownOf_11 : decode cX7_knownOf 11 = .ok (.iadd, 1) := by decide +kernel
theorem dX7_knownOf_12 : decode cX7_knownOf 12 = .ok (.iaload, 1) := by decide +kernel
theorem dX7_knownOf_13 : decode cX7_knownOf 13 = .ok (.ireturn, 1) := by decide +kernel
theorem kd_7_knownOf : Cond.code yX7_knownOf cX7_knownOf 2 (some .int) ∈ lw_g := mt_at 568 (by decide +kernel) rfl
theorem ki_7_knownOf : Cond.instanceMethod yX7_knownOf ∈ lw_g := mt_at 566 (by decide +kernel) rfl
theorem kl_7_knownOf : Cond.selects (kRn 7) yX7_knownOf yX7_knownOf ∈ lw_g := mt_at 567 (by decide +kernel) rfl
section
variable {p : Program} {l : Launch} {e : Env} {R : Room} {s : State} {m : MethodId} {args : Array Value} {below : List Frame} {meth : Method} {c : Code} {H : Heap} {locs : List Loc} {cells slots : Nat} {Q : State → Prop}
variable {D : cG} {S S0 : cSt} {cc : ByteArray} {nL : Nat} {pc : Nat} {ls : Array Slot} {rest : List Value} {H0 : Heap} {nF nR nC nS : Nat} {ret : Option FieldType} {a : Nat}
theorem gk7_23 (C : cY p R s m args meth c RX7 cc nL nF nC nS nR ret) (X : cX D s) (hW : cW D S H) (hk : kK S a = 8) {x : Nat} (hx : kR S a 5 = some x) (hdg : decode cc pc = .ok (.getfield 23, 3)) (kk : W p l e R s m args below meth c H locs cells slots Q (F0 m (pc + 3) ls (.ref x :: rest))) : W p l e R s m args below meth c H locs cells slots Q (F0 m pc ls (.ref a :: rest)) := c_get C X hW 7 (by decide) ly_7 hk 5 (by decide) (mt_at 313 (by decide +kernel) (by decide +kernel)) hdg (by rw [cV_R (by decide +kernel) hx]; exact kk)
theorem gk7_61 (C : cY p R s m args meth c RX7 cc nL nF nC nS nR ret) (X : cX D s) (hW : cW D S H) (hk : kK S a = 8) (hdg : decode cc pc = .ok (.getfield 61, 3)) (kk : W p l e R s m args below meth c H locs cells slots Q (F0 m (pc + 3) ls (.int (kF S a 0) :: rest))) : W p l e R s m args below meth c H locs cells slots Q (F0 m pc ls (.ref a :: rest)) := c_get C X hW 7 (by decide) ly_7 hk 0 (by decide) (mt_at 302 (by decide +kernel) (by decide +kernel)) hdg (by rw [cV_I (by decide +kernel)]; exact kk)
end
section
variable {p : Program} {l : Launch} {e : Env} {R : Room} {s : State} {m : MethodId} {args : Array Value} {below : List Frame} {meth : Method} {c : Code} {D : cG} {S : cSt} {r : Int32}
noncomputable def fk_7_knownOf (S : cSt) (v0 : Nat) (v1 : Int32) : Option (Int32) :=
ckk S v0 8 (bd (kR S v0 5) fun a1 =>
ckk S v0 8 (
ckk S a1 20 (ck (((4 : Int32) * (kF S v0 0)) + v1) (kL S a1) (
some (kI S a1 (Int32.toNatClampNeg (((4 : Int32) * (kF S v0 0)) + v1)))))))
set_option maxRecDepth 100000 in
set_option maxHeartbeats 4000000 in
theorem tk_7_knownOf (l : Launch) {D : cG} {S : cSt} {v0 : Nat} {v1 : Int32} {r : Int32}  (h : fk_7_knownOf S v0 v1 = some r) : Met l yX7_knownOf (Cond.code yX7_knownOf cX7_knownOf 2 (some .int) :: lw_g) { frames := 0, cells := 0, slots := 0, locals := 0 } (kPi [.ref v0, .int v1] D S) (kQ (some (.int r))) 0 0 (mNo) := by
  refine Met.ofW (cc := cX7_knownOf) (maxL := 2) (ret := (some .int)) (by decide) rfl ?_
  intro p e s m args below meth c s₁ B hml hv
  obtain ⟨rfl, hW, X⟩ := hv
  have C : cY p (headSpec (Cond.code yX7_knownOf cX7_knownOf 2 (some .int) :: lw_g) { frames := 0, cells := 0, slots := 0, locals := 0 }).room s m _ meth c RX7 cX7_knownOf 2 0 0 0 0 (some .int) := ⟨B.exec, B.bytes, hml, findClass_of_methodNamed B.named, fun w hw => atoms_spec (ws := Cond.code yX7_knownOf cX7_knownOf 2 (some .int) :: lw_g) B.pre w (List.mem_cons_of_mem _ hw), ⟨Nat.le_refl _, Nat.le_refl _, Nat.le_refl _, Nat.le_refl _⟩, B.returns, B.notSynchronized⟩
  have hl := lv_entry ([.ref v0, .int v1]) (n := 2) (Nat.le_of_ble_eq_true rfl)
  rw [lg_entry_eq]
  generalize (lg_sl ([.ref v0, .int v1]) ++ List.replicate (2 - (lg_sl ([.ref v0, .int v1])).length) Slot.unset).toArray = ls at hl ⊢
  have hl : lv_has ls 2 [(0, .ref v0), (1, .int v1)] := hl
  unfold fk_7_knownOf at h
  refine lv_aload_n C.1 C.2.1 dX7_knownOf_0 rfl (lv_at hl 0 rfl) ?_
  obtain ⟨hk, h⟩ := ckk_ok h
  obtain ⟨a1, h_a1, h⟩ := bd_ok h
  refine gk7_23 C X hW hk h_a1 dX7_knownOf_1 ?_
  refine lv_iconst (v := 4) C.1 C.2.1 dX7_knownOf_4 (by decide) ?_
  refine lv_aload_n C.1 C.2.1 dX7_knownOf_5 rfl (lv_at hl 0 rfl) ?_
  obtain ⟨hk, h⟩ := ckk_ok h
  refine gk7_61 C X hW hk dX7_knownOf_6 ?_
  refine lv_imul C.1 C.2.1 dX7_knownOf_9 ?_
  refine lv_iload_n C.1 C.2.1 dX7_knownOf_10 rfl (lv_at hl 1 rfl) ?_
  refine lv_iadd C.1 C.2.1 dX7_knownOf_11 ?_
  obtain ⟨hk, h⟩ := ckk_ok h
  obtain ⟨hin2, h⟩ := ck_ok h
  refine c_iald C X hW hk hin2 dX7_knownOf_12 ?_
  cases h
  exact c_reti C rfl rfl dX7_knownOf_13
end
theorem dX7_hasRoomFor_0 : decode cX7_hasRoomFor 0 = .ok (.aload_n 0, 1) := by decide +kernel
theorem dX7_hasRoomFor_1 : decode cX7_hasRoomFor 1 = .ok (.getfield 64, 3) := by decide +kernel
theorem dX7_hasRoomFor_4 : decode cX7_hasRoomFor 4 = .ok (.aload_n 0, 1) := by decide +kernel
theorem dX7_hasRoomFor_5 : decode cX7_hasRoomFor 5 = .ok (.getfield 61, 3) := by decide +kernel
theorem dX7_hasRoomFor_8 : decode cX7_hasRoomFor 8 = .ok (.iload_n 1, 1) := by decide +kernel
theorem dX7_hasRoomFor_9 : decode cX7_hasRoomFor 9 = .ok (.iload_n 2, 1) := by decide +kernel
theorem dX7_hasRoomFor_10 : decode cX7_hasRoomFor 10 = .ok (.invokevirtual 95, 3) := by decide +kernel
theorem dX7_hasRoomFor_13 : decode cX7_hasRoomFor 13 = .ok (.ireturn, 1) := by decide +kernel
theorem kd_7_hasRoomFor : Cond.code yX7_hasRoomFor cX7_hasRoomFor 3 (some .boolean) ∈ lw_g := mt_at 646 (by decide +kernel) rfl
theorem ki_7_hasRoomFor : Cond.instanceMethod yX7_hasRoomFor ∈ lw_g := mt_at 644 (by decide +kernel) rfl
theorem kl_7_hasRoomFor : Cond.selects (kRn 7) yX7_hasRoomFor yX7_hasRoomFor ∈ lw_g := mt_at 645 (by decide +kernel) rfl
theorem cw7_95 : cCw RX7 95 yX0_hasRoom cX0_hasRoom 4 (some .boolean) 3 := ⟨kd_0_hasRoom, mt_at 647 (by decide +kernel) rfl, mt_at 3 (by decide +kernel) rfl, by decide +kernel⟩
section
variable {p : Program} {l : Launch} {e : Env} {R : Room} {s : State} {m : MethodId} {args : Array Value} {below : List Frame} {meth : Method} {c : Code} {H : Heap} {locs : List Loc} {cells slots : Nat} {Q : State → Prop}
variable {D : cG} {S S0 : cSt} {cc : ByteArray} {nL : Nat} {pc : Nat} {ls : Array Slot} {rest : List Value} {H0 : Heap} {nF nR nC nS : Nat} {ret : Option FieldType} {a : Nat}
theorem gk7_64 (C : cY p R s m args meth c RX7 cc nL nF nC nS nR ret) (X : cX D s) (hW : cW D S H) (hk : kK S a = 8) {x : Nat} (hx : kR S a 12 = some x) (hdg : decode cc pc = .ok (.getfield 64, 3)) (kk : W p l e R s m args below meth c H locs cells slots Q (F0 m (pc + 3) ls (.ref x :: rest))) : W p l e R s m args below meth c H locs cells slots Q (F0 m pc ls (.ref a :: rest)) := c_get C X hW 7 (by decide) ly_7 hk 12 (by decide) (mt_at 329 (by decide +kernel) (by decide +kernel)) hdg (by rw [cV_R (by decide +kernel) hx]; exact kk)
end
section
variable {p : Program} {l : Launch} {e : Env} {R : Room} {s : State} {m : MethodId} {args : Array Value} {below : List Frame} {meth : Method} {c : Code} {D : cG} {S : cSt} {r : Int32}
noncomputable def fk_7_hasRoomFor (S : cSt) (v0 : Nat) (v1 : Int32) (v2 : Int32) : Option (Int32) :=
ckk S v0 8 (bd (kR S v0 12) fun a1 =>
ckk S v0 8 (
ckk S a1 1 (bd (fk_0_hasRoom S a1 (kF S v0 0) v1 v2) fun r2 =>
ckz r2 (some r2))))
set_option maxRecDepth 100000 in
set_option maxHeartbeats 4000000 in
theorem tk_7_hasRoomFor (l : Launch) {D : cG} {S : cSt} {v0 : Nat} {v1 : Int32} {v2 : Int32} {r : Int32}  (h : fk_7_hasRoomFor S v0 v1 v2 = some r) : Met l yX7_hasRoomFor (Cond.code yX7_hasRoomFor cX7_hasRoomFor 3 (some .boolean) :: lw_g) { frames := 1, cells := 0, slots := 0, locals := 23 } (kPi [.ref v0, .int v1, .int v2] D S) (kQ (some (.int r))) 0 0 (mNo) := by
  refine Met.ofW (cc := cX7_hasRoomFor) (maxL := 3) (ret := (some .boolean)) (by decide) rfl ?_
  intro p e s m args below meth c s₁ B hml hv
  obtain ⟨rfl, hW, X⟩ := hv
  have C : cY p (headSpec (Cond.code yX7_hasRoomFor cX7_hasRoomFor 3 (some .boolean) :: lw_g) { frames := 1, cells := 0, slots := 0, locals := 23 }).room s m _ meth c RX7 cX7_hasRoomFor 3 1 0 0 23 (some .boolean) := ⟨B.exec, B.bytes, hml, findClass_of_methodNamed B.named, fun w hw => atoms_spec (ws := Cond.code yX7_hasRoomFor cX7_hasRoomFor 3 (some .boolean) :: lw_g) B.pre w (List.mem_cons_of_mem _ hw), ⟨Nat.le_refl _, Nat.le_refl _, Nat.le_refl _, Nat.le_refl _⟩, B.returns, B.notSynchronized⟩
  have hl := lv_entry ([.ref v0, .int v1, .int v2]) (n := 3) (Nat.le_of_ble_eq_true rfl)
  rw [lg_entry_eq]
  generalize (lg_sl ([.ref v0, .int v1, .int v2]) ++ List.replicate (3 - (lg_sl ([.ref v0, .int v1, .int v2])).length) Slot.unset).toArray = ls at hl ⊢
  have hl : lv_has ls 3 [(0, .ref v0), (1, .int v1), (2, .int v2)] := hl
  unfold fk_7_hasRoomFor at h
  refine lv_aload_n C.1 C.2.1 dX7_hasRoomFor_0 rfl (lv_at hl 0 rfl) ?_
  obtain ⟨hk, h⟩ := ckk_ok h
  obtain ⟨a1, h_a1, h⟩ := bd_ok h
  refine gk7_64 C X hW hk h_a1 dX7_hasRoomFor_1 ?_
  refine lv_aload_n C.1 C.2.1 dX7_hasRoomFor_4 rfl (lv_at hl 0 rfl) ?_
  obtain ⟨hk, h⟩ := ckk_ok h
  refine gk7_61 C X hW hk dX7_hasRoomFor_5 ?_
  refine lv_iload_n C.1 C.2.1 dX7_hasRoomFor_8 rfl (lv_at hl 1 rfl) ?_
  refine lv_iload_n C.1 C.2.1 dX7_hasRoomFor_9 rfl (lv_at hl 2 rfl) ?_
  obtain ⟨hk, h⟩ := ckk_ok h
  obtain ⟨r2, h_r2, h⟩ := bd_ok h
  refine c_callR (rest := []) C X hW hl.1 0 (by decide) hk [.int (kF S v0 0), .int v1, .int v2] (tk_0_hasRoom l h_r2) cw7_95 ki_0_hasRoom kl_0_hasRoom rfl ⟨by decide, by decide⟩ ⟨(by decide), (by decide)⟩ rfl (Nat.le_of_ble_eq_true rfl) dX7_hasRoomFor_10 ?_
  refine W.eq (g2 := F0 m 13 ls [.int r2]) rfl ?_
  obtain ⟨hzo, h⟩ := ckz_ok h
  cases h
  exact c_retn C (by rcases hzo with h9 | h9 <;> (rw [h9]; rfl)) rfl rfl dX7_hasRoomFor_13
end
theorem dJ7_checkLength_df160_0 : decode cJ7_checkLength_df160 0 = .ok (.iload_n 1, 1) := by decide +kernel
theorem dJ7_checkLength_df160_1 : decode cJ7_checkLength_df160 1 = .ok (.iload_n 0, 1) := by decide +kernel
theorem dJ7_checkLength_df160_2 : decode cJ7_checkLength_df160 2 = .ok (.if_icmp .ge 35, 3) := by decide +kernel
theorem dJ7_checkLength_df160_5 : decode cJ7_checkLength_df160 5 = .ok (.new 43, 3) := by decide +kernel
theorem dJ7_checkLength_df160_8 : decode cJ7_checkLength_df160 8 = .ok (.dup, 1) := by decide +kernel
theorem dJ7_checkLength_df160_9 : decode cJ7_checkLength_df160 9 = .ok (.new 45, 3) := by decide +kernel
theorem dJ7_checkLength_df160_12 : decode cJ7_checkLength_df160 12 = .ok (.dup, 1) := by decide +kernel
theorem dJ7_checkLength_df160_13 : decode cJ7_checkLength_df160 13 = .ok (.invokespecial 47, 3) := by decide +kernel
theorem dJ7_checkLength_df160_16 : decode cJ7_checkLength_df160 16 = .ok (.iload_n 0, 1) := by decide +kernel
theorem dJ7_checkLength_df160_17 : decode cJ7_checkLength_df160 17 = .ok (.invokevirtual 54, 3) := by decide +kernel
theorem dJ7_checkLength_df160_20 : decode cJ7_checkLength_df160 20 = .ok (.ldc_w 337, 3) := by decide +kernel
theorem dJ7_checkLength_df160_23 : decode cJ7_checkLength_df160 23 = .ok (.invokevirtual 50, 3) := by decide +kernel
theorem dJ7_checkLength_df160_26 : decode cJ7_checkLength_df160 26 = .ok (.iload_n 1, 1) := by decide +kernel
theorem dJ7_checkLength_df160_27 : decode cJ7_checkLength_df160 27 = .ok (.invokevirtual 54, 3) := by decide +kernel
theorem dJ7_checkLength_df160_30 : decode cJ7_checkLength_df160 30 = .ok (.invokevirtual 61, 3) := by decide +kernel
theorem dJ7_checkLength_df160_33 : decode cJ7_checkLength_df160 33 = .ok (.invokespecial 65, 3) := by decide +kernel
theorem dJ7_checkLength_df160_36 : decode cJ7_checkLength_df160 36 = .ok (.athrow, 1) := by decide +kernel
theorem dJ7_checkLength_df160_37 : decode cJ7_checkLength_df160 37 = .ok (.return_, 1) := by decide +kernel
theorem kd_107_checkLength_df160 : Cond.code yJ7_checkLength_df160 cJ7_checkLength_df160 2 none ∈ lw_g := mt_at 668 (by decide +kernel) rfl
theorem ks_107_checkLength_df160 : Cond.static yJ7_checkLength_df160 ∈ lw_g := mt_at 667 (by decide +kernel) rfl
section
variable {p : Program} {l : Launch} {e : Env} {R : Room} {s : State} {m : MethodId} {args : Array Value} {below : List Frame} {meth : Method} {c : Code} {D : cG}
noncomputable def fk_107_checkLength_df160 (v0 : Int32) (v1 : Int32) : Option (Unit) :=
if v0 ≤ v1 then (
some ())
else (
none)
set_option maxRecDepth 100000 in
set_option maxHeartbeats 4000000 in
theorem tk_107_checkLength_df160 (l : Launch) {v0 : Int32} {v1 : Int32}  (h : fk_107_checkLength_df160 v0 v1 = some ()) : Met l yJ7_checkLength_df160 (Cond.code yJ7_checkLength_df160 cJ7_checkLength_df160 2 none :: lw_g) { frames := 0, cells := 0, slots := 0, locals := 0 } (mPs [.int v0, .int v1]) (kQ none) 0 0 (mNo) := by
  refine Met.ofW (cc := cJ7_checkLength_df160) (maxL := 2) (ret := none) (by decide) rfl ?_
  intro p e s m args below meth c s₁ B hml hv
  obtain rfl := hv
  have C : cY p (headSpec (Cond.code yJ7_checkLength_df160 cJ7_checkLength_df160 2 none :: lw_g) { frames := 0, cells := 0, slots := 0, locals := 0 }).room s m _ meth c RJ7 cJ7_checkLength_df160 2 0 0 0 0 none := ⟨B.exec, B.bytes, hml, findClass_of_methodNamed B.named, fun w hw => atoms_spec (ws := Cond.code yJ7_checkLength_df160 cJ7_checkLength_df160 2 none :: lw_g) B.pre w (List.mem_cons_of_mem _ hw), ⟨Nat.le_refl _, Nat.le_refl _, Nat.le_refl _, Nat.le_refl _⟩, B.returns, B.notSynchronized⟩
  have hl := lv_entry ([.int v0, .int v1]) (n := 2) (Nat.le_of_ble_eq_true rfl)
  rw [lg_entry_eq]
  generalize (lg_sl ([.int v0, .int v1]) ++ List.replicate (2 - (lg_sl ([.int v0, .int v1])).length) Slot.unset).toArray = ls at hl ⊢
  have hl : lv_has ls 2 [(0, .int v0), (1, .int v1)] := hl
  unfold fk_107_checkLength_df160 at h
  refine lv_iload_n C.1 C.2.1 dJ7_checkLength_df160_0 rfl (lv_at hl 1 rfl) ?_
  refine lv_iload_n C.1 C.2.1 dJ7_checkLength_df160_1 rfl (lv_at hl 0 rfl) ?_
  refine lv_icmp_ge (tgt := 37) C.1 C.2.1 dJ7_checkLength_df160_2 (by decide) (fun c1 => ?_) (fun c1 => ?_)
  · have h := if_t h c1
    cases h
    exact c_retv C rfl rfl dJ7_checkLength_df160_37
  · have h := if_f h c1
    cases h
end
theorem dJ7_copyOfRangeInt_feecc_0 : decode cJ7_copyOfRangeInt_feecc 0 = .ok (.iload_n 1, 1) := by decide +kernel
theorem dJ7_copyOfRangeInt_feecc_1 : decode cJ7_copyOfRangeInt_feecc 1 = .ok (.iload_n 2, 1) := by decide +kernel
theorem dJ7_copyOfRangeInt_feecc_2 : decode cJ7_copyOfRangeInt_feecc 2 = .ok (.invokestatic 343, 3) := by decide +kernel
theorem dJ7_copyOfRangeInt_feecc_5 : decode cJ7_copyOfRangeInt_feecc 5 = .ok (.iload_n 2, 1) := by decide +kernel
theorem dJ7_copyOfRangeInt_feecc_6 : decode cJ7_copyOfRangeInt_feecc 6 = .ok (.iload_n 1, 1) := by decide +kernel
theorem dJ7_copyOfRangeInt_feecc_7 : decode cJ7_copyOfRangeInt_feecc 7 = .ok (.isub, 1) := by decide +kernel
theorem dJ7_copyOfRangeInt_feecc_8 : decode cJ7_copyOfRangeInt_feecc 8 = .ok (.istore_n 3, 1) := by decide +kernel
theorem dJ7_copyOfRangeInt_feecc_9 : decode cJ7_copyOfRangeInt_feecc 9 = .ok (.iload_n 3, 1) := by decide +kernel
theorem dJ7_copyOfRangeInt_feecc_10 : decode cJ7_copyOfRangeInt_feecc 10 = .ok (.newarray .int, 2) := by decide +kernel
theorem dJ7_copyOfRangeInt_feecc_12 : decode cJ7_copyOfRangeInt_feecc 12 = .ok (.astore 4, 2) := by decide +kernel
theorem dJ7_copyOfRangeInt_feecc_14 : decode cJ7_copyOfRangeInt_feecc 14 = .ok (.aload_n 0, 1) := by decide +kernel
theorem dJ7_copyOfRangeInt_feecc_15 : decode cJ7_copyOfRangeInt_feecc 15 = .ok (.iload_n 1, 1) := by decide +kernel
theorem dJ7_copyOfRangeInt_feecc_16 : decode cJ7_copyOfRangeInt_feecc 16 = .ok (.aload 4, 2) := by decide +kernel
theorem dJ7_copyOfRangeInt_feecc_18 : decode cJ7_copyOfRangeInt_feecc 18 = .ok (.iconst 0, 1) := by decide +kernel
theorem dJ7_copyOfRangeInt_feecc_19 : decode cJ7_copyOfRangeInt_feecc 19 = .ok (.aload_n 0, 1) := by decide +kernel
theorem dJ7_copyOfRangeInt_feecc_20 : decode cJ7_copyOfRangeInt_feecc 20 = .ok (.arraylength, 1) := by decide +kernel
theorem dJ7_copyOfRangeInt_feecc_21 : decode cJ7_copyOfRangeInt_feecc 21 = .ok (.iload_n 1, 1) := by decide +kernel
theorem dJ7_copyOfRangeInt_feecc_22 : decode cJ7_copyOfRangeInt_feecc 22 = .ok (.isub, 1) := by decide +kernel
theorem dJ7_copyOfRangeInt_feecc_23 : decode cJ7_copyOfRangeInt_feecc 23 = .ok (.iload_n 3, 1) := by decide +kernel
theorem dJ7_copyOfRangeInt_feecc_24 : decode cJ7_copyOfRangeInt_feecc 24 = .ok (.invokestatic 304, 3) := by decide +kernel
theorem dJ7_copyOfRangeInt_feecc_27 : decode cJ7_copyOfRangeInt_feecc 27 = .ok (.invokestatic 150, 3) := by decide +kernel
theorem dJ7_copyOfRangeInt_feecc_30 : decode cJ7_copyOfRangeInt_feecc 30 = .ok (.aload 4, 2) := by decide +kernel
theorem dJ7_copyOfRangeInt_feecc_32 : decode cJ7_copyOfRangeInt_feecc 32 = .ok (.areturn, 1) := by decide +kernel
theorem kd_107_copyOfRangeInt_feecc : Cond.code yJ7_copyOfRangeInt_feecc cJ7_copyOfRangeInt_feecc 5 (some (.array .int)) ∈ lw_g := mt_at 665 (by decide +kernel) rfl
theorem ks_107_copyOfRangeInt_feecc : Cond.static yJ7_copyOfRangeInt_feecc ∈ lw_g := mt_at 664 (by decide +kernel) rfl
theorem mm107_150 : Cond.methodLink RJ7 150 arraycopyName ∈ lw_g := mt_at 778 (by decide +kernel) rfl
theorem mm107_304 : Cond.methodLink RJ7 304 Lib.Math.min.name ∈ lw_g := mt_at 777 (by decide +kernel) rfl
theorem cw107_343 : cCw RJ7 343 yJ7_checkLength_df160 cJ7_checkLength_df160 2 none 2 := ⟨kd_107_checkLength_df160, mt_at 666 (by decide +kernel) rfl, mt_at 24 (by decide +kernel) rfl, by decide +kernel⟩
section
variable {p : Program} {l : Launch} {e : Env} {R : Room} {s : State} {m : MethodId} {args : Array Value} {below : List Frame} {meth : Method} {c : Code} {D : cG} {S0 S9 : cSt} {r : Option Nat}
noncomputable def fk_107_copyOfRangeInt_feecc (S : cSt) (v0 : Nat) (v1 : Int32) (v2 : Int32) : Option ((Option Nat) × cSt) :=
bd (fk_107_checkLength_df160 v1 v2) fun r1 =>
lt (v2 - v1) fun x2 =>
ckp (¬ x2 < 0 ∧ Int32.toNatClampNeg x2 ≤ 4) (lt (kZ S) fun a4 => lt (cNw S 20 (Int32.toNatClampNeg x2)) fun S3 =>
ckk S3 v0 20 (
ckk S3 v0 20 (ckk S3 a4 20 (ckp ((¬ v1 < 0 ∧ ¬ (0 : Int32) < 0 ∧ ¬ (if x2 < ((Int32.ofNat (kL S3 v0)) - v1) then x2 else ((Int32.ofNat (kL S3 v0)) - v1)) < 0) ∧ (Int32.toNatClampNeg v1) + (Int32.toNatClampNeg (if x2 < ((Int32.ofNat (kL S3 v0)) - v1) then x2 else ((Int32.ofNat (kL S3 v0)) - v1))) ≤ kL S3 v0 ∧ (Int32.toNatClampNeg (0 : Int32)) + (Int32.toNatClampNeg (if x2 < ((Int32.ofNat (kL S3 v0)) - v1) then x2 else ((Int32.ofNat (kL S3 v0)) - v1))) ≤ kL S3 a4) (lt (cCp S3 v0 (Int32.toNatClampNeg v1) a4 (Int32.toNatClampNeg (0 : Int32)) (Int32.toNatClampNeg (if x2 < ((Int32.ofNat (kL S3 v0)) - v1) then x2 else ((Int32.ofNat (kL S3 v0)) - v1)))) fun S5 =>
some ((some a4), S5))))))
set_option maxRecDepth 100000 in
set_option maxHeartbeats 4000000 in
theorem tk_107_copyOfRangeInt_feecc (l : Launch) {D : cG} {S : cSt} {v0 : Nat} {v1 : Int32} {v2 : Int32} {r : Option Nat} {S9 : cSt} (h : fk_107_copyOfRangeInt_feecc S v0 v1 v2 = some (r, S9)) : Met l yJ7_copyOfRangeInt_feecc (Cond.code yJ7_copyOfRangeInt_feecc cJ7_copyOfRangeInt_feecc 5 (some (.array .int)) :: lw_g) { frames := 2, cells := 1, slots := 4, locals := 60 } (kPi [.ref v0, .int v1, .int v2] D S) (kW (some (va_rf r)) D S S9) 1 4 (cA S) := by
  refine Met.ofW (cc := cJ7_copyOfRangeInt_feecc) (maxL := 5) (ret := (some (.array .int))) (by decide) rfl ?_
  intro p e s m args below meth c s₁ B hml hv
  obtain ⟨rfl, hW, X⟩ := hv
  have C : cY p (headSpec (Cond.code yJ7_copyOfRangeInt_feecc cJ7_copyOfRangeInt_feecc 5 (some (.array .int)) :: lw_g) { frames := 2, cells := 1, slots := 4, locals := 60 }).room s m _ meth c RJ7 cJ7_copyOfRangeInt_feecc 5 2 1 4 60 (some (.array .int)) := ⟨B.exec, B.bytes, hml, findClass_of_methodNamed B.named, fun w hw => atoms_spec (ws := Cond.code yJ7_copyOfRangeInt_feecc cJ7_copyOfRangeInt_feecc 5 (some (.array .int)) :: lw_g) B.pre w (List.mem_cons_of_mem _ hw), ⟨Nat.le_refl _, Nat.le_refl _, Nat.le_refl _, Nat.le_refl _⟩, B.returns, B.notSynchronized⟩
  have hl := lv_entry ([.ref v0, .int v1, .int v2]) (n := 5) (Nat.le_of_ble_eq_true rfl)
  rw [lg_entry_eq]
  generalize (lg_sl ([.ref v0, .int v1, .int v2]) ++ List.replicate (5 - (lg_sl ([.ref v0, .int v1, .int v2])).length) Slot.unset).toArray = ls at hl ⊢
  have hl : lv_has ls 5 [(0, .ref v0), (1, .int v1), (2, .int v2)] := hl
  have hJ : cJ D S s.heap S s.heap [] := cJ.rf hW
  unfold fk_107_copyOfRangeInt_feecc at h
  refine lv_iload_n C.1 C.2.1 dJ7_copyOfRangeInt_feecc_0 rfl (lv_at hl 1 rfl) ?_
  refine lv_iload_n C.1 C.2.1 dJ7_copyOfRangeInt_feecc_1 rfl (lv_at hl 2 rfl) ?_
  obtain ⟨r1, h_r1, h⟩ := bd_ok h
  refine c_callS (rest := []) C hl.1 [.int v1, .int v2] (tk_107_checkLength_df160 l h_r1) cw107_343 ks_107_checkLength_df160 rfl ⟨by decide, by decide⟩ ⟨(by decide), (by decide)⟩ rfl (Nat.le_of_ble_eq_true rfl) dJ7_copyOfRangeInt_feecc_2 ?_
  refine W.eq (g2 := F0 m 5 ls []) rfl ?_
  refine lv_iload_n C.1 C.2.1 dJ7_copyOfRangeInt_feecc_5 rfl (lv_at hl 2 rfl) ?_
  refine lv_iload_n C.1 C.2.1 dJ7_copyOfRangeInt_feecc_6 rfl (lv_at hl 1 rfl) ?_
  refine lv_isub C.1 C.2.1 dJ7_copyOfRangeInt_feecc_7 ?_
  refine lt_ok h (fun x2 e_x2 h => ?_)
  refine lv_nm e_x2 ?_
  refine lv_istore_n (lv' := [(3, .int x2), (0, .ref v0), (1, .int v1), (2, .int v2)]) C.1 C.2.1 dJ7_copyOfRangeInt_feecc_8 rfl hl (by decide) rfl (fun ls hl => ?_)
  refine lv_iload_n C.1 C.2.1 dJ7_copyOfRangeInt_feecc_9 rfl (lv_at hl 0 rfl) ?_
  obtain ⟨hdy, h⟩ := ckp_ok h
  refine c_newa C hJ 20 (by decide) (by decide) X.2.1 rfl id rfl ar_20 hdy.1 rfl (Nat.le_trans (Nat.mul_le_mul_right _ hdy.2) (by decide)) (by decide) (Nat.le_trans (Nat.add_le_add_left hdy.2 _) (by decide)) dJ7_copyOfRangeInt_feecc_10 (fun H hJ => ?_)
  refine W.widen (k := 1) (n := 4) (Nat.le_refl _) (Nat.add_le_add_left hdy.2 _) ?_
  refine lt_ok h (fun a4 e_a4 h => ?_)
  refine lt_ok h (fun S3 e_S3 h => ?_)
  rw [e_S3] at hJ
  rw [e_a4]
  refine lv_astore (lv' := [(4, .ref a4), (3, .int x2), (0, .ref v0), (1, .int v1), (2, .int v2)]) C.1 C.2.1 dJ7_copyOfRangeInt_feecc_12 hl (by decide) rfl (fun ls hl => ?_)
  refine lv_aload_n C.1 C.2.1 dJ7_copyOfRangeInt_feecc_14 rfl (lv_at hl 2 rfl) ?_
  refine lv_iload_n C.1 C.2.1 dJ7_copyOfRangeInt_feecc_15 rfl (lv_at hl 3 rfl) ?_
  refine lv_aload C.1 C.2.1 dJ7_copyOfRangeInt_feecc_16 (lv_at hl 0 rfl) ?_
  refine lv_iconst (v := 0) C.1 C.2.1 dJ7_copyOfRangeInt_feecc_18 (by decide) ?_
  refine lv_aload_n C.1 C.2.1 dJ7_copyOfRangeInt_feecc_19 rfl (lv_at hl 2 rfl) ?_
  obtain ⟨hk, h⟩ := ckk_ok h
  refine c_leni C 20 (by decide) (by decide) X.2.1 hJ.1 hk dJ7_copyOfRangeInt_feecc_20 ?_
  refine lv_iload_n C.1 C.2.1 dJ7_copyOfRangeInt_feecc_21 rfl (lv_at hl 3 rfl) ?_
  refine lv_isub C.1 C.2.1 dJ7_copyOfRangeInt_feecc_22 ?_
  refine lv_iload_n C.1 C.2.1 dJ7_copyOfRangeInt_feecc_23 rfl (lv_at hl 1 rfl) ?_
  refine va_mmin (rest := [.int (0 : Int32), .ref a4, .int v1, .ref v0]) C.1 C.2.1 (C.2.2.1.trans hl.1.symm) (own := RJ7) C.2.2.2.1 (C.2.2.2.2.1 _ mm107_304) (C.2.2.2.2.1 _ mmin_s) (C.2.2.2.2.1 _ ma_i) (C.2.2.2.2.1 _ mmin_c) (Nat.le_trans (by decide) C.2.2.2.2.2.1.1) (Nat.le_trans (Nat.le_of_ble_eq_true rfl) C.2.2.2.2.2.1.2.2.2) (Nat.le_trans (by decide) C.2.2.2.2.2.1.2.1) (Nat.le_trans (by decide) C.2.2.2.2.2.1.2.2.1) dJ7_copyOfRangeInt_feecc_24 ?_
  obtain ⟨hk0, h⟩ := ckk_ok h
  obtain ⟨hk1, h⟩ := ckk_ok h
  obtain ⟨hcp, h⟩ := ckp_ok h
  refine c_copy (rest := []) C hl.1 mm107_150 ac_n ac_s ac_i 20 (by decide) (by decide) X.2.1 rfl hJ hk0 hk1 hcp (fun _ _ => rfl) (by decide) (Nat.le_of_ble_eq_true rfl) dJ7_copyOfRangeInt_feecc_27 (fun H locs hJ => ?_)
  refine lt_ok h (fun S5 e_S5 h => ?_)
  rw [e_S5] at hJ
  refine lv_aload C.1 C.2.1 dJ7_copyOfRangeInt_feecc_30 (lv_at hl 0 rfl) ?_
  cases h
  exact c_retar (o := (some a4)) C hJ dJ7_copyOfRangeInt_feecc_32
end
theorem dJ7_copyOfRange_feecc_0 : decode cJ7_copyOfRange_feecc 0 = .ok (.iload_n 1, 1) := by decide +kernel
theorem dJ7_copyOfRange_feecc_1 : decode cJ7_copyOfRange_feecc 1 = .ok (.ifCond .ne 9, 3) := by decide +kernel
theorem dJ7_copyOfRange_feecc_4 : decode cJ7_copyOfRange_feecc 4 = .ok (.iload_n 2, 1) := by decide +kernel
theorem dJ7_copyOfRange_feecc_5 : decode cJ7_copyOfRange_feecc 5 = .ok (.aload_n 0, 1) := by decide +kernel
theorem dJ7_copyOfRange_feecc_6 : decode cJ7_copyOfRange_feecc 6 = .ok (.arraylength, 1) := by decide +kernel
theorem dJ7_copyOfRange_feecc_7 : decode cJ7_copyOfRange_feecc 7 = .ok (.if_icmp .eq 10, 3) := by decide +kernel
theorem dJ7_copyOfRange_feecc_10 : decode cJ7_copyOfRange_feecc 10 = .ok (.aload_n 0, 1) := by decide +kernel
theorem dJ7_copyOfRange_feecc_11 : decode cJ7_copyOfRange_feecc 11 = .ok (.iload_n 1, 1) := by decide +kernel
theorem dJ7_copyOfRange_feecc_12 : decode cJ7_copyOfRange_feecc 12 = .ok (.iload_n 2, 1) := by decide +kernel
theorem dJ7_copyOfRange_feecc_13 : decode cJ7_copyOfRange_feecc 13 = .ok (.invokestatic 351, 3) := by decide +kernel
theorem dJ7_copyOfRange_feecc_16 : decode cJ7_copyOfRange_feecc 16 = .ok (.areturn, 1) := by decide +kernel
theorem dJ7_copyOfRange_feecc_17 : decode cJ7_copyOfRange_feecc 17 = .ok (.aload_n 0, 1) := by decide +kernel
theorem dJ7_copyOfRange_feecc_18 : decode cJ7_copyOfRange_feecc 18 = .ok (.invokevirtual 316, 3) := by decide +kernel
theorem dJ7_copyOfRange_feecc_21 : decode cJ7_copyOfRange_feecc 21 = .ok (.checkcast 317, 3) := by decide +kernel
theorem dJ7_copyOfRange_feecc_24 : decode cJ7_copyOfRange_feecc 24 = .ok (.areturn, 1) := by decide +kernel
theorem kd_107_copyOfRange_feecc : Cond.code yJ7_copyOfRange_feecc cJ7_copyOfRange_feecc 3 (some (.array .int)) ∈ lw_g := mt_at 662 (by decide +kernel) rfl
theorem ks_107_copyOfRange_feecc : Cond.static yJ7_copyOfRange_feecc ∈ lw_g := mt_at 661 (by decide +kernel) rfl
theorem cw107_351 : cCw RJ7 351 yJ7_copyOfRangeInt_feecc cJ7_copyOfRangeInt_feecc 5 (some (.array .int)) 3 := ⟨kd_107_copyOfRangeInt_feecc, mt_at 663 (by decide +kernel) rfl, mt_at 24 (by decide +kernel) rfl, by decide +kernel⟩
section
variable {p : Program} {l : Launch} {e : Env} {R : Room} {s : State} {m : MethodId} {args : Array Value} {below : List Frame} {meth : Method} {c : Code} {D : cG} {S0 S9 : cSt} {r : Option Nat}
noncomputable def fk_107_copyOfRange_feecc_10 (S : cSt) (v0 : Nat) (v1 : Int32) (v2 : Int32) : Option ((Option Nat) × cSt) :=
bd (fk_107_copyOfRangeInt_feecc S v0 v1 v2) fun q_o2 => lt q_o2.1 fun o2 => lt q_o2.2 fun S1 =>
some (o2, S1)
set_option maxRecDepth 100000 in
set_option maxHeartbeats 4000000 in
theorem wk_107_copyOfRange_feecc_10 (C : cY p R s m args meth c RJ7 cJ7_copyOfRange_feecc 3 3 1 4 84 (some (.array .int))) (X : cX D s) : ∀ {S : cSt} {v0 : Nat} {v1 : Int32} {v2 : Int32} {H : Heap} {locs : List Loc} {ls : Array Slot}, fk_107_copyOfRange_feecc_10 S v0 v1 v2 = some (r, S9) → cJ D S0 s.heap S H locs → lv_has ls 3 [(0, .ref v0), (1, .int v1), (2, .int v2)] → W p l e R s m args below meth c H locs 0 0 (MQ below (kW (some (va_rf r)) D S0 S9) args s 1 4 (cA S0)) (F0 m 10 ls []) := by
  intro S v0 v1 v2 H locs ls h hJ hl
  unfold fk_107_copyOfRange_feecc_10 at h
  refine lv_aload_n C.1 C.2.1 dJ7_copyOfRange_feecc_10 rfl (lv_at hl 0 rfl) ?_
  refine lv_iload_n C.1 C.2.1 dJ7_copyOfRange_feecc_11 rfl (lv_at hl 1 rfl) ?_
  refine lv_iload_n C.1 C.2.1 dJ7_copyOfRange_feecc_12 rfl (lv_at hl 2 rfl) ?_
  obtain ⟨⟨o2, S1⟩, h_S1, h⟩ := bd_ok h
  replace h := lt2_ok h
  refine c_callSW (rest := []) C X hJ hl.1 [.ref v0, .int v1, .int v2] (tk_107_copyOfRangeInt_feecc l h_S1) cw107_351 ks_107_copyOfRangeInt_feecc rfl ⟨by decide, by decide⟩ ⟨(by decide), (by decide)⟩ rfl (Nat.le_of_ble_eq_true rfl) dJ7_copyOfRange_feecc_13 (fun H locs hJ => ?_)
  refine W.eq (g2 := F0 m 16 ls [va_rf o2]) rfl ?_
  cases h
  exact c_retar C hJ dJ7_copyOfRange_feecc_16
noncomputable def fk_107_copyOfRange_feecc (S : cSt) (v0 : Nat) (v1 : Int32) (v2 : Int32) : Option ((Option Nat) × cSt) :=
if v1 = 0 then (
ckk S v0 20 (
if v2 = (Int32.ofNat (kL S v0)) then (
none)
else (
fk_107_copyOfRange_feecc_10 S v0 v1 v2)))
else (
fk_107_copyOfRange_feecc_10 S v0 v1 v2)
set_option maxRecDepth 100000 in
set_option maxHeartbeats 4000000 in
theorem tk_107_copyOfRange_feecc (l : Launch) {D : cG} {S : cSt} {v0 : Nat} {v1 : Int32} {v2 : Int32} {r : Option Nat} {S9 : cSt} (h : fk_107_copyOfRange_feecc S v0 v1 v2 = some (r, S9)) : Met l yJ7_copyOfRange_feecc (Cond.code yJ7_copyOfRange_feecc cJ7_copyOfRange_feecc 3 (some (.array .int)) :: lw_g) { frames := 3, cells := 1, slots := 4, locals := 84 } (kPi [.ref v0, .int v1, .int v2] D S) (kW (some (va_rf r)) D S S9) 1 4 (cA S) := by
  refine Met.ofW (cc := cJ7_copyOfRange_feecc) (maxL := 3) (ret := (some (.array .int))) (by decide) rfl ?_
  intro p e s m args below meth c s₁ B hml hv
  obtain ⟨rfl, hW, X⟩ := hv
  have C : cY p (headSpec (Cond.code yJ7_copyOfRange_feecc cJ7_copyOfRange_feecc 3 (some (.array .int)) :: lw_g) { frames := 3, cells := 1, slots := 4, locals := 84 }).room s m _ meth c RJ7 cJ7_copyOfRange_feecc 3 3 1 4 84 (some (.array .int)) := ⟨B.exec, B.bytes, hml, findClass_of_methodNamed B.named, fun w hw => atoms_spec (ws := Cond.code yJ7_copyOfRange_feecc cJ7_copyOfRange_feecc 3 (some (.array .int)) :: lw_g) B.pre w (List.mem_cons_of_mem _ hw), ⟨Nat.le_refl _, Nat.le_refl _, Nat.le_refl _, Nat.le_refl _⟩, B.returns, B.notSynchronized⟩
  have hl := lv_entry ([.ref v0, .int v1, .int v2]) (n := 3) (Nat.le_of_ble_eq_true rfl)
  rw [lg_entry_eq]
  generalize (lg_sl ([.ref v0, .int v1, .int v2]) ++ List.replicate (3 - (lg_sl ([.ref v0, .int v1, .int v2])).length) Slot.unset).toArray = ls at hl ⊢
  have hl : lv_has ls 3 [(0, .ref v0), (1, .int v1), (2, .int v2)] := hl
  have hJ : cJ D S s.heap S s.heap [] := cJ.rf hW
  unfold fk_107_copyOfRange_feecc at h
  refine lv_iload_n C.1 C.2.1 dJ7_copyOfRange_feecc_0 rfl (lv_at hl 1 rfl) ?_
  refine lv_if_ne (tgt := 10) C.1 C.2.1 dJ7_copyOfRange_feecc_1 (by decide) (fun c1 => ?_) (fun c1 => ?_)
  · have h := if_f h c1
    exact wk_107_copyOfRange_feecc_10 C X h hJ (lv_sub hl [0, 1, 2] rfl)
  · have h := if_t h c1
    refine lv_iload_n C.1 C.2.1 dJ7_copyOfRange_feecc_4 rfl (lv_at hl 2 rfl) ?_
    refine lv_aload_n C.1 C.2.1 dJ7_copyOfRange_feecc_5 rfl (lv_at hl 0 rfl) ?_
    obtain ⟨hk, h⟩ := ckk_ok h
    refine c_leni C 20 (by decide) (by decide) X.2.1 hJ.1 hk dJ7_copyOfRange_feecc_6 ?_
    refine lv_icmp_eq (tgt := 17) C.1 C.2.1 dJ7_copyOfRange_feecc_7 (by decide) (fun c2 => ?_) (fun c2 => ?_)
    · have h := if_t h c2
      cases h
    · have h := if_f h c2
      exact wk_107_copyOfRange_feecc_10 C X h hJ (lv_sub hl [0, 1, 2] rfl)
end
theorem dX8_chainFor_0 : decode cX8_chainFor 0 = .ok (.aload_n 0, 1) := by decide +kernel
theorem dX8_chainFor_1 : decode cX8_chainFor 1 = .ok (.getfield 9, 3) := by decide +kernel
theorem dX8_chainFor_4 : decode cX8_chainFor 4 = .ok (.tableswitch 120 0 18 #[92, 120, 120, 120, 120, 120, 120, 120, 120, 120, 120, 94, 98, 92, 92, 120, 120, 109, 109], 92) := by decide +kernel
theorem dX8_chainFor_96 : decode cX8_chainFor 96 = .ok (.iconst (-1), 1) := by decide +kernel
theorem dX8_chainFor_97 : decode cX8_chainFor 97 = .ok (.ireturn, 1) := by decide +kernel
theorem dX8_chainFor_98 : decode cX8_chainFor 98 = .ok (.sipush 384, 3) := by decide +kernel
theorem dX8_chainFor_101 : decode cX8_chainFor 101 = .ok (.ireturn, 1) := by decide +kernel
theorem dX8_chainFor_102 : decode cX8_chainFor 102 = .ok (.aload_n 0, 1) := by decide +kernel
theorem dX8_chainFor_103 : decode cX8_chainFor 103 = .ok (.getfield 18, 3) := by decide +kernel
theorem dX8_chainFor_106 : decode cX8_chainFor 106 = .ok (.bipush 8, 2) := by decide +kernel
theorem dX8_chainFor_108 : decode cX8_chainFor 108 = .ok (.imul, 1) := by decide +kernel
theorem dX8_chainFor_109 : decode cX8_chainFor 109 = .ok (.bipush 6, 2) := by decide +kernel
theorem dX8_chainFor_111 : decode cX8_chainFor 111 = .ok (.iadd, 1) := by decide +kernel
theorem dX8_chainFor_112 : decode cX8_chainFor 112 = .ok (.ireturn, 1) := by decide +kernel
theorem dX8_chainFor_113 : decode cX8_chainFor 113 = .ok (.aload_n 0, 1) := by decide +kernel
theorem dX8_chainFor_114 : decode cX8_chainFor 114 = .ok (.getfield 18, 3) := by decide +kernel
theorem dX8_chainFor_117 : decode cX8_chainFor 117 = .ok (.bipush 8, 2) := by decide +kernel
theorem dX8_chainFor_119 : decode cX8_chainFor 119 = .ok (.imul, 1) := by decide +kernel
theorem dX8_chainFor_120 : decode cX8_chainFor 120 = .ok (.bipush 7, 2) := by decide +kernel
theorem dX8_chainFor_122 : decode cX8_chainFor 122 = .ok (.iadd, 1) := by decide +kernel
theorem dX8_chainFor_123 : decode cX8_chainFor 123 = .ok (.ireturn, 1) := by decide +kernel
theorem dX8_chainFor_124 : decode cX8_chainFor 124 = .ok (.aload_n 0, 1) := by decide +kernel
theorem dX8_chainFor_125 : decode cX8_chainFor 125 = .ok (.getfield 18, 3) := by decide +kernel
theorem dX8_chainFor_128 : decode cX8_chainFor 128 = .ok (.bipush 8, 2) := by decide +kernel
theorem dX8_chainFor_130 : decode cX8_chainFor 130 = .ok (.imul, 1) := by decide +kernel
theorem dX8_chainFor_131 : decode cX8_chainFor 131 = .ok (.aload_n 0, 1) := by decide +kernel
theorem dX8_chainFor_132 : decode cX8_chainFor 132 = .ok (.getfield 26, 3) := by decide +kernel
theorem dX8_chainFor_135 : decode cX8_chainFor 135 = .ok (.iadd, 1) := by decide +kernel
theorem dX8_chainFor_136 : decode cX8_chainFor 136 = .ok (.ireturn, 1) := by decide +kernel
theorem kd_8_chainFor : Cond.code yX8_chainFor cX8_chainFor 1 (some .int) ∈ lw_g := mt_at 961 (by decide +kernel) rfl
theorem ks_8_chainFor : Cond.static yX8_chainFor ∈ lw_g := mt_at 960 (by decide +kernel) rfl
section
variable {p : Program} {l : Launch} {e : Env} {R : Room} {s : State} {m : MethodId} {args : Array Value} {below : List Frame} {meth : Method} {c : Code} {H : Heap} {locs : List Loc} {cells slots : Nat} {Q : State → Prop}
variable {D : cG} {S S0 : cSt} {cc : ByteArray} {nL : Nat} {pc : Nat} {ls : Array Slot} {rest : List Value} {H0 : Heap} {nF nR nC nS : Nat} {ret : Option FieldType} {a : Nat}
theorem gk8_9 (C : cY p R s m args meth c RX8 cc nL nF nC nS nR ret) (X : cX D s) (hW : cW D S H) (hk : kK S a = 2) (hdg : decode cc pc = .ok (.getfield 9, 3)) (kk : W p l e R s m args below meth c H locs cells slots Q (F0 m (pc + 3) ls (.int (kF S a 0) :: rest))) : W p l e R s m args below meth c H locs cells slots Q (F0 m pc ls (.ref a :: rest)) := c_get C X hW 1 (by decide) ly_1 hk 0 (by decide) (mt_at 161 (by decide +kernel) (by decide +kernel)) hdg (by rw [cV_I (by decide +kernel)]; exact kk)
theorem gk8_18 (C : cY p R s m args meth c RX8 cc nL nF nC nS nR ret) (X : cX D s) (hW : cW D S H) (hk : kK S a = 2) (hdg : decode cc pc = .ok (.getfield 18, 3)) (kk : W p l e R s m args below meth c H locs cells slots Q (F0 m (pc + 3) ls (.int (kF S a 1) :: rest))) : W p l e R s m args below meth c H locs cells slots Q (F0 m pc ls (.ref a :: rest)) := c_get C X hW 1 (by decide) ly_1 hk 1 (by decide) (mt_at 165 (by decide +kernel) (by decide +kernel)) hdg (by rw [cV_I (by decide +kernel)]; exact kk)
theorem gk8_26 (C : cY p R s m args meth c RX8 cc nL nF nC nS nR ret) (X : cX D s) (hW : cW D S H) (hk : kK S a = 2) (hdg : decode cc pc = .ok (.getfield 26, 3)) (kk : W p l e R s m args below meth c H locs cells slots Q (F0 m (pc + 3) ls (.int (kF S a 3) :: rest))) : W p l e R s m args below meth c H locs cells slots Q (F0 m pc ls (.ref a :: rest)) := c_get C X hW 1 (by decide) ly_1 hk 3 (by decide) (mt_at 171 (by decide +kernel) (by decide +kernel)) hdg (by rw [cV_I (by decide +kernel)]; exact kk)
end
section
variable {p : Program} {l : Launch} {e : Env} {R : Room} {s : State} {m : MethodId} {args : Array Value} {below : List Frame} {meth : Method} {c : Code} {D : cG} {S : cSt} {r : Int32}
noncomputable def fk_8_chainFor_124 (S : cSt) (v0 : Nat) : Option (Int32) :=
ckk S v0 2 (
ckk S v0 2 (
some (((kF S v0 1) * (8 : Int32)) + (kF S v0 3))))
set_option maxRecDepth 100000 in
set_option maxHeartbeats 4000000 in
theorem wk_8_chainFor_124 (C : cY p R s m args meth c RX8 cX8_chainFor 1 0 0 0 0 (some .int)) (X : cX D s) (hW : cW D S s.heap) : ∀ {v0 : Nat} {ls : Array Slot}, fk_8_chainFor_124 S v0 = some r → lv_has ls 1 [(0, .ref v0)] → W p l e R s m args below meth c s.heap [] 0 0 (MQ below (kQ (some (.int r))) args s 0 0 mNo) (F0 m 124 ls []) := by
  intro v0 ls h hl
  unfold fk_8_chainFor_124 at h
  refine lv_aload_n C.1 C.2.1 dX8_chainFor_124 rfl (lv_at hl 0 rfl) ?_
  obtain ⟨hk, h⟩ := ckk_ok h
  refine gk8_18 C X hW hk dX8_chainFor_125 ?_
  refine lv_bipush (v := 8) C.1 C.2.1 dX8_chainFor_128 (by decide) ?_
  refine lv_imul C.1 C.2.1 dX8_chainFor_130 ?_
  refine lv_aload_n C.1 C.2.1 dX8_chainFor_131 rfl (lv_at hl 0 rfl) ?_
  obtain ⟨hk, h⟩ := ckk_ok h
  refine gk8_26 C X hW hk dX8_chainFor_132 ?_
  refine lv_iadd C.1 C.2.1 dX8_chainFor_135 ?_
  cases h
  exact c_reti C rfl rfl dX8_chainFor_136
noncomputable def fk_8_chainFor_96 (S : cSt) : Option (Int32) :=
some (-1 : Int32)
set_option maxRecDepth 100000 in
set_option maxHeartbeats 4000000 in
theorem wk_8_chainFor_96 (C : cY p R s m args meth c RX8 cX8_chainFor 1 0 0 0 0 (some .int)) (X : cX D s) (hW : cW D S s.heap) : ∀ {ls : Array Slot}, fk_8_chainFor_96 S = some r → lv_has ls 1 [] → W p l e R s m args below meth c s.heap [] 0 0 (MQ below (kQ (some (.int r))) args s 0 0 mNo) (F0 m 96 ls []) := by
  intro ls h hl
  unfold fk_8_chainFor_96 at h
  refine lv_iconst (v := -1) C.1 C.2.1 dX8_chainFor_96 (by decide) ?_
  cases h
  exact c_reti C rfl rfl dX8_chainFor_97
noncomputable def fk_8_chainFor_113 (S : cSt) (v0 : Nat) : Option (Int32) :=
ckk S v0 2 (
some (((kF S v0 1) * (8 : Int32)) + (7 : Int32)))
set_option maxRecDepth 100000 in
set_option maxHeartbeats 4000000 in
theorem wk_8_chainFor_113 (C : cY p R s m args meth c RX8 cX8_chainFor 1 0 0 0 0 (some .int)) (X : cX D s) (hW : cW D S s.heap) : ∀ {v0 : Nat} {ls : Array Slot}, fk_8_chainFor_113 S v0 = some r → lv_has ls 1 [(0, .ref v0)] → W p l e R s m args below meth c s.heap [] 0 0 (MQ below (kQ (some (.int r))) args s 0 0 mNo) (F0 m 113 ls []) := by
  intro v0 ls h hl
  unfold fk_8_chainFor_113 at h
  refine lv_aload_n C.1 C.2.1 dX8_chainFor_113 rfl (lv_at hl 0 rfl) ?_
  obtain ⟨hk, h⟩ := ckk_ok h
  refine gk8_18 C X hW hk dX8_chainFor_114 ?_
  refine lv_bipush (v := 8) C.1 C.2.1 dX8_chainFor_117 (by decide) ?_
  refine lv_imul C.1 C.2.1 dX8_chainFor_119 ?_
  refine lv_bipush (v := 7) C.1 C.2.1 dX8_chainFor_120 (by decide) ?_
  refine lv_iadd C.1 C.2.1 dX8_chainFor_122 ?_
  cases h
  exact c_reti C rfl rfl dX8_chainFor_123
noncomputable def fk_8_chainFor (S : cSt) (v0 : Nat) : Option (Int32) :=
ckk S v0 2 (
if (kF S v0 0) = (0 : Int32) then (
fk_8_chainFor_96 S)
else if (kF S v0 0) = (1 : Int32) then (
fk_8_chainFor_124 S v0)
else if (kF S v0 0) = (2 : Int32) then (
fk_8_chainFor_124 S v0)
else if (kF S v0 0) = (3 : Int32) then (
fk_8_chainFor_124 S v0)
else if (kF S v0 0) = (4 : Int32) then (
fk_8_chainFor_124 S v0)
else if (kF S v0 0) = (5 : Int32) then (
fk_8_chainFor_124 S v0)
else if (kF S v0 0) = (6 : Int32) then (
fk_8_chainFor_124 S v0)
else if (kF S v0 0) = (7 : Int32) then (
fk_8_chainFor_124 S v0)
else if (kF S v0 0) = (8 : Int32) then (
fk_8_chainFor_124 S v0)
else if (kF S v0 0) = (9 : Int32) then (
fk_8_chainFor_124 S v0)
else if (kF S v0 0) = (10 : Int32) then (
fk_8_chainFor_124 S v0)
else if (kF S v0 0) = (11 : Int32) then (
some (384 : Int32))
else if (kF S v0 0) = (12 : Int32) then (
ckk S v0 2 (
some (((kF S v0 1) * (8 : Int32)) + (6 : Int32))))
else if (kF S v0 0) = (13 : Int32) then (
fk_8_chainFor_96 S)
else if (kF S v0 0) = (14 : Int32) then (
fk_8_chainFor_96 S)
else if (kF S v0 0) = (15 : Int32) then (
fk_8_chainFor_124 S v0)
else if (kF S v0 0) = (16 : Int32) then (
fk_8_chainFor_124 S v0)
else if (kF S v0 0) = (17 : Int32) then (
fk_8_chainFor_113 S v0)
else if (kF S v0 0) = (18 : Int32) then (
fk_8_chainFor_113 S v0)
else (
fk_8_chainFor_124 S v0))
set_option maxRecDepth 100000 in
set_option maxHeartbeats 4000000 in
theorem tk_8_chainFor (l : Launch) {D : cG} {S : cSt} {v0 : Nat} {r : Int32}  (h : fk_8_chainFor S v0 = some r) : Met l yX8_chainFor (Cond.code yX8_chainFor cX8_chainFor 1 (some .int) :: lw_g) { frames := 0, cells := 0, slots := 0, locals := 0 } (kPi [.ref v0] D S) (kQ (some (.int r))) 0 0 (mNo) := by
  refine Met.ofW (cc := cX8_chainFor) (maxL := 1) (ret := (some .int)) (by decide) rfl ?_
  intro p e s m args below meth c s₁ B hml hv
  obtain ⟨rfl, hW, X⟩ := hv
  have C : cY p (headSpec (Cond.code yX8_chainFor cX8_chainFor 1 (some .int) :: lw_g) { frames := 0, cells := 0, slots := 0, locals := 0 }).room s m _ meth c RX8 cX8_chainFor 1 0 0 0 0 (some .int) := ⟨B.exec, B.bytes, hml, findClass_of_methodNamed B.named, fun w hw => atoms_spec (ws := Cond.code yX8_chainFor cX8_chainFor 1 (some .int) :: lw_g) B.pre w (List.mem_cons_of_mem _ hw), ⟨Nat.le_refl _, Nat.le_refl _, Nat.le_refl _, Nat.le_refl _⟩, B.returns, B.notSynchronized⟩
  have hl := lv_entry ([.ref v0]) (n := 1) (Nat.le_of_ble_eq_true rfl)
  rw [lg_entry_eq]
  generalize (lg_sl ([.ref v0]) ++ List.replicate (1 - (lg_sl ([.ref v0])).length) Slot.unset).toArray = ls at hl ⊢
  have hl : lv_has ls 1 [(0, .ref v0)] := hl
  unfold fk_8_chainFor at h
  refine lv_aload_n C.1 C.2.1 dX8_chainFor_0 rfl (lv_at hl 0 rfl) ?_
  obtain ⟨hk, h⟩ := ckk_ok h
  refine gk8_9 C X hW hk dX8_chainFor_1 ?_
  by_cases c1 : (kF S v0 0) = (0 : Int32)
  · have h := if_t h c1
    refine lv_tableIn (off := 92) (tgt := 96) C.1 C.2.1 dX8_chainFor_4 (by rw [c1]; decide) (by rw [c1]; decide) (by rw [c1]; rfl) (by decide) ?_
    exact wk_8_chainFor_96 C X hW h (lv_sub hl [] rfl)
  · have h := if_f h c1
    by_cases c2 : (kF S v0 0) = (1 : Int32)
    · have h := if_t h c2
      refine lv_tableIn (off := 120) (tgt := 124) C.1 C.2.1 dX8_chainFor_4 (by rw [c2]; decide) (by rw [c2]; decide) (by rw [c2]; rfl) (by decide) ?_
      exact wk_8_chainFor_124 C X hW h (lv_sub hl [0] rfl)
    · have h := if_f h c2
      by_cases c3 : (kF S v0 0) = (2 : Int32)
      · have h := if_t h c3
        refine lv_tableIn (off := 120) (tgt := 124) C.1 C.2.1 dX8_chainFor_4 (by rw [c3]; decide) (by rw [c3]; decide) (by rw [c3]; rfl) (by decide) ?_
        exact wk_8_chainFor_124 C X hW h (lv_sub hl [0] rfl)
      · have h := if_f h c3
        by_cases c4 : (kF S v0 0) = (3 : Int32)
        · have h := if_t h c4
          refine lv_tableIn (off := 120) (tgt := 124) C.1 C.2.1 dX8_chainFor_4 (by rw [c4]; decide) (by rw [c4]; decide) (by rw [c4]; rfl) (by decide) ?_
          exact wk_8_chainFor_124 C X hW h (lv_sub hl [0] rfl)
        · have h := if_f h c4
          by_cases c5 : (kF S v0 0) = (4 : Int32)
          · have h := if_t h c5
            refine lv_tableIn (off := 120) (tgt := 124) C.1 C.2.1 dX8_chainFor_4 (by rw [c5]; decide) (by rw [c5]; decide) (by rw [c5]; rfl) (by decide) ?_
            exact wk_8_chainFor_124 C X hW h (lv_sub hl [0] rfl)
          · have h := if_f h c5
            by_cases c6 : (kF S v0 0) = (5 : Int32)
            · have h := if_t h c6
              refine lv_tableIn (off := 120) (tgt := 124) C.1 C.2.1 dX8_chainFor_4 (by rw [c6]; decide) (by rw [c6]; decide) (by rw [c6]; rfl) (by decide) ?_
              exact wk_8_chainFor_124 C X hW h (lv_sub hl [0] rfl)
            · have h := if_f h c6
              by_cases c7 : (kF S v0 0) = (6 : Int32)
              · have h := if_t h c7
                refine lv_tableIn (off := 120) (tgt := 124) C.1 C.2.1 dX8_chainFor_4 (by rw [c7]; decide) (by rw [c7]; decide) (by rw [c7]; rfl) (by decide) ?_
                exact wk_8_chainFor_124 C X hW h (lv_sub hl [0] rfl)
              · have h := if_f h c7
                by_cases c8 : (kF S v0 0) = (7 : Int32)
                · have h := if_t h c8
                  refine lv_tableIn (off := 120) (tgt := 124) C.1 C.2.1 dX8_chainFor_4 (by rw [c8]; decide) (by rw [c8]; decide) (by rw [c8]; rfl) (by decide) ?_
                  exact wk_8_chainFor_124 C X hW h (lv_sub hl [0] rfl)
                · have h := if_f h c8
                  by_cases c9 : (kF S v0 0) = (8 : Int32)
                  · have h := if_t h c9
                    refine lv_tableIn (off := 120) (tgt := 124) C.1 C.2.1 dX8_chainFor_4 (by rw [c9]; decide) (by rw [c9]; decide) (by rw [c9]; rfl) (by decide) ?_
                    exact wk_8_chainFor_124 C X hW h (lv_sub hl [0] rfl)
                  · have h := if_f h c9
                    by_cases c10 : (kF S v0 0) = (9 : Int32)
                    · have h := if_t h c10
                      refine lv_tableIn (off := 120) (tgt := 124) C.1 C.2.1 dX8_chainFor_4 (by rw [c10]; decide) (by rw [c10]; decide) (by rw [c10]; rfl) (by decide) ?_
                      exact wk_8_chainFor_124 C X hW h (lv_sub hl [0] rfl)
                    · have h := if_f h c10
                      by_cases c11 : (kF S v0 0) = (10 : Int32)
                      · have h := if_t h c11
                        refine lv_tableIn (off := 120) (tgt := 124) C.1 C.2.1 dX8_chainFor_4 (by rw [c11]; decide) (by rw [c11]; decide) (by rw [c11]; rfl) (by decide) ?_
                        exact wk_8_chainFor_124 C X hW h (lv_sub hl [0] rfl)
                      · have h := if_f h c11
                        by_cases c12 : (kF S v0 0) = (11 : Int32)
                        · have h := if_t h c12
                          refine lv_tableIn (off := 94) (tgt := 98) C.1 C.2.1 dX8_chainFor_4 (by rw [c12]; decide) (by rw [c12]; decide) (by rw [c12]; rfl) (by decide) ?_
                          refine lv_sipush (v := 384) C.1 C.2.1 dX8_chainFor_98 (by decide) ?_
                          cases h
                          exact c_reti C rfl rfl dX8_chainFor_101
                        · have h := if_f h c12
                          by_cases c13 : (kF S v0 0) = (12 : Int32)
                          · have h := if_t h c13
                            refine lv_tableIn (off := 98) (tgt := 102) C.1 C.2.1 dX8_chainFor_4 (by rw [c13]; decide) (by rw [c13]; decide) (by rw [c13]; rfl) (by decide) ?_
                            refine lv_aload_n C.1 C.2.1 dX8_chainFor_102 rfl (lv_at hl 0 rfl) ?_
                            obtain ⟨hk, h⟩ := ckk_ok h
                            refine gk8_18 C X hW hk dX8_chainFor_103 ?_
                            refine lv_bipush (v := 8) C.1 C.2.1 dX8_chainFor_106 (by decide) ?_
                            refine lv_imul C.1 C.2.1 dX8_chainFor_108 ?_
                            refine lv_bipush (v := 6) C.1 C.2.1 dX8_chainFor_109 (by decide) ?_
                            refine lv_iadd C.1 C.2.1 dX8_chainFor_111 ?_
                            cases h
                            exact c_reti C rfl rfl dX8_chainFor_112
                          · have h := if_f h c13
                            by_cases c14 : (kF S v0 0) = (13 : Int32)
                            · have h := if_t h c14
                              refine lv_tableIn (off := 92) (tgt := 96) C.1 C.2.1 dX8_chainFor_4 (by rw [c14]; decide) (by rw [c14]; decide) (by rw [c14]; rfl) (by decide) ?_
                              exact wk_8_chainFor_96 C X hW h (lv_sub hl [] rfl)
                            · have h := if_f h c14
                              by_cases c15 : (kF S v0 0) = (14 : Int32)
                              · have h := if_t h c15
                                refine lv_tableIn (off := 92) (tgt := 96) C.1 C.2.1 dX8_chainFor_4 (by rw [c15]; decide) (by rw [c15]; decide) (by rw [c15]; rfl) (by decide) ?_
                                exact wk_8_chainFor_96 C X hW h (lv_sub hl [] rfl)
                              · have h := if_f h c15
                                by_cases c16 : (kF S v0 0) = (15 : Int32)
                                · have h := if_t h c16
                                  refine lv_tableIn (off := 120) (tgt := 124) C.1 C.2.1 dX8_chainFor_4 (by rw [c16]; decide) (by rw [c16]; decide) (by rw [c16]; rfl) (by decide) ?_
                                  exact wk_8_chainFor_124 C X hW h (lv_sub hl [0] rfl)
                                · have h := if_f h c16
                                  by_cases c17 : (kF S v0 0) = (16 : Int32)
                                  · have h := if_t h c17
                                    refine lv_tableIn (off := 120) (tgt := 124) C.1 C.2.1 dX8_chainFor_4 (by rw [c17]; decide) (by rw [c17]; decide) (by rw [c17]; rfl) (by decide) ?_
                                    exact wk_8_chainFor_124 C X hW h (lv_sub hl [0] rfl)
                                  · have h := if_f h c17
                                    by_cases c18 : (kF S v0 0) = (17 : Int32)
                                    · have h := if_t h c18
                                      refine lv_tableIn (off := 109) (tgt := 113) C.1 C.2.1 dX8_chainFor_4 (by rw [c18]; decide) (by rw [c18]; decide) (by rw [c18]; rfl) (by decide) ?_
                                      exact wk_8_chainFor_113 C X hW h (lv_sub hl [0] rfl)
                                    · have h := if_f h c18
                                      by_cases c19 : (kF S v0 0) = (18 : Int32)
                                      · have h := if_t h c19
                                        refine lv_tableIn (off := 109) (tgt := 113) C.1 C.2.1 dX8_chainFor_4 (by rw [c19]; decide) (by rw [c19]; decide) (by rw [c19]; rfl) (by decide) ?_
                                        exact wk_8_chainFor_113 C X hW h (lv_sub hl [0] rfl)
                                      · have h := if_f h c19
                                        have n_c1 := lv_neT c1 (a := 0) rfl
                                        have n_c2 := lv_neT c2 (a := 1) rfl
                                        have n_c3 := lv_neT c3 (a := 2) rfl
                                        have n_c4 := lv_neT c4 (a := 3) rfl
                                        have n_c5 := lv_neT c5 (a := 4) rfl
                                        have n_c6 := lv_neT c6 (a := 5) rfl
                                        have n_c7 := lv_neT c7 (a := 6) rfl
                                        have n_c8 := lv_neT c8 (a := 7) rfl
                                        have n_c9 := lv_neT c9 (a := 8) rfl
                                        have n_c10 := lv_neT c10 (a := 9) rfl
                                        have n_c11 := lv_neT c11 (a := 10) rfl
                                        have n_c12 := lv_neT c12 (a := 11) rfl
                                        have n_c13 := lv_neT c13 (a := 12) rfl
                                        have n_c14 := lv_neT c14 (a := 13) rfl
                                        have n_c15 := lv_neT c15 (a := 14) rfl
                                        have n_c16 := lv_neT c16 (a := 15) rfl
                                        have n_c17 := lv_neT c17 (a := 16) rfl
                                        have n_c18 := lv_neT c18 (a := 17) rfl
                                        have n_c19 := lv_neT c19 (a := 18) rfl
                                        refine lv_tableOut (tgt := 124) C.1 C.2.1 dX8_chainFor_4 (by omega) (by decide) ?_
                                        exact wk_8_chainFor_124 C X hW h (lv_sub hl [0] rfl)
end
theorem dX8_init_0 : decode cX8_init 0 = .ok (.aload_n 0, 1) := by decide +kernel
theorem dX8_init_1 : decode cX8_init 1 = .ok (.invokespecial 3, 3) := by decide +kernel
theorem dX8_init_4 : decode cX8_init 4 = .ok (.aload_n 0, 1) := by decide +kernel
theorem dX8_init_5 : decode cX8_init 5 = .ok (.aload_n 1, 1) := by decide +kernel
theorem dX8_init_6 : decode cX8_init 6 = .ok (.getfield 9, 3) := by decide +kernel
theorem dX8_init_9 : decode cX8_init 9 = .ok (.putfield 15, 3) := by decide +kernel
theorem dX8_init_12 : decode cX8_init 12 = .ok (.aload_n 0, 1) := by decide +kernel
theorem dX8_init_13 : decode cX8_init 13 = .ok (.aload_n 1, 1) := by decide +kernel
theorem dX8_init_14 : decode cX8_init 14 = .ok (.getfield 18, 3) := by decide +kernel
theorem dX8_init_17 : decode cX8_init 17 = .ok (.putfield 21, 3) := by decide +kernel
theorem dX8_init_20 : decode cX8_init 20 = .ok (.aload_n 0, 1) := by decide +kernel
theorem dX8_init_21 : decode cX8_init 21 = .ok (.aload_n 1, 1) := by decide +kernel
theorem dX8_init_22 : decode cX8_init 22 = .ok (.getfield 22, 3) := by decide +kernel
theorem dX8_init_25 : decode cX8_init 25 = .ok (.putfield 25, 3) := by decide +kernel
theorem dX8_init_28 : decode cX8_init 28 = .ok (.aload_n 0, 1) := by decide +kernel
theorem dX8_init_29 : decode cX8_init 29 = .ok (.aload_n 1, 1) := by decide +kernel
theorem dX8_init_30 : decode cX8_init 30 = .ok (.getfield 26, 3) := by decide +kernel
theorem dX8_init_33 : decode cX8_init 33 = .ok (.putfield 29, 3) := by decide +kernel
theorem dX8_init_36 : decode cX8_init 36 = .ok (.aload_n 0, 1) := by decide +kernel
theorem dX8_init_37 : decode cX8_init 37 = .ok (.aload_n 1, 1) := by decide +kernel
theorem dX8_init_38 : decode cX8_init 38 = .ok (.getfield 30, 3) := by decide +kernel
theorem dX8_init_41 : decode cX8_init 41 = .ok (.putfield 33, 3) := by decide +kernel
theorem dX8_init_44 : decode cX8_init 44 = .ok (.aload_n 0, 1) := by decide +kernel
theorem dX8_init_45 : decode cX8_init 45 = .ok (.aload_n 1, 1) := by decide +kernel
theorem dX8_init_46 : decode cX8_init 46 = .ok (.getfield 34, 3) := by decide +kernel
theorem dX8_init_49 : decode cX8_init 49 = .ok (.putfield 37, 3) := by decide +kernel
theorem dX8_init_52 : decode cX8_init 52 = .ok (.aload_n 0, 1) := by decide +kernel
theorem dX8_init_53 : decode cX8_init 53 = .ok (.iload_n 2, 1) := by decide +kernel
theorem dX8_init_54 : decode cX8_init 54 = .ok (.putfield 38, 3) := by decide +kernel
theorem dX8_init_57 : decode cX8_init 57 = .ok (.aload_n 0, 1) := by decide +kernel
theorem dX8_init_58 : decode cX8_init 58 = .ok (.iload_n 3, 1) := by decide +kernel
theorem dX8_init_59 : decode cX8_init 59 = .ok (.putfield 41, 3) := by decide +kernel
theorem dX8_init_62 : decode cX8_init 62 = .ok (.aload_n 0, 1) := by decide +kernel
theorem dX8_init_63 : decode cX8_init 63 = .ok (.iload 4, 2) := by decide +kernel
theorem dX8_init_65 : decode cX8_init 65 = .ok (.putfield 44, 3) := by decide +kernel
theorem dX8_init_68 : decode cX8_init 68 = .ok (.aload_n 0, 1) := by decide +kernel
theorem dX8_init_69 : decode cX8_init 69 = .ok (.iload 5, 2) := by decide +kernel
theorem dX8_init_71 : decode cX8_init 71 = .ok (.putfield 47, 3) := by decide +kernel
theorem dX8_init_74 : decode cX8_init 74 = .ok (.aload_n 0, 1) := by decide +kernel
theorem dX8_init_75 : decode cX8_init 75 = .ok (.aload 6, 2) := by decide +kernel
theorem dX8_init_77 : decode cX8_init 77 = .ok (.putfield 50, 3) := by decide +kernel
theorem dX8_init_80 : decode cX8_init 80 = .ok (.aload_n 0, 1) := by decide +kernel
theorem dX8_init_81 : decode cX8_init 81 = .ok (.sipush 1000, 3) := by decide +kernel
theorem dX8_init_84 : decode cX8_init 84 = .ok (.iload_n 2, 1) := by decide +kernel
theorem dX8_init_85 : decode cX8_init 85 = .ok (.imul, 1) := by decide +kernel
theorem dX8_init_86 : decode cX8_init 86 = .ok (.iload_n 3, 1) := by decide +kernel
theorem dX8_init_87 : decode cX8_init 87 = .ok (.iadd, 1) := by decide +kernel
theorem dX8_init_88 : decode cX8_init 88 = .ok (.putfield 54, 3) := by decide +kernel
theorem dX8_init_91 : decode cX8_init 91 = .ok (.aload_n 0, 1) := by decide +kernel
theorem dX8_init_92 : decode cX8_init 92 = .ok (.sipush 250, 3) := by decide +kernel
theorem dX8_init_95 : decode cX8_init 95 = .ok (.iload_n 2, 1) := by decide +kernel
theorem dX8_init_96 : decode cX8_init 96 = .ok (.imul, 1) := by decide +kernel
theorem dX8_init_97 : decode cX8_init 97 = .ok (.iload_n 3, 1) := by decide +kernel
theorem dX8_init_98 : decode cX8_init 98 = .ok (.iadd, 1) := by decide +kernel
theorem dX8_init_99 : decode cX8_init 99 = .ok (.iconst 1, 1) := by decide +kernel
theorem dX8_init_100 : decode cX8_init 100 = .ok (.isub, 1) := by decide +kernel
theorem dX8_init_101 : decode cX8_init 101 = .ok (.putfield 57, 3) := by decide +kernel
theorem dX8_init_104 : decode cX8_init 104 = .ok (.aload_n 0, 1) := by decide +kernel
theorem dX8_init_105 : decode cX8_init 105 = .ok (.aload_n 1, 1) := by decide +kernel
theorem dX8_init_106 : decode cX8_init 106 = .ok (.invokestatic 60, 3) := by decide +kernel
theorem dX8_init_109 : decode cX8_init 109 = .ok (.putfield 64, 3) := by decide +kernel
theorem dX8_init_112 : decode cX8_init 112 = .ok (.return_, 1) := by decide +kernel
theorem kd_8_init : Cond.code yX8_init cX8_init 7 none ∈ lw_g := mt_at 957 (by decide +kernel) rfl
theorem ki_8_init : Cond.instanceMethod yX8_init ∈ lw_g := mt_at 956 (by decide +kernel) rfl
theorem oi8 : Cond.methodLink RX8 3 objectInit ∈ lw_g := mt_at 958 (by decide +kernel) rfl
theorem cw8_60 : cCw RX8 60 yX8_chainFor cX8_chainFor 1 (some .int) 1 := ⟨kd_8_chainFor, mt_at 959 (by decide +kernel) rfl, mt_at 29 (by decide +kernel) rfl, by decide +kernel⟩
section
variable {p : Program} {l : Launch} {e : Env} {R : Room} {s : State} {m : MethodId} {args : Array Value} {below : List Frame} {meth : Method} {c : Code} {H : Heap} {locs : List Loc} {cells slots : Nat} {Q : State → Prop}
variable {D : cG} {S S0 : cSt} {cc : ByteArray} {nL : Nat} {pc : Nat} {ls : Array Slot} {rest : List Value} {H0 : Heap} {nF nR nC nS : Nat} {ret : Option FieldType} {a : Nat}
theorem gk8_22 (C : cY p R s m args meth c RX8 cc nL nF nC nS nR ret) (X : cX D s) (hW : cW D S H) (hk : kK S a = 2) (hdg : decode cc pc = .ok (.getfield 22, 3)) (kk : W p l e R s m args below meth c H locs cells slots Q (F0 m (pc + 3) ls (.int (kF S a 2) :: rest))) : W p l e R s m args below meth c H locs cells slots Q (F0 m pc ls (.ref a :: rest)) := c_get C X hW 1 (by decide) ly_1 hk 2 (by decide) (mt_at 169 (by decide +kernel) (by decide +kernel)) hdg (by rw [cV_I (by decide +kernel)]; exact kk)
theorem gk8_30 (C : cY p R s m args meth c RX8 cc nL nF nC nS nR ret) (X : cX D s) (hW : cW D S H) (hk : kK S a = 2) (hdg : decode cc pc = .ok (.getfield 30, 3)) (kk : W p l e R s m args below meth c H locs cells slots Q (F0 m (pc + 3) ls (.int (kF S a 4) :: rest))) : W p l e R s m args below meth c H locs cells slots Q (F0 m pc ls (.ref a :: rest)) := c_get C X hW 1 (by decide) ly_1 hk 4 (by decide) (mt_at 174 (by decide +kernel) (by decide +kernel)) hdg (by rw [cV_I (by decide +kernel)]; exact kk)
theorem gk8_34 (C : cY p R s m args meth c RX8 cc nL nF nC nS nR ret) (X : cX D s) (hW : cW D S H) (hk : kK S a = 2) (hdg : decode cc pc = .ok (.getfield 34, 3)) (kk : W p l e R s m args below meth c H locs cells slots Q (F0 m (pc + 3) ls (.int (kF S a 5) :: rest))) : W p l e R s m args below meth c H locs cells slots Q (F0 m pc ls (.ref a :: rest)) := c_get C X hW 1 (by decide) ly_1 hk 5 (by decide) (mt_at 177 (by decide +kernel) (by decide +kernel)) hdg (by rw [cV_I (by decide +kernel)]; exact kk)
theorem pk8_15 {x : Int32} (C : cY p R s m args meth c RX8 cc nL nF nC nS nR ret) (hin : meth.name = "<init>") (X : cX D s) (hJ : cJ D S0 H0 S H locs) (hk : kK S a = 9) (hdg : decode cc pc = .ok (.putfield 15, 3)) (kk : ∀ (H1 : Heap) (locs1 : List Loc), cJ D S0 H0 (cPi S a 0 x) H1 locs1 → W p l e R s m args below meth c H1 locs1 cells slots Q (F0 m (pc + 3) ls (rest))) : W p l e R s m args below meth c H locs cells slots Q (F0 m pc ls (.int x :: .ref a :: rest)) := c_putF (S1 := (cPi S a 0 x)) C X hJ 8 (by decide) ly_8 hk 0 (by decide) (by decide +kernel) hin rfl rfl rfl (by decide) rfl rfl (fun j _ => c_vI (by decide +kernel)) c_oPi (mt_at 962 (by decide +kernel) (by decide +kernel)) hdg kk
theorem pk8_21 {x : Int32} (C : cY p R s m args meth c RX8 cc nL nF nC nS nR ret) (hin : meth.name = "<init>") (X : cX D s) (hJ : cJ D S0 H0 S H locs) (hk : kK S a = 9) (hdg : decode cc pc = .ok (.putfield 21, 3)) (kk : ∀ (H1 : Heap) (locs1 : List Loc), cJ D S0 H0 (cPi S a 1 x) H1 locs1 → W p l e R s m args below meth c H1 locs1 cells slots Q (F0 m (pc + 3) ls (rest))) : W p l e R s m args below meth c H locs cells slots Q (F0 m pc ls (.int x :: .ref a :: rest)) := c_putF (S1 := (cPi S a 1 x)) C X hJ 8 (by decide) ly_8 hk 1 (by decide) (by decide +kernel) hin rfl rfl rfl (by decide) rfl rfl (fun j _ => c_vI (by decide +kernel)) c_oPi (mt_at 970 (by decide +kernel) (by decide +kernel)) hdg kk
theorem pk8_25 {x : Int32} (C : cY p R s m args meth c RX8 cc nL nF nC nS nR ret) (hin : meth.name = "<init>") (X : cX D s) (hJ : cJ D S0 H0 S H locs) (hk : kK S a = 9) (hdg : decode cc pc = .ok (.putfield 25, 3)) (kk : ∀ (H1 : Heap) (locs1 : List Loc), cJ D S0 H0 (cPi S a 2 x) H1 locs1 → W p l e R s m args below meth c H1 locs1 cells slots Q (F0 m (pc + 3) ls (rest))) : W p l e R s m args below meth c H locs cells slots Q (F0 m pc ls (.int x :: .ref a :: rest)) := c_putF (S1 := (cPi S a 2 x)) C X hJ 8 (by decide) ly_8 hk 2 (by decide) (by decide +kernel) hin rfl rfl rfl (by decide) rfl rfl (fun j _ => c_vI (by decide +kernel)) c_oPi (mt_at 974 (by decide +kernel) (by decide +kernel)) hdg kk
theorem pk8_29 {x : Int32} (C : cY p R s m args meth c RX8 cc nL nF nC nS nR ret) (hin : meth.name = "<init>") (X : cX D s) (hJ : cJ D S0 H0 S H locs) (hk : kK S a = 9) (hdg : decode cc pc = .ok (.putfield 29, 3)) (kk : ∀ (H1 : Heap) (locs1 : List Loc), cJ D S0 H0 (cPi S a 3 x) H1 locs1 → W p l e R s m args below meth c H1 locs1 cells slots Q (F0 m (pc + 3) ls (rest))) : W p l e R s m args below meth c H locs cells slots Q (F0 m pc ls (.int x :: .ref a :: rest)) := c_putF (S1 := (cPi S a 3 x)) C X hJ 8 (by decide) ly_8 hk 3 (by decide) (by decide +kernel) hin rfl rfl rfl (by decide) rfl rfl (fun j _ => c_vI (by decide +kernel)) c_oPi (mt_at 977 (by decide +kernel) (by decide +kernel)) hdg kk
theorem pk8_33 {x : Int32} (C : cY p R s m args meth c RX8 cc nL nF nC nS nR ret) (hin : meth.name = "<init>") (X : cX D s) (hJ : cJ D S0 H0 S H locs) (hk : kK S a = 9) (hdg : decode cc pc = .ok (.putfield 33, 3)) (kk : ∀ (H1 : Heap) (locs1 : List Loc), cJ D S0 H0 (cPi S a 4 x) H1 locs1 → W p l e R s m args below meth c H1 locs1 cells slots Q (F0 m (pc + 3) ls (rest))) : W p l e R s m args below meth c H locs cells slots Q (F0 m pc ls (.int x :: .ref a :: rest)) := c_putF (S1 := (cPi S a 4 x)) C X hJ 8 (by decide) ly_8 hk 4 (by decide) (by decide +kernel) hin rfl rfl rfl (by decide) rfl rfl (fun j _ => c_vI (by decide +kernel)) c_oPi (mt_at 981 (by decide +kernel) (by decide +kernel)) hdg kk
theorem pk8_37 {x : Int32} (C : cY p R s m args meth c RX8 cc nL nF nC nS nR ret) (hin : meth.name = "<init>") (X : cX D s) (hJ : cJ D S0 H0 S H locs) (hk : kK S a = 9) (hdg : decode cc pc = .ok (.putfield 37, 3)) (kk : ∀ (H1 : Heap) (locs1 : List Loc), cJ D S0 H0 (cPi S a 5 x) H1 locs1 → W p l e R s m args below meth c H1 locs1 cells slots Q (F0 m (pc + 3) ls (rest))) : W p l e R s m args below meth c H locs cells slots Q (F0 m pc ls (.int x :: .ref a :: rest)) := c_putF (S1 := (cPi S a 5 x)) C X hJ 8 (by decide) ly_8 hk 5 (by decide) (by decide +kernel) hin rfl rfl rfl (by decide) rfl rfl (fun j _ => c_vI (by decide +kernel)) c_oPi (mt_at 987 (by decide +kernel) (by decide +kernel)) hdg kk
theorem pk8_38 {x : Int32} (C : cY p R s m args meth c RX8 cc nL nF nC nS nR ret) (hin : meth.name = "<init>") (X : cX D s) (hJ : cJ D S0 H0 S H locs) (hk : kK S a = 9) (hdg : decode cc pc = .ok (.putfield 38, 3)) (kk : ∀ (H1 : Heap) (locs1 : List Loc), cJ D S0 H0 (cPi S a 6 x) H1 locs1 → W p l e R s m args below meth c H1 locs1 cells slots Q (F0 m (pc + 3) ls (rest))) : W p l e R s m args below meth c H locs cells slots Q (F0 m pc ls (.int x :: .ref a :: rest)) := c_putF (S1 := (cPi S a 6 x)) C X hJ 8 (by decide) ly_8 hk 6 (by decide) (by decide +kernel) hin rfl rfl rfl (by decide) rfl rfl (fun j _ => c_vI (by decide +kernel)) c_oPi (mt_at 994 (by decide +kernel) (by decide +kernel)) hdg kk
theorem pk8_41 {x : Int32} (C : cY p R s m args meth c RX8 cc nL nF nC nS nR ret) (hin : meth.name = "<init>") (X : cX D s) (hJ : cJ D S0 H0 S H locs) (hk : kK S a = 9) (hdg : decode cc pc = .ok (.putfield 41, 3)) (kk : ∀ (H1 : Heap) (locs1 : List Loc), cJ D S0 H0 (cPi S a 7 x) H1 locs1 → W p l e R s m args below meth c H1 locs1 cells slots Q (F0 m (pc + 3) ls (rest))) : W p l e R s m args below meth c H locs cells slots Q (F0 m pc ls (.int x :: .ref a :: rest)) := c_putF (S1 := (cPi S a 7 x)) C X hJ 8 (by decide) ly_8 hk 7 (by decide) (by decide +kernel) hin rfl rfl rfl (by decide) rfl rfl (fun j _ => c_vI (by decide +kernel)) c_oPi (mt_at 999 (by decide +kernel) (by decide +kernel)) hdg kk
theorem pk8_44 {x : Int32} (C : cY p R s m args meth c RX8 cc nL nF nC nS nR ret) (hin : meth.name = "<init>") (X : cX D s) (hJ : cJ D S0 H0 S H locs) (hk : kK S a = 9) (hdg : decode cc pc = .ok (.putfield 44, 3)) (kk : ∀ (H1 : Heap) (locs1 : List Loc), cJ D S0 H0 (cPi S a 8 x) H1 locs1 → W p l e R s m args below meth c H1 locs1 cells slots Q (F0 m (pc + 3) ls (rest))) : W p l e R s m args below meth c H locs cells slots Q (F0 m pc ls (.int x :: .ref a :: rest)) := c_putF (S1 := (cPi S a 8 x)) C X hJ 8 (by decide) ly_8 hk 8 (by decide) (by decide +kernel) hin rfl rfl rfl (by decide) rfl rfl (fun j _ => c_vI (by decide +kernel)) c_oPi (mt_at 1004 (by decide +kernel) (by decide +kernel)) hdg kk
theorem pk8_47 {x : Int32} (C : cY p R s m args meth c RX8 cc nL nF nC nS nR ret) (hin : meth.name = "<init>") (X : cX D s) (hJ : cJ D S0 H0 S H locs) (hk : kK S a = 9) (hdg : decode cc pc = .ok (.putfield 47, 3)) (kk : ∀ (H1 : Heap) (locs1 : List Loc), cJ D S0 H0 (cPi S a 9 x) H1 locs1 → W p l e R s m args below meth c H1 locs1 cells slots Q (F0 m (pc + 3) ls (rest))) : W p l e R s m args below meth c H locs cells slots Q (F0 m pc ls (.int x :: .ref a :: rest)) := c_putF (S1 := (cPi S a 9 x)) C X hJ 8 (by decide) ly_8 hk 9 (by decide) (by decide +kernel) hin rfl rfl rfl (by decide) rfl rfl (fun j _ => c_vI (by decide +kernel)) c_oPi (mt_at 1009 (by decide +kernel) (by decide +kernel)) hdg kk
theorem pk8_50 {o : Option Nat} (C : cY p R s m args meth c RX8 cc nL nF nC nS nR ret) (hin : meth.name = "<init>") (X : cX D s) (hJ : cJ D S0 H0 S H locs) (hk : kK S a = 9) (hdg : decode cc pc = .ok (.putfield 50, 3)) (kk : ∀ (H1 : Heap) (locs1 : List Loc), cJ D S0 H0 (cPr S a 10 o) H1 locs1 → W p l e R s m args below meth c H1 locs1 cells slots Q (F0 m (pc + 3) ls (rest))) : W p l e R s m args below meth c H locs cells slots Q (F0 m pc ls (va_rf o :: .ref a :: rest)) := c_putF (S1 := (cPr S a 10 o)) C X hJ 8 (by decide) ly_8 hk 10 (by decide) (by decide +kernel) hin rfl nar_ra fit_ra (by decide) rfl rfl (fun j _ => c_vR (by decide +kernel)) c_oPr (mt_at 1013 (by decide +kernel) (by decide +kernel)) hdg kk
theorem pk8_54 {x : Int32} (C : cY p R s m args meth c RX8 cc nL nF nC nS nR ret) (hin : meth.name = "<init>") (X : cX D s) (hJ : cJ D S0 H0 S H locs) (hk : kK S a = 9) (hdg : decode cc pc = .ok (.putfield 54, 3)) (kk : ∀ (H1 : Heap) (locs1 : List Loc), cJ D S0 H0 (cPi S a 11 x) H1 locs1 → W p l e R s m args below meth c H1 locs1 cells slots Q (F0 m (pc + 3) ls (rest))) : W p l e R s m args below meth c H locs cells slots Q (F0 m pc ls (.int x :: .ref a :: rest)) := c_putF (S1 := (cPi S a 11 x)) C X hJ 8 (by decide) ly_8 hk 11 (by decide) (by decide +kernel) hin rfl rfl rfl (by decide) rfl rfl (fun j _ => c_vI (by decide +kernel)) c_oPi (mt_at 1018 (by decide +kernel) (by decide +kernel)) hdg kk
theorem pk8_57 {x : Int32} (C : cY p R s m args meth c RX8 cc nL nF nC nS nR ret) (hin : meth.name = "<init>") (X : cX D s) (hJ : cJ D S0 H0 S H locs) (hk : kK S a = 9) (hdg : decode cc pc = .ok (.putfield 57, 3)) (kk : ∀ (H1 : Heap) (locs1 : List Loc), cJ D S0 H0 (cPi S a 12 x) H1 locs1 → W p l e R s m args below meth c H1 locs1 cells slots Q (F0 m (pc + 3) ls (rest))) : W p l e R s m args below meth c H locs cells slots Q (F0 m pc ls (.int x :: .ref a :: rest)) := c_putF (S1 := (cPi S a 12 x)) C X hJ 8 (by decide) ly_8 hk 12 (by decide) (by decide +kernel) hin rfl rfl rfl (by decide) rfl rfl (fun j _ => c_vI (by decide +kernel)) c_oPi (mt_at 1024 (by decide +kernel) (by decide +kernel)) hdg kk
theorem pk8_64 {x : Int32} (C : cY p R s m args meth c RX8 cc nL nF nC nS nR ret) (hin : meth.name = "<init>") (X : cX D s) (hJ : cJ D S0 H0 S H locs) (hk : kK S a = 9) (hdg : decode cc pc = .ok (.putfield 64, 3)) (kk : ∀ (H1 : Heap) (locs1 : List Loc), cJ D S0 H0 (cPi S a 13 x) H1 locs1 → W p l e R s m args below meth c H1 locs1 cells slots Q (F0 m (pc + 3) ls (rest))) : W p l e R s m args below meth c H locs cells slots Q (F0 m pc ls (.int x :: .ref a :: rest)) := c_putF (S1 := (cPi S a 13 x)) C X hJ 8 (by decide) ly_8 hk 13 (by decide) (by decide +kernel) hin rfl rfl rfl (by decide) rfl rfl (fun j _ => c_vI (by decide +kernel)) c_oPi (mt_at 1030 (by decide +kernel) (by decide +kernel)) hdg kk
end
section
variable {p : Program} {l : Launch} {e : Env} {R : Room} {s : State} {m : MethodId} {args : Array Value} {below : List Frame} {meth : Method} {c : Code} {D : cG} {S0 S9 : cSt}
noncomputable def fk_8_init (S : cSt) (v0 : Nat) (v1 : Nat) (v2 : Int32) (v3 : Int32) (v4 : Int32) (v5 : Int32) (v6 : Nat) : Option (cSt) :=
ckk S v1 2 (
ckk S v0 9 (lt (cPi S v0 0 (kF S v1 0)) fun S1 =>
ckk S1 v1 2 (
ckk S1 v0 9 (lt (cPi S1 v0 1 (kF S1 v1 1)) fun S2 =>
ckk S2 v1 2 (
ckk S2 v0 9 (lt (cPi S2 v0 2 (kF S2 v1 2)) fun S3 =>
ckk S3 v1 2 (
ckk S3 v0 9 (lt (cPi S3 v0 3 (kF S3 v1 3)) fun S4 =>
ckk S4 v1 2 (
ckk S4 v0 9 (lt (cPi S4 v0 4 (kF S4 v1 4)) fun S5 =>
ckk S5 v1 2 (
ckk S5 v0 9 (lt (cPi S5 v0 5 (kF S5 v1 5)) fun S6 =>
ckk S6 v0 9 (lt (cPi S6 v0 6 v2) fun S7 =>
ckk S7 v0 9 (lt (cPi S7 v0 7 v3) fun S8 =>
ckk S8 v0 9 (lt (cPi S8 v0 8 v4) fun S10 =>
ckk S10 v0 9 (lt (cPi S10 v0 9 v5) fun S11 =>
ckk S11 v0 9 (lt (cPr S11 v0 10 (some v6)) fun S12 =>
ckk S12 v0 9 (lt (cPi S12 v0 11 (((1000 : Int32) * v2) + v3)) fun S13 =>
ckk S13 v0 9 (lt (cPi S13 v0 12 ((((250 : Int32) * v2) + v3) - (1 : Int32))) fun S14 =>
bd (fk_8_chainFor S14 v1) fun r15 =>
ckk S14 v0 9 (lt (cPi S14 v0 13 r15) fun S16 =>
some S16))))))))))))))))))))
set_option maxRecDepth 100000 in
set_option maxHeartbeats 4000000 in
theorem tk_8_init (l : Launch) {D : cG} {S : cSt} {v0 : Nat} {v1 : Nat} {v2 : Int32} {v3 : Int32} {v4 : Int32} {v5 : Int32} {v6 : Nat} {S9 : cSt} (h : fk_8_init S v0 v1 v2 v3 v4 v5 v6 = some S9) : Met l yX8_init (Cond.code yX8_init cX8_init 7 none :: lw_g) { frames := 2, cells := 0, slots := 0, locals := 60 } (kPi [.ref v0, .ref v1, .int v2, .int v3, .int v4, .int v5, .ref v6] D S) (kW none D S S9) 0 0 (cA S) := by
  refine Met.ofW (cc := cX8_init) (maxL := 7) (ret := none) (by decide) rfl ?_
  intro p e s m args below meth c s₁ B hml hv
  obtain ⟨rfl, hW, X⟩ := hv
  have C : cY p (headSpec (Cond.code yX8_init cX8_init 7 none :: lw_g) { frames := 2, cells := 0, slots := 0, locals := 60 }).room s m _ meth c RX8 cX8_init 7 2 0 0 60 none := ⟨B.exec, B.bytes, hml, findClass_of_methodNamed B.named, fun w hw => atoms_spec (ws := Cond.code yX8_init cX8_init 7 none :: lw_g) B.pre w (List.mem_cons_of_mem _ hw), ⟨Nat.le_refl _, Nat.le_refl _, Nat.le_refl _, Nat.le_refl _⟩, B.returns, B.notSynchronized⟩
  have hin : meth.name = "<init>" := (name_of_methodNamed B.named B.method).1
  have hl := lv_entry ([.ref v0, .ref v1, .int v2, .int v3, .int v4, .int v5, .ref v6]) (n := 7) (Nat.le_of_ble_eq_true rfl)
  rw [lg_entry_eq]
  generalize (lg_sl ([.ref v0, .ref v1, .int v2, .int v3, .int v4, .int v5, .ref v6]) ++ List.replicate (7 - (lg_sl ([.ref v0, .ref v1, .int v2, .int v3, .int v4, .int v5, .ref v6])).length) Slot.unset).toArray = ls at hl ⊢
  have hl : lv_has ls 7 [(0, .ref v0), (1, .ref v1), (2, .int v2), (3, .int v3), (4, .int v4), (5, .int v5), (6, .ref v6)] := hl
  have hJ : cJ D S s.heap S s.heap [] := cJ.rf hW
  unfold fk_8_init at h
  refine lv_aload_n C.1 C.2.1 dX8_init_0 rfl (lv_at hl 0 rfl) ?_
  refine W.objInit C.1 C.2.1 C.2.2.2.1 (C.2.2.2.2.1 _ oi8) (C.2.2.2.2.1 _ oi_i) (C.2.2.2.2.1 _ oi_c) rfl (by rw [C.2.2.1]; exact hl.1) rfl dX8_init_1 (Nat.le_trans (by decide) C.2.2.2.2.2.1.1) (Nat.le_trans (Nat.le_of_ble_eq_true rfl) C.2.2.2.2.2.1.2.2.2) ?_
  refine W.eq (g2 := F0 m 4 ls []) rfl ?_
  refine lv_aload_n C.1 C.2.1 dX8_init_4 rfl (lv_at hl 0 rfl) ?_
  refine lv_aload_n C.1 C.2.1 dX8_init_5 rfl (lv_at hl 1 rfl) ?_
  obtain ⟨hk, h⟩ := ckk_ok h
  refine gk8_9 C X hJ.1 hk dX8_init_6 ?_
  obtain ⟨hk, h⟩ := ckk_ok h
  refine pk8_15 C hin X hJ hk dX8_init_9 (fun H locs hJ => ?_)
  refine lt_ok h (fun S1 e_S1 h => ?_)
  rw [e_S1] at hJ
  refine lv_aload_n C.1 C.2.1 dX8_init_12 rfl (lv_at hl 0 rfl) ?_
  refine lv_aload_n C.1 C.2.1 dX8_init_13 rfl (lv_at hl 1 rfl) ?_
  obtain ⟨hk, h⟩ := ckk_ok h
  refine gk8_18 C X hJ.1 hk dX8_init_14 ?_
  obtain ⟨hk, h⟩ := ckk_ok h
  refine pk8_21 C hin X hJ hk dX8_init_17 (fun H locs hJ => ?_)
  refine lt_ok h (fun S2 e_S2 h => ?_)
  rw [e_S2] at hJ
  refine lv_aload_n C.1 C.2.1 dX8_init_20 rfl (lv_at hl 0 rfl) ?_
  refine lv_aload_n C.1 C.2.1 dX8_init_21 rfl (lv_at hl 1 rfl) ?_
  obtain ⟨hk, h⟩ := ckk_ok h
  refine gk8_22 C X hJ.1 hk dX8_init_22 ?_
  obtain ⟨hk, h⟩ := ckk_ok h
  refine pk8_25 C hin X hJ hk dX8_init_25 (fun H locs hJ => ?_)
  refine lt_ok h (fun S3 e_S3 h => ?_)
  rw [e_S3] at hJ
  refine lv_aload_n C.1 C.2.1 dX8_init_28 rfl (lv_at hl 0 rfl) ?_
  refine lv_aload_n C.1 C.2.1 dX8_init_29 rfl (lv_at hl 1 rfl) ?_
  obtain ⟨hk, h⟩ := ckk_ok h
  refine gk8_26 C X hJ.1 hk dX8_init_30 ?_
  obtain ⟨hk, h⟩ := ckk_ok h
  refine pk8_29 C hin X hJ hk dX8_init_33 (fun H locs hJ => ?_)
  refine lt_ok h (fun S4 e_S4 h => ?_)
  rw [e_S4] at hJ
  refine lv_aload_n C.1 C.2.1 dX8_init_36 rfl (lv_at hl 0 rfl) ?_
  refine lv_aload_n C.1 C.2.1 dX8_init_37 rfl (lv_at hl 1 rfl) ?_
  obtain ⟨hk, h⟩ := ckk_ok h
  refine gk8_30 C X hJ.1 hk dX8_init_38 ?_
  obtain ⟨hk, h⟩ := ckk_ok h
  refine pk8_33 C hin X hJ hk dX8_init_41 (fun H locs hJ => ?_)
  refine lt_ok h (fun S5 e_S5 h => ?_)
  rw [e_S5] at hJ
  refine lv_aload_n C.1 C.2.1 dX8_init_44 rfl (lv_at hl 0 rfl) ?_
  refine lv_aload_n C.1 C.2.1 dX8_init_45 rfl (lv_at hl 1 rfl) ?_
  obtain ⟨hk, h⟩ := ckk_ok h
  refine gk8_34 C X hJ.1 hk dX8_init_46 ?_
  obtain ⟨hk, h⟩ := ckk_ok h
  refine pk8_37 C hin X hJ hk dX8_init_49 (fun H locs hJ => ?_)
  refine lt_ok h (fun S6 e_S6 h => ?_)
  rw [e_S6] at hJ
  refine lv_aload_n C.1 C.2.1 dX8_init_52 rfl (lv_at hl 0 rfl) ?_
  refine lv_iload_n C.1 C.2.1 dX8_init_53 rfl (lv_at hl 2 rfl) ?_
  obtain ⟨hk, h⟩ := ckk_ok h
  refine pk8_38 C hin X hJ hk dX8_init_54 (fun H locs hJ => ?_)
  refine lt_ok h (fun S7 e_S7 h => ?_)
  rw [e_S7] at hJ
  refine lv_aload_n C.1 C.2.1 dX8_init_57 rfl (lv_at hl 0 rfl) ?_
  refine lv_iload_n C.1 C.2.1 dX8_init_58 rfl (lv_at hl 3 rfl) ?_
  obtain ⟨hk, h⟩ := ckk_ok h
  refine pk8_41 C hin X hJ hk dX8_init_59 (fun H locs hJ => ?_)
  refine lt_ok h (fun S8 e_S8 h => ?_)
  rw [e_S8] at hJ
  refine lv_aload_n C.1 C.2.1 dX8_init_62 rfl (lv_at hl 0 rfl) ?_
  refine lv_iload C.1 C.2.1 dX8_init_63 (lv_at hl 4 rfl) ?_
  obtain ⟨hk, h⟩ := ckk_ok h
  refine pk8_44 C hin X hJ hk dX8_init_65 (fun H locs hJ => ?_)
  refine lt_ok h (fun S10 e_S10 h => ?_)
  rw [e_S10] at hJ
  refine lv_aload_n C.1 C.2.1 dX8_init_68 rfl (lv_at hl 0 rfl) ?_
  refine lv_iload C.1 C.2.1 dX8_init_69 (lv_at hl 5 rfl) ?_
  obtain ⟨hk, h⟩ := ckk_ok h
  refine pk8_47 C hin X hJ hk dX8_init_71 (fun H locs hJ => ?_)
  refine lt_ok h (fun S11 e_S11 h => ?_)
  rw [e_S11] at hJ
  refine lv_aload_n C.1 C.2.1 dX8_init_74 rfl (lv_at hl 0 rfl) ?_
  refine lv_aload C.1 C.2.1 dX8_init_75 (lv_at hl 6 rfl) ?_
  obtain ⟨hk, h⟩ := ckk_ok h
  refine pk8_50 (o := (some v6)) C hin X hJ hk dX8_init_77 (fun H locs hJ => ?_)
  refine lt_ok h (fun S12 e_S12 h => ?_)
  rw [e_S12] at hJ
  refine lv_aload_n C.1 C.2.1 dX8_init_80 rfl (lv_at hl 0 rfl) ?_
  refine lv_sipush (v := 1000) C.1 C.2.1 dX8_init_81 (by decide) ?_
  refine lv_iload_n C.1 C.2.1 dX8_init_84 rfl (lv_at hl 2 rfl) ?_
  refine lv_imul C.1 C.2.1 dX8_init_85 ?_
  refine lv_iload_n C.1 C.2.1 dX8_init_86 rfl (lv_at hl 3 rfl) ?_
  refine lv_iadd C.1 C.2.1 dX8_init_87 ?_
  obtain ⟨hk, h⟩ := ckk_ok h
  refine pk8_54 C hin X hJ hk dX8_init_88 (fun H locs hJ => ?_)
  refine lt_ok h (fun S13 e_S13 h => ?_)
  rw [e_S13] at hJ
  refine lv_aload_n C.1 C.2.1 dX8_init_91 rfl (lv_at hl 0 rfl) ?_
  refine lv_sipush (v := 250) C.1 C.2.1 dX8_init_92 (by decide) ?_
  refine lv_iload_n C.1 C.2.1 dX8_init_95 rfl (lv_at hl 2 rfl) ?_
  refine lv_imul C.1 C.2.1 dX8_init_96 ?_
  refine lv_iload_n C.1 C.2.1 dX8_init_97 rfl (lv_at hl 3 rfl) ?_
  refine lv_iadd C.1 C.2.1 dX8_init_98 ?_
  refine lv_iconst (v := 1) C.1 C.2.1 dX8_init_99 (by decide) ?_
  refine lv_isub C.1 C.2.1 dX8_init_100 ?_
  obtain ⟨hk, h⟩ := ckk_ok h
  refine pk8_57 C hin X hJ hk dX8_init_101 (fun H locs hJ => ?_)
  refine lt_ok h (fun S14 e_S14 h => ?_)
  rw [e_S14] at hJ
  refine lv_aload_n C.1 C.2.1 dX8_init_104 rfl (lv_at hl 0 rfl) ?_
  refine lv_aload_n C.1 C.2.1 dX8_init_105 rfl (lv_at hl 1 rfl) ?_
  obtain ⟨r15, h_r15, h⟩ := bd_ok h
  refine c_callSR (rest := [.ref v0]) C X hJ.1 hl.1 [.ref v1] (tk_8_chainFor l h_r15) cw8_60 ks_8_chainFor rfl ⟨by decide, by decide⟩ ⟨(by decide), (by decide)⟩ rfl (Nat.le_of_ble_eq_true rfl) dX8_init_106 ?_
  refine W.eq (g2 := F0 m 109 ls [.int r15, .ref v0]) rfl ?_
  obtain ⟨hk, h⟩ := ckk_ok h
  refine pk8_64 C hin X hJ hk dX8_init_109 (fun H locs hJ => ?_)
  refine lt_ok h (fun S16 e_S16 h => ?_)
  rw [e_S16] at hJ
  cases h
  exact c_retvW C hJ dX8_init_112
end
