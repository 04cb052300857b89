-- made by wip/whole/gen12.py: 11_lose, 11_twice, 11_octet, 11_bend, 11_join, 11_parentOf, 11_childrenOf, 11_object, 11_findValues, 11_size, 11_sourceAt, 11_by, 11_list
theorem dX11_lose_0 : decode cX11_lose 0 = .ok (.aload_n 0, 1) := by decide +kernel
theorem dX11_lose_1 : decode cX11_lose 1 = .ok (.getfield 32, 3) := by decide +kernel
theorem dX11_lose_4 : decode cX11_lose 4 = .ok (.iload_n 1, 1) := by decide +kernel
theorem dX11_lose_5 : decode cX11_lose 5 = .ok (.invokevirtual 220, 3) := by decide +kernel
theorem dX11_lose_8 : decode cX11_lose 8 = .ok (.ifnonnull 5, 3) := by decide +kernel
theorem dX11_lose_11 : decode cX11_lose 11 = .ok (.iconst 0, 1) := by decide +kernel
theorem dX11_lose_12 : decode cX11_lose 12 = .ok (.ireturn, 1) := by decide +kernel
theorem dX11_lose_13 : decode cX11_lose 13 = .ok (.aload_n 0, 1) := by decide +kernel
theorem dX11_lose_14 : decode cX11_lose 14 = .ok (.getfield 32, 3) := by decide +kernel
theorem dX11_lose_17 : decode cX11_lose 17 = .ok (.iload_n 1, 1) := by decide +kernel
theorem dX11_lose_18 : decode cX11_lose 18 = .ok (.invokevirtual 224, 3) := by decide +kernel
theorem dX11_lose_21 : decode cX11_lose 21 = .ok (.aload_n 0, 1) := by decide +kernel
theorem dX11_lose_22 : decode cX11_lose 22 = .ok (.getfield 32, 3) := by decide +kernel
theorem dX11_lose_25 : decode cX11_lose 25 = .ok (.dup, 1) := by decide +kernel
theorem dX11_lose_26 : decode cX11_lose 26 = .ok (.getfield 265, 3) := by decide +kernel
theorem dX11_lose_29 : decode cX11_lose 29 = .ok (.iconst 1, 1) := by decide +kernel
theorem dX11_lose_30 : decode cX11_lose 30 = .ok (.iadd, 1) := by decide +kernel
theorem dX11_lose_31 : decode cX11_lose 31 = .ok (.putfield 265, 3) := by decide +kernel
theorem dX11_lose_34 : decode cX11_lose 34 = .ok (.iconst 1, 1) := by decide +kernel
theorem dX11_lose_35 : decode cX11_lose 35 = .ok (.ireturn, 1) := by decide +kernel
theorem kd_11_lose : Cond.code yX11_lose cX11_lose 2 (some .boolean) ∈ lw_g := mt_at 1373 (by decide +kernel) rfl
theorem ki_11_lose : Cond.instanceMethod yX11_lose ∈ lw_g := mt_at 1371 (by decide +kernel) rfl
theorem kl_11_lose : Cond.selects (kRn 11) yX11_lose yX11_lose ∈ lw_g := mt_at 1372 (by decide +kernel) rfl
section
variable {p : Program} {l : Launch} {e : Env} {R : Room} {s : State} {m : MethodId} {args : Array Value} {below : List Frame} {meth : Method} {c : Code} {H : Heap} {locs : List Loc} {cells slots : Nat} {Q : State → Prop}
variable {D : cG} {S S0 : cSt} {cc : ByteArray} {nL : Nat} {pc : Nat} {ls : Array Slot} {rest : List Value} {H0 : Heap} {nF nR nC nS : Nat} {ret : Option FieldType} {a : Nat}
theorem gk11_265 (C : cY p R s m args meth c RX11 cc nL nF nC nS nR ret) (X : cX D s) (hW : cW D S H) (hk : kK S a = 6) (hdg : decode cc pc = .ok (.getfield 265, 3)) (kk : W p l e R s m args below meth c H locs cells slots Q (F0 m (pc + 3) ls (.int (kF S a 1) :: rest))) : W p l e R s m args below meth c H locs cells slots Q (F0 m pc ls (.ref a :: rest)) := c_get C X hW 5 (by decide) ly_5 hk 1 (by decide) (mt_at 107 (by decide +kernel) (by decide +kernel)) hdg (by rw [cV_I (by decide +kernel)]; exact kk)
theorem pk11_265 {x : Int32} (C : cY p R s m args meth c RX11 cc nL nF nC nS nR ret) (X : cX D s) (hJ : cJ D S0 H0 S H locs) (hk : kK S a = 6) (hdg : decode cc pc = .ok (.putfield 265, 3)) (kk : ∀ (H1 : Heap) (locs1 : List Loc), cJ D S0 H0 (cPi S a 1 x) H1 locs1 → W p l e R s m args below meth c H1 locs1 cells slots Q (F0 m (pc + 3) ls (rest))) : W p l e R s m args below meth c H locs cells slots Q (F0 m pc ls (.int x :: .ref a :: rest)) := c_put (S1 := (cPi S a 1 x)) C X hJ 5 (by decide) ly_5 hk 1 (by decide) (by decide +kernel)  rfl rfl (by decide) rfl rfl (fun j _ => c_vI (by decide +kernel)) c_oPi (mt_at 107 (by decide +kernel) (by decide +kernel)) hdg kk
end
section
variable {p : Program} {l : Launch} {e : Env} {R : Room} {s : State} {m : MethodId} {args : Array Value} {below : List Frame} {meth : Method} {c : Code} {D : cG} {S0 S9 : cSt} {r : Int32}
noncomputable def fk_11_lose (S : cSt) (v0 : Nat) (v1 : Int32) : Option (Int32 × cSt) :=
ckk S v0 12 (bd (kR S v0 3) fun a1 =>
ckk S a1 6 (bd (fk_5_at S a1 v1) fun o2 =>
cs o2 (
ckz (0 : Int32) (some ((0 : Int32), S))) (fun a3 =>
ckk S v0 12 (bd (kR S v0 3) fun a4 =>
ckk S a4 6 (bd (fk_5_remove S a4 v1) fun S5 =>
ckk S5 v0 12 (bd (kR S5 v0 3) fun a6 =>
ckk S5 a6 6 (
ckk S5 a6 6 (lt (cPi S5 a6 1 ((kF S5 a6 1) + (1 : Int32))) fun S7 =>
ckz (1 : Int32) (some ((1 : Int32), S7))))))))))
set_option maxRecDepth 100000 in
set_option maxHeartbeats 4000000 in
theorem tk_11_lose (l : Launch) {D : cG} {S : cSt} {v0 : Nat} {v1 : Int32} {r : Int32} {S9 : cSt} (h : fk_11_lose S v0 v1 = some (r, S9)) : Met l yX11_lose (Cond.code yX11_lose cX11_lose 2 (some .boolean) :: lw_g) { frames := 1, cells := 0, slots := 0, locals := 23 } (kPi [.ref v0, .int v1] D S) (kW (some (.int r)) D S S9) 0 0 (cA S) := by
  refine Met.ofW (cc := cX11_lose) (maxL := 2) (ret := (some .boolean)) (by decide) rfl ?_
  intro p e s m args below meth c s₁ B hml hv
  obtain ⟨rfl, hW, X⟩ := hv
  have C : cY p (headSpec (Cond.code yX11_lose cX11_lose 2 (some .boolean) :: lw_g) { frames := 1, cells := 0, slots := 0, locals := 23 }).room s m _ meth c RX11 cX11_lose 2 1 0 0 23 (some .boolean) := ⟨B.exec, B.bytes, hml, findClass_of_methodNamed B.named, fun w hw => atoms_spec (ws := Cond.code yX11_lose cX11_lose 2 (some .boolean) :: lw_g) B.pre w (List.mem_cons_of_mem _ hw), ⟨Nat.le_refl _, Nat.le_refl _, Nat.le_refl _, Nat.le_refl _⟩, B.returns, B.notSynchronized⟩
  have hl := lv_entry ([.ref v0, .int v1]) (n := 2) (Nat.le_of_ble_eq_true rfl)
  rw [lg_entry_eq]
  generalize (lg_sl ([.ref v0, .int v1]) ++ List.replicate (2 - (lg_sl ([.ref v0, .int v1])).length) Slot.unset).toArray = ls at hl ⊢
  have hl : lv_has ls 2 [(0, .ref v0), (1, .int v1)] := hl
  have hJ : cJ D S s.heap S s.heap [] := cJ.rf hW
  unfold fk_11_lose at h
  refine lv_aload_n C.1 C.2.1 dX11_lose_0 rfl (lv_at hl 0 rfl) ?_
  obtain ⟨hk, h⟩ := ckk_ok h
  obtain ⟨a1, h_a1, h⟩ := bd_ok h
  refine gk11_32 C X hJ.1 hk h_a1 dX11_lose_1 ?_
  refine lv_iload_n C.1 C.2.1 dX11_lose_4 rfl (lv_at hl 1 rfl) ?_
  obtain ⟨hk, h⟩ := ckk_ok h
  obtain ⟨o2, h_o2, h⟩ := bd_ok h
  refine c_callR (rest := []) C X hJ.1 hl.1 5 (by decide) hk [.int v1] (tk_5_at l h_o2) cw11_220 ki_5_at kl_5_at rfl ⟨by decide, by decide⟩ ⟨(by decide), (by decide)⟩ rfl (Nat.le_of_ble_eq_true rfl) dX11_lose_5 ?_
  refine W.eq (g2 := F0 m 8 ls [va_rf o2]) rfl ?_
  rcases o2 with _ | a3
  · replace h := cs_n h
    refine lv_ifnonnullN C.1 C.2.1 dX11_lose_8 ?_
    refine lv_iconst (v := 0) C.1 C.2.1 dX11_lose_11 (by decide) ?_
    obtain ⟨hzo, h⟩ := ckz_ok h
    cases h
    exact c_retnW C (by rcases hzo with h9 | h9 <;> (rw [h9]; rfl)) hJ dX11_lose_12
  · replace h := cs_s h
    refine lv_ifnonnull (tgt := 13) C.1 C.2.1 dX11_lose_8 (by decide) ?_
    refine lv_aload_n C.1 C.2.1 dX11_lose_13 rfl (lv_at hl 0 rfl) ?_
    obtain ⟨hk, h⟩ := ckk_ok h
    obtain ⟨a4, h_a4, h⟩ := bd_ok h
    refine gk11_32 C X hJ.1 hk h_a4 dX11_lose_14 ?_
    refine lv_iload_n C.1 C.2.1 dX11_lose_17 rfl (lv_at hl 1 rfl) ?_
    obtain ⟨hk, h⟩ := ckk_ok h
    obtain ⟨S5, h_S5, h⟩ := bd_ok h
    refine c_callW (rest := []) C X hJ hl.1 5 (by decide) hk [.int v1] (tk_5_remove l h_S5) cw11_224 ki_5_remove kl_5_remove rfl ⟨by decide, by decide⟩ ⟨(by decide), (by decide)⟩ rfl (Nat.le_of_ble_eq_true rfl) dX11_lose_18 (fun H locs hJ => ?_)
    refine W.eq (g2 := F0 m 21 ls []) rfl ?_
    refine lv_aload_n C.1 C.2.1 dX11_lose_21 rfl (lv_at hl 0 rfl) ?_
    obtain ⟨hk, h⟩ := ckk_ok h
    obtain ⟨a6, h_a6, h⟩ := bd_ok h
    refine gk11_32 C X hJ.1 hk h_a6 dX11_lose_22 ?_
    refine lv_dup C.1 C.2.1 dX11_lose_25 rfl ?_
    obtain ⟨hk, h⟩ := ckk_ok h
    refine gk11_265 C X hJ.1 hk dX11_lose_26 ?_
    refine lv_iconst (v := 1) C.1 C.2.1 dX11_lose_29 (by decide) ?_
    refine lv_iadd C.1 C.2.1 dX11_lose_30 ?_
    obtain ⟨hk, h⟩ := ckk_ok h
    refine pk11_265 C X hJ hk dX11_lose_31 (fun H locs hJ => ?_)
    refine lt_ok h (fun S7 e_S7 h => ?_)
    rw [e_S7] at hJ
    refine lv_iconst (v := 1) C.1 C.2.1 dX11_lose_34 (by decide) ?_
    obtain ⟨hzo, h⟩ := ckz_ok h
    cases h
    exact c_retnW C (by rcases hzo with h9 | h9 <;> (rw [h9]; rfl)) hJ dX11_lose_35
end
theorem dX11_twice_0 : decode cX11_twice 0 = .ok (.aload_n 0, 1) := by decide +kernel
theorem dX11_twice_1 : decode cX11_twice 1 = .ok (.getfield 32, 3) := by decide +kernel
theorem dX11_twice_4 : decode cX11_twice 4 = .ok (.iload_n 1, 1) := by decide +kernel
theorem dX11_twice_5 : decode cX11_twice 5 = .ok (.invokevirtual 220, 3) := by decide +kernel
theorem dX11_twice_8 : decode cX11_twice 8 = .ok (.astore_n 2, 1) := by decide +kernel
theorem dX11_twice_9 : decode cX11_twice 9 = .ok (.aload_n 2, 1) := by decide +kernel
theorem dX11_twice_10 : decode cX11_twice 10 = .ok (.ifnull 13, 3) := by decide +kernel
theorem dX11_twice_13 : decode cX11_twice 13 = .ok (.aload_n 0, 1) := by decide +kernel
theorem dX11_twice_14 : decode cX11_twice 14 = .ok (.getfield 32, 3) := by decide +kernel
theorem dX11_twice_17 : decode cX11_twice 17 = .ok (.invokevirtual 212, 3) := by decide +kernel
theorem dX11_twice_20 : decode cX11_twice 20 = .ok (.ifCond .eq 5, 3) := by decide +kernel
theorem dX11_twice_23 : decode cX11_twice 23 = .ok (.iconst 0, 1) := by decide +kernel
theorem dX11_twice_24 : decode cX11_twice 24 = .ok (.ireturn, 1) := by decide +kernel
theorem dX11_twice_25 : decode cX11_twice 25 = .ok (.aload_n 0, 1) := by decide +kernel
theorem dX11_twice_26 : decode cX11_twice 26 = .ok (.getfield 32, 3) := by decide +kernel
theorem dX11_twice_29 : decode cX11_twice 29 = .ok (.invokevirtual 268, 3) := by decide +kernel
theorem dX11_twice_32 : decode cX11_twice 32 = .ok (.aload_n 2, 1) := by decide +kernel
theorem dX11_twice_33 : decode cX11_twice 33 = .ok (.invokevirtual 272, 3) := by decide +kernel
theorem dX11_twice_36 : decode cX11_twice 36 = .ok (.iconst 1, 1) := by decide +kernel
theorem dX11_twice_37 : decode cX11_twice 37 = .ok (.ireturn, 1) := by decide +kernel
theorem kd_11_twice : Cond.code yX11_twice cX11_twice 3 (some .boolean) ∈ lw_g := mt_at 1377 (by decide +kernel) rfl
theorem ki_11_twice : Cond.instanceMethod yX11_twice ∈ lw_g := mt_at 1375 (by decide +kernel) rfl
theorem kl_11_twice : Cond.selects (kRn 11) yX11_twice yX11_twice ∈ lw_g := mt_at 1376 (by decide +kernel) rfl
theorem cw11_272 : cCw RX11 272 yX2_copyFrom cX2_copyFrom 3 none 1 := ⟨kd_2_copyFrom, mt_at 1378 (by decide +kernel) rfl, mt_at 30 (by decide +kernel) rfl, by decide +kernel⟩
section
variable {p : Program} {l : Launch} {e : Env} {R : Room} {s : State} {m : MethodId} {args : Array Value} {below : List Frame} {meth : Method} {c : Code} {D : cG} {S0 S9 : cSt} {r : Int32}
noncomputable def fk_11_twice_23 (S : cSt) : Option (Int32 × cSt) :=
ckz (0 : Int32) (some ((0 : Int32), S))
set_option maxRecDepth 100000 in
set_option maxHeartbeats 4000000 in
theorem wk_11_twice_23 (C : cY p R s m args meth c RX11 cX11_twice 3 6 8 1159 132 (some .boolean)) (X : cX D s) : ∀ {S : cSt} {H : Heap} {locs : List Loc} {ls : Array Slot}, fk_11_twice_23 S = some (r, S9) → cJ D S0 s.heap S H locs → lv_has ls 3 [] → W p l e R s m args below meth c H locs 0 0 (MQ below (kW (some (.int r)) D S0 S9) args s 8 1159 (cA S0)) (F0 m 23 ls []) := by
  intro S H locs ls h hJ hl
  unfold fk_11_twice_23 at h
  refine lv_iconst (v := 0) C.1 C.2.1 dX11_twice_23 (by decide) ?_
  obtain ⟨hzo, h⟩ := ckz_ok h
  cases h
  refine W.widen (k := 8) (n := 1159) (by decide) (by decide) ?_
  exact c_retnW C (by rcases hzo with h9 | h9 <;> (rw [h9]; rfl)) hJ dX11_twice_24
noncomputable def fk_11_twice (S : cSt) (v0 : Nat) (v1 : Int32) : Option (Int32 × cSt) :=
ckk S v0 12 (bd (kR S v0 3) fun a1 =>
ckk S a1 6 (bd (fk_5_at S a1 v1) fun o2 =>
cs o2 (
fk_11_twice_23 S) (fun a3 =>
ckk S v0 12 (bd (kR S v0 3) fun a4 =>
ckk S a4 6 (bd (fk_5_isFull S a4) fun r5 =>
if r5 = 0 then (
ckk S v0 12 (bd (kR S v0 3) fun a7 =>
ckk S a7 6 (bd (fk_5_open S a7) fun q_o9 => lt q_o9.1 fun o9 => lt q_o9.2 fun S8 =>
bd o9 fun a10 =>
ckk S8 a10 3 (bd (fk_2_copyFrom S8 a10 a3) fun S11 =>
ckz (1 : Int32) (some ((1 : Int32), S11))))))
else (
fk_11_twice_23 S))))))
set_option maxRecDepth 100000 in
set_option maxHeartbeats 4000000 in
theorem tk_11_twice (l : Launch) {D : cG} {S : cSt} {v0 : Nat} {v1 : Int32} {r : Int32} {S9 : cSt} (h : fk_11_twice S v0 v1 = some (r, S9)) : Met l yX11_twice (Cond.code yX11_twice cX11_twice 3 (some .boolean) :: lw_g) { frames := 6, cells := 8, slots := 1159, locals := 132 } (kPi [.ref v0, .int v1] D S) (kW (some (.int r)) D S S9) 8 1159 (cA S) := by
  refine Met.ofW (cc := cX11_twice) (maxL := 3) (ret := (some .boolean)) (by decide) rfl ?_
  intro p e s m args below meth c s₁ B hml hv
  obtain ⟨rfl, hW, X⟩ := hv
  have C : cY p (headSpec (Cond.code yX11_twice cX11_twice 3 (some .boolean) :: lw_g) { frames := 6, cells := 8, slots := 1159, locals := 132 }).room s m _ meth c RX11 cX11_twice 3 6 8 1159 132 (some .boolean) := ⟨B.exec, B.bytes, hml, findClass_of_methodNamed B.named, fun w hw => atoms_spec (ws := Cond.code yX11_twice cX11_twice 3 (some .boolean) :: lw_g) B.pre w (List.mem_cons_of_mem _ hw), ⟨Nat.le_refl _, Nat.le_refl _, Nat.le_refl _, Nat.le_refl _⟩, B.returns, B.notSynchronized⟩
  have hl := lv_entry ([.ref v0, .int v1]) (n := 3) (Nat.le_of_ble_eq_true rfl)
  rw [lg_entry_eq]
  generalize (lg_sl ([.ref v0, .int v1]) ++ List.replicate (3 - (lg_sl ([.ref v0, .int v1])).length) Slot.unset).toArray = ls at hl ⊢
  have hl : lv_has ls 3 [(0, .ref v0), (1, .int v1)] := hl
  have hJ : cJ D S s.heap S s.heap [] := cJ.rf hW
  unfold fk_11_twice at h
  refine lv_aload_n C.1 C.2.1 dX11_twice_0 rfl (lv_at hl 0 rfl) ?_
  obtain ⟨hk, h⟩ := ckk_ok h
  obtain ⟨a1, h_a1, h⟩ := bd_ok h
  refine gk11_32 C X hJ.1 hk h_a1 dX11_twice_1 ?_
  refine lv_iload_n C.1 C.2.1 dX11_twice_4 rfl (lv_at hl 1 rfl) ?_
  obtain ⟨hk, h⟩ := ckk_ok h
  obtain ⟨o2, h_o2, h⟩ := bd_ok h
  refine c_callR (rest := []) C X hJ.1 hl.1 5 (by decide) hk [.int v1] (tk_5_at l h_o2) cw11_220 ki_5_at kl_5_at rfl ⟨by decide, by decide⟩ ⟨(by decide), (by decide)⟩ rfl (Nat.le_of_ble_eq_true rfl) dX11_twice_5 ?_
  refine W.eq (g2 := F0 m 8 ls [va_rf o2]) rfl ?_
  refine lv_astore_nq (o := o2) (lv' := [(2, va_rf o2), (0, .ref v0), (1, .int v1)]) C.1 C.2.1 dX11_twice_8 rfl hl (by decide) rfl (fun ls hl => ?_)
  refine lv_aload_nq (o := o2) C.1 C.2.1 dX11_twice_9 rfl (lv_at hl 0 rfl) ?_
  rcases o2 with _ | a3
  · replace h := cs_n h
    refine lv_ifnullN (tgt := 23) C.1 C.2.1 dX11_twice_10 (by decide) ?_
    exact wk_11_twice_23 C X h hJ (lv_sub hl [] rfl)
  · replace h := cs_s h
    refine lv_ifnull C.1 C.2.1 dX11_twice_10 ?_
    refine lv_aload_n C.1 C.2.1 dX11_twice_13 rfl (lv_at hl 1 rfl) ?_
    obtain ⟨hk, h⟩ := ckk_ok h
    obtain ⟨a4, h_a4, h⟩ := bd_ok h
    refine gk11_32 C X hJ.1 hk h_a4 dX11_twice_14 ?_
    obtain ⟨hk, h⟩ := ckk_ok h
    obtain ⟨r5, h_r5, h⟩ := bd_ok h
    refine c_callR (rest := []) C X hJ.1 hl.1 5 (by decide) hk [] (tk_5_isFull l h_r5) cw11_212 ki_5_isFull kl_5_isFull rfl ⟨by decide, by decide⟩ ⟨(by decide), (by decide)⟩ rfl (Nat.le_of_ble_eq_true rfl) dX11_twice_17 ?_
    refine W.eq (g2 := F0 m 20 ls [.int r5]) rfl ?_
    refine lv_if_eq (tgt := 25) C.1 C.2.1 dX11_twice_20 (by decide) (fun c6 => ?_) (fun c6 => ?_)
    · have h := if_t h c6
      refine lv_aload_n C.1 C.2.1 dX11_twice_25 rfl (lv_at hl 1 rfl) ?_
      obtain ⟨hk, h⟩ := ckk_ok h
      obtain ⟨a7, h_a7, h⟩ := bd_ok h
      refine gk11_32 C X hJ.1 hk h_a7 dX11_twice_26 ?_
      obtain ⟨hk, h⟩ := ckk_ok h
      obtain ⟨⟨o9, S8⟩, h_S8, h⟩ := bd_ok h
      replace h := lt2_ok h
      refine c_callW (rest := []) C X hJ hl.1 5 (by decide) hk [] (tk_5_open l h_S8) cw11_268 ki_5_open kl_5_open rfl ⟨by decide, by decide⟩ ⟨(by decide), (by decide)⟩ rfl (Nat.le_of_ble_eq_true rfl) dX11_twice_29 (fun H locs hJ => ?_)
      refine W.eq (g2 := F0 m 32 ls [va_rf o9]) rfl ?_
      refine lv_aload_n C.1 C.2.1 dX11_twice_32 rfl (lv_at hl 0 rfl) ?_
      obtain ⟨a10, e_a10, h⟩ := bd_ok h
      revert h; subst e_a10; intro h
      obtain ⟨hk, h⟩ := ckk_ok h
      obtain ⟨S11, h_S11, h⟩ := bd_ok h
      refine c_callW (rest := []) C X hJ hl.1 2 (by decide) hk [.ref a3] (tk_2_copyFrom l h_S11) cw11_272 ki_2_copyFrom kl_2_copyFrom rfl ⟨by decide, by decide⟩ ⟨(by decide), (by decide)⟩ rfl (Nat.le_of_ble_eq_true rfl) dX11_twice_33 (fun H locs hJ => ?_)
      refine W.eq (g2 := F0 m 36 ls []) rfl ?_
      refine lv_iconst (v := 1) C.1 C.2.1 dX11_twice_36 (by decide) ?_
      obtain ⟨hzo, h⟩ := ckz_ok h
      cases h
      exact c_retnW C (by rcases hzo with h9 | h9 <;> (rw [h9]; rfl)) hJ dX11_twice_37
    · have h := if_f h c6
      exact wk_11_twice_23 C X h hJ (lv_sub hl [] rfl)
end
theorem dX11_octet_0 : decode cX11_octet 0 = .ok (.aload_n 0, 1) := by decide +kernel
theorem dX11_octet_1 : decode cX11_octet 1 = .ok (.getfield 32, 3) := by decide +kernel
theorem dX11_octet_4 : decode cX11_octet 4 = .ok (.iload_n 1, 1) := by decide +kernel
theorem dX11_octet_5 : decode cX11_octet 5 = .ok (.invokevirtual 220, 3) := by decide +kernel
theorem dX11_octet_8 : decode cX11_octet 8 = .ok (.astore_n 3, 1) := by decide +kernel
theorem dX11_octet_9 : decode cX11_octet 9 = .ok (.aload_n 3, 1) := by decide +kernel
theorem dX11_octet_10 : decode cX11_octet 10 = .ok (.ifnull 8, 3) := by decide +kernel
theorem dX11_octet_13 : decode cX11_octet 13 = .ok (.iload_n 2, 1) := by decide +kernel
theorem dX11_octet_14 : decode cX11_octet 14 = .ok (.iconst (-1), 1) := by decide +kernel
theorem dX11_octet_15 : decode cX11_octet 15 = .ok (.if_icmp .ge 5, 3) := by decide +kernel
theorem dX11_octet_18 : decode cX11_octet 18 = .ok (.iconst (-1), 1) := by decide +kernel
theorem dX11_octet_19 : decode cX11_octet 19 = .ok (.ireturn, 1) := by decide +kernel
theorem dX11_octet_20 : decode cX11_octet 20 = .ok (.aload_n 3, 1) := by decide +kernel
theorem dX11_octet_21 : decode cX11_octet 21 = .ok (.invokevirtual 276, 3) := by decide +kernel
theorem dX11_octet_24 : decode cX11_octet 24 = .ok (.iload_n 2, 1) := by decide +kernel
theorem dX11_octet_25 : decode cX11_octet 25 = .ok (.iconst (-1), 1) := by decide +kernel
theorem dX11_octet_26 : decode cX11_octet 26 = .ok (.if_icmp .ne 8, 3) := by decide +kernel
theorem dX11_octet_29 : decode cX11_octet 29 = .ok (.aload_n 3, 1) := by decide +kernel
theorem dX11_octet_30 : decode cX11_octet 30 = .ok (.getfield 279, 3) := by decide +kernel
theorem dX11_octet_33 : decode cX11_octet 33 = .ok (.ireturn, 1) := by decide +kernel
theorem dX11_octet_34 : decode cX11_octet 34 = .ok (.iload_n 2, 1) := by decide +kernel
theorem dX11_octet_35 : decode cX11_octet 35 = .ok (.aload_n 3, 1) := by decide +kernel
theorem dX11_octet_36 : decode cX11_octet 36 = .ok (.getfield 279, 3) := by decide +kernel
theorem dX11_octet_39 : decode cX11_octet 39 = .ok (.if_icmp .ge 11, 3) := by decide +kernel
theorem dX11_octet_42 : decode cX11_octet 42 = .ok (.aload_n 3, 1) := by decide +kernel
theorem dX11_octet_43 : decode cX11_octet 43 = .ok (.iload_n 2, 1) := by decide +kernel
theorem dX11_octet_44 : decode cX11_octet 44 = .ok (.invokevirtual 280, 3) := by decide +kernel
theorem dX11_octet_47 : decode cX11_octet 47 = .ok (.goto 4, 3) := by decide +kernel
theorem dX11_octet_50 : decode cX11_octet 50 = .ok (.iconst (-1), 1) := by decide +kernel
theorem dX11_octet_51 : decode cX11_octet 51 = .ok (.ireturn, 1) := by decide +kernel
theorem kd_11_octet : Cond.code yX11_octet cX11_octet 4 (some .int) ∈ lw_g := mt_at 1414 (by decide +kernel) rfl
theorem ki_11_octet : Cond.instanceMethod yX11_octet ∈ lw_g := mt_at 1412 (by decide +kernel) rfl
theorem kl_11_octet : Cond.selects (kRn 11) yX11_octet yX11_octet ∈ lw_g := mt_at 1413 (by decide +kernel) rfl
theorem cw11_276 : cCw RX11 276 yX2_write cX2_write 2 none 0 := ⟨kd_2_write, mt_at 1415 (by decide +kernel) rfl, mt_at 30 (by decide +kernel) rfl, by decide +kernel⟩
theorem cw11_280 : cCw RX11 280 yX2_byteNow cX2_byteNow 2 (some .int) 1 := ⟨kd_2_byteNow, mt_at 1416 (by decide +kernel) rfl, mt_at 30 (by decide +kernel) rfl, by decide +kernel⟩
section
variable {p : Program} {l : Launch} {e : Env} {R : Room} {s : State} {m : MethodId} {args : Array Value} {below : List Frame} {meth : Method} {c : Code} {H : Heap} {locs : List Loc} {cells slots : Nat} {Q : State → Prop}
variable {D : cG} {S S0 : cSt} {cc : ByteArray} {nL : Nat} {pc : Nat} {ls : Array Slot} {rest : List Value} {H0 : Heap} {nF nR nC nS : Nat} {ret : Option FieldType} {a : Nat}
theorem gk11_279 (C : cY p R s m args meth c RX11 cc nL nF nC nS nR ret) (X : cX D s) (hW : cW D S H) (hk : kK S a = 3) (hdg : decode cc pc = .ok (.getfield 279, 3)) (kk : W p l e R s m args below meth c H locs cells slots Q (F0 m (pc + 3) ls (.int (kF S a 7) :: rest))) : W p l e R s m args below meth c H locs cells slots Q (F0 m pc ls (.ref a :: rest)) := c_get C X hW 2 (by decide) ly_2 hk 7 (by decide) (mt_at 1289 (by decide +kernel) (by decide +kernel)) hdg (by rw [cV_I (by decide +kernel)]; exact kk)
end
section
variable {p : Program} {l : Launch} {e : Env} {R : Room} {s : State} {m : MethodId} {args : Array Value} {below : List Frame} {meth : Method} {c : Code} {D : cG} {S0 S9 : cSt} {r : Int32}
noncomputable def fk_11_octet_18 (S : cSt) : Option (Int32 × cSt) :=
some ((-1 : Int32), S)
set_option maxRecDepth 100000 in
set_option maxHeartbeats 4000000 in
theorem wk_11_octet_18 (C : cY p R s m args meth c RX11 cX11_octet 4 5 2 1120 110 (some .int)) (X : cX D s) : ∀ {S : cSt} {H : Heap} {locs : List Loc} {ls : Array Slot}, fk_11_octet_18 S = some (r, S9) → cJ D S0 s.heap S H locs → lv_has ls 4 [] → W p l e R s m args below meth c H locs 0 0 (MQ below (kW (some (.int r)) D S0 S9) args s 2 1120 (cA S0)) (F0 m 18 ls []) := by
  intro S H locs ls h hJ hl
  unfold fk_11_octet_18 at h
  refine lv_iconst (v := -1) C.1 C.2.1 dX11_octet_18 (by decide) ?_
  cases h
  refine W.widen (k := 2) (n := 1120) (by decide) (by decide) ?_
  exact c_retiW C hJ dX11_octet_19
noncomputable def fk_11_octet_51 (S : cSt) (s0 : Int32) : Option (Int32 × cSt) :=
some (s0, S)
set_option maxRecDepth 100000 in
set_option maxHeartbeats 4000000 in
theorem wk_11_octet_51 (C : cY p R s m args meth c RX11 cX11_octet 4 5 2 1120 110 (some .int)) (X : cX D s) : ∀ {S : cSt} {s0 : Int32} {H : Heap} {locs : List Loc} {ls : Array Slot}, fk_11_octet_51 S s0 = some (r, S9) → cJ D S0 s.heap S H locs → lv_has ls 4 [] → W p l e R s m args below meth c H locs 2 1120 (MQ below (kW (some (.int r)) D S0 S9) args s 2 1120 (cA S0)) (F0 m 51 ls [.int s0]) := by
  intro S s0 H locs ls h hJ hl
  unfold fk_11_octet_51 at h
  cases h
  exact c_retiW C hJ dX11_octet_51
noncomputable def fk_11_octet (S : cSt) (v0 : Nat) (v1 : Int32) (v2 : Int32) : Option (Int32 × cSt) :=
ckk S v0 12 (bd (kR S v0 3) fun a1 =>
ckk S a1 6 (bd (fk_5_at S a1 v1) fun o2 =>
cs o2 (
fk_11_octet_18 S) (fun a3 =>
if (-1 : Int32) ≤ v2 then (
ckk S a3 3 (bd (fk_2_write S a3) fun S5 =>
if v2 = (-1 : Int32) then (
ckk S5 a3 3 (
some (kF S5 a3 7, S5)))
else (
ckk S5 a3 3 (
if (kF S5 a3 7) ≤ v2 then (
fk_11_octet_51 S5 (-1 : Int32))
else (
ckk S5 a3 3 (bd (fk_2_byteNow S5 a3 v2) fun r8 =>
fk_11_octet_51 S5 r8))))))
else (
fk_11_octet_18 S))))
set_option maxRecDepth 100000 in
set_option maxHeartbeats 4000000 in
theorem tk_11_octet (l : Launch) {D : cG} {S : cSt} {v0 : Nat} {v1 : Int32} {v2 : Int32} {r : Int32} {S9 : cSt} (h : fk_11_octet S v0 v1 v2 = some (r, S9)) : Met l yX11_octet (Cond.code yX11_octet cX11_octet 4 (some .int) :: lw_g) { frames := 5, cells := 2, slots := 1120, locals := 110 } (kPi [.ref v0, .int v1, .int v2] D S) (kW (some (.int r)) D S S9) 2 1120 (cA S) := by
  refine Met.ofW (cc := cX11_octet) (maxL := 4) (ret := (some .int)) (by decide) rfl ?_
  intro p e s m args below meth c s₁ B hml hv
  obtain ⟨rfl, hW, X⟩ := hv
  have C : cY p (headSpec (Cond.code yX11_octet cX11_octet 4 (some .int) :: lw_g) { frames := 5, cells := 2, slots := 1120, locals := 110 }).room s m _ meth c RX11 cX11_octet 4 5 2 1120 110 (some .int) := ⟨B.exec, B.bytes, hml, findClass_of_methodNamed B.named, fun w hw => atoms_spec (ws := Cond.code yX11_octet cX11_octet 4 (some .int) :: lw_g) B.pre w (List.mem_cons_of_mem _ hw), ⟨Nat.le_refl _, Nat.le_refl _, Nat.le_refl _, Nat.le_refl _⟩, B.returns, B.notSynchronized⟩
  have hl := lv_entry ([.ref v0, .int v1, .int v2]) (n := 4) (Nat.le_of_ble_eq_true rfl)
  rw [lg_entry_eq]
  generalize (lg_sl ([.ref v0, .int v1, .int v2]) ++ List.replicate (4 - (lg_sl ([.ref v0, .int v1, .int v2])).length) Slot.unset).toArray = ls at hl ⊢
  have hl : lv_has ls 4 [(0, .ref v0), (1, .int v1), (2, .int v2)] := hl
  have hJ : cJ D S s.heap S s.heap [] := cJ.rf hW
  unfold fk_11_octet at h
  refine lv_aload_n C.1 C.2.1 dX11_octet_0 rfl (lv_at hl 0 rfl) ?_
  obtain ⟨hk, h⟩ := ckk_ok h
  obtain ⟨a1, h_a1, h⟩ := bd_ok h
  refine gk11_32 C X hJ.1 hk h_a1 dX11_octet_1 ?_
  refine lv_iload_n C.1 C.2.1 dX11_octet_4 rfl (lv_at hl 1 rfl) ?_
  obtain ⟨hk, h⟩ := ckk_ok h
  obtain ⟨o2, h_o2, h⟩ := bd_ok h
  refine c_callR (rest := []) C X hJ.1 hl.1 5 (by decide) hk [.int v1] (tk_5_at l h_o2) cw11_220 ki_5_at kl_5_at rfl ⟨by decide, by decide⟩ ⟨(by decide), (by decide)⟩ rfl (Nat.le_of_ble_eq_true rfl) dX11_octet_5 ?_
  refine W.eq (g2 := F0 m 8 ls [va_rf o2]) rfl ?_
  refine lv_astore_nq (o := o2) (lv' := [(3, va_rf o2), (0, .ref v0), (1, .int v1), (2, .int v2)]) C.1 C.2.1 dX11_octet_8 rfl hl (by decide) rfl (fun ls hl => ?_)
  refine lv_aload_nq (o := o2) C.1 C.2.1 dX11_octet_9 rfl (lv_at hl 0 rfl) ?_
  rcases o2 with _ | a3
  · replace h := cs_n h
    refine lv_ifnullN (tgt := 18) C.1 C.2.1 dX11_octet_10 (by decide) ?_
    exact wk_11_octet_18 C X h hJ (lv_sub hl [] rfl)
  · replace h := cs_s h
    refine lv_ifnull C.1 C.2.1 dX11_octet_10 ?_
    refine lv_iload_n C.1 C.2.1 dX11_octet_13 rfl (lv_at hl 3 rfl) ?_
    refine lv_iconst (v := -1) C.1 C.2.1 dX11_octet_14 (by decide) ?_
    refine lv_icmp_ge (tgt := 20) C.1 C.2.1 dX11_octet_15 (by decide) (fun c4 => ?_) (fun c4 => ?_)
    · have h := if_t h c4
      refine lv_aload_n C.1 C.2.1 dX11_octet_20 rfl (lv_at hl 0 rfl) ?_
      obtain ⟨hk, h⟩ := ckk_ok h
      obtain ⟨S5, h_S5, h⟩ := bd_ok h
      refine c_callW (rest := []) C X hJ hl.1 2 (by decide) hk [] (tk_2_write l h_S5) cw11_276 ki_2_write kl_2_write rfl ⟨by decide, by decide⟩ ⟨(by decide), (by decide)⟩ rfl (Nat.le_of_ble_eq_true rfl) dX11_octet_21 (fun H locs hJ => ?_)
      refine W.eq (g2 := F0 m 24 ls []) rfl ?_
      refine lv_iload_n C.1 C.2.1 dX11_octet_24 rfl (lv_at hl 3 rfl) ?_
      refine lv_iconst (v := -1) C.1 C.2.1 dX11_octet_25 (by decide) ?_
      refine lv_icmp_ne (tgt := 34) C.1 C.2.1 dX11_octet_26 (by decide) (fun c6 => ?_) (fun c6 => ?_)
      · have h := if_f h c6
        refine lv_iload_n C.1 C.2.1 dX11_octet_34 rfl (lv_at hl 3 rfl) ?_
        refine lv_aload_n C.1 C.2.1 dX11_octet_35 rfl (lv_at hl 0 rfl) ?_
        obtain ⟨hk, h⟩ := ckk_ok h
        refine gk11_279 C X hJ.1 hk dX11_octet_36 ?_
        refine lv_icmp_ge (tgt := 50) C.1 C.2.1 dX11_octet_39 (by decide) (fun c7 => ?_) (fun c7 => ?_)
        · have h := if_t h c7
          refine lv_iconst (v := -1) C.1 C.2.1 dX11_octet_50 (by decide) ?_
          exact wk_11_octet_51 C X h hJ (lv_sub hl [] rfl)
        · have h := if_f h c7
          refine lv_aload_n C.1 C.2.1 dX11_octet_42 rfl (lv_at hl 0 rfl) ?_
          refine lv_iload_n C.1 C.2.1 dX11_octet_43 rfl (lv_at hl 3 rfl) ?_
          obtain ⟨hk, h⟩ := ckk_ok h
          obtain ⟨r8, h_r8, h⟩ := bd_ok h
          refine c_callR (rest := []) C X hJ.1 hl.1 2 (by decide) hk [.int v2] (tk_2_byteNow l h_r8) cw11_280 ki_2_byteNow kl_2_byteNow rfl ⟨by decide, by decide⟩ ⟨(by decide), (by decide)⟩ rfl (Nat.le_of_ble_eq_true rfl) dX11_octet_44 ?_
          refine W.eq (g2 := F0 m 47 ls [.int r8]) rfl ?_
          refine lv_goto (tgt := 51) C.1 C.2.1 dX11_octet_47 (by decide) ?_
          exact wk_11_octet_51 C X h hJ (lv_sub hl [] rfl)
      · have h := if_t h c6
        refine lv_aload_n C.1 C.2.1 dX11_octet_29 rfl (lv_at hl 0 rfl) ?_
        obtain ⟨hk, h⟩ := ckk_ok h
        refine gk11_279 C X hJ.1 hk dX11_octet_30 ?_
        cases h
        exact c_retiW C hJ dX11_octet_33
    · have h := if_f h c4
      exact wk_11_octet_18 C X h hJ (lv_sub hl [] rfl)
end
theorem dX11_bend_0 : decode cX11_bend 0 = .ok (.aload_n 0, 1) := by decide +kernel
theorem dX11_bend_1 : decode cX11_bend 1 = .ok (.getfield 32, 3) := by decide +kernel
theorem dX11_bend_4 : decode cX11_bend 4 = .ok (.iload_n 1, 1) := by decide +kernel
theorem dX11_bend_5 : decode cX11_bend 5 = .ok (.invokevirtual 220, 3) := by decide +kernel
theorem dX11_bend_8 : decode cX11_bend 8 = .ok (.astore 4, 2) := by decide +kernel
theorem dX11_bend_10 : decode cX11_bend 10 = .ok (.aload 4, 2) := by decide +kernel
theorem dX11_bend_12 : decode cX11_bend 12 = .ok (.ifnull 19, 3) := by decide +kernel
theorem dX11_bend_15 : decode cX11_bend 15 = .ok (.iload_n 2, 1) := by decide +kernel
theorem dX11_bend_16 : decode cX11_bend 16 = .ok (.ifCond .lt 15, 3) := by decide +kernel
theorem dX11_bend_19 : decode cX11_bend 19 = .ok (.iload_n 3, 1) := by decide +kernel
theorem dX11_bend_20 : decode cX11_bend 20 = .ok (.iconst 1, 1) := by decide +kernel
theorem dX11_bend_21 : decode cX11_bend 21 = .ok (.if_icmp .lt 10, 3) := by decide +kernel
theorem dX11_bend_24 : decode cX11_bend 24 = .ok (.iload_n 3, 1) := by decide +kernel
theorem dX11_bend_25 : decode cX11_bend 25 = .ok (.sipush 255, 3) := by decide +kernel
theorem dX11_bend_28 : decode cX11_bend 28 = .ok (.if_icmp .le 5, 3) := by decide +kernel
theorem dX11_bend_31 : decode cX11_bend 31 = .ok (.iconst 0, 1) := by decide +kernel
theorem dX11_bend_32 : decode cX11_bend 32 = .ok (.ireturn, 1) := by decide +kernel
theorem dX11_bend_33 : decode cX11_bend 33 = .ok (.aload 4, 2) := by decide +kernel
theorem dX11_bend_35 : decode cX11_bend 35 = .ok (.invokevirtual 276, 3) := by decide +kernel
theorem dX11_bend_38 : decode cX11_bend 38 = .ok (.iload_n 2, 1) := by decide +kernel
theorem dX11_bend_39 : decode cX11_bend 39 = .ok (.aload 4, 2) := by decide +kernel
theorem dX11_bend_41 : decode cX11_bend 41 = .ok (.getfield 279, 3) := by decide +kernel
theorem dX11_bend_44 : decode cX11_bend 44 = .ok (.if_icmp .lt 5, 3) := by decide +kernel
theorem dX11_bend_47 : decode cX11_bend 47 = .ok (.iconst 0, 1) := by decide +kernel
theorem dX11_bend_48 : decode cX11_bend 48 = .ok (.ireturn, 1) := by decide +kernel
theorem dX11_bend_49 : decode cX11_bend 49 = .ok (.aload 4, 2) := by decide +kernel
theorem dX11_bend_51 : decode cX11_bend 51 = .ok (.iload_n 2, 1) := by decide +kernel
theorem dX11_bend_52 : decode cX11_bend 52 = .ok (.iload_n 3, 1) := by decide +kernel
theorem dX11_bend_53 : decode cX11_bend 53 = .ok (.invokevirtual 283, 3) := by decide +kernel
theorem dX11_bend_56 : decode cX11_bend 56 = .ok (.iconst 1, 1) := by decide +kernel
theorem dX11_bend_57 : decode cX11_bend 57 = .ok (.ireturn, 1) := by decide +kernel
theorem kd_11_bend : Cond.code yX11_bend cX11_bend 5 (some .boolean) ∈ lw_g := mt_at 1423 (by decide +kernel) rfl
theorem ki_11_bend : Cond.instanceMethod yX11_bend ∈ lw_g := mt_at 1421 (by decide +kernel) rfl
theorem kl_11_bend : Cond.selects (kRn 11) yX11_bend yX11_bend ∈ lw_g := mt_at 1422 (by decide +kernel) rfl
theorem cw11_283 : cCw RX11 283 yX2_twist cX2_twist 4 none 2 := ⟨kd_2_twist, mt_at 1424 (by decide +kernel) rfl, mt_at 30 (by decide +kernel) rfl, by decide +kernel⟩
section
variable {p : Program} {l : Launch} {e : Env} {R : Room} {s : State} {m : MethodId} {args : Array Value} {below : List Frame} {meth : Method} {c : Code} {D : cG} {S0 S9 : cSt} {r : Int32}
noncomputable def fk_11_bend_31 (S : cSt) : Option (Int32 × cSt) :=
ckz (0 : Int32) (some ((0 : Int32), S))
set_option maxRecDepth 100000 in
set_option maxHeartbeats 4000000 in
theorem wk_11_bend_31 (C : cY p R s m args meth c RX11 cX11_bend 5 5 2 1120 110 (some .boolean)) (X : cX D s) : ∀ {S : cSt} {H : Heap} {locs : List Loc} {ls : Array Slot}, fk_11_bend_31 S = some (r, S9) → cJ D S0 s.heap S H locs → lv_has ls 5 [] → W p l e R s m args below meth c H locs 0 0 (MQ below (kW (some (.int r)) D S0 S9) args s 2 1120 (cA S0)) (F0 m 31 ls []) := by
  intro S H locs ls h hJ hl
  unfold fk_11_bend_31 at h
  refine lv_iconst (v := 0) C.1 C.2.1 dX11_bend_31 (by decide) ?_
  obtain ⟨hzo, h⟩ := ckz_ok h
  cases h
  refine W.widen (k := 2) (n := 1120) (by decide) (by decide) ?_
  exact c_retnW C (by rcases hzo with h9 | h9 <;> (rw [h9]; rfl)) hJ dX11_bend_32
noncomputable def fk_11_bend (S : cSt) (v0 : Nat) (v1 : Int32) (v2 : Int32) (v3 : Int32) : Option (Int32 × cSt) :=
ckk S v0 12 (bd (kR S v0 3) fun a1 =>
ckk S a1 6 (bd (fk_5_at S a1 v1) fun o2 =>
cs o2 (
fk_11_bend_31 S) (fun a3 =>
if v2 < 0 then (
fk_11_bend_31 S)
else (
if v3 < (1 : Int32) then (
fk_11_bend_31 S)
else (
if v3 ≤ (255 : Int32) then (
ckk S a3 3 (bd (fk_2_write S a3) fun S7 =>
ckk S7 a3 3 (
if v2 < (kF S7 a3 7) then (
ckk S7 a3 3 (bd (fk_2_twist S7 a3 v2 v3) fun S10 =>
ckz (1 : Int32) (some ((1 : Int32), S10))))
else (
ckz (0 : Int32) (some ((0 : Int32), S7))))))
else (
fk_11_bend_31 S))))))
set_option maxRecDepth 100000 in
set_option maxHeartbeats 4000000 in
theorem tk_11_bend (l : Launch) {D : cG} {S : cSt} {v0 : Nat} {v1 : Int32} {v2 : Int32} {v3 : Int32} {r : Int32} {S9 : cSt} (h : fk_11_bend S v0 v1 v2 v3 = some (r, S9)) : Met l yX11_bend (Cond.code yX11_bend cX11_bend 5 (some .boolean) :: lw_g) { frames := 5, cells := 2, slots := 1120, locals := 110 } (kPi [.ref v0, .int v1, .int v2, .int v3] D S) (kW (some (.int r)) D S S9) 2 1120 (cA S) := by
  refine Met.ofW (cc := cX11_bend) (maxL := 5) (ret := (some .boolean)) (by decide) rfl ?_
  intro p e s m args below meth c s₁ B hml hv
  obtain ⟨rfl, hW, X⟩ := hv
  have C : cY p (headSpec (Cond.code yX11_bend cX11_bend 5 (some .boolean) :: lw_g) { frames := 5, cells := 2, slots := 1120, locals := 110 }).room s m _ meth c RX11 cX11_bend 5 5 2 1120 110 (some .boolean) := ⟨B.exec, B.bytes, hml, findClass_of_methodNamed B.named, fun w hw => atoms_spec (ws := Cond.code yX11_bend cX11_bend 5 (some .boolean) :: lw_g) B.pre w (List.mem_cons_of_mem _ hw), ⟨Nat.le_refl _, Nat.le_refl _, Nat.le_refl _, Nat.le_refl _⟩, B.returns, B.notSynchronized⟩
  have hl := lv_entry ([.ref v0, .int v1, .int v2, .int v3]) (n := 5) (Nat.le_of_ble_eq_true rfl)
  rw [lg_entry_eq]
  generalize (lg_sl ([.ref v0, .int v1, .int v2, .int v3]) ++ List.replicate (5 - (lg_sl ([.ref v0, .int v1, .int v2, .int v3])).length) Slot.unset).toArray = ls at hl ⊢
  have hl : lv_has ls 5 [(0, .ref v0), (1, .int v1), (2, .int v2), (3, .int v3)] := hl
  have hJ : cJ D S s.heap S s.heap [] := cJ.rf hW
  unfold fk_11_bend at h
  refine lv_aload_n C.1 C.2.1 dX11_bend_0 rfl (lv_at hl 0 rfl) ?_
  obtain ⟨hk, h⟩ := ckk_ok h
  obtain ⟨a1, h_a1, h⟩ := bd_ok h
  refine gk11_32 C X hJ.1 hk h_a1 dX11_bend_1 ?_
  refine lv_iload_n C.1 C.2.1 dX11_bend_4 rfl (lv_at hl 1 rfl) ?_
  obtain ⟨hk, h⟩ := ckk_ok h
  obtain ⟨o2, h_o2, h⟩ := bd_ok h
  refine c_callR (rest := []) C X hJ.1 hl.1 5 (by decide) hk [.int v1] (tk_5_at l h_o2) cw11_220 ki_5_at kl_5_at rfl ⟨by decide, by decide⟩ ⟨(by decide), (by decide)⟩ rfl (Nat.le_of_ble_eq_true rfl) dX11_bend_5 ?_
  refine W.eq (g2 := F0 m 8 ls [va_rf o2]) rfl ?_
  refine lv_astoreq (o := o2) (lv' := [(4, va_rf o2), (0, .ref v0), (1, .int v1), (2, .int v2), (3, .int v3)]) C.1 C.2.1 dX11_bend_8 hl (by decide) rfl (fun ls hl => ?_)
  refine lv_aloadq (o := o2) C.1 C.2.1 dX11_bend_10 (lv_at hl 0 rfl) ?_
  rcases o2 with _ | a3
  · replace h := cs_n h
    refine lv_ifnullN (tgt := 31) C.1 C.2.1 dX11_bend_12 (by decide) ?_
    exact wk_11_bend_31 C X h hJ (lv_sub hl [] rfl)
  · replace h := cs_s h
    refine lv_ifnull C.1 C.2.1 dX11_bend_12 ?_
    refine lv_iload_n C.1 C.2.1 dX11_bend_15 rfl (lv_at hl 3 rfl) ?_
    refine lv_if_lt (tgt := 31) C.1 C.2.1 dX11_bend_16 (by decide) (fun c4 => ?_) (fun c4 => ?_)
    · have h := if_t h c4
      exact wk_11_bend_31 C X h hJ (lv_sub hl [] rfl)
    · have h := if_f h c4
      refine lv_iload_n C.1 C.2.1 dX11_bend_19 rfl (lv_at hl 4 rfl) ?_
      refine lv_iconst (v := 1) C.1 C.2.1 dX11_bend_20 (by decide) ?_
      refine lv_icmp_lt (tgt := 31) C.1 C.2.1 dX11_bend_21 (by decide) (fun c5 => ?_) (fun c5 => ?_)
      · have h := if_t h c5
        exact wk_11_bend_31 C X h hJ (lv_sub hl [] rfl)
      · have h := if_f h c5
        refine lv_iload_n C.1 C.2.1 dX11_bend_24 rfl (lv_at hl 4 rfl) ?_
        refine lv_sipush (v := 255) C.1 C.2.1 dX11_bend_25 (by decide) ?_
        refine lv_icmp_le (tgt := 33) C.1 C.2.1 dX11_bend_28 (by decide) (fun c6 => ?_) (fun c6 => ?_)
        · have h := if_t h c6
          refine lv_aload C.1 C.2.1 dX11_bend_33 (lv_at hl 0 rfl) ?_
          obtain ⟨hk, h⟩ := ckk_ok h
          obtain ⟨S7, h_S7, h⟩ := bd_ok h
          refine c_callW (rest := []) C X hJ hl.1 2 (by decide) hk [] (tk_2_write l h_S7) cw11_276 ki_2_write kl_2_write rfl ⟨by decide, by decide⟩ ⟨(by decide), (by decide)⟩ rfl (Nat.le_of_ble_eq_true rfl) dX11_bend_35 (fun H locs hJ => ?_)
          refine W.eq (g2 := F0 m 38 ls []) rfl ?_
          refine lv_iload_n C.1 C.2.1 dX11_bend_38 rfl (lv_at hl 3 rfl) ?_
          refine lv_aload C.1 C.2.1 dX11_bend_39 (lv_at hl 0 rfl) ?_
          obtain ⟨hk, h⟩ := ckk_ok h
          refine gk11_279 C X hJ.1 hk dX11_bend_41 ?_
          refine lv_icmp_lt (tgt := 49) C.1 C.2.1 dX11_bend_44 (by decide) (fun c8 => ?_) (fun c8 => ?_)
          · have h := if_t h c8
            refine lv_aload C.1 C.2.1 dX11_bend_49 (lv_at hl 0 rfl) ?_
            refine lv_iload_n C.1 C.2.1 dX11_bend_51 rfl (lv_at hl 3 rfl) ?_
            refine lv_iload_n C.1 C.2.1 dX11_bend_52 rfl (lv_at hl 4 rfl) ?_
            obtain ⟨hk, h⟩ := ckk_ok h
            obtain ⟨S10, h_S10, h⟩ := bd_ok h
            refine c_callW (rest := []) C X hJ hl.1 2 (by decide) hk [.int v2, .int v3] (tk_2_twist l h_S10) cw11_283 ki_2_twist kl_2_twist rfl ⟨by decide, by decide⟩ ⟨(by decide), (by decide)⟩ rfl (Nat.le_of_ble_eq_true rfl) dX11_bend_53 (fun H locs hJ => ?_)
            refine W.eq (g2 := F0 m 56 ls []) rfl ?_
            refine lv_iconst (v := 1) C.1 C.2.1 dX11_bend_56 (by decide) ?_
            obtain ⟨hzo, h⟩ := ckz_ok h
            cases h
            exact c_retnW C (by rcases hzo with h9 | h9 <;> (rw [h9]; rfl)) hJ dX11_bend_57
          · have h := if_f h c8
            refine lv_iconst (v := 0) C.1 C.2.1 dX11_bend_47 (by decide) ?_
            obtain ⟨hzo, h⟩ := ckz_ok h
            cases h
            exact c_retnW C (by rcases hzo with h9 | h9 <;> (rw [h9]; rfl)) hJ dX11_bend_48
        · have h := if_f h c6
          exact wk_11_bend_31 C X h hJ (lv_sub hl [] rfl)
end
theorem dX11_join_0 : decode cX11_join 0 = .ok (.iload_n 1, 1) := by decide +kernel
theorem dX11_join_1 : decode cX11_join 1 = .ok (.invokestatic 112, 3) := by decide +kernel
theorem dX11_join_4 : decode cX11_join 4 = .ok (.ifCond .eq 24, 3) := by decide +kernel
theorem dX11_join_7 : decode cX11_join 7 = .ok (.iload_n 2, 1) := by decide +kernel
theorem dX11_join_8 : decode cX11_join 8 = .ok (.invokestatic 112, 3) := by decide +kernel
theorem dX11_join_11 : decode cX11_join 11 = .ok (.ifCond .eq 17, 3) := by decide +kernel
theorem dX11_join_14 : decode cX11_join 14 = .ok (.iload_n 1, 1) := by decide +kernel
theorem dX11_join_15 : decode cX11_join 15 = .ok (.iload_n 2, 1) := by decide +kernel
theorem dX11_join_16 : decode cX11_join 16 = .ok (.if_icmp .eq 12, 3) := by decide +kernel
theorem dX11_join_19 : decode cX11_join 19 = .ok (.aload_n 0, 1) := by decide +kernel
theorem dX11_join_20 : decode cX11_join 20 = .ok (.getfield 59, 3) := by decide +kernel
theorem dX11_join_23 : decode cX11_join 23 = .ok (.bipush 40, 2) := by decide +kernel
theorem dX11_join_25 : decode cX11_join 25 = .ok (.if_icmp .lt 5, 3) := by decide +kernel
theorem dX11_join_28 : decode cX11_join 28 = .ok (.iconst 0, 1) := by decide +kernel
theorem dX11_join_29 : decode cX11_join 29 = .ok (.ireturn, 1) := by decide +kernel
theorem dX11_join_30 : decode cX11_join 30 = .ok (.aload_n 0, 1) := by decide +kernel
theorem dX11_join_31 : decode cX11_join 31 = .ok (.getfield 25, 3) := by decide +kernel
theorem dX11_join_34 : decode cX11_join 34 = .ok (.iload_n 2, 1) := by decide +kernel
theorem dX11_join_35 : decode cX11_join 35 = .ok (.aaload, 1) := by decide +kernel
theorem dX11_join_36 : decode cX11_join 36 = .ok (.aload_n 0, 1) := by decide +kernel
theorem dX11_join_37 : decode cX11_join 37 = .ok (.getfield 25, 3) := by decide +kernel
theorem dX11_join_40 : decode cX11_join 40 = .ok (.iload_n 1, 1) := by decide +kernel
theorem dX11_join_41 : decode cX11_join 41 = .ok (.aaload, 1) := by decide +kernel
theorem dX11_join_42 : decode cX11_join 42 = .ok (.invokevirtual 287, 3) := by decide +kernel
theorem dX11_join_45 : decode cX11_join 45 = .ok (.ifCond .ne 5, 3) := by decide +kernel
theorem dX11_join_48 : decode cX11_join 48 = .ok (.iconst 0, 1) := by decide +kernel
theorem dX11_join_49 : decode cX11_join 49 = .ok (.ireturn, 1) := by decide +kernel
theorem dX11_join_50 : decode cX11_join 50 = .ok (.aload_n 0, 1) := by decide +kernel
theorem dX11_join_51 : decode cX11_join 51 = .ok (.getfield 25, 3) := by decide +kernel
theorem dX11_join_54 : decode cX11_join 54 = .ok (.iload_n 1, 1) := by decide +kernel
theorem dX11_join_55 : decode cX11_join 55 = .ok (.aaload, 1) := by decide +kernel
theorem dX11_join_56 : decode cX11_join 56 = .ok (.aload_n 0, 1) := by decide +kernel
theorem dX11_join_57 : decode cX11_join 57 = .ok (.getfield 25, 3) := by decide +kernel
theorem dX11_join_60 : decode cX11_join 60 = .ok (.iload_n 2, 1) := by decide +kernel
theorem dX11_join_61 : decode cX11_join 61 = .ok (.aaload, 1) := by decide +kernel
theorem dX11_join_62 : decode cX11_join 62 = .ok (.invokevirtual 291, 3) := by decide +kernel
theorem dX11_join_65 : decode cX11_join 65 = .ok (.aload_n 0, 1) := by decide +kernel
theorem dX11_join_66 : decode cX11_join 66 = .ok (.dup, 1) := by decide +kernel
theorem dX11_join_67 : decode cX11_join 67 = .ok (.getfield 59, 3) := by decide +kernel
theorem dX11_join_70 : decode cX11_join 70 = .ok (.iconst 1, 1) := by decide +kernel
theorem dX11_join_71 : decode cX11_join 71 = .ok (.iadd, 1) := by decide +kernel
theorem dX11_join_72 : decode cX11_join 72 = .ok (.putfield 59, 3) := by decide +kernel
theorem dX11_join_75 : decode cX11_join 75 = .ok (.iconst 1, 1) := by decide +kernel
theorem dX11_join_76 : decode cX11_join 76 = .ok (.ireturn, 1) := by decide +kernel
theorem kd_11_join : Cond.code yX11_join cX11_join 3 (some .boolean) ∈ lw_g := mt_at 1431 (by decide +kernel) rfl
theorem ki_11_join : Cond.instanceMethod yX11_join ∈ lw_g := mt_at 1429 (by decide +kernel) rfl
theorem kl_11_join : Cond.selects (kRn 11) yX11_join yX11_join ∈ lw_g := mt_at 1430 (by decide +kernel) rfl
theorem cw11_287 : cCw RX11 287 yX7_hasAllOf cX7_hasAllOf 3 (some .boolean) 1 := ⟨kd_7_hasAllOf, mt_at 1432 (by decide +kernel) rfl, mt_at 7 (by decide +kernel) rfl, by decide +kernel⟩
theorem cw11_291 : cCw RX11 291 yX7_joinTo cX7_joinTo 3 none 1 := ⟨kd_7_joinTo, mt_at 1436 (by decide +kernel) rfl, mt_at 7 (by decide +kernel) rfl, by decide +kernel⟩
section
variable {p : Program} {l : Launch} {e : Env} {R : Room} {s : State} {m : MethodId} {args : Array Value} {below : List Frame} {meth : Method} {c : Code} {H : Heap} {locs : List Loc} {cells slots : Nat} {Q : State → Prop}
variable {D : cG} {S S0 : cSt} {cc : ByteArray} {nL : Nat} {pc : Nat} {ls : Array Slot} {rest : List Value} {H0 : Heap} {nF nR nC nS : Nat} {ret : Option FieldType} {a : Nat}
theorem gk11_59 (C : cY p R s m args meth c RX11 cc nL nF nC nS nR ret) (X : cX D s) (hW : cW D S H) (hk : kK S a = 12) (hdg : decode cc pc = .ok (.getfield 59, 3)) (kk : W p l e R s m args below meth c H locs cells slots Q (F0 m (pc + 3) ls (.int (kF S a 9) :: rest))) : W p l e R s m args below meth c H locs cells slots Q (F0 m pc ls (.ref a :: rest)) := c_get C X hW 11 (by decide) ly_11 hk 9 (by decide) (mt_at 380 (by decide +kernel) (by decide +kernel)) hdg (by rw [cV_I (by decide +kernel)]; exact kk)
end
section
variable {p : Program} {l : Launch} {e : Env} {R : Room} {s : State} {m : MethodId} {args : Array Value} {below : List Frame} {meth : Method} {c : Code} {D : cG} {S0 S9 : cSt} {r : Int32}
noncomputable def fk_11_join_28 (S : cSt) : Option (Int32 × cSt) :=
ckz (0 : Int32) (some ((0 : Int32), S))
set_option maxRecDepth 100000 in
set_option maxHeartbeats 4000000 in
theorem wk_11_join_28 (C : cY p R s m args meth c RX11 cX11_join 3 4 0 0 104 (some .boolean)) (X : cX D s) : ∀ {S : cSt} {H : Heap} {locs : List Loc} {ls : Array Slot}, fk_11_join_28 S = some (r, S9) → cJ D S0 s.heap S H locs → lv_has ls 3 [] → W p l e R s m args below meth c H locs 0 0 (MQ below (kW (some (.int r)) D S0 S9) args s 0 0 (cA S0)) (F0 m 28 ls []) := by
  intro S H locs ls h hJ hl
  unfold fk_11_join_28 at h
  refine lv_iconst (v := 0) C.1 C.2.1 dX11_join_28 (by decide) ?_
  obtain ⟨hzo, h⟩ := ckz_ok h
  cases h
  exact c_retnW C (by rcases hzo with h9 | h9 <;> (rw [h9]; rfl)) hJ dX11_join_29
noncomputable def fk_11_join (S : cSt) (v0 : Nat) (v1 : Int32) (v2 : Int32) : Option (Int32 × cSt) :=
bd (fk_11_isNode v1) fun r1 =>
if r1 = 0 then (
fk_11_join_28 S)
else (
bd (fk_11_isNode v2) fun r3 =>
if r3 = 0 then (
fk_11_join_28 S)
else (
if v1 = v2 then (
fk_11_join_28 S)
else (
ckk S v0 12 (
if (kF S v0 9) < (40 : Int32) then (
ckk S v0 12 (bd (kR S v0 2) fun a7 =>
ckk S a7 31 (ck v2 (kL S a7) (lt (kO S a7 (Int32.toNatClampNeg v2)) fun o8 =>
ckk S v0 12 (bd (kR S v0 2) fun a9 =>
ckk S a9 31 (ck v1 (kL S a9) (lt (kO S a9 (Int32.toNatClampNeg v1)) fun o10 =>
bd o10 fun a11 =>
bd o8 fun a12 =>
ckk S a12 8 (bd (fk_7_hasAllOf S a12 a11) fun r13 =>
if r13 = 0 then (
ckz (0 : Int32) (some ((0 : Int32), S)))
else (
ckk S v0 12 (bd (kR S v0 2) fun a15 =>
ckk S a15 31 (ck v1 (kL S a15) (lt (kO S a15 (Int32.toNatClampNeg v1)) fun o16 =>
ckk S v0 12 (bd (kR S v0 2) fun a17 =>
ckk S a17 31 (ck v2 (kL S a17) (lt (kO S a17 (Int32.toNatClampNeg v2)) fun o18 =>
bd o18 fun a19 =>
bd o16 fun a20 =>
ckk S a20 8 (bd (fk_7_joinTo S a20 a19) fun S21 =>
ckk S21 v0 12 (
ckk S21 v0 12 (lt (cPi S21 v0 9 ((kF S21 v0 9) + (1 : Int32))) fun S22 =>
ckz (1 : Int32) (some ((1 : Int32), S22))))))))))))))))))))
else (
fk_11_join_28 S)))))
set_option maxRecDepth 100000 in
set_option maxHeartbeats 4000000 in
theorem tk_11_join (l : Launch) {D : cG} {S : cSt} {v0 : Nat} {v1 : Int32} {v2 : Int32} {r : Int32} {S9 : cSt} (h : fk_11_join S v0 v1 v2 = some (r, S9)) : Met l yX11_join (Cond.code yX11_join cX11_join 3 (some .boolean) :: lw_g) { frames := 4, cells := 0, slots := 0, locals := 104 } (kPi [.ref v0, .int v1, .int v2] D S) (kW (some (.int r)) D S S9) 0 0 (cA S) := by
  refine Met.ofW (cc := cX11_join) (maxL := 3) (ret := (some .boolean)) (by decide) rfl ?_
  intro p e s m args below meth c s₁ B hml hv
  obtain ⟨rfl, hW, X⟩ := hv
  have C : cY p (headSpec (Cond.code yX11_join cX11_join 3 (some .boolean) :: lw_g) { frames := 4, cells := 0, slots := 0, locals := 104 }).room s m _ meth c RX11 cX11_join 3 4 0 0 104 (some .boolean) := ⟨B.exec, B.bytes, hml, findClass_of_methodNamed B.named, fun w hw => atoms_spec (ws := Cond.code yX11_join cX11_join 3 (some .boolean) :: lw_g) B.pre w (List.mem_cons_of_mem _ hw), ⟨Nat.le_refl _, Nat.le_refl _, Nat.le_refl _, Nat.le_refl _⟩, B.returns, B.notSynchronized⟩
  have hl := lv_entry ([.ref v0, .int v1, .int v2]) (n := 3) (Nat.le_of_ble_eq_true rfl)
  rw [lg_entry_eq]
  generalize (lg_sl ([.ref v0, .int v1, .int v2]) ++ List.replicate (3 - (lg_sl ([.ref v0, .int v1, .int v2])).length) Slot.unset).toArray = ls at hl ⊢
  have hl : lv_has ls 3 [(0, .ref v0), (1, .int v1), (2, .int v2)] := hl
  have hJ : cJ D S s.heap S s.heap [] := cJ.rf hW
  unfold fk_11_join at h
  refine lv_iload_n C.1 C.2.1 dX11_join_0 rfl (lv_at hl 1 rfl) ?_
  obtain ⟨r1, h_r1, h⟩ := bd_ok h
  refine c_callS (rest := []) C hl.1 [.int v1] (tk_11_isNode l h_r1) cw11_112 ks_11_isNode rfl ⟨by decide, by decide⟩ ⟨(by decide), (by decide)⟩ rfl (Nat.le_of_ble_eq_true rfl) dX11_join_1 ?_
  refine W.eq (g2 := F0 m 4 ls [.int r1]) rfl ?_
  refine lv_if_eq (tgt := 28) C.1 C.2.1 dX11_join_4 (by decide) (fun c2 => ?_) (fun c2 => ?_)
  · have h := if_t h c2
    exact wk_11_join_28 C X h hJ (lv_sub hl [] rfl)
  · have h := if_f h c2
    refine lv_iload_n C.1 C.2.1 dX11_join_7 rfl (lv_at hl 2 rfl) ?_
    obtain ⟨r3, h_r3, h⟩ := bd_ok h
    refine c_callS (rest := []) C hl.1 [.int v2] (tk_11_isNode l h_r3) cw11_112 ks_11_isNode rfl ⟨by decide, by decide⟩ ⟨(by decide), (by decide)⟩ rfl (Nat.le_of_ble_eq_true rfl) dX11_join_8 ?_
    refine W.eq (g2 := F0 m 11 ls [.int r3]) rfl ?_
    refine lv_if_eq (tgt := 28) C.1 C.2.1 dX11_join_11 (by decide) (fun c4 => ?_) (fun c4 => ?_)
    · have h := if_t h c4
      exact wk_11_join_28 C X h hJ (lv_sub hl [] rfl)
    · have h := if_f h c4
      refine lv_iload_n C.1 C.2.1 dX11_join_14 rfl (lv_at hl 1 rfl) ?_
      refine lv_iload_n C.1 C.2.1 dX11_join_15 rfl (lv_at hl 2 rfl) ?_
      refine lv_icmp_eq (tgt := 28) C.1 C.2.1 dX11_join_16 (by decide) (fun c5 => ?_) (fun c5 => ?_)
      · have h := if_t h c5
        exact wk_11_join_28 C X h hJ (lv_sub hl [] rfl)
      · have h := if_f h c5
        refine lv_aload_n C.1 C.2.1 dX11_join_19 rfl (lv_at hl 0 rfl) ?_
        obtain ⟨hk, h⟩ := ckk_ok h
        refine gk11_59 C X hJ.1 hk dX11_join_20 ?_
        refine lv_bipush (v := 40) C.1 C.2.1 dX11_join_23 (by decide) ?_
        refine lv_icmp_lt (tgt := 30) C.1 C.2.1 dX11_join_25 (by decide) (fun c6 => ?_) (fun c6 => ?_)
        · have h := if_t h c6
          refine lv_aload_n C.1 C.2.1 dX11_join_30 rfl (lv_at hl 0 rfl) ?_
          obtain ⟨hk, h⟩ := ckk_ok h
          obtain ⟨a7, h_a7, h⟩ := bd_ok h
          refine gk11_25 C X hJ.1 hk h_a7 dX11_join_31 ?_
          refine lv_iload_n C.1 C.2.1 dX11_join_34 rfl (lv_at hl 2 rfl) ?_
          obtain ⟨hk, h⟩ := ckk_ok h
          obtain ⟨hin2, h⟩ := ck_ok h
          refine c_aald C 31 (by decide) X.2.2.2.2.2.1 hJ.1 hk hin2 dX11_join_35 ?_
          refine lt_ok h (fun o8 e_o8 h => ?_)
          refine lv_nmq e_o8 ?_
          refine lv_aload_n C.1 C.2.1 dX11_join_36 rfl (lv_at hl 0 rfl) ?_
          obtain ⟨hk, h⟩ := ckk_ok h
          obtain ⟨a9, h_a9, h⟩ := bd_ok h
          refine gk11_25 C X hJ.1 hk h_a9 dX11_join_37 ?_
          refine lv_iload_n C.1 C.2.1 dX11_join_40 rfl (lv_at hl 1 rfl) ?_
          obtain ⟨hk, h⟩ := ckk_ok h
          obtain ⟨hin2, h⟩ := ck_ok h
          refine c_aald C 31 (by decide) X.2.2.2.2.2.1 hJ.1 hk hin2 dX11_join_41 ?_
          refine lt_ok h (fun o10 e_o10 h => ?_)
          refine lv_nmq e_o10 ?_
          obtain ⟨a11, e_a11, h⟩ := bd_ok h
          revert h; subst e_a11; intro h
          obtain ⟨a12, e_a12, h⟩ := bd_ok h
          revert h; subst e_a12; intro h
          obtain ⟨hk, h⟩ := ckk_ok h
          obtain ⟨r13, h_r13, h⟩ := bd_ok h
          refine c_callR (rest := []) C X hJ.1 hl.1 7 (by decide) hk [.ref a11] (tk_7_hasAllOf l h_r13) cw11_287 ki_7_hasAllOf kl_7_hasAllOf rfl ⟨by decide, by decide⟩ ⟨(by decide), (by decide)⟩ rfl (Nat.le_of_ble_eq_true rfl) dX11_join_42 ?_
          refine W.eq (g2 := F0 m 45 ls [.int r13]) rfl ?_
          refine lv_if_ne (tgt := 50) C.1 C.2.1 dX11_join_45 (by decide) (fun c14 => ?_) (fun c14 => ?_)
          · have h := if_f h c14
            refine lv_aload_n C.1 C.2.1 dX11_join_50 rfl (lv_at hl 0 rfl) ?_
            obtain ⟨hk, h⟩ := ckk_ok h
            obtain ⟨a15, h_a15, h⟩ := bd_ok h
            refine gk11_25 C X hJ.1 hk h_a15 dX11_join_51 ?_
            refine lv_iload_n C.1 C.2.1 dX11_join_54 rfl (lv_at hl 1 rfl) ?_
            obtain ⟨hk, h⟩ := ckk_ok h
            obtain ⟨hin2, h⟩ := ck_ok h
            refine c_aald C 31 (by decide) X.2.2.2.2.2.1 hJ.1 hk hin2 dX11_join_55 ?_
            refine lt_ok h (fun o16 e_o16 h => ?_)
            refine lv_nmq e_o16 ?_
            refine lv_aload_n C.1 C.2.1 dX11_join_56 rfl (lv_at hl 0 rfl) ?_
            obtain ⟨hk, h⟩ := ckk_ok h
            obtain ⟨a17, h_a17, h⟩ := bd_ok h
            refine gk11_25 C X hJ.1 hk h_a17 dX11_join_57 ?_
            refine lv_iload_n C.1 C.2.1 dX11_join_60 rfl (lv_at hl 2 rfl) ?_
            obtain ⟨hk, h⟩ := ckk_ok h
            obtain ⟨hin2, h⟩ := ck_ok h
            refine c_aald C 31 (by decide) X.2.2.2.2.2.1 hJ.1 hk hin2 dX11_join_61 ?_
            refine lt_ok h (fun o18 e_o18 h => ?_)
            refine lv_nmq e_o18 ?_
            obtain ⟨a19, e_a19, h⟩ := bd_ok h
            revert h; subst e_a19; intro h
            obtain ⟨a20, e_a20, h⟩ := bd_ok h
            revert h; subst e_a20; intro h
            obtain ⟨hk, h⟩ := ckk_ok h
            obtain ⟨S21, h_S21, h⟩ := bd_ok h
            refine c_callW (rest := []) C X hJ hl.1 7 (by decide) hk [.ref a19] (tk_7_joinTo l h_S21) cw11_291 ki_7_joinTo kl_7_joinTo rfl ⟨by decide, by decide⟩ ⟨(by decide), (by decide)⟩ rfl (Nat.le_of_ble_eq_true rfl) dX11_join_62 (fun H locs hJ => ?_)
            refine W.eq (g2 := F0 m 65 ls []) rfl ?_
            refine lv_aload_n C.1 C.2.1 dX11_join_65 rfl (lv_at hl 0 rfl) ?_
            refine lv_dup C.1 C.2.1 dX11_join_66 rfl ?_
            obtain ⟨hk, h⟩ := ckk_ok h
            refine gk11_59 C X hJ.1 hk dX11_join_67 ?_
            refine lv_iconst (v := 1) C.1 C.2.1 dX11_join_70 (by decide) ?_
            refine lv_iadd C.1 C.2.1 dX11_join_71 ?_
            obtain ⟨hk, h⟩ := ckk_ok h
            refine pk11_59 C X hJ hk dX11_join_72 (fun H locs hJ => ?_)
            refine lt_ok h (fun S22 e_S22 h => ?_)
            rw [e_S22] at hJ
            refine lv_iconst (v := 1) C.1 C.2.1 dX11_join_75 (by decide) ?_
            obtain ⟨hzo, h⟩ := ckz_ok h
            cases h
            exact c_retnW C (by rcases hzo with h9 | h9 <;> (rw [h9]; rfl)) hJ dX11_join_76
          · have h := if_t h c14
            refine lv_iconst (v := 0) C.1 C.2.1 dX11_join_48 (by decide) ?_
            obtain ⟨hzo, h⟩ := ckz_ok h
            cases h
            exact c_retnW C (by rcases hzo with h9 | h9 <;> (rw [h9]; rfl)) hJ dX11_join_49
        · have h := if_f h c6
          exact wk_11_join_28 C X h hJ (lv_sub hl [] rfl)
end
theorem dX11_parentOf_0 : decode cX11_parentOf 0 = .ok (.aload_n 1, 1) := by decide +kernel
theorem dX11_parentOf_1 : decode cX11_parentOf 1 = .ok (.getfield 147, 3) := by decide +kernel
theorem dX11_parentOf_4 : decode cX11_parentOf 4 = .ok (.aload_n 0, 1) := by decide +kernel
theorem dX11_parentOf_5 : decode cX11_parentOf 5 = .ok (.getfield 56, 3) := by decide +kernel
theorem dX11_parentOf_8 : decode cX11_parentOf 8 = .ok (.invokevirtual 516, 3) := by decide +kernel
theorem dX11_parentOf_11 : decode cX11_parentOf 11 = .ok (.aload_n 0, 1) := by decide +kernel
theorem dX11_parentOf_12 : decode cX11_parentOf 12 = .ok (.getfield 56, 3) := by decide +kernel
theorem dX11_parentOf_15 : decode cX11_parentOf 15 = .ok (.iload_n 2, 1) := by decide +kernel
theorem dX11_parentOf_16 : decode cX11_parentOf 16 = .ok (.iaload, 1) := by decide +kernel
theorem dX11_parentOf_17 : decode cX11_parentOf 17 = .ok (.istore_n 3, 1) := by decide +kernel
theorem dX11_parentOf_18 : decode cX11_parentOf 18 = .ok (.iload_n 3, 1) := by decide +kernel
theorem dX11_parentOf_19 : decode cX11_parentOf 19 = .ok (.ifCond .ne 7, 3) := by decide +kernel
theorem dX11_parentOf_22 : decode cX11_parentOf 22 = .ok (.iconst (-1), 1) := by decide +kernel
theorem dX11_parentOf_23 : decode cX11_parentOf 23 = .ok (.goto 13, 3) := by decide +kernel
theorem dX11_parentOf_26 : decode cX11_parentOf 26 = .ok (.aload_n 0, 1) := by decide +kernel
theorem dX11_parentOf_27 : decode cX11_parentOf 27 = .ok (.getfield 19, 3) := by decide +kernel
theorem dX11_parentOf_30 : decode cX11_parentOf 30 = .ok (.iload_n 3, 1) := by decide +kernel
theorem dX11_parentOf_31 : decode cX11_parentOf 31 = .ok (.iconst 1, 1) := by decide +kernel
theorem dX11_parentOf_32 : decode cX11_parentOf 32 = .ok (.isub, 1) := by decide +kernel
theorem dX11_parentOf_33 : decode cX11_parentOf 33 = .ok (.invokevirtual 201, 3) := by decide +kernel
theorem dX11_parentOf_36 : decode cX11_parentOf 36 = .ok (.ireturn, 1) := by decide +kernel
theorem kd_11_parentOf : Cond.code yX11_parentOf cX11_parentOf 4 (some .int) ∈ lw_g := mt_at 1452 (by decide +kernel) rfl
theorem ki_11_parentOf : Cond.instanceMethod yX11_parentOf ∈ lw_g := mt_at 1451 (by decide +kernel) rfl
theorem kl_11_parentOf : Cond.selects (kRn 11) yX11_parentOf yX11_parentOf ∈ lw_g := mt_sel 37 (by decide +kernel) rfl
theorem cw11_516 : cCw RX11 516 yX10_findParents cX10_findParents 4 none 1 := ⟨kd_10_findParents, mt_at 1453 (by decide +kernel) rfl, mt_at 10 (by decide +kernel) rfl, by decide +kernel⟩
section
variable {p : Program} {l : Launch} {e : Env} {R : Room} {s : State} {m : MethodId} {args : Array Value} {below : List Frame} {meth : Method} {c : Code} {H : Heap} {locs : List Loc} {cells slots : Nat} {Q : State → Prop}
variable {D : cG} {S S0 : cSt} {cc : ByteArray} {nL : Nat} {pc : Nat} {ls : Array Slot} {rest : List Value} {H0 : Heap} {nF nR nC nS : Nat} {ret : Option FieldType} {a : Nat}
theorem gk11_56 (C : cY p R s m args meth c RX11 cc nL nF nC nS nR ret) (X : cX D s) (hW : cW D S H) (hk : kK S a = 12) {x : Nat} (hx : kR S a 8 = some x) (hdg : decode cc pc = .ok (.getfield 56, 3)) (kk : W p l e R s m args below meth c H locs cells slots Q (F0 m (pc + 3) ls (.ref x :: rest))) : W p l e R s m args below meth c H locs cells slots Q (F0 m pc ls (.ref a :: rest)) := c_get C X hW 11 (by decide) ly_11 hk 8 (by decide) (mt_at 379 (by decide +kernel) (by decide +kernel)) hdg (by rw [cV_R (by decide +kernel) hx]; exact kk)
end
section
variable {p : Program} {l : Launch} {e : Env} {R : Room} {s : State} {m : MethodId} {args : Array Value} {below : List Frame} {meth : Method} {c : Code} {D : cG} {S0 S9 : cSt} {r : Int32}
noncomputable def fk_11_parentOf_36 (S : cSt) (s0 : Int32) : Option (Int32 × cSt) :=
some (s0, S)
set_option maxRecDepth 100000 in
set_option maxHeartbeats 4000000 in
theorem wk_11_parentOf_36 (C : cY p R s m args meth c RX11 cX11_parentOf 4 3 0 0 67 (some .int)) (X : cX D s) : ∀ {S : cSt} {s0 : Int32} {H : Heap} {locs : List Loc} {ls : Array Slot}, fk_11_parentOf_36 S s0 = some (r, S9) → cJ D S0 s.heap S H locs → lv_has ls 4 [] → W p l e R s m args below meth c H locs 0 0 (MQ below (kW (some (.int r)) D S0 S9) args s 0 0 (cA S0)) (F0 m 36 ls [.int s0]) := by
  intro S s0 H locs ls h hJ hl
  unfold fk_11_parentOf_36 at h
  cases h
  exact c_retiW C hJ dX11_parentOf_36
noncomputable def fk_11_parentOf (S : cSt) (v0 : Nat) (v1 : Nat) (v2 : Int32) : Option (Int32 × cSt) :=
ckk S v1 8 (bd (kR S v1 2) fun a1 =>
ckk S v0 12 (bd (kR S v0 8) fun a2 =>
ckk S a1 11 (bd (fk_10_findParents S a1 a2) fun S3 =>
ckk S3 v0 12 (bd (kR S3 v0 8) fun a4 =>
ckk S3 a4 20 (ck v2 (kL S3 a4) (
lt (kI S3 a4 (Int32.toNatClampNeg v2)) fun x5 =>
if x5 = 0 then (
fk_11_parentOf_36 S3 (-1 : Int32))
else (
ckk S3 v0 12 (bd (kR S3 v0 1) fun a7 =>
ckk S3 a7 1 (bd (fk_0_nameOf S3 a7 (x5 - (1 : Int32))) fun r8 =>
fk_11_parentOf_36 S3 r8)))))))))
set_option maxRecDepth 100000 in
set_option maxHeartbeats 4000000 in
theorem tk_11_parentOf (l : Launch) {D : cG} {S : cSt} {v0 : Nat} {v1 : Nat} {v2 : Int32} {r : Int32} {S9 : cSt} (h : fk_11_parentOf S v0 v1 v2 = some (r, S9)) : Met l yX11_parentOf (Cond.code yX11_parentOf cX11_parentOf 4 (some .int) :: lw_g) { frames := 3, cells := 0, slots := 0, locals := 67 } (kPi [.ref v0, .ref v1, .int v2] D S) (kW (some (.int r)) D S S9) 0 0 (cA S) := by
  refine Met.ofW (cc := cX11_parentOf) (maxL := 4) (ret := (some .int)) (by decide) rfl ?_
  intro p e s m args below meth c s₁ B hml hv
  obtain ⟨rfl, hW, X⟩ := hv
  have C : cY p (headSpec (Cond.code yX11_parentOf cX11_parentOf 4 (some .int) :: lw_g) { frames := 3, cells := 0, slots := 0, locals := 67 }).room s m _ meth c RX11 cX11_parentOf 4 3 0 0 67 (some .int) := ⟨B.exec, B.bytes, hml, findClass_of_methodNamed B.named, fun w hw => atoms_spec (ws := Cond.code yX11_parentOf cX11_parentOf 4 (some .int) :: lw_g) B.pre w (List.mem_cons_of_mem _ hw), ⟨Nat.le_refl _, Nat.le_refl _, Nat.le_refl _, Nat.le_refl _⟩, B.returns, B.notSynchronized⟩
  have hl := lv_entry ([.ref v0, .ref v1, .int v2]) (n := 4) (Nat.le_of_ble_eq_true rfl)
  rw [lg_entry_eq]
  generalize (lg_sl ([.ref v0, .ref v1, .int v2]) ++ List.replicate (4 - (lg_sl ([.ref v0, .ref v1, .int v2])).length) Slot.unset).toArray = ls at hl ⊢
  have hl : lv_has ls 4 [(0, .ref v0), (1, .ref v1), (2, .int v2)] := hl
  have hJ : cJ D S s.heap S s.heap [] := cJ.rf hW
  unfold fk_11_parentOf at h
  refine lv_aload_n C.1 C.2.1 dX11_parentOf_0 rfl (lv_at hl 1 rfl) ?_
  obtain ⟨hk, h⟩ := ckk_ok h
  obtain ⟨a1, h_a1, h⟩ := bd_ok h
  refine gk11_147 C X hJ.1 hk h_a1 dX11_parentOf_1 ?_
  refine lv_aload_n C.1 C.2.1 dX11_parentOf_4 rfl (lv_at hl 0 rfl) ?_
  obtain ⟨hk, h⟩ := ckk_ok h
  obtain ⟨a2, h_a2, h⟩ := bd_ok h
  refine gk11_56 C X hJ.1 hk h_a2 dX11_parentOf_5 ?_
  obtain ⟨hk, h⟩ := ckk_ok h
  obtain ⟨S3, h_S3, h⟩ := bd_ok h
  refine c_callW (rest := []) C X hJ hl.1 10 (by decide) hk [.ref a2] (tk_10_findParents l h_S3) cw11_516 ki_10_findParents kl_10_findParents rfl ⟨by decide, by decide⟩ ⟨(by decide), (by decide)⟩ rfl (Nat.le_of_ble_eq_true rfl) dX11_parentOf_8 (fun H locs hJ => ?_)
  refine W.eq (g2 := F0 m 11 ls []) rfl ?_
  refine lv_aload_n C.1 C.2.1 dX11_parentOf_11 rfl (lv_at hl 0 rfl) ?_
  obtain ⟨hk, h⟩ := ckk_ok h
  obtain ⟨a4, h_a4, h⟩ := bd_ok h
  refine gk11_56 C X hJ.1 hk h_a4 dX11_parentOf_12 ?_
  refine lv_iload_n C.1 C.2.1 dX11_parentOf_15 rfl (lv_at hl 2 rfl) ?_
  obtain ⟨hk, h⟩ := ckk_ok h
  obtain ⟨hin2, h⟩ := ck_ok h
  refine c_iald C X hJ.1 hk hin2 dX11_parentOf_16 ?_
  refine lt_ok h (fun x5 e_x5 h => ?_)
  refine lv_nm e_x5 ?_
  refine lv_istore_n (lv' := [(3, .int x5), (0, .ref v0), (1, .ref v1), (2, .int v2)]) C.1 C.2.1 dX11_parentOf_17 rfl hl (by decide) rfl (fun ls hl => ?_)
  refine lv_iload_n C.1 C.2.1 dX11_parentOf_18 rfl (lv_at hl 0 rfl) ?_
  refine lv_if_ne (tgt := 26) C.1 C.2.1 dX11_parentOf_19 (by decide) (fun c6 => ?_) (fun c6 => ?_)
  · have h := if_f h c6
    refine lv_aload_n C.1 C.2.1 dX11_parentOf_26 rfl (lv_at hl 1 rfl) ?_
    obtain ⟨hk, h⟩ := ckk_ok h
    obtain ⟨a7, h_a7, h⟩ := bd_ok h
    refine gk11_19 C X hJ.1 hk h_a7 dX11_parentOf_27 ?_
    refine lv_iload_n C.1 C.2.1 dX11_parentOf_30 rfl (lv_at hl 0 rfl) ?_
    refine lv_iconst (v := 1) C.1 C.2.1 dX11_parentOf_31 (by decide) ?_
    refine lv_isub C.1 C.2.1 dX11_parentOf_32 ?_
    obtain ⟨hk, h⟩ := ckk_ok h
    obtain ⟨r8, h_r8, h⟩ := bd_ok h
    refine c_callR (rest := []) C X hJ.1 hl.1 0 (by decide) hk [.int (x5 - (1 : Int32))] (tk_0_nameOf l h_r8) cw11_201 ki_0_nameOf kl_0_nameOf rfl ⟨by decide, by decide⟩ ⟨(by decide), (by decide)⟩ rfl (Nat.le_of_ble_eq_true rfl) dX11_parentOf_33 ?_
    refine W.eq (g2 := F0 m 36 ls [.int r8]) rfl ?_
    exact wk_11_parentOf_36 C X h hJ (lv_sub hl [] rfl)
  · have h := if_t h c6
    refine lv_iconst (v := -1) C.1 C.2.1 dX11_parentOf_22 (by decide) ?_
    refine lv_goto (tgt := 36) C.1 C.2.1 dX11_parentOf_23 (by decide) ?_
    exact wk_11_parentOf_36 C X h hJ (lv_sub hl [] rfl)
end
theorem dX11_childrenOf_0 : decode cX11_childrenOf 0 = .ok (.aload_n 1, 1) := by decide +kernel
theorem dX11_childrenOf_1 : decode cX11_childrenOf 1 = .ok (.getfield 147, 3) := by decide +kernel
theorem dX11_childrenOf_4 : decode cX11_childrenOf 4 = .ok (.aload_n 0, 1) := by decide +kernel
theorem dX11_childrenOf_5 : decode cX11_childrenOf 5 = .ok (.getfield 56, 3) := by decide +kernel
theorem dX11_childrenOf_8 : decode cX11_childrenOf 8 = .ok (.invokevirtual 516, 3) := by decide +kernel
theorem dX11_childrenOf_11 : decode cX11_childrenOf 11 = .ok (.iconst 0, 1) := by decide +kernel
theorem dX11_childrenOf_12 : decode cX11_childrenOf 12 = .ok (.istore_n 3, 1) := by decide +kernel
theorem dX11_childrenOf_13 : decode cX11_childrenOf 13 = .ok (.iconst 0, 1) := by decide +kernel
theorem dX11_childrenOf_14 : decode cX11_childrenOf 14 = .ok (.istore 4, 2) := by decide +kernel
theorem dX11_childrenOf_16 : decode cX11_childrenOf 16 = .ok (.iload 4, 2) := by decide +kernel
theorem dX11_childrenOf_18 : decode cX11_childrenOf 18 = .ok (.bipush 48, 2) := by decide +kernel
theorem dX11_childrenOf_20 : decode cX11_childrenOf 20 = .ok (.if_icmp .ge 37, 3) := by decide +kernel
theorem dX11_childrenOf_23 : decode cX11_childrenOf 23 = .ok (.aload_n 0, 1) := by decide +kernel
theorem dX11_childrenOf_24 : decode cX11_childrenOf 24 = .ok (.getfield 56, 3) := by decide +kernel
theorem dX11_childrenOf_27 : decode cX11_childrenOf 27 = .ok (.iload 4, 2) := by decide +kernel
theorem dX11_childrenOf_29 : decode cX11_childrenOf 29 = .ok (.iaload, 1) := by decide +kernel
theorem dX11_childrenOf_30 : decode cX11_childrenOf 30 = .ok (.iload_n 2, 1) := by decide +kernel
theorem dX11_childrenOf_31 : decode cX11_childrenOf 31 = .ok (.iconst 1, 1) := by decide +kernel
theorem dX11_childrenOf_32 : decode cX11_childrenOf 32 = .ok (.iadd, 1) := by decide +kernel
theorem dX11_childrenOf_33 : decode cX11_childrenOf 33 = .ok (.if_icmp .ne 18, 3) := by decide +kernel
theorem dX11_childrenOf_36 : decode cX11_childrenOf 36 = .ok (.aload_n 1, 1) := by decide +kernel
theorem dX11_childrenOf_37 : decode cX11_childrenOf 37 = .ok (.getfield 147, 3) := by decide +kernel
theorem dX11_childrenOf_40 : decode cX11_childrenOf 40 = .ok (.iload 4, 2) := by decide +kernel
theorem dX11_childrenOf_42 : decode cX11_childrenOf 42 = .ok (.invokevirtual 298, 3) := by decide +kernel
theorem dX11_childrenOf_45 : decode cX11_childrenOf 45 = .ok (.ifCond .eq 6, 3) := by decide +kernel
theorem dX11_childrenOf_48 : decode cX11_childrenOf 48 = .ok (.iinc 3 1, 3) := by decide +kernel
theorem dX11_childrenOf_51 : decode cX11_childrenOf 51 = .ok (.iinc 4 1, 3) := by decide +kernel
theorem dX11_childrenOf_54 : decode cX11_childrenOf 54 = .ok (.goto (-38), 3) := by decide +kernel
theorem dX11_childrenOf_57 : decode cX11_childrenOf 57 = .ok (.iload_n 3, 1) := by decide +kernel
theorem dX11_childrenOf_58 : decode cX11_childrenOf 58 = .ok (.ireturn, 1) := by decide +kernel
theorem kd_11_childrenOf : Cond.code yX11_childrenOf cX11_childrenOf 5 (some .int) ∈ lw_g := mt_at 1457 (by decide +kernel) rfl
theorem ki_11_childrenOf : Cond.instanceMethod yX11_childrenOf ∈ lw_g := mt_at 1456 (by decide +kernel) rfl
theorem kl_11_childrenOf : Cond.selects (kRn 11) yX11_childrenOf yX11_childrenOf ∈ lw_g := mt_sel 38 (by decide +kernel) rfl
section
variable {p : Program} {l : Launch} {e : Env} {R : Room} {s : State} {m : MethodId} {args : Array Value} {below : List Frame} {meth : Method} {c : Code} {D : cG} {S0 S9 : cSt} {r : Int32}
noncomputable def fk_11_childrenOf_51 (g_16 : cSt → Nat → Nat → Int32 → Int32 → Int32 → Option (Int32 × cSt)) (S : cSt) (v0 : Nat) (v1 : Nat) (v2 : Int32) (v3 : Int32) (v4 : Int32) : Option (Int32 × cSt) :=
lt (v4 + (1 : Int32)) fun x1 =>
g_16 S v0 v1 v2 v3 x1
set_option maxRecDepth 100000 in
set_option maxHeartbeats 4000000 in
theorem wk_11_childrenOf_51 (C : cY p R s m args meth c RX11 cX11_childrenOf 5 3 0 0 67 (some .int)) (X : cX D s) {g_16 : cSt → Nat → Nat → Int32 → Int32 → Int32 → Option (Int32 × cSt)} (hg_16 : ∀ {S : cSt} {v0 : Nat} {v1 : Nat} {v2 : Int32} {v3 : Int32} {v4 : Int32} {H : Heap} {locs : List Loc} {ls : Array Slot}, g_16 S v0 v1 v2 v3 v4 = some (r, S9) → cJ D S0 s.heap S H locs → lv_has ls 5 [(0, .ref v0), (1, .ref v1), (2, .int v2), (3, .int v3), (4, .int v4)] → W p l e R s m args below meth c H locs 0 0 (MQ below (kW (some (.int r)) D S0 S9) args s 0 0 (cA S0)) (F0 m 16 ls [])) : ∀ {S : cSt} {v0 : Nat} {v1 : Nat} {v2 : Int32} {v3 : Int32} {v4 : Int32} {H : Heap} {locs : List Loc} {ls : Array Slot}, fk_11_childrenOf_51 g_16 S v0 v1 v2 v3 v4 = some (r, S9) → cJ D S0 s.heap S H locs → lv_has ls 5 [(0, .ref v0), (1, .ref v1), (2, .int v2), (3, .int v3), (4, .int v4)] → W p l e R s m args below meth c H locs 0 0 (MQ below (kW (some (.int r)) D S0 S9) args s 0 0 (cA S0)) (F0 m 51 ls []) := by
  intro S v0 v1 v2 v3 v4 H locs ls h hJ hl
  unfold fk_11_childrenOf_51 at h
  refine lt_ok h (fun x1 e_x1 h => ?_)
  refine lv_iinc (v := x1) (lv' := [(4, .int x1), (0, .ref v0), (1, .ref v1), (2, .int v2), (3, .int v3)]) C.1 C.2.1 dX11_childrenOf_51 hl (k := 4) rfl (by rw [← e_x1]; rfl) (by decide) rfl (fun ls hl => ?_)
  refine lv_goto (tgt := 16) C.1 C.2.1 dX11_childrenOf_54 (by decide) ?_
  exact hg_16 h hJ (lv_sub hl [1, 2, 3, 4, 0] rfl)
noncomputable def fk_11_childrenOf_16 : Nat → cSt → Nat → Nat → Int32 → Int32 → Int32 → Option (Int32 × cSt)
  | 0, _, _, _, _, _, _ => none
  | n + 1, S, v0, v1, v2, v3, v4 =>
    if (48 : Int32) ≤ v4 then (
    some (v3, S))
    else (
    ckk S v0 12 (bd (kR S v0 8) fun a2 =>
    ckk S a2 20 (ck v4 (kL S a2) (
    if (kI S a2 (Int32.toNatClampNeg v4)) = (v2 + (1 : Int32)) then (
    ckk S v1 8 (bd (kR S v1 2) fun a4 =>
    ckk S a4 11 (bd (fk_10_isThere S a4 v4) fun r5 =>
    if r5 = 0 then (
    fk_11_childrenOf_51 (fk_11_childrenOf_16 n) S v0 v1 v2 v3 v4)
    else (
    lt (v3 + (1 : Int32)) fun x7 =>
    fk_11_childrenOf_51 (fk_11_childrenOf_16 n) S v0 v1 v2 x7 v4))))
    else (
    fk_11_childrenOf_51 (fk_11_childrenOf_16 n) S v0 v1 v2 v3 v4)))))
set_option maxRecDepth 100000 in
set_option maxHeartbeats 4000000 in
theorem wk_11_childrenOf_16 (C : cY p R s m args meth c RX11 cX11_childrenOf 5 3 0 0 67 (some .int)) (X : cX D s) : ∀ (n : Nat), ∀ {S : cSt} {v0 : Nat} {v1 : Nat} {v2 : Int32} {v3 : Int32} {v4 : Int32} {H : Heap} {locs : List Loc} {ls : Array Slot}, fk_11_childrenOf_16 n S v0 v1 v2 v3 v4 = some (r, S9) → cJ D S0 s.heap S H locs → lv_has ls 5 [(0, .ref v0), (1, .ref v1), (2, .int v2), (3, .int v3), (4, .int v4)] → W p l e R s m args below meth c H locs 0 0 (MQ below (kW (some (.int r)) D S0 S9) args s 0 0 (cA S0)) (F0 m 16 ls []) := by
  intro n
  induction n with
  | zero =>
    intro S v0 v1 v2 v3 v4 H locs ls h hJ hl
    exact absurd (show (none : Option (Int32 × cSt)) = _ from h) (fun q => by cases q)
  | succ n ih =>
    intro S v0 v1 v2 v3 v4 H locs ls h hJ hl
    rw [fk_11_childrenOf_16] at h
    refine lv_iload C.1 C.2.1 dX11_childrenOf_16 (lv_at hl 4 rfl) ?_
    refine lv_bipush (v := 48) C.1 C.2.1 dX11_childrenOf_18 (by decide) ?_
    refine lv_icmp_ge (tgt := 57) C.1 C.2.1 dX11_childrenOf_20 (by decide) (fun c1 => ?_) (fun c1 => ?_)
    · have h := if_t h c1
      refine lv_iload_n C.1 C.2.1 dX11_childrenOf_57 rfl (lv_at hl 3 rfl) ?_
      cases h
      exact c_retiW C hJ dX11_childrenOf_58
    · have h := if_f h c1
      refine lv_aload_n C.1 C.2.1 dX11_childrenOf_23 rfl (lv_at hl 0 rfl) ?_
      obtain ⟨hk, h⟩ := ckk_ok h
      obtain ⟨a2, h_a2, h⟩ := bd_ok h
      refine gk11_56 C X hJ.1 hk h_a2 dX11_childrenOf_24 ?_
      refine lv_iload C.1 C.2.1 dX11_childrenOf_27 (lv_at hl 4 rfl) ?_
      obtain ⟨hk, h⟩ := ckk_ok h
      obtain ⟨hin2, h⟩ := ck_ok h
      refine c_iald C X hJ.1 hk hin2 dX11_childrenOf_29 ?_
      refine lv_iload_n C.1 C.2.1 dX11_childrenOf_30 rfl (lv_at hl 2 rfl) ?_
      refine lv_iconst (v := 1) C.1 C.2.1 dX11_childrenOf_31 (by decide) ?_
      refine lv_iadd C.1 C.2.1 dX11_childrenOf_32 ?_
      refine lv_icmp_ne (tgt := 51) C.1 C.2.1 dX11_childrenOf_33 (by decide) (fun c3 => ?_) (fun c3 => ?_)
      · have h := if_f h c3
        exact wk_11_childrenOf_51 C X ih h hJ (lv_sub hl [0, 1, 2, 3, 4] rfl)
      · have h := if_t h c3
        refine lv_aload_n C.1 C.2.1 dX11_childrenOf_36 rfl (lv_at hl 1 rfl) ?_
        obtain ⟨hk, h⟩ := ckk_ok h
        obtain ⟨a4, h_a4, h⟩ := bd_ok h
        refine gk11_147 C X hJ.1 hk h_a4 dX11_childrenOf_37 ?_
        refine lv_iload C.1 C.2.1 dX11_childrenOf_40 (lv_at hl 4 rfl) ?_
        obtain ⟨hk, h⟩ := ckk_ok h
        obtain ⟨r5, h_r5, h⟩ := bd_ok h
        refine c_callR (rest := []) C X hJ.1 hl.1 10 (by decide) hk [.int v4] (tk_10_isThere l h_r5) cw11_298 ki_10_isThere kl_10_isThere rfl ⟨by decide, by decide⟩ ⟨(by decide), (by decide)⟩ rfl (Nat.le_of_ble_eq_true rfl) dX11_childrenOf_42 ?_
        refine W.eq (g2 := F0 m 45 ls [.int r5]) rfl ?_
        refine lv_if_eq (tgt := 51) C.1 C.2.1 dX11_childrenOf_45 (by decide) (fun c6 => ?_) (fun c6 => ?_)
        · have h := if_t h c6
          exact wk_11_childrenOf_51 C X ih h hJ (lv_sub hl [0, 1, 2, 3, 4] rfl)
        · have h := if_f h c6
          refine lt_ok h (fun x7 e_x7 h => ?_)
          refine lv_iinc (v := x7) (lv' := [(3, .int x7), (0, .ref v0), (1, .ref v1), (2, .int v2), (4, .int v4)]) C.1 C.2.1 dX11_childrenOf_48 hl (k := 3) rfl (by rw [← e_x7]; rfl) (by decide) rfl (fun ls hl => ?_)
          exact wk_11_childrenOf_51 C X ih h hJ (lv_sub hl [1, 2, 3, 0, 4] rfl)
noncomputable def fk_11_childrenOf (S : cSt) (v0 : Nat) (v1 : Nat) (v2 : Int32) : Option (Int32 × cSt) :=
ckk S v1 8 (bd (kR S v1 2) fun a1 =>
ckk S v0 12 (bd (kR S v0 8) fun a2 =>
ckk S a1 11 (bd (fk_10_findParents S a1 a2) fun S3 =>
fk_11_childrenOf_16 mFU S3 v0 v1 v2 (0 : Int32) (0 : Int32))))
set_option maxRecDepth 100000 in
set_option maxHeartbeats 4000000 in
theorem tk_11_childrenOf (l : Launch) {D : cG} {S : cSt} {v0 : Nat} {v1 : Nat} {v2 : Int32} {r : Int32} {S9 : cSt} (h : fk_11_childrenOf S v0 v1 v2 = some (r, S9)) : Met l yX11_childrenOf (Cond.code yX11_childrenOf cX11_childrenOf 5 (some .int) :: lw_g) { frames := 3, cells := 0, slots := 0, locals := 67 } (kPi [.ref v0, .ref v1, .int v2] D S) (kW (some (.int r)) D S S9) 0 0 (cA S) := by
  refine Met.ofW (cc := cX11_childrenOf) (maxL := 5) (ret := (some .int)) (by decide) rfl ?_
  intro p e s m args below meth c s₁ B hml hv
  obtain ⟨rfl, hW, X⟩ := hv
  have C : cY p (headSpec (Cond.code yX11_childrenOf cX11_childrenOf 5 (some .int) :: lw_g) { frames := 3, cells := 0, slots := 0, locals := 67 }).room s m _ meth c RX11 cX11_childrenOf 5 3 0 0 67 (some .int) := ⟨B.exec, B.bytes, hml, findClass_of_methodNamed B.named, fun w hw => atoms_spec (ws := Cond.code yX11_childrenOf cX11_childrenOf 5 (some .int) :: lw_g) B.pre w (List.mem_cons_of_mem _ hw), ⟨Nat.le_refl _, Nat.le_refl _, Nat.le_refl _, Nat.le_refl _⟩, B.returns, B.notSynchronized⟩
  have hl := lv_entry ([.ref v0, .ref v1, .int v2]) (n := 5) (Nat.le_of_ble_eq_true rfl)
  rw [lg_entry_eq]
  generalize (lg_sl ([.ref v0, .ref v1, .int v2]) ++ List.replicate (5 - (lg_sl ([.ref v0, .ref v1, .int v2])).length) Slot.unset).toArray = ls at hl ⊢
  have hl : lv_has ls 5 [(0, .ref v0), (1, .ref v1), (2, .int v2)] := hl
  have hJ : cJ D S s.heap S s.heap [] := cJ.rf hW
  unfold fk_11_childrenOf at h
  refine lv_aload_n C.1 C.2.1 dX11_childrenOf_0 rfl (lv_at hl 1 rfl) ?_
  obtain ⟨hk, h⟩ := ckk_ok h
  obtain ⟨a1, h_a1, h⟩ := bd_ok h
  refine gk11_147 C X hJ.1 hk h_a1 dX11_childrenOf_1 ?_
  refine lv_aload_n C.1 C.2.1 dX11_childrenOf_4 rfl (lv_at hl 0 rfl) ?_
  obtain ⟨hk, h⟩ := ckk_ok h
  obtain ⟨a2, h_a2, h⟩ := bd_ok h
  refine gk11_56 C X hJ.1 hk h_a2 dX11_childrenOf_5 ?_
  obtain ⟨hk, h⟩ := ckk_ok h
  obtain ⟨S3, h_S3, h⟩ := bd_ok h
  refine c_callW (rest := []) C X hJ hl.1 10 (by decide) hk [.ref a2] (tk_10_findParents l h_S3) cw11_516 ki_10_findParents kl_10_findParents rfl ⟨by decide, by decide⟩ ⟨(by decide), (by decide)⟩ rfl (Nat.le_of_ble_eq_true rfl) dX11_childrenOf_8 (fun H locs hJ => ?_)
  refine W.eq (g2 := F0 m 11 ls []) rfl ?_
  refine lv_iconst (v := 0) C.1 C.2.1 dX11_childrenOf_11 (by decide) ?_
  refine lv_istore_n (lv' := [(3, .int (0 : Int32)), (0, .ref v0), (1, .ref v1), (2, .int v2)]) C.1 C.2.1 dX11_childrenOf_12 rfl hl (by decide) rfl (fun ls hl => ?_)
  refine lv_iconst (v := 0) C.1 C.2.1 dX11_childrenOf_13 (by decide) ?_
  refine lv_istore (lv' := [(4, .int (0 : Int32)), (3, .int (0 : Int32)), (0, .ref v0), (1, .ref v1), (2, .int v2)]) C.1 C.2.1 dX11_childrenOf_14 hl (by decide) rfl (fun ls hl => ?_)
  exact wk_11_childrenOf_16 C X mFU h hJ (lv_sub hl [2, 3, 4, 1, 0] rfl)
end
theorem dX11_object_0 : decode cX11_object 0 = .ok (.aload_n 0, 1) := by decide +kernel
theorem dX11_object_1 : decode cX11_object 1 = .ok (.iload_n 1, 1) := by decide +kernel
theorem dX11_object_2 : decode cX11_object 2 = .ok (.iload_n 2, 1) := by decide +kernel
theorem dX11_object_3 : decode cX11_object 3 = .ok (.invokevirtual 295, 3) := by decide +kernel
theorem dX11_object_6 : decode cX11_object 6 = .ok (.istore 4, 2) := by decide +kernel
theorem dX11_object_8 : decode cX11_object 8 = .ok (.iload 4, 2) := by decide +kernel
theorem dX11_object_10 : decode cX11_object 10 = .ok (.ifCond .ge 5, 3) := by decide +kernel
theorem dX11_object_13 : decode cX11_object 13 = .ok (.iconst (-1), 1) := by decide +kernel
theorem dX11_object_14 : decode cX11_object 14 = .ok (.ireturn, 1) := by decide +kernel
theorem dX11_object_15 : decode cX11_object 15 = .ok (.aload_n 0, 1) := by decide +kernel
theorem dX11_object_16 : decode cX11_object 16 = .ok (.getfield 25, 3) := by decide +kernel
theorem dX11_object_19 : decode cX11_object 19 = .ok (.iload_n 1, 1) := by decide +kernel
theorem dX11_object_20 : decode cX11_object 20 = .ok (.aaload, 1) := by decide +kernel
theorem dX11_object_21 : decode cX11_object 21 = .ok (.astore 5, 2) := by decide +kernel
theorem dX11_object_23 : decode cX11_object 23 = .ok (.iload_n 3, 1) := by decide +kernel
theorem dX11_object_24 : decode cX11_object 24 = .ok (.tableswitch 99 0 4 #[36, 55, 65, 74, 83], 36) := by decide +kernel
theorem dX11_object_60 : decode cX11_object 60 = .ok (.aload 5, 2) := by decide +kernel
theorem dX11_object_62 : decode cX11_object 62 = .ok (.getfield 147, 3) := by decide +kernel
theorem dX11_object_65 : decode cX11_object 65 = .ok (.iload 4, 2) := by decide +kernel
theorem dX11_object_67 : decode cX11_object 67 = .ok (.invokevirtual 298, 3) := by decide +kernel
theorem dX11_object_70 : decode cX11_object 70 = .ok (.ifCond .eq 7, 3) := by decide +kernel
theorem dX11_object_73 : decode cX11_object 73 = .ok (.iconst 1, 1) := by decide +kernel
theorem dX11_object_74 : decode cX11_object 74 = .ok (.goto 4, 3) := by decide +kernel
theorem dX11_object_77 : decode cX11_object 77 = .ok (.iconst 0, 1) := by decide +kernel
theorem dX11_object_78 : decode cX11_object 78 = .ok (.ireturn, 1) := by decide +kernel
theorem dX11_object_79 : decode cX11_object 79 = .ok (.aload_n 0, 1) := by decide +kernel
theorem dX11_object_80 : decode cX11_object 80 = .ok (.getfield 19, 3) := by decide +kernel
theorem dX11_object_83 : decode cX11_object 83 = .ok (.iload 4, 2) := by decide +kernel
theorem dX11_object_85 : decode cX11_object 85 = .ok (.invokevirtual 301, 3) := by decide +kernel
theorem dX11_object_88 : decode cX11_object 88 = .ok (.ireturn, 1) := by decide +kernel
theorem dX11_object_89 : decode cX11_object 89 = .ok (.aload_n 0, 1) := by decide +kernel
theorem dX11_object_90 : decode cX11_object 90 = .ok (.aload 5, 2) := by decide +kernel
theorem dX11_object_92 : decode cX11_object 92 = .ok (.iload 4, 2) := by decide +kernel
theorem dX11_object_94 : decode cX11_object 94 = .ok (.invokevirtual 304, 3) := by decide +kernel
theorem dX11_object_97 : decode cX11_object 97 = .ok (.ireturn, 1) := by decide +kernel
theorem dX11_object_98 : decode cX11_object 98 = .ok (.aload_n 0, 1) := by decide +kernel
theorem dX11_object_99 : decode cX11_object 99 = .ok (.aload 5, 2) := by decide +kernel
theorem dX11_object_101 : decode cX11_object 101 = .ok (.iload 4, 2) := by decide +kernel
theorem dX11_object_103 : decode cX11_object 103 = .ok (.invokevirtual 307, 3) := by decide +kernel
theorem dX11_object_106 : decode cX11_object 106 = .ok (.ireturn, 1) := by decide +kernel
theorem dX11_object_107 : decode cX11_object 107 = .ok (.aload 5, 2) := by decide +kernel
theorem dX11_object_109 : decode cX11_object 109 = .ok (.getfield 147, 3) := by decide +kernel
theorem dX11_object_112 : decode cX11_object 112 = .ok (.iload 4, 2) := by decide +kernel
theorem dX11_object_114 : decode cX11_object 114 = .ok (.aload 5, 2) := by decide +kernel
theorem dX11_object_116 : decode cX11_object 116 = .ok (.invokevirtual 310, 3) := by decide +kernel
theorem dX11_object_119 : decode cX11_object 119 = .ok (.invokevirtual 313, 3) := by decide +kernel
theorem dX11_object_122 : decode cX11_object 122 = .ok (.ireturn, 1) := by decide +kernel
theorem dX11_object_123 : decode cX11_object 123 = .ok (.iconst (-1), 1) := by decide +kernel
theorem dX11_object_124 : decode cX11_object 124 = .ok (.ireturn, 1) := by decide +kernel
theorem kd_11_object : Cond.code yX11_object cX11_object 6 (some .int) ∈ lw_g := mt_at 1448 (by decide +kernel) rfl
theorem ki_11_object : Cond.instanceMethod yX11_object ∈ lw_g := mt_at 1446 (by decide +kernel) rfl
theorem kl_11_object : Cond.selects (kRn 11) yX11_object yX11_object ∈ lw_g := mt_at 1447 (by decide +kernel) rfl
theorem cw11_304 : cCw RX11 304 yX11_parentOf cX11_parentOf 4 (some .int) 2 := ⟨kd_11_parentOf, mt_at 1449 (by decide +kernel) rfl, mt_at 1 (by decide +kernel) rfl, by decide +kernel⟩
theorem cw11_307 : cCw RX11 307 yX11_childrenOf cX11_childrenOf 5 (some .int) 2 := ⟨kd_11_childrenOf, mt_at 1454 (by decide +kernel) rfl, mt_at 1 (by decide +kernel) rfl, by decide +kernel⟩
section
variable {p : Program} {l : Launch} {e : Env} {R : Room} {s : State} {m : MethodId} {args : Array Value} {below : List Frame} {meth : Method} {c : Code} {D : cG} {S0 S9 : cSt} {r : Int32}
noncomputable def fk_11_object_78 (S : cSt) (s0 : Int32) : Option (Int32 × cSt) :=
some (s0, S)
set_option maxRecDepth 100000 in
set_option maxHeartbeats 4000000 in
theorem wk_11_object_78 (C : cY p R s m args meth c RX11 cX11_object 6 4 0 0 91 (some .int)) (X : cX D s) : ∀ {S : cSt} {s0 : Int32} {H : Heap} {locs : List Loc} {ls : Array Slot}, fk_11_object_78 S s0 = some (r, S9) → cJ D S0 s.heap S H locs → lv_has ls 6 [] → W p l e R s m args below meth c H locs 0 0 (MQ below (kW (some (.int r)) D S0 S9) args s 0 0 (cA S0)) (F0 m 78 ls [.int s0]) := by
  intro S s0 H locs ls h hJ hl
  unfold fk_11_object_78 at h
  cases h
  exact c_retiW C hJ dX11_object_78
noncomputable def fk_11_object (S : cSt) (v0 : Nat) (v1 : Int32) (v2 : Int32) (v3 : Int32) : Option (Int32 × cSt) :=
ckk S v0 12 (bd (fk_11_madeSlot S v0 v1 v2) fun r1 =>
if 0 ≤ r1 then (
ckk S v0 12 (bd (kR S v0 2) fun a3 =>
ckk S a3 31 (ck v1 (kL S a3) (lt (kO S a3 (Int32.toNatClampNeg v1)) fun o4 =>
if v3 = (0 : Int32) then (
bd o4 fun a6 =>
ckk S a6 8 (bd (kR S a6 2) fun a7 =>
ckk S a7 11 (bd (fk_10_isThere S a7 r1) fun r8 =>
if r8 = 0 then (
fk_11_object_78 S (0 : Int32))
else (
fk_11_object_78 S (1 : Int32)))))
else if v3 = (1 : Int32) then (
ckk S v0 12 (bd (kR S v0 1) fun a11 =>
ckk S a11 1 (bd (fk_0_kindOf S a11 r1) fun r12 =>
some (r12, S))))
else if v3 = (2 : Int32) then (
bd o4 fun a14 =>
ckk S v0 12 (bd (fk_11_parentOf S v0 a14 r1) fun q_r16 => lt q_r16.1 fun r16 => lt q_r16.2 fun S15 =>
some (r16, S15)))
else if v3 = (3 : Int32) then (
bd o4 fun a18 =>
ckk S v0 12 (bd (fk_11_childrenOf S v0 a18 r1) fun q_r20 => lt q_r20.1 fun r20 => lt q_r20.2 fun S19 =>
some (r20, S19)))
else if v3 = (4 : Int32) then (
bd o4 fun a22 =>
ckk S a22 8 (bd (kR S a22 2) fun a23 =>
ckk S a22 8 (bd (fk_7_timeNow S a22) fun r24 =>
ckk S a23 11 (bd (fk_10_holderOf S a23 r1 r24) fun r25 =>
some (r25, S)))))
else (
some ((-1 : Int32), S))))))
else (
some ((-1 : Int32), S)))
set_option maxRecDepth 100000 in
set_option maxHeartbeats 4000000 in
theorem tk_11_object (l : Launch) {D : cG} {S : cSt} {v0 : Nat} {v1 : Int32} {v2 : Int32} {v3 : Int32} {r : Int32} {S9 : cSt} (h : fk_11_object S v0 v1 v2 v3 = some (r, S9)) : Met l yX11_object (Cond.code yX11_object cX11_object 6 (some .int) :: lw_g) { frames := 4, cells := 0, slots := 0, locals := 91 } (kPi [.ref v0, .int v1, .int v2, .int v3] D S) (kW (some (.int r)) D S S9) 0 0 (cA S) := by
  refine Met.ofW (cc := cX11_object) (maxL := 6) (ret := (some .int)) (by decide) rfl ?_
  intro p e s m args below meth c s₁ B hml hv
  obtain ⟨rfl, hW, X⟩ := hv
  have C : cY p (headSpec (Cond.code yX11_object cX11_object 6 (some .int) :: lw_g) { frames := 4, cells := 0, slots := 0, locals := 91 }).room s m _ meth c RX11 cX11_object 6 4 0 0 91 (some .int) := ⟨B.exec, B.bytes, hml, findClass_of_methodNamed B.named, fun w hw => atoms_spec (ws := Cond.code yX11_object cX11_object 6 (some .int) :: lw_g) B.pre w (List.mem_cons_of_mem _ hw), ⟨Nat.le_refl _, Nat.le_refl _, Nat.le_refl _, Nat.le_refl _⟩, B.returns, B.notSynchronized⟩
  have hl := lv_entry ([.ref v0, .int v1, .int v2, .int v3]) (n := 6) (Nat.le_of_ble_eq_true rfl)
  rw [lg_entry_eq]
  generalize (lg_sl ([.ref v0, .int v1, .int v2, .int v3]) ++ List.replicate (6 - (lg_sl ([.ref v0, .int v1, .int v2, .int v3])).length) Slot.unset).toArray = ls at hl ⊢
  have hl : lv_has ls 6 [(0, .ref v0), (1, .int v1), (2, .int v2), (3, .int v3)] := hl
  have hJ : cJ D S s.heap S s.heap [] := cJ.rf hW
  unfold fk_11_object at h
  refine lv_aload_n C.1 C.2.1 dX11_object_0 rfl (lv_at hl 0 rfl) ?_
  refine lv_iload_n C.1 C.2.1 dX11_object_1 rfl (lv_at hl 1 rfl) ?_
  refine lv_iload_n C.1 C.2.1 dX11_object_2 rfl (lv_at hl 2 rfl) ?_
  obtain ⟨hk, h⟩ := ckk_ok h
  obtain ⟨r1, h_r1, h⟩ := bd_ok h
  refine c_callR (rest := []) C X hJ.1 hl.1 11 (by decide) hk [.int v1, .int v2] (tk_11_madeSlot l h_r1) cw11_295 ki_11_madeSlot kl_11_madeSlot rfl ⟨by decide, by decide⟩ ⟨(by decide), (by decide)⟩ rfl (Nat.le_of_ble_eq_true rfl) dX11_object_3 ?_
  refine W.eq (g2 := F0 m 6 ls [.int r1]) rfl ?_
  refine lv_istore (lv' := [(4, .int r1), (0, .ref v0), (1, .int v1), (2, .int v2), (3, .int v3)]) C.1 C.2.1 dX11_object_6 hl (by decide) rfl (fun ls hl => ?_)
  refine lv_iload C.1 C.2.1 dX11_object_8 (lv_at hl 0 rfl) ?_
  refine lv_if_ge (tgt := 15) C.1 C.2.1 dX11_object_10 (by decide) (fun c2 => ?_) (fun c2 => ?_)
  · have h := if_t h c2
    refine lv_aload_n C.1 C.2.1 dX11_object_15 rfl (lv_at hl 1 rfl) ?_
    obtain ⟨hk, h⟩ := ckk_ok h
    obtain ⟨a3, h_a3, h⟩ := bd_ok h
    refine gk11_25 C X hJ.1 hk h_a3 dX11_object_16 ?_
    refine lv_iload_n C.1 C.2.1 dX11_object_19 rfl (lv_at hl 2 rfl) ?_
    obtain ⟨hk, h⟩ := ckk_ok h
    obtain ⟨hin2, h⟩ := ck_ok h
    refine c_aald C 31 (by decide) X.2.2.2.2.2.1 hJ.1 hk hin2 dX11_object_20 ?_
    refine lt_ok h (fun o4 e_o4 h => ?_)
    refine lv_nmq e_o4 ?_
    refine lv_astoreq (o := o4) (lv' := [(5, va_rf o4), (4, .int r1), (0, .ref v0), (1, .int v1), (2, .int v2), (3, .int v3)]) C.1 C.2.1 dX11_object_21 hl (by decide) rfl (fun ls hl => ?_)
    refine lv_iload_n C.1 C.2.1 dX11_object_23 rfl (lv_at hl 5 rfl) ?_
    by_cases c5 : v3 = (0 : Int32)
    · have h := if_t h c5
      refine lv_tableIn (off := 36) (tgt := 60) C.1 C.2.1 dX11_object_24 (by rw [c5]; decide) (by rw [c5]; decide) (by rw [c5]; rfl) (by decide) ?_
      refine lv_aloadq (o := o4) C.1 C.2.1 dX11_object_60 (lv_at hl 0 rfl) ?_
      obtain ⟨a6, e_a6, h⟩ := bd_ok h
      revert h; subst e_a6; intro h
      obtain ⟨hk, h⟩ := ckk_ok h
      obtain ⟨a7, h_a7, h⟩ := bd_ok h
      refine gk11_147 C X hJ.1 hk h_a7 dX11_object_62 ?_
      refine lv_iload C.1 C.2.1 dX11_object_65 (lv_at hl 1 rfl) ?_
      obtain ⟨hk, h⟩ := ckk_ok h
      obtain ⟨r8, h_r8, h⟩ := bd_ok h
      refine c_callR (rest := []) C X hJ.1 hl.1 10 (by decide) hk [.int r1] (tk_10_isThere l h_r8) cw11_298 ki_10_isThere kl_10_isThere rfl ⟨by decide, by decide⟩ ⟨(by decide), (by decide)⟩ rfl (Nat.le_of_ble_eq_true rfl) dX11_object_67 ?_
      refine W.eq (g2 := F0 m 70 ls [.int r8]) rfl ?_
      refine lv_if_eq (tgt := 77) C.1 C.2.1 dX11_object_70 (by decide) (fun c9 => ?_) (fun c9 => ?_)
      · have h := if_t h c9
        refine lv_iconst (v := 0) C.1 C.2.1 dX11_object_77 (by decide) ?_
        exact wk_11_object_78 C X h hJ (lv_sub hl [] rfl)
      · have h := if_f h c9
        refine lv_iconst (v := 1) C.1 C.2.1 dX11_object_73 (by decide) ?_
        refine lv_goto (tgt := 78) C.1 C.2.1 dX11_object_74 (by decide) ?_
        exact wk_11_object_78 C X h hJ (lv_sub hl [] rfl)
    · have h := if_f h c5
      by_cases c10 : v3 = (1 : Int32)
      · have h := if_t h c10
        refine lv_tableIn (off := 55) (tgt := 79) C.1 C.2.1 dX11_object_24 (by rw [c10]; decide) (by rw [c10]; decide) (by rw [c10]; rfl) (by decide) ?_
        refine lv_aload_n C.1 C.2.1 dX11_object_79 rfl (lv_at hl 2 rfl) ?_
        obtain ⟨hk, h⟩ := ckk_ok h
        obtain ⟨a11, h_a11, h⟩ := bd_ok h
        refine gk11_19 C X hJ.1 hk h_a11 dX11_object_80 ?_
        refine lv_iload C.1 C.2.1 dX11_object_83 (lv_at hl 1 rfl) ?_
        obtain ⟨hk, h⟩ := ckk_ok h
        obtain ⟨r12, h_r12, h⟩ := bd_ok h
        refine c_callR (rest := []) C X hJ.1 hl.1 0 (by decide) hk [.int r1] (tk_0_kindOf l h_r12) cw11_301 ki_0_kindOf kl_0_kindOf rfl ⟨by decide, by decide⟩ ⟨(by decide), (by decide)⟩ rfl (Nat.le_of_ble_eq_true rfl) dX11_object_85 ?_
        refine W.eq (g2 := F0 m 88 ls [.int r12]) rfl ?_
        cases h
        exact c_retiW C hJ dX11_object_88
      · have h := if_f h c10
        by_cases c13 : v3 = (2 : Int32)
        · have h := if_t h c13
          refine lv_tableIn (off := 65) (tgt := 89) C.1 C.2.1 dX11_object_24 (by rw [c13]; decide) (by rw [c13]; decide) (by rw [c13]; rfl) (by decide) ?_
          refine lv_aload_n C.1 C.2.1 dX11_object_89 rfl (lv_at hl 2 rfl) ?_
          refine lv_aloadq (o := o4) C.1 C.2.1 dX11_object_90 (lv_at hl 0 rfl) ?_
          refine lv_iload C.1 C.2.1 dX11_object_92 (lv_at hl 1 rfl) ?_
          obtain ⟨a14, e_a14, h⟩ := bd_ok h
          revert h; subst e_a14; intro h
          obtain ⟨hk, h⟩ := ckk_ok h
          obtain ⟨⟨r16, S15⟩, h_S15, h⟩ := bd_ok h
          replace h := lt2_ok h
          refine c_callW (rest := []) C X hJ hl.1 11 (by decide) hk [.ref a14, .int r1] (tk_11_parentOf l h_S15) cw11_304 ki_11_parentOf kl_11_parentOf rfl ⟨by decide, by decide⟩ ⟨(by decide), (by decide)⟩ rfl (Nat.le_of_ble_eq_true rfl) dX11_object_94 (fun H locs hJ => ?_)
          refine W.eq (g2 := F0 m 97 ls [.int r16]) rfl ?_
          cases h
          exact c_retiW C hJ dX11_object_97
        · have h := if_f h c13
          by_cases c17 : v3 = (3 : Int32)
          · have h := if_t h c17
            refine lv_tableIn (off := 74) (tgt := 98) C.1 C.2.1 dX11_object_24 (by rw [c17]; decide) (by rw [c17]; decide) (by rw [c17]; rfl) (by decide) ?_
            refine lv_aload_n C.1 C.2.1 dX11_object_98 rfl (lv_at hl 2 rfl) ?_
            refine lv_aloadq (o := o4) C.1 C.2.1 dX11_object_99 (lv_at hl 0 rfl) ?_
            refine lv_iload C.1 C.2.1 dX11_object_101 (lv_at hl 1 rfl) ?_
            obtain ⟨a18, e_a18, h⟩ := bd_ok h
            revert h; subst e_a18; intro h
            obtain ⟨hk, h⟩ := ckk_ok h
            obtain ⟨⟨r20, S19⟩, h_S19, h⟩ := bd_ok h
            replace h := lt2_ok h
            refine c_callW (rest := []) C X hJ hl.1 11 (by decide) hk [.ref a18, .int r1] (tk_11_childrenOf l h_S19) cw11_307 ki_11_childrenOf kl_11_childrenOf rfl ⟨by decide, by decide⟩ ⟨(by decide), (by decide)⟩ rfl (Nat.le_of_ble_eq_true rfl) dX11_object_103 (fun H locs hJ => ?_)
            refine W.eq (g2 := F0 m 106 ls [.int r20]) rfl ?_
            cases h
            exact c_retiW C hJ dX11_object_106
          · have h := if_f h c17
            by_cases c21 : v3 = (4 : Int32)
            · have h := if_t h c21
              refine lv_tableIn (off := 83) (tgt := 107) C.1 C.2.1 dX11_object_24 (by rw [c21]; decide) (by rw [c21]; decide) (by rw [c21]; rfl) (by decide) ?_
              refine lv_aloadq (o := o4) C.1 C.2.1 dX11_object_107 (lv_at hl 0 rfl) ?_
              obtain ⟨a22, e_a22, h⟩ := bd_ok h
              revert h; subst e_a22; intro h
              obtain ⟨hk, h⟩ := ckk_ok h
              obtain ⟨a23, h_a23, h⟩ := bd_ok h
              refine gk11_147 C X hJ.1 hk h_a23 dX11_object_109 ?_
              refine lv_iload C.1 C.2.1 dX11_object_112 (lv_at hl 1 rfl) ?_
              refine lv_aload C.1 C.2.1 dX11_object_114 (lv_at hl 0 rfl) ?_
              obtain ⟨hk, h⟩ := ckk_ok h
              obtain ⟨r24, h_r24, h⟩ := bd_ok h
              refine c_callR (rest := [.int r1, .ref a23]) C X hJ.1 hl.1 7 (by decide) hk [] (tk_7_timeNow l h_r24) cw11_310 ki_7_timeNow kl_7_timeNow rfl ⟨by decide, by decide⟩ ⟨(by decide), (by decide)⟩ rfl (Nat.le_of_ble_eq_true rfl) dX11_object_116 ?_
              refine W.eq (g2 := F0 m 119 ls [.int r24, .int r1, .ref a23]) rfl ?_
              obtain ⟨hk, h⟩ := ckk_ok h
              obtain ⟨r25, h_r25, h⟩ := bd_ok h
              refine c_callR (rest := []) C X hJ.1 hl.1 10 (by decide) hk [.int r1, .int r24] (tk_10_holderOf l h_r25) cw11_313 ki_10_holderOf kl_10_holderOf rfl ⟨by decide, by decide⟩ ⟨(by decide), (by decide)⟩ rfl (Nat.le_of_ble_eq_true rfl) dX11_object_119 ?_
              refine W.eq (g2 := F0 m 122 ls [.int r25]) rfl ?_
              cases h
              exact c_retiW C hJ dX11_object_122
            · have h := if_f h c21
              have n_c5 := lv_neT c5 (a := 0) rfl
              have n_c10 := lv_neT c10 (a := 1) rfl
              have n_c13 := lv_neT c13 (a := 2) rfl
              have n_c17 := lv_neT c17 (a := 3) rfl
              have n_c21 := lv_neT c21 (a := 4) rfl
              refine lv_tableOut (tgt := 123) C.1 C.2.1 dX11_object_24 (by omega) (by decide) ?_
              refine lv_iconst (v := -1) C.1 C.2.1 dX11_object_123 (by decide) ?_
              cases h
              exact c_retiW C hJ dX11_object_124
  · have h := if_f h c2
    refine lv_iconst (v := -1) C.1 C.2.1 dX11_object_13 (by decide) ?_
    cases h
    exact c_retiW C hJ dX11_object_14
end
theorem dX11_findValues_0 : decode cX11_findValues 0 = .ok (.iload_n 3, 1) := by decide +kernel
theorem dX11_findValues_1 : decode cX11_findValues 1 = .ok (.bipush 83, 2) := by decide +kernel
theorem dX11_findValues_3 : decode cX11_findValues 3 = .ok (.if_icmp .ne 9, 3) := by decide +kernel
theorem dX11_findValues_6 : decode cX11_findValues 6 = .ok (.aload_n 1, 1) := by decide +kernel
theorem dX11_findValues_7 : decode cX11_findValues 7 = .ok (.iload_n 2, 1) := by decide +kernel
theorem dX11_findValues_8 : decode cX11_findValues 8 = .ok (.invokevirtual 520, 3) := by decide +kernel
theorem dX11_findValues_11 : decode cX11_findValues 11 = .ok (.ireturn, 1) := by decide +kernel
theorem dX11_findValues_12 : decode cX11_findValues 12 = .ok (.iload_n 3, 1) := by decide +kernel
theorem dX11_findValues_13 : decode cX11_findValues 13 = .ok (.bipush 66, 2) := by decide +kernel
theorem dX11_findValues_15 : decode cX11_findValues 15 = .ok (.if_icmp .ne 5, 3) := by decide +kernel
theorem dX11_findValues_18 : decode cX11_findValues 18 = .ok (.iconst 5, 1) := by decide +kernel
theorem dX11_findValues_19 : decode cX11_findValues 19 = .ok (.ireturn, 1) := by decide +kernel
theorem dX11_findValues_20 : decode cX11_findValues 20 = .ok (.iload_n 3, 1) := by decide +kernel
theorem dX11_findValues_21 : decode cX11_findValues 21 = .ok (.bipush 65, 2) := by decide +kernel
theorem dX11_findValues_23 : decode cX11_findValues 23 = .ok (.if_icmp .eq 9, 3) := by decide +kernel
theorem dX11_findValues_26 : decode cX11_findValues 26 = .ok (.iload_n 3, 1) := by decide +kernel
theorem dX11_findValues_27 : decode cX11_findValues 27 = .ok (.bipush 77, 2) := by decide +kernel
theorem dX11_findValues_29 : decode cX11_findValues 29 = .ok (.if_icmp .ne 10, 3) := by decide +kernel
theorem dX11_findValues_32 : decode cX11_findValues 32 = .ok (.aload_n 1, 1) := by decide +kernel
theorem dX11_findValues_33 : decode cX11_findValues 33 = .ok (.iload_n 2, 1) := by decide +kernel
theorem dX11_findValues_34 : decode cX11_findValues 34 = .ok (.iload_n 3, 1) := by decide +kernel
theorem dX11_findValues_35 : decode cX11_findValues 35 = .ok (.invokevirtual 523, 3) := by decide +kernel
theorem dX11_findValues_38 : decode cX11_findValues 38 = .ok (.ireturn, 1) := by decide +kernel
theorem dX11_findValues_39 : decode cX11_findValues 39 = .ok (.iload_n 3, 1) := by decide +kernel
theorem dX11_findValues_40 : decode cX11_findValues 40 = .ok (.bipush 84, 2) := by decide +kernel
theorem dX11_findValues_42 : decode cX11_findValues 42 = .ok (.if_icmp .ne 20, 3) := by decide +kernel
theorem dX11_findValues_45 : decode cX11_findValues 45 = .ok (.aload_n 0, 1) := by decide +kernel
theorem dX11_findValues_46 : decode cX11_findValues 46 = .ok (.getfield 41, 3) := by decide +kernel
theorem dX11_findValues_49 : decode cX11_findValues 49 = .ok (.aload_n 1, 1) := by decide +kernel
theorem dX11_findValues_50 : decode cX11_findValues 50 = .ok (.iload_n 2, 1) := by decide +kernel
theorem dX11_findValues_51 : decode cX11_findValues 51 = .ok (.invokevirtual 153, 3) := by decide +kernel
theorem dX11_findValues_54 : decode cX11_findValues 54 = .ok (.aload_n 0, 1) := by decide +kernel
theorem dX11_findValues_55 : decode cX11_findValues 55 = .ok (.getfield 41, 3) := by decide +kernel
theorem dX11_findValues_58 : decode cX11_findValues 58 = .ok (.getfield 165, 3) := by decide +kernel
theorem dX11_findValues_61 : decode cX11_findValues 61 = .ok (.ireturn, 1) := by decide +kernel
theorem dX11_findValues_62 : decode cX11_findValues 62 = .ok (.iconst 1, 1) := by decide +kernel
theorem dX11_findValues_63 : decode cX11_findValues 63 = .ok (.ireturn, 1) := by decide +kernel
theorem kd_11_findValues : Cond.code yX11_findValues cX11_findValues 4 (some .int) ∈ lw_g := mt_at 1465 (by decide +kernel) rfl
theorem ki_11_findValues : Cond.instanceMethod yX11_findValues ∈ lw_g := mt_at 1464 (by decide +kernel) rfl
theorem kl_11_findValues : Cond.selects (kRn 11) yX11_findValues yX11_findValues ∈ lw_g := mt_sel 39 (by decide +kernel) rfl
theorem cw11_520 : cCw RX11 520 yX10_findSeveral cX10_findSeveral 4 (some .int) 1 := ⟨kd_10_findSeveral, mt_at 1466 (by decide +kernel) rfl, mt_at 10 (by decide +kernel) rfl, by decide +kernel⟩
theorem cw11_523 : cCw RX11 523 yX10_findKeys cX10_findKeys 5 (some .int) 2 := ⟨kd_10_findKeys, mt_at 1467 (by decide +kernel) rfl, mt_at 10 (by decide +kernel) rfl, by decide +kernel⟩
section
variable {p : Program} {l : Launch} {e : Env} {R : Room} {s : State} {m : MethodId} {args : Array Value} {below : List Frame} {meth : Method} {c : Code} {D : cG} {S0 S9 : cSt} {r : Int32}
noncomputable def fk_11_findValues_32 (S : cSt) (v1 : Nat) (v2 : Int32) (v3 : Int32) : Option (Int32 × cSt) :=
ckk S v1 11 (bd (fk_10_findKeys S v1 v2 v3) fun q_r2 => lt q_r2.1 fun r2 => lt q_r2.2 fun S1 =>
some (r2, S1))
set_option maxRecDepth 100000 in
set_option maxHeartbeats 4000000 in
theorem wk_11_findValues_32 (C : cY p R s m args meth c RX11 cX11_findValues 4 3 0 0 69 (some .int)) (X : cX D s) : ∀ {S : cSt} {v1 : Nat} {v2 : Int32} {v3 : Int32} {H : Heap} {locs : List Loc} {ls : Array Slot}, fk_11_findValues_32 S v1 v2 v3 = some (r, S9) → cJ D S0 s.heap S H locs → lv_has ls 4 [(1, .ref v1), (2, .int v2), (3, .int v3)] → W p l e R s m args below meth c H locs 0 0 (MQ below (kW (some (.int r)) D S0 S9) args s 0 0 (cA S0)) (F0 m 32 ls []) := by
  intro S v1 v2 v3 H locs ls h hJ hl
  unfold fk_11_findValues_32 at h
  refine lv_aload_n C.1 C.2.1 dX11_findValues_32 rfl (lv_at hl 0 rfl) ?_
  refine lv_iload_n C.1 C.2.1 dX11_findValues_33 rfl (lv_at hl 1 rfl) ?_
  refine lv_iload_n C.1 C.2.1 dX11_findValues_34 rfl (lv_at hl 2 rfl) ?_
  obtain ⟨hk, h⟩ := ckk_ok h
  obtain ⟨⟨r2, S1⟩, h_S1, h⟩ := bd_ok h
  replace h := lt2_ok h
  refine c_callW (rest := []) C X hJ hl.1 10 (by decide) hk [.int v2, .int v3] (tk_10_findKeys l h_S1) cw11_523 ki_10_findKeys kl_10_findKeys rfl ⟨by decide, by decide⟩ ⟨(by decide), (by decide)⟩ rfl (Nat.le_of_ble_eq_true rfl) dX11_findValues_35 (fun H locs hJ => ?_)
  refine W.eq (g2 := F0 m 38 ls [.int r2]) rfl ?_
  cases h
  exact c_retiW C hJ dX11_findValues_38
noncomputable def fk_11_findValues (S : cSt) (v0 : Nat) (v1 : Nat) (v2 : Int32) (v3 : Int32) : Option (Int32 × cSt) :=
if v3 = (83 : Int32) then (
ckk S v1 11 (bd (fk_10_findSeveral S v1 v2) fun q_r11 => lt q_r11.1 fun r11 => lt q_r11.2 fun S10 =>
some (r11, S10)))
else (
if v3 = (66 : Int32) then (
some ((5 : Int32), S))
else (
if v3 = (65 : Int32) then (
fk_11_findValues_32 S v1 v2 v3)
else (
if v3 = (77 : Int32) then (
fk_11_findValues_32 S v1 v2 v3)
else (
if v3 = (84 : Int32) then (
ckk S v0 12 (bd (kR S v0 5) fun a6 =>
ckk S a6 10 (bd (fk_9_read S a6 v1 v2) fun S7 =>
ckk S7 v0 12 (bd (kR S7 v0 5) fun a8 =>
ckk S7 a8 10 (
some (kF S7 a8 1, S7))))))
else (
some ((1 : Int32), S))))))
set_option maxRecDepth 100000 in
set_option maxHeartbeats 4000000 in
theorem tk_11_findValues (l : Launch) {D : cG} {S : cSt} {v0 : Nat} {v1 : Nat} {v2 : Int32} {v3 : Int32} {r : Int32} {S9 : cSt} (h : fk_11_findValues S v0 v1 v2 v3 = some (r, S9)) : Met l yX11_findValues (Cond.code yX11_findValues cX11_findValues 4 (some .int) :: lw_g) { frames := 3, cells := 0, slots := 0, locals := 69 } (kPi [.ref v0, .ref v1, .int v2, .int v3] D S) (kW (some (.int r)) D S S9) 0 0 (cA S) := by
  refine Met.ofW (cc := cX11_findValues) (maxL := 4) (ret := (some .int)) (by decide) rfl ?_
  intro p e s m args below meth c s₁ B hml hv
  obtain ⟨rfl, hW, X⟩ := hv
  have C : cY p (headSpec (Cond.code yX11_findValues cX11_findValues 4 (some .int) :: lw_g) { frames := 3, cells := 0, slots := 0, locals := 69 }).room s m _ meth c RX11 cX11_findValues 4 3 0 0 69 (some .int) := ⟨B.exec, B.bytes, hml, findClass_of_methodNamed B.named, fun w hw => atoms_spec (ws := Cond.code yX11_findValues cX11_findValues 4 (some .int) :: lw_g) B.pre w (List.mem_cons_of_mem _ hw), ⟨Nat.le_refl _, Nat.le_refl _, Nat.le_refl _, Nat.le_refl _⟩, B.returns, B.notSynchronized⟩
  have hl := lv_entry ([.ref v0, .ref v1, .int v2, .int v3]) (n := 4) (Nat.le_of_ble_eq_true rfl)
  rw [lg_entry_eq]
  generalize (lg_sl ([.ref v0, .ref v1, .int v2, .int v3]) ++ List.replicate (4 - (lg_sl ([.ref v0, .ref v1, .int v2, .int v3])).length) Slot.unset).toArray = ls at hl ⊢
  have hl : lv_has ls 4 [(0, .ref v0), (1, .ref v1), (2, .int v2), (3, .int v3)] := hl
  have hJ : cJ D S s.heap S s.heap [] := cJ.rf hW
  unfold fk_11_findValues at h
  refine lv_iload_n C.1 C.2.1 dX11_findValues_0 rfl (lv_at hl 3 rfl) ?_
  refine lv_bipush (v := 83) C.1 C.2.1 dX11_findValues_1 (by decide) ?_
  refine lv_icmp_ne (tgt := 12) C.1 C.2.1 dX11_findValues_3 (by decide) (fun c1 => ?_) (fun c1 => ?_)
  · have h := if_f h c1
    refine lv_iload_n C.1 C.2.1 dX11_findValues_12 rfl (lv_at hl 3 rfl) ?_
    refine lv_bipush (v := 66) C.1 C.2.1 dX11_findValues_13 (by decide) ?_
    refine lv_icmp_ne (tgt := 20) C.1 C.2.1 dX11_findValues_15 (by decide) (fun c2 => ?_) (fun c2 => ?_)
    · have h := if_f h c2
      refine lv_iload_n C.1 C.2.1 dX11_findValues_20 rfl (lv_at hl 3 rfl) ?_
      refine lv_bipush (v := 65) C.1 C.2.1 dX11_findValues_21 (by decide) ?_
      refine lv_icmp_eq (tgt := 32) C.1 C.2.1 dX11_findValues_23 (by decide) (fun c3 => ?_) (fun c3 => ?_)
      · have h := if_t h c3
        exact wk_11_findValues_32 C X h hJ (lv_sub hl [1, 2, 3] rfl)
      · have h := if_f h c3
        refine lv_iload_n C.1 C.2.1 dX11_findValues_26 rfl (lv_at hl 3 rfl) ?_
        refine lv_bipush (v := 77) C.1 C.2.1 dX11_findValues_27 (by decide) ?_
        refine lv_icmp_ne (tgt := 39) C.1 C.2.1 dX11_findValues_29 (by decide) (fun c4 => ?_) (fun c4 => ?_)
        · have h := if_f h c4
          refine lv_iload_n C.1 C.2.1 dX11_findValues_39 rfl (lv_at hl 3 rfl) ?_
          refine lv_bipush (v := 84) C.1 C.2.1 dX11_findValues_40 (by decide) ?_
          refine lv_icmp_ne (tgt := 62) C.1 C.2.1 dX11_findValues_42 (by decide) (fun c5 => ?_) (fun c5 => ?_)
          · have h := if_f h c5
            refine lv_iconst (v := 1) C.1 C.2.1 dX11_findValues_62 (by decide) ?_
            cases h
            exact c_retiW C hJ dX11_findValues_63
          · have h := if_t h c5
            refine lv_aload_n C.1 C.2.1 dX11_findValues_45 rfl (lv_at hl 0 rfl) ?_
            obtain ⟨hk, h⟩ := ckk_ok h
            obtain ⟨a6, h_a6, h⟩ := bd_ok h
            refine gk11_41 C X hJ.1 hk h_a6 dX11_findValues_46 ?_
            refine lv_aload_n C.1 C.2.1 dX11_findValues_49 rfl (lv_at hl 1 rfl) ?_
            refine lv_iload_n C.1 C.2.1 dX11_findValues_50 rfl (lv_at hl 2 rfl) ?_
            obtain ⟨hk, h⟩ := ckk_ok h
            obtain ⟨S7, h_S7, h⟩ := bd_ok h
            refine c_callW (rest := []) C X hJ hl.1 9 (by decide) hk [.ref v1, .int v2] (tk_9_read l h_S7) cw11_153 ki_9_read kl_9_read rfl ⟨by decide, by decide⟩ ⟨(by decide), (by decide)⟩ rfl (Nat.le_of_ble_eq_true rfl) dX11_findValues_51 (fun H locs hJ => ?_)
            refine W.eq (g2 := F0 m 54 ls []) rfl ?_
            refine lv_aload_n C.1 C.2.1 dX11_findValues_54 rfl (lv_at hl 0 rfl) ?_
            obtain ⟨hk, h⟩ := ckk_ok h
            obtain ⟨a8, h_a8, h⟩ := bd_ok h
            refine gk11_41 C X hJ.1 hk h_a8 dX11_findValues_55 ?_
            obtain ⟨hk, h⟩ := ckk_ok h
            refine gk11_165 C X hJ.1 hk dX11_findValues_58 ?_
            cases h
            exact c_retiW C hJ dX11_findValues_61
        · have h := if_t h c4
          exact wk_11_findValues_32 C X h hJ (lv_sub hl [1, 2, 3] rfl)
    · have h := if_t h c2
      refine lv_iconst (v := 5) C.1 C.2.1 dX11_findValues_18 (by decide) ?_
      cases h
      exact c_retiW C hJ dX11_findValues_19
  · have h := if_t h c1
    refine lv_aload_n C.1 C.2.1 dX11_findValues_6 rfl (lv_at hl 1 rfl) ?_
    refine lv_iload_n C.1 C.2.1 dX11_findValues_7 rfl (lv_at hl 2 rfl) ?_
    obtain ⟨hk, h⟩ := ckk_ok h
    obtain ⟨⟨r11, S10⟩, h_S10, h⟩ := bd_ok h
    replace h := lt2_ok h
    refine c_callW (rest := []) C X hJ hl.1 10 (by decide) hk [.int v2] (tk_10_findSeveral l h_S10) cw11_520 ki_10_findSeveral kl_10_findSeveral rfl ⟨by decide, by decide⟩ ⟨(by decide), (by decide)⟩ rfl (Nat.le_of_ble_eq_true rfl) dX11_findValues_8 (fun H locs hJ => ?_)
    refine W.eq (g2 := F0 m 11 ls [.int r11]) rfl ?_
    cases h
    exact c_retiW C hJ dX11_findValues_11
end
theorem dX11_size_0 : decode cX11_size 0 = .ok (.aload_n 0, 1) := by decide +kernel
theorem dX11_size_1 : decode cX11_size 1 = .ok (.iload_n 1, 1) := by decide +kernel
theorem dX11_size_2 : decode cX11_size 2 = .ok (.iload_n 2, 1) := by decide +kernel
theorem dX11_size_3 : decode cX11_size 3 = .ok (.invokevirtual 295, 3) := by decide +kernel
theorem dX11_size_6 : decode cX11_size 6 = .ok (.istore 4, 2) := by decide +kernel
theorem dX11_size_8 : decode cX11_size 8 = .ok (.aload_n 0, 1) := by decide +kernel
theorem dX11_size_9 : decode cX11_size 9 = .ok (.iload 4, 2) := by decide +kernel
theorem dX11_size_11 : decode cX11_size 11 = .ok (.iload_n 3, 1) := by decide +kernel
theorem dX11_size_12 : decode cX11_size 12 = .ok (.invokevirtual 316, 3) := by decide +kernel
theorem dX11_size_15 : decode cX11_size 15 = .ok (.istore 5, 2) := by decide +kernel
theorem dX11_size_17 : decode cX11_size 17 = .ok (.iload 5, 2) := by decide +kernel
theorem dX11_size_19 : decode cX11_size 19 = .ok (.bipush 32, 2) := by decide +kernel
theorem dX11_size_21 : decode cX11_size 21 = .ok (.if_icmp .ne 7, 3) := by decide +kernel
theorem dX11_size_24 : decode cX11_size 24 = .ok (.iconst (-1), 1) := by decide +kernel
theorem dX11_size_25 : decode cX11_size 25 = .ok (.goto 25, 3) := by decide +kernel
theorem dX11_size_28 : decode cX11_size 28 = .ok (.aload_n 0, 1) := by decide +kernel
theorem dX11_size_29 : decode cX11_size 29 = .ok (.aload_n 0, 1) := by decide +kernel
theorem dX11_size_30 : decode cX11_size 30 = .ok (.getfield 25, 3) := by decide +kernel
theorem dX11_size_33 : decode cX11_size 33 = .ok (.iload_n 1, 1) := by decide +kernel
theorem dX11_size_34 : decode cX11_size 34 = .ok (.aaload, 1) := by decide +kernel
theorem dX11_size_35 : decode cX11_size 35 = .ok (.getfield 147, 3) := by decide +kernel
theorem dX11_size_38 : decode cX11_size 38 = .ok (.iload 4, 2) := by decide +kernel
theorem dX11_size_40 : decode cX11_size 40 = .ok (.bipush 8, 2) := by decide +kernel
theorem dX11_size_42 : decode cX11_size 42 = .ok (.imul, 1) := by decide +kernel
theorem dX11_size_43 : decode cX11_size 43 = .ok (.iload_n 3, 1) := by decide +kernel
theorem dX11_size_44 : decode cX11_size 44 = .ok (.iadd, 1) := by decide +kernel
theorem dX11_size_45 : decode cX11_size 45 = .ok (.iload 5, 2) := by decide +kernel
theorem dX11_size_47 : decode cX11_size 47 = .ok (.invokevirtual 319, 3) := by decide +kernel
theorem dX11_size_50 : decode cX11_size 50 = .ok (.ireturn, 1) := by decide +kernel
theorem kd_11_size : Cond.code yX11_size cX11_size 6 (some .int) ∈ lw_g := mt_at 1461 (by decide +kernel) rfl
theorem ki_11_size : Cond.instanceMethod yX11_size ∈ lw_g := mt_at 1459 (by decide +kernel) rfl
theorem kl_11_size : Cond.selects (kRn 11) yX11_size yX11_size ∈ lw_g := mt_at 1460 (by decide +kernel) rfl
theorem cw11_319 : cCw RX11 319 yX11_findValues cX11_findValues 4 (some .int) 3 := ⟨kd_11_findValues, mt_at 1462 (by decide +kernel) rfl, mt_at 1 (by decide +kernel) rfl, by decide +kernel⟩
section
variable {p : Program} {l : Launch} {e : Env} {R : Room} {s : State} {m : MethodId} {args : Array Value} {below : List Frame} {meth : Method} {c : Code} {D : cG} {S0 S9 : cSt} {r : Int32}
noncomputable def fk_11_size_50 (S : cSt) (s0 : Int32) : Option (Int32 × cSt) :=
some (s0, S)
set_option maxRecDepth 100000 in
set_option maxHeartbeats 4000000 in
theorem wk_11_size_50 (C : cY p R s m args meth c RX11 cX11_size 6 4 0 0 92 (some .int)) (X : cX D s) : ∀ {S : cSt} {s0 : Int32} {H : Heap} {locs : List Loc} {ls : Array Slot}, fk_11_size_50 S s0 = some (r, S9) → cJ D S0 s.heap S H locs → lv_has ls 6 [] → W p l e R s m args below meth c H locs 0 0 (MQ below (kW (some (.int r)) D S0 S9) args s 0 0 (cA S0)) (F0 m 50 ls [.int s0]) := by
  intro S s0 H locs ls h hJ hl
  unfold fk_11_size_50 at h
  cases h
  exact c_retiW C hJ dX11_size_50
noncomputable def fk_11_size (S : cSt) (v0 : Nat) (v1 : Int32) (v2 : Int32) (v3 : Int32) : Option (Int32 × cSt) :=
ckk S v0 12 (bd (fk_11_madeSlot S v0 v1 v2) fun r1 =>
ckk S v0 12 (bd (fk_11_ruleAt S v0 r1 v3) fun r2 =>
if r2 = (32 : Int32) then (
fk_11_size_50 S (-1 : Int32))
else (
ckk S v0 12 (bd (kR S v0 2) fun a4 =>
ckk S a4 31 (ck v1 (kL S a4) (lt (kO S a4 (Int32.toNatClampNeg v1)) fun o5 =>
bd o5 fun a6 =>
ckk S a6 8 (bd (kR S a6 2) fun a7 =>
ckk S v0 12 (bd (fk_11_findValues S v0 a7 ((r1 * (8 : Int32)) + v3) r2) fun q_r9 => lt q_r9.1 fun r9 => lt q_r9.2 fun S8 =>
fk_11_size_50 S8 r9))))))))
set_option maxRecDepth 100000 in
set_option maxHeartbeats 4000000 in
theorem tk_11_size (l : Launch) {D : cG} {S : cSt} {v0 : Nat} {v1 : Int32} {v2 : Int32} {v3 : Int32} {r : Int32} {S9 : cSt} (h : fk_11_size S v0 v1 v2 v3 = some (r, S9)) : Met l yX11_size (Cond.code yX11_size cX11_size 6 (some .int) :: lw_g) { frames := 4, cells := 0, slots := 0, locals := 92 } (kPi [.ref v0, .int v1, .int v2, .int v3] D S) (kW (some (.int r)) D S S9) 0 0 (cA S) := by
  refine Met.ofW (cc := cX11_size) (maxL := 6) (ret := (some .int)) (by decide) rfl ?_
  intro p e s m args below meth c s₁ B hml hv
  obtain ⟨rfl, hW, X⟩ := hv
  have C : cY p (headSpec (Cond.code yX11_size cX11_size 6 (some .int) :: lw_g) { frames := 4, cells := 0, slots := 0, locals := 92 }).room s m _ meth c RX11 cX11_size 6 4 0 0 92 (some .int) := ⟨B.exec, B.bytes, hml, findClass_of_methodNamed B.named, fun w hw => atoms_spec (ws := Cond.code yX11_size cX11_size 6 (some .int) :: lw_g) B.pre w (List.mem_cons_of_mem _ hw), ⟨Nat.le_refl _, Nat.le_refl _, Nat.le_refl _, Nat.le_refl _⟩, B.returns, B.notSynchronized⟩
  have hl := lv_entry ([.ref v0, .int v1, .int v2, .int v3]) (n := 6) (Nat.le_of_ble_eq_true rfl)
  rw [lg_entry_eq]
  generalize (lg_sl ([.ref v0, .int v1, .int v2, .int v3]) ++ List.replicate (6 - (lg_sl ([.ref v0, .int v1, .int v2, .int v3])).length) Slot.unset).toArray = ls at hl ⊢
  have hl : lv_has ls 6 [(0, .ref v0), (1, .int v1), (2, .int v2), (3, .int v3)] := hl
  have hJ : cJ D S s.heap S s.heap [] := cJ.rf hW
  unfold fk_11_size at h
  refine lv_aload_n C.1 C.2.1 dX11_size_0 rfl (lv_at hl 0 rfl) ?_
  refine lv_iload_n C.1 C.2.1 dX11_size_1 rfl (lv_at hl 1 rfl) ?_
  refine lv_iload_n C.1 C.2.1 dX11_size_2 rfl (lv_at hl 2 rfl) ?_
  obtain ⟨hk, h⟩ := ckk_ok h
  obtain ⟨r1, h_r1, h⟩ := bd_ok h
  refine c_callR (rest := []) C X hJ.1 hl.1 11 (by decide) hk [.int v1, .int v2] (tk_11_madeSlot l h_r1) cw11_295 ki_11_madeSlot kl_11_madeSlot rfl ⟨by decide, by decide⟩ ⟨(by decide), (by decide)⟩ rfl (Nat.le_of_ble_eq_true rfl) dX11_size_3 ?_
  refine W.eq (g2 := F0 m 6 ls [.int r1]) rfl ?_
  refine lv_istore (lv' := [(4, .int r1), (0, .ref v0), (1, .int v1), (2, .int v2), (3, .int v3)]) C.1 C.2.1 dX11_size_6 hl (by decide) rfl (fun ls hl => ?_)
  refine lv_aload_n C.1 C.2.1 dX11_size_8 rfl (lv_at hl 1 rfl) ?_
  refine lv_iload C.1 C.2.1 dX11_size_9 (lv_at hl 0 rfl) ?_
  refine lv_iload_n C.1 C.2.1 dX11_size_11 rfl (lv_at hl 4 rfl) ?_
  obtain ⟨hk, h⟩ := ckk_ok h
  obtain ⟨r2, h_r2, h⟩ := bd_ok h
  refine c_callR (rest := []) C X hJ.1 hl.1 11 (by decide) hk [.int r1, .int v3] (tk_11_ruleAt l h_r2) cw11_316 ki_11_ruleAt kl_11_ruleAt rfl ⟨by decide, by decide⟩ ⟨(by decide), (by decide)⟩ rfl (Nat.le_of_ble_eq_true rfl) dX11_size_12 ?_
  refine W.eq (g2 := F0 m 15 ls [.int r2]) rfl ?_
  refine lv_istore (lv' := [(5, .int r2), (4, .int r1), (0, .ref v0), (1, .int v1), (2, .int v2), (3, .int v3)]) C.1 C.2.1 dX11_size_15 hl (by decide) rfl (fun ls hl => ?_)
  refine lv_iload C.1 C.2.1 dX11_size_17 (lv_at hl 0 rfl) ?_
  refine lv_bipush (v := 32) C.1 C.2.1 dX11_size_19 (by decide) ?_
  refine lv_icmp_ne (tgt := 28) C.1 C.2.1 dX11_size_21 (by decide) (fun c3 => ?_) (fun c3 => ?_)
  · have h := if_f h c3
    refine lv_aload_n C.1 C.2.1 dX11_size_28 rfl (lv_at hl 2 rfl) ?_
    refine lv_aload_n C.1 C.2.1 dX11_size_29 rfl (lv_at hl 2 rfl) ?_
    obtain ⟨hk, h⟩ := ckk_ok h
    obtain ⟨a4, h_a4, h⟩ := bd_ok h
    refine gk11_25 C X hJ.1 hk h_a4 dX11_size_30 ?_
    refine lv_iload_n C.1 C.2.1 dX11_size_33 rfl (lv_at hl 3 rfl) ?_
    obtain ⟨hk, h⟩ := ckk_ok h
    obtain ⟨hin2, h⟩ := ck_ok h
    refine c_aald C 31 (by decide) X.2.2.2.2.2.1 hJ.1 hk hin2 dX11_size_34 ?_
    refine lt_ok h (fun o5 e_o5 h => ?_)
    refine lv_nmq e_o5 ?_
    obtain ⟨a6, e_a6, h⟩ := bd_ok h
    revert h; subst e_a6; intro h
    obtain ⟨hk, h⟩ := ckk_ok h
    obtain ⟨a7, h_a7, h⟩ := bd_ok h
    refine gk11_147 C X hJ.1 hk h_a7 dX11_size_35 ?_
    refine lv_iload C.1 C.2.1 dX11_size_38 (lv_at hl 1 rfl) ?_
    refine lv_bipush (v := 8) C.1 C.2.1 dX11_size_40 (by decide) ?_
    refine lv_imul C.1 C.2.1 dX11_size_42 ?_
    refine lv_iload_n C.1 C.2.1 dX11_size_43 rfl (lv_at hl 5 rfl) ?_
    refine lv_iadd C.1 C.2.1 dX11_size_44 ?_
    refine lv_iload C.1 C.2.1 dX11_size_45 (lv_at hl 0 rfl) ?_
    obtain ⟨hk, h⟩ := ckk_ok h
    obtain ⟨⟨r9, S8⟩, h_S8, h⟩ := bd_ok h
    replace h := lt2_ok h
    refine c_callW (rest := []) C X hJ hl.1 11 (by decide) hk [.ref a7, .int ((r1 * (8 : Int32)) + v3), .int r2] (tk_11_findValues l h_S8) cw11_319 ki_11_findValues kl_11_findValues rfl ⟨by decide, by decide⟩ ⟨(by decide), (by decide)⟩ rfl (Nat.le_of_ble_eq_true rfl) dX11_size_47 (fun H locs hJ => ?_)
    refine W.eq (g2 := F0 m 50 ls [.int r9]) rfl ?_
    exact wk_11_size_50 C X h hJ (lv_sub hl [] rfl)
  · have h := if_t h c3
    refine lv_iconst (v := -1) C.1 C.2.1 dX11_size_24 (by decide) ?_
    refine lv_goto (tgt := 50) C.1 C.2.1 dX11_size_25 (by decide) ?_
    exact wk_11_size_50 C X h hJ (lv_sub hl [] rfl)
end
theorem dX11_sourceAt_0 : decode cX11_sourceAt 0 = .ok (.iload_n 3, 1) := by decide +kernel
theorem dX11_sourceAt_1 : decode cX11_sourceAt 1 = .ok (.bipush 83, 2) := by decide +kernel
theorem dX11_sourceAt_3 : decode cX11_sourceAt 3 = .ok (.if_icmp .ne 11, 3) := by decide +kernel
theorem dX11_sourceAt_6 : decode cX11_sourceAt 6 = .ok (.aload_n 1, 1) := by decide +kernel
theorem dX11_sourceAt_7 : decode cX11_sourceAt 7 = .ok (.getfield 527, 3) := by decide +kernel
theorem dX11_sourceAt_10 : decode cX11_sourceAt 10 = .ok (.iload 4, 2) := by decide +kernel
theorem dX11_sourceAt_12 : decode cX11_sourceAt 12 = .ok (.aaload, 1) := by decide +kernel
theorem dX11_sourceAt_13 : decode cX11_sourceAt 13 = .ok (.areturn, 1) := by decide +kernel
theorem dX11_sourceAt_14 : decode cX11_sourceAt 14 = .ok (.iload_n 3, 1) := by decide +kernel
theorem dX11_sourceAt_15 : decode cX11_sourceAt 15 = .ok (.bipush 65, 2) := by decide +kernel
theorem dX11_sourceAt_17 : decode cX11_sourceAt 17 = .ok (.if_icmp .eq 9, 3) := by decide +kernel
theorem dX11_sourceAt_20 : decode cX11_sourceAt 20 = .ok (.iload_n 3, 1) := by decide +kernel
theorem dX11_sourceAt_21 : decode cX11_sourceAt 21 = .ok (.bipush 77, 2) := by decide +kernel
theorem dX11_sourceAt_23 : decode cX11_sourceAt 23 = .ok (.if_icmp .ne 10, 3) := by decide +kernel
theorem dX11_sourceAt_26 : decode cX11_sourceAt 26 = .ok (.aload_n 1, 1) := by decide +kernel
theorem dX11_sourceAt_27 : decode cX11_sourceAt 27 = .ok (.iload 4, 2) := by decide +kernel
theorem dX11_sourceAt_29 : decode cX11_sourceAt 29 = .ok (.invokevirtual 530, 3) := by decide +kernel
theorem dX11_sourceAt_32 : decode cX11_sourceAt 32 = .ok (.areturn, 1) := by decide +kernel
theorem dX11_sourceAt_33 : decode cX11_sourceAt 33 = .ok (.iload_n 3, 1) := by decide +kernel
theorem dX11_sourceAt_34 : decode cX11_sourceAt 34 = .ok (.bipush 84, 2) := by decide +kernel
theorem dX11_sourceAt_36 : decode cX11_sourceAt 36 = .ok (.if_icmp .ne 16, 3) := by decide +kernel
theorem dX11_sourceAt_39 : decode cX11_sourceAt 39 = .ok (.aload_n 0, 1) := by decide +kernel
theorem dX11_sourceAt_40 : decode cX11_sourceAt 40 = .ok (.getfield 41, 3) := by decide +kernel
theorem dX11_sourceAt_43 : decode cX11_sourceAt 43 = .ok (.getfield 377, 3) := by decide +kernel
theorem dX11_sourceAt_46 : decode cX11_sourceAt 46 = .ok (.iload 4, 2) := by decide +kernel
theorem dX11_sourceAt_48 : decode cX11_sourceAt 48 = .ok (.aaload, 1) := by decide +kernel
theorem dX11_sourceAt_49 : decode cX11_sourceAt 49 = .ok (.goto 8, 3) := by decide +kernel
theorem dX11_sourceAt_52 : decode cX11_sourceAt 52 = .ok (.aload_n 1, 1) := by decide +kernel
theorem dX11_sourceAt_53 : decode cX11_sourceAt 53 = .ok (.iload_n 2, 1) := by decide +kernel
theorem dX11_sourceAt_54 : decode cX11_sourceAt 54 = .ok (.invokevirtual 533, 3) := by decide +kernel
theorem dX11_sourceAt_57 : decode cX11_sourceAt 57 = .ok (.areturn, 1) := by decide +kernel
theorem kd_11_sourceAt : Cond.code yX11_sourceAt cX11_sourceAt 5 (some (.object "AccordHouse$Row")) ∈ lw_g := mt_at 1482 (by decide +kernel) rfl
theorem ki_11_sourceAt : Cond.instanceMethod yX11_sourceAt ∈ lw_g := mt_at 1481 (by decide +kernel) rfl
theorem kl_11_sourceAt : Cond.selects (kRn 11) yX11_sourceAt yX11_sourceAt ∈ lw_g := mt_sel 41 (by decide +kernel) rfl
theorem cw11_530 : cCw RX11 530 yX10_keyAt cX10_keyAt 4 (some (.object "AccordHouse$Row")) 1 := ⟨kd_10_keyAt, mt_at 1483 (by decide +kernel) rfl, mt_at 10 (by decide +kernel) rfl, by decide +kernel⟩
theorem cw11_533 : cCw RX11 533 yX10_lastGood cX10_lastGood 3 (some (.object "AccordHouse$Row")) 1 := ⟨kd_10_lastGood, mt_at 1487 (by decide +kernel) rfl, mt_at 10 (by decide +kernel) rfl, by decide +kernel⟩
section
variable {p : Program} {l : Launch} {e : Env} {R : Room} {s : State} {m : MethodId} {args : Array Value} {below : List Frame} {meth : Method} {c : Code} {H : Heap} {locs : List Loc} {cells slots : Nat} {Q : State → Prop}
variable {D : cG} {S S0 : cSt} {cc : ByteArray} {nL : Nat} {pc : Nat} {ls : Array Slot} {rest : List Value} {H0 : Heap} {nF nR nC nS : Nat} {ret : Option FieldType} {a : Nat}
theorem gk11_527 (C : cY p R s m args meth c RX11 cc nL nF nC nS nR ret) (X : cX D s) (hW : cW D S H) (hk : kK S a = 11) {x : Nat} (hx : kR S a 0 = some x) (hdg : decode cc pc = .ok (.getfield 527, 3)) (kk : W p l e R s m args below meth c H locs cells slots Q (F0 m (pc + 3) ls (.ref x :: rest))) : W p l e R s m args below meth c H locs cells slots Q (F0 m pc ls (.ref a :: rest)) := c_get C X hW 10 (by decide) ly_10 hk 0 (by decide) (mt_at 273 (by decide +kernel) (by decide +kernel)) hdg (by rw [cV_R (by decide +kernel) hx]; exact kk)
end
section
variable {p : Program} {l : Launch} {e : Env} {R : Room} {s : State} {m : MethodId} {args : Array Value} {below : List Frame} {meth : Method} {c : Code} {D : cG} {S : cSt} {r : Option Nat}
noncomputable def fk_11_sourceAt_26 (S : cSt) (v1 : Nat) (v4 : Int32) : Option (Option Nat) :=
ckk S v1 11 (bd (fk_10_keyAt S v1 v4) fun o1 =>
some o1)
set_option maxRecDepth 100000 in
set_option maxHeartbeats 4000000 in
theorem wk_11_sourceAt_26 (C : cY p R s m args meth c RX11 cX11_sourceAt 5 2 0 0 44 (some (.object "AccordHouse$Row"))) (X : cX D s) (hW : cW D S s.heap) : ∀ {v1 : Nat} {v4 : Int32} {ls : Array Slot}, fk_11_sourceAt_26 S v1 v4 = some r → lv_has ls 5 [(1, .ref v1), (4, .int v4)] → W p l e R s m args below meth c s.heap [] 0 0 (MQ below (kQ (some (va_rf r))) args s 0 0 mNo) (F0 m 26 ls []) := by
  intro v1 v4 ls h hl
  unfold fk_11_sourceAt_26 at h
  refine lv_aload_n C.1 C.2.1 dX11_sourceAt_26 rfl (lv_at hl 0 rfl) ?_
  refine lv_iload C.1 C.2.1 dX11_sourceAt_27 (lv_at hl 1 rfl) ?_
  obtain ⟨hk, h⟩ := ckk_ok h
  obtain ⟨o1, h_o1, h⟩ := bd_ok h
  refine c_callR (rest := []) C X hW hl.1 10 (by decide) hk [.int v4] (tk_10_keyAt l h_o1) cw11_530 ki_10_keyAt kl_10_keyAt rfl ⟨by decide, by decide⟩ ⟨(by decide), (by decide)⟩ rfl (Nat.le_of_ble_eq_true rfl) dX11_sourceAt_29 ?_
  refine W.eq (g2 := F0 m 32 ls [va_rf o1]) rfl ?_
  cases h
  exact c_reta C rfl rfl dX11_sourceAt_32
noncomputable def fk_11_sourceAt_57 (S : cSt) (s0 : Option Nat) : Option (Option Nat) :=
some s0
set_option maxRecDepth 100000 in
set_option maxHeartbeats 4000000 in
theorem wk_11_sourceAt_57 (C : cY p R s m args meth c RX11 cX11_sourceAt 5 2 0 0 44 (some (.object "AccordHouse$Row"))) (X : cX D s) (hW : cW D S s.heap) : ∀ {s0 : Option Nat} {ls : Array Slot}, fk_11_sourceAt_57 S s0 = some r → lv_has ls 5 [] → W p l e R s m args below meth c s.heap [] 0 0 (MQ below (kQ (some (va_rf r))) args s 0 0 mNo) (F0 m 57 ls [va_rf s0]) := by
  intro s0 ls h hl
  unfold fk_11_sourceAt_57 at h
  cases h
  exact c_reta C rfl rfl dX11_sourceAt_57
noncomputable def fk_11_sourceAt (S : cSt) (v0 : Nat) (v1 : Nat) (v2 : Int32) (v3 : Int32) (v4 : Int32) : Option (Option Nat) :=
if v3 = (83 : Int32) then (
ckk S v1 11 (bd (kR S v1 0) fun a9 =>
ckk S a9 30 (ck v4 (kL S a9) (lt (kO S a9 (Int32.toNatClampNeg v4)) fun o10 =>
some o10))))
else (
if v3 = (65 : Int32) then (
fk_11_sourceAt_26 S v1 v4)
else (
if v3 = (77 : Int32) then (
fk_11_sourceAt_26 S v1 v4)
else (
if v3 = (84 : Int32) then (
ckk S v0 12 (bd (kR S v0 5) fun a6 =>
ckk S a6 10 (bd (kR S a6 0) fun a7 =>
ckk S a7 30 (ck v4 (kL S a7) (lt (kO S a7 (Int32.toNatClampNeg v4)) fun o8 =>
fk_11_sourceAt_57 S o8)))))
else (
ckk S v1 11 (bd (fk_10_lastGood S v1 v2) fun o5 =>
fk_11_sourceAt_57 S o5)))))
set_option maxRecDepth 100000 in
set_option maxHeartbeats 4000000 in
theorem tk_11_sourceAt (l : Launch) {D : cG} {S : cSt} {v0 : Nat} {v1 : Nat} {v2 : Int32} {v3 : Int32} {v4 : Int32} {r : Option Nat}  (h : fk_11_sourceAt S v0 v1 v2 v3 v4 = some r) : Met l yX11_sourceAt (Cond.code yX11_sourceAt cX11_sourceAt 5 (some (.object "AccordHouse$Row")) :: lw_g) { frames := 2, cells := 0, slots := 0, locals := 44 } (kPi [.ref v0, .ref v1, .int v2, .int v3, .int v4] D S) (kQ (some (va_rf r))) 0 0 (mNo) := by
  refine Met.ofW (cc := cX11_sourceAt) (maxL := 5) (ret := (some (.object "AccordHouse$Row"))) (by decide) rfl ?_
  intro p e s m args below meth c s₁ B hml hv
  obtain ⟨rfl, hW, X⟩ := hv
  have C : cY p (headSpec (Cond.code yX11_sourceAt cX11_sourceAt 5 (some (.object "AccordHouse$Row")) :: lw_g) { frames := 2, cells := 0, slots := 0, locals := 44 }).room s m _ meth c RX11 cX11_sourceAt 5 2 0 0 44 (some (.object "AccordHouse$Row")) := ⟨B.exec, B.bytes, hml, findClass_of_methodNamed B.named, fun w hw => atoms_spec (ws := Cond.code yX11_sourceAt cX11_sourceAt 5 (some (.object "AccordHouse$Row")) :: lw_g) B.pre w (List.mem_cons_of_mem _ hw), ⟨Nat.le_refl _, Nat.le_refl _, Nat.le_refl _, Nat.le_refl _⟩, B.returns, B.notSynchronized⟩
  have hl := lv_entry ([.ref v0, .ref v1, .int v2, .int v3, .int v4]) (n := 5) (Nat.le_of_ble_eq_true rfl)
  rw [lg_entry_eq]
  generalize (lg_sl ([.ref v0, .ref v1, .int v2, .int v3, .int v4]) ++ List.replicate (5 - (lg_sl ([.ref v0, .ref v1, .int v2, .int v3, .int v4])).length) Slot.unset).toArray = ls at hl ⊢
  have hl : lv_has ls 5 [(0, .ref v0), (1, .ref v1), (2, .int v2), (3, .int v3), (4, .int v4)] := hl
  unfold fk_11_sourceAt at h
  refine lv_iload_n C.1 C.2.1 dX11_sourceAt_0 rfl (lv_at hl 3 rfl) ?_
  refine lv_bipush (v := 83) C.1 C.2.1 dX11_sourceAt_1 (by decide) ?_
  refine lv_icmp_ne (tgt := 14) C.1 C.2.1 dX11_sourceAt_3 (by decide) (fun c1 => ?_) (fun c1 => ?_)
  · have h := if_f h c1
    refine lv_iload_n C.1 C.2.1 dX11_sourceAt_14 rfl (lv_at hl 3 rfl) ?_
    refine lv_bipush (v := 65) C.1 C.2.1 dX11_sourceAt_15 (by decide) ?_
    refine lv_icmp_eq (tgt := 26) C.1 C.2.1 dX11_sourceAt_17 (by decide) (fun c2 => ?_) (fun c2 => ?_)
    · have h := if_t h c2
      exact wk_11_sourceAt_26 C X hW h (lv_sub hl [1, 4] rfl)
    · have h := if_f h c2
      refine lv_iload_n C.1 C.2.1 dX11_sourceAt_20 rfl (lv_at hl 3 rfl) ?_
      refine lv_bipush (v := 77) C.1 C.2.1 dX11_sourceAt_21 (by decide) ?_
      refine lv_icmp_ne (tgt := 33) C.1 C.2.1 dX11_sourceAt_23 (by decide) (fun c3 => ?_) (fun c3 => ?_)
      · have h := if_f h c3
        refine lv_iload_n C.1 C.2.1 dX11_sourceAt_33 rfl (lv_at hl 3 rfl) ?_
        refine lv_bipush (v := 84) C.1 C.2.1 dX11_sourceAt_34 (by decide) ?_
        refine lv_icmp_ne (tgt := 52) C.1 C.2.1 dX11_sourceAt_36 (by decide) (fun c4 => ?_) (fun c4 => ?_)
        · have h := if_f h c4
          refine lv_aload_n C.1 C.2.1 dX11_sourceAt_52 rfl (lv_at hl 1 rfl) ?_
          refine lv_iload_n C.1 C.2.1 dX11_sourceAt_53 rfl (lv_at hl 2 rfl) ?_
          obtain ⟨hk, h⟩ := ckk_ok h
          obtain ⟨o5, h_o5, h⟩ := bd_ok h
          refine c_callR (rest := []) C X hW hl.1 10 (by decide) hk [.int v2] (tk_10_lastGood l h_o5) cw11_533 ki_10_lastGood kl_10_lastGood rfl ⟨by decide, by decide⟩ ⟨(by decide), (by decide)⟩ rfl (Nat.le_of_ble_eq_true rfl) dX11_sourceAt_54 ?_
          refine W.eq (g2 := F0 m 57 ls [va_rf o5]) rfl ?_
          exact wk_11_sourceAt_57 C X hW h (lv_sub hl [] rfl)
        · have h := if_t h c4
          refine lv_aload_n C.1 C.2.1 dX11_sourceAt_39 rfl (lv_at hl 0 rfl) ?_
          obtain ⟨hk, h⟩ := ckk_ok h
          obtain ⟨a6, h_a6, h⟩ := bd_ok h
          refine gk11_41 C X hW hk h_a6 dX11_sourceAt_40 ?_
          obtain ⟨hk, h⟩ := ckk_ok h
          obtain ⟨a7, h_a7, h⟩ := bd_ok h
          refine gk11_377 C X hW hk h_a7 dX11_sourceAt_43 ?_
          refine lv_iload C.1 C.2.1 dX11_sourceAt_46 (lv_at hl 4 rfl) ?_
          obtain ⟨hk, h⟩ := ckk_ok h
          obtain ⟨hin2, h⟩ := ck_ok h
          refine c_aald C 30 (by decide) X.2.2.2.2.1 hW hk hin2 dX11_sourceAt_48 ?_
          refine lt_ok h (fun o8 e_o8 h => ?_)
          refine lv_nmq e_o8 ?_
          refine lv_goto (tgt := 57) C.1 C.2.1 dX11_sourceAt_49 (by decide) ?_
          exact wk_11_sourceAt_57 C X hW h (lv_sub hl [] rfl)
      · have h := if_t h c3
        exact wk_11_sourceAt_26 C X hW h (lv_sub hl [1, 4] rfl)
  · have h := if_t h c1
    refine lv_aload_n C.1 C.2.1 dX11_sourceAt_6 rfl (lv_at hl 1 rfl) ?_
    obtain ⟨hk, h⟩ := ckk_ok h
    obtain ⟨a9, h_a9, h⟩ := bd_ok h
    refine gk11_527 C X hW hk h_a9 dX11_sourceAt_7 ?_
    refine lv_iload C.1 C.2.1 dX11_sourceAt_10 (lv_at hl 4 rfl) ?_
    obtain ⟨hk, h⟩ := ckk_ok h
    obtain ⟨hin2, h⟩ := ck_ok h
    refine c_aald C 30 (by decide) X.2.2.2.2.1 hW hk hin2 dX11_sourceAt_12 ?_
    refine lt_ok h (fun o10 e_o10 h => ?_)
    refine lv_nmq e_o10 ?_
    cases h
    exact c_reta C rfl rfl dX11_sourceAt_13
end
theorem dX11_by_0 : decode cX11_by 0 = .ok (.aload_n 0, 1) := by decide +kernel
theorem dX11_by_1 : decode cX11_by 1 = .ok (.iload_n 1, 1) := by decide +kernel
theorem dX11_by_2 : decode cX11_by 2 = .ok (.iload_n 2, 1) := by decide +kernel
theorem dX11_by_3 : decode cX11_by 3 = .ok (.invokevirtual 295, 3) := by decide +kernel
theorem dX11_by_6 : decode cX11_by 6 = .ok (.istore 5, 2) := by decide +kernel
theorem dX11_by_8 : decode cX11_by 8 = .ok (.aload_n 0, 1) := by decide +kernel
theorem dX11_by_9 : decode cX11_by 9 = .ok (.iload 5, 2) := by decide +kernel
theorem dX11_by_11 : decode cX11_by 11 = .ok (.iload_n 3, 1) := by decide +kernel
theorem dX11_by_12 : decode cX11_by 12 = .ok (.invokevirtual 316, 3) := by decide +kernel
theorem dX11_by_15 : decode cX11_by 15 = .ok (.istore 6, 2) := by decide +kernel
theorem dX11_by_17 : decode cX11_by 17 = .ok (.iload 6, 2) := by decide +kernel
theorem dX11_by_19 : decode cX11_by 19 = .ok (.bipush 32, 2) := by decide +kernel
theorem dX11_by_21 : decode cX11_by 21 = .ok (.if_icmp .eq 17, 3) := by decide +kernel
theorem dX11_by_24 : decode cX11_by 24 = .ok (.iload 6, 2) := by decide +kernel
theorem dX11_by_26 : decode cX11_by 26 = .ok (.bipush 67, 2) := by decide +kernel
theorem dX11_by_28 : decode cX11_by 28 = .ok (.if_icmp .eq 10, 3) := by decide +kernel
theorem dX11_by_31 : decode cX11_by 31 = .ok (.iload 6, 2) := by decide +kernel
theorem dX11_by_33 : decode cX11_by 33 = .ok (.bipush 66, 2) := by decide +kernel
theorem dX11_by_35 : decode cX11_by 35 = .ok (.if_icmp .ne 5, 3) := by decide +kernel
theorem dX11_by_38 : decode cX11_by 38 = .ok (.iconst (-1), 1) := by decide +kernel
theorem dX11_by_39 : decode cX11_by 39 = .ok (.ireturn, 1) := by decide +kernel
theorem dX11_by_40 : decode cX11_by 40 = .ok (.aload_n 0, 1) := by decide +kernel
theorem dX11_by_41 : decode cX11_by 41 = .ok (.getfield 25, 3) := by decide +kernel
theorem dX11_by_44 : decode cX11_by 44 = .ok (.iload_n 1, 1) := by decide +kernel
theorem dX11_by_45 : decode cX11_by 45 = .ok (.aaload, 1) := by decide +kernel
theorem dX11_by_46 : decode cX11_by 46 = .ok (.getfield 147, 3) := by decide +kernel
theorem dX11_by_49 : decode cX11_by 49 = .ok (.astore 7, 2) := by decide +kernel
theorem dX11_by_51 : decode cX11_by 51 = .ok (.iload 5, 2) := by decide +kernel
theorem dX11_by_53 : decode cX11_by 53 = .ok (.bipush 8, 2) := by decide +kernel
theorem dX11_by_55 : decode cX11_by 55 = .ok (.imul, 1) := by decide +kernel
theorem dX11_by_56 : decode cX11_by 56 = .ok (.iload_n 3, 1) := by decide +kernel
theorem dX11_by_57 : decode cX11_by 57 = .ok (.iadd, 1) := by decide +kernel
theorem dX11_by_58 : decode cX11_by 58 = .ok (.istore 8, 2) := by decide +kernel
theorem dX11_by_60 : decode cX11_by 60 = .ok (.iload 4, 2) := by decide +kernel
theorem dX11_by_62 : decode cX11_by 62 = .ok (.ifCond .lt 18, 3) := by decide +kernel
theorem dX11_by_65 : decode cX11_by 65 = .ok (.iload 4, 2) := by decide +kernel
theorem dX11_by_67 : decode cX11_by 67 = .ok (.aload_n 0, 1) := by decide +kernel
theorem dX11_by_68 : decode cX11_by 68 = .ok (.aload 7, 2) := by decide +kernel
theorem dX11_by_70 : decode cX11_by 70 = .ok (.iload 8, 2) := by decide +kernel
theorem dX11_by_72 : decode cX11_by 72 = .ok (.iload 6, 2) := by decide +kernel
theorem dX11_by_74 : decode cX11_by 74 = .ok (.invokevirtual 319, 3) := by decide +kernel
theorem dX11_by_77 : decode cX11_by 77 = .ok (.if_icmp .lt 5, 3) := by decide +kernel
theorem dX11_by_80 : decode cX11_by 80 = .ok (.iconst (-1), 1) := by decide +kernel
theorem dX11_by_81 : decode cX11_by 81 = .ok (.ireturn, 1) := by decide +kernel
theorem dX11_by_82 : decode cX11_by 82 = .ok (.aload_n 0, 1) := by decide +kernel
theorem dX11_by_83 : decode cX11_by 83 = .ok (.aload 7, 2) := by decide +kernel
theorem dX11_by_85 : decode cX11_by 85 = .ok (.iload 8, 2) := by decide +kernel
theorem dX11_by_87 : decode cX11_by 87 = .ok (.iload 6, 2) := by decide +kernel
theorem dX11_by_89 : decode cX11_by 89 = .ok (.iload 4, 2) := by decide +kernel
theorem dX11_by_91 : decode cX11_by 91 = .ok (.invokevirtual 336, 3) := by decide +kernel
theorem dX11_by_94 : decode cX11_by 94 = .ok (.astore 9, 2) := by decide +kernel
theorem dX11_by_96 : decode cX11_by 96 = .ok (.aload 9, 2) := by decide +kernel
theorem dX11_by_98 : decode cX11_by 98 = .ok (.ifnonnull 7, 3) := by decide +kernel
theorem dX11_by_101 : decode cX11_by 101 = .ok (.iconst 0, 1) := by decide +kernel
theorem dX11_by_102 : decode cX11_by 102 = .ok (.goto 8, 3) := by decide +kernel
theorem dX11_by_105 : decode cX11_by 105 = .ok (.aload 9, 2) := by decide +kernel
theorem dX11_by_107 : decode cX11_by 107 = .ok (.getfield 142, 3) := by decide +kernel
theorem dX11_by_110 : decode cX11_by 110 = .ok (.ireturn, 1) := by decide +kernel
theorem kd_11_by : Cond.code yX11_by cX11_by 10 (some .int) ∈ lw_g := mt_at 1478 (by decide +kernel) rfl
theorem ki_11_by : Cond.instanceMethod yX11_by ∈ lw_g := mt_at 1476 (by decide +kernel) rfl
theorem kl_11_by : Cond.selects (kRn 11) yX11_by yX11_by ∈ lw_g := mt_at 1477 (by decide +kernel) rfl
theorem cw11_336 : cCw RX11 336 yX11_sourceAt cX11_sourceAt 5 (some (.object "AccordHouse$Row")) 4 := ⟨kd_11_sourceAt, mt_at 1479 (by decide +kernel) rfl, mt_at 1 (by decide +kernel) rfl, by decide +kernel⟩
section
variable {p : Program} {l : Launch} {e : Env} {R : Room} {s : State} {m : MethodId} {args : Array Value} {below : List Frame} {meth : Method} {c : Code} {D : cG} {S0 S9 : cSt} {r : Int32}
noncomputable def fk_11_by_38 (S : cSt) : Option (Int32 × cSt) :=
some ((-1 : Int32), S)
set_option maxRecDepth 100000 in
set_option maxHeartbeats 4000000 in
theorem wk_11_by_38 (C : cY p R s m args meth c RX11 cX11_by 10 4 0 0 92 (some .int)) (X : cX D s) : ∀ {S : cSt} {H : Heap} {locs : List Loc} {ls : Array Slot}, fk_11_by_38 S = some (r, S9) → cJ D S0 s.heap S H locs → lv_has ls 10 [] → W p l e R s m args below meth c H locs 0 0 (MQ below (kW (some (.int r)) D S0 S9) args s 0 0 (cA S0)) (F0 m 38 ls []) := by
  intro S H locs ls h hJ hl
  unfold fk_11_by_38 at h
  refine lv_iconst (v := -1) C.1 C.2.1 dX11_by_38 (by decide) ?_
  cases h
  exact c_retiW C hJ dX11_by_39
noncomputable def fk_11_by_80 (S : cSt) : Option (Int32 × cSt) :=
some ((-1 : Int32), S)
set_option maxRecDepth 100000 in
set_option maxHeartbeats 4000000 in
theorem wk_11_by_80 (C : cY p R s m args meth c RX11 cX11_by 10 4 0 0 92 (some .int)) (X : cX D s) : ∀ {S : cSt} {H : Heap} {locs : List Loc} {ls : Array Slot}, fk_11_by_80 S = some (r, S9) → cJ D S0 s.heap S H locs → lv_has ls 10 [] → W p l e R s m args below meth c H locs 0 0 (MQ below (kW (some (.int r)) D S0 S9) args s 0 0 (cA S0)) (F0 m 80 ls []) := by
  intro S H locs ls h hJ hl
  unfold fk_11_by_80 at h
  refine lv_iconst (v := -1) C.1 C.2.1 dX11_by_80 (by decide) ?_
  cases h
  exact c_retiW C hJ dX11_by_81
noncomputable def fk_11_by_110 (S : cSt) (s0 : Int32) : Option (Int32 × cSt) :=
some (s0, S)
set_option maxRecDepth 100000 in
set_option maxHeartbeats 4000000 in
theorem wk_11_by_110 (C : cY p R s m args meth c RX11 cX11_by 10 4 0 0 92 (some .int)) (X : cX D s) : ∀ {S : cSt} {s0 : Int32} {H : Heap} {locs : List Loc} {ls : Array Slot}, fk_11_by_110 S s0 = some (r, S9) → cJ D S0 s.heap S H locs → lv_has ls 10 [] → W p l e R s m args below meth c H locs 0 0 (MQ below (kW (some (.int r)) D S0 S9) args s 0 0 (cA S0)) (F0 m 110 ls [.int s0]) := by
  intro S s0 H locs ls h hJ hl
  unfold fk_11_by_110 at h
  cases h
  exact c_retiW C hJ dX11_by_110
noncomputable def fk_11_by (S : cSt) (v0 : Nat) (v1 : Int32) (v2 : Int32) (v3 : Int32) (v4 : Int32) : Option (Int32 × cSt) :=
ckk S v0 12 (bd (fk_11_madeSlot S v0 v1 v2) fun r1 =>
ckk S v0 12 (bd (fk_11_ruleAt S v0 r1 v3) fun r2 =>
if r2 = (32 : Int32) then (
fk_11_by_38 S)
else (
if r2 = (67 : Int32) then (
fk_11_by_38 S)
else (
if r2 = (66 : Int32) then (
fk_11_by_38 S)
else (
ckk S v0 12 (bd (kR S v0 2) fun a6 =>
ckk S a6 31 (ck v1 (kL S a6) (lt (kO S a6 (Int32.toNatClampNeg v1)) fun o7 =>
bd o7 fun a8 =>
ckk S a8 8 (bd (kR S a8 2) fun a9 =>
lt ((r1 * (8 : Int32)) + v3) fun x10 =>
if v4 < 0 then (
fk_11_by_80 S)
else (
ckk S v0 12 (bd (fk_11_findValues S v0 a9 x10 r2) fun q_r13 => lt q_r13.1 fun r13 => lt q_r13.2 fun S12 =>
if v4 < r13 then (
ckk S12 v0 12 (bd (fk_11_sourceAt S12 v0 a9 x10 r2 v4) fun o15 =>
cs o15 (
fk_11_by_110 S12 (0 : Int32)) (fun a16 =>
ckk S12 a16 9 (
fk_11_by_110 S12 (kF S12 a16 11)))))
else (
fk_11_by_80 S12))))))))))))
set_option maxRecDepth 100000 in
set_option maxHeartbeats 4000000 in
theorem tk_11_by (l : Launch) {D : cG} {S : cSt} {v0 : Nat} {v1 : Int32} {v2 : Int32} {v3 : Int32} {v4 : Int32} {r : Int32} {S9 : cSt} (h : fk_11_by S v0 v1 v2 v3 v4 = some (r, S9)) : Met l yX11_by (Cond.code yX11_by cX11_by 10 (some .int) :: lw_g) { frames := 4, cells := 0, slots := 0, locals := 92 } (kPi [.ref v0, .int v1, .int v2, .int v3, .int v4] D S) (kW (some (.int r)) D S S9) 0 0 (cA S) := by
  refine Met.ofW (cc := cX11_by) (maxL := 10) (ret := (some .int)) (by decide) rfl ?_
  intro p e s m args below meth c s₁ B hml hv
  obtain ⟨rfl, hW, X⟩ := hv
  have C : cY p (headSpec (Cond.code yX11_by cX11_by 10 (some .int) :: lw_g) { frames := 4, cells := 0, slots := 0, locals := 92 }).room s m _ meth c RX11 cX11_by 10 4 0 0 92 (some .int) := ⟨B.exec, B.bytes, hml, findClass_of_methodNamed B.named, fun w hw => atoms_spec (ws := Cond.code yX11_by cX11_by 10 (some .int) :: lw_g) B.pre w (List.mem_cons_of_mem _ hw), ⟨Nat.le_refl _, Nat.le_refl _, Nat.le_refl _, Nat.le_refl _⟩, B.returns, B.notSynchronized⟩
  have hl := lv_entry ([.ref v0, .int v1, .int v2, .int v3, .int v4]) (n := 10) (Nat.le_of_ble_eq_true rfl)
  rw [lg_entry_eq]
  generalize (lg_sl ([.ref v0, .int v1, .int v2, .int v3, .int v4]) ++ List.replicate (10 - (lg_sl ([.ref v0, .int v1, .int v2, .int v3, .int v4])).length) Slot.unset).toArray = ls at hl ⊢
  have hl : lv_has ls 10 [(0, .ref v0), (1, .int v1), (2, .int v2), (3, .int v3), (4, .int v4)] := hl
  have hJ : cJ D S s.heap S s.heap [] := cJ.rf hW
  unfold fk_11_by at h
  refine lv_aload_n C.1 C.2.1 dX11_by_0 rfl (lv_at hl 0 rfl) ?_
  refine lv_iload_n C.1 C.2.1 dX11_by_1 rfl (lv_at hl 1 rfl) ?_
  refine lv_iload_n C.1 C.2.1 dX11_by_2 rfl (lv_at hl 2 rfl) ?_
  obtain ⟨hk, h⟩ := ckk_ok h
  obtain ⟨r1, h_r1, h⟩ := bd_ok h
  refine c_callR (rest := []) C X hJ.1 hl.1 11 (by decide) hk [.int v1, .int v2] (tk_11_madeSlot l h_r1) cw11_295 ki_11_madeSlot kl_11_madeSlot rfl ⟨by decide, by decide⟩ ⟨(by decide), (by decide)⟩ rfl (Nat.le_of_ble_eq_true rfl) dX11_by_3 ?_
  refine W.eq (g2 := F0 m 6 ls [.int r1]) rfl ?_
  refine lv_istore (lv' := [(5, .int r1), (0, .ref v0), (1, .int v1), (2, .int v2), (3, .int v3), (4, .int v4)]) C.1 C.2.1 dX11_by_6 hl (by decide) rfl (fun ls hl => ?_)
  refine lv_aload_n C.1 C.2.1 dX11_by_8 rfl (lv_at hl 1 rfl) ?_
  refine lv_iload C.1 C.2.1 dX11_by_9 (lv_at hl 0 rfl) ?_
  refine lv_iload_n C.1 C.2.1 dX11_by_11 rfl (lv_at hl 4 rfl) ?_
  obtain ⟨hk, h⟩ := ckk_ok h
  obtain ⟨r2, h_r2, h⟩ := bd_ok h
  refine c_callR (rest := []) C X hJ.1 hl.1 11 (by decide) hk [.int r1, .int v3] (tk_11_ruleAt l h_r2) cw11_316 ki_11_ruleAt kl_11_ruleAt rfl ⟨by decide, by decide⟩ ⟨(by decide), (by decide)⟩ rfl (Nat.le_of_ble_eq_true rfl) dX11_by_12 ?_
  refine W.eq (g2 := F0 m 15 ls [.int r2]) rfl ?_
  refine lv_istore (lv' := [(6, .int r2), (5, .int r1), (0, .ref v0), (1, .int v1), (2, .int v2), (3, .int v3), (4, .int v4)]) C.1 C.2.1 dX11_by_15 hl (by decide) rfl (fun ls hl => ?_)
  refine lv_iload C.1 C.2.1 dX11_by_17 (lv_at hl 0 rfl) ?_
  refine lv_bipush (v := 32) C.1 C.2.1 dX11_by_19 (by decide) ?_
  refine lv_icmp_eq (tgt := 38) C.1 C.2.1 dX11_by_21 (by decide) (fun c3 => ?_) (fun c3 => ?_)
  · have h := if_t h c3
    exact wk_11_by_38 C X h hJ (lv_sub hl [] rfl)
  · have h := if_f h c3
    refine lv_iload C.1 C.2.1 dX11_by_24 (lv_at hl 0 rfl) ?_
    refine lv_bipush (v := 67) C.1 C.2.1 dX11_by_26 (by decide) ?_
    refine lv_icmp_eq (tgt := 38) C.1 C.2.1 dX11_by_28 (by decide) (fun c4 => ?_) (fun c4 => ?_)
    · have h := if_t h c4
      exact wk_11_by_38 C X h hJ (lv_sub hl [] rfl)
    · have h := if_f h c4
      refine lv_iload C.1 C.2.1 dX11_by_31 (lv_at hl 0 rfl) ?_
      refine lv_bipush (v := 66) C.1 C.2.1 dX11_by_33 (by decide) ?_
      refine lv_icmp_ne (tgt := 40) C.1 C.2.1 dX11_by_35 (by decide) (fun c5 => ?_) (fun c5 => ?_)
      · have h := if_f h c5
        refine lv_aload_n C.1 C.2.1 dX11_by_40 rfl (lv_at hl 2 rfl) ?_
        obtain ⟨hk, h⟩ := ckk_ok h
        obtain ⟨a6, h_a6, h⟩ := bd_ok h
        refine gk11_25 C X hJ.1 hk h_a6 dX11_by_41 ?_
        refine lv_iload_n C.1 C.2.1 dX11_by_44 rfl (lv_at hl 3 rfl) ?_
        obtain ⟨hk, h⟩ := ckk_ok h
        obtain ⟨hin2, h⟩ := ck_ok h
        refine c_aald C 31 (by decide) X.2.2.2.2.2.1 hJ.1 hk hin2 dX11_by_45 ?_
        refine lt_ok h (fun o7 e_o7 h => ?_)
        refine lv_nmq e_o7 ?_
        obtain ⟨a8, e_a8, h⟩ := bd_ok h
        revert h; subst e_a8; intro h
        obtain ⟨hk, h⟩ := ckk_ok h
        obtain ⟨a9, h_a9, h⟩ := bd_ok h
        refine gk11_147 C X hJ.1 hk h_a9 dX11_by_46 ?_
        refine lv_astore (lv' := [(7, .ref a9), (6, .int r2), (5, .int r1), (0, .ref v0), (1, .int v1), (2, .int v2), (3, .int v3), (4, .int v4)]) C.1 C.2.1 dX11_by_49 hl (by decide) rfl (fun ls hl => ?_)
        refine lv_iload C.1 C.2.1 dX11_by_51 (lv_at hl 2 rfl) ?_
        refine lv_bipush (v := 8) C.1 C.2.1 dX11_by_53 (by decide) ?_
        refine lv_imul C.1 C.2.1 dX11_by_55 ?_
        refine lv_iload_n C.1 C.2.1 dX11_by_56 rfl (lv_at hl 6 rfl) ?_
        refine lv_iadd C.1 C.2.1 dX11_by_57 ?_
        refine lt_ok h (fun x10 e_x10 h => ?_)
        refine lv_nm e_x10 ?_
        refine lv_istore (lv' := [(8, .int x10), (7, .ref a9), (6, .int r2), (5, .int r1), (0, .ref v0), (1, .int v1), (2, .int v2), (3, .int v3), (4, .int v4)]) C.1 C.2.1 dX11_by_58 hl (by decide) rfl (fun ls hl => ?_)
        refine lv_iload C.1 C.2.1 dX11_by_60 (lv_at hl 8 rfl) ?_
        refine lv_if_lt (tgt := 80) C.1 C.2.1 dX11_by_62 (by decide) (fun c11 => ?_) (fun c11 => ?_)
        · have h := if_t h c11
          exact wk_11_by_80 C X h hJ (lv_sub hl [] rfl)
        · have h := if_f h c11
          refine lv_iload C.1 C.2.1 dX11_by_65 (lv_at hl 8 rfl) ?_
          refine lv_aload_n C.1 C.2.1 dX11_by_67 rfl (lv_at hl 4 rfl) ?_
          refine lv_aload C.1 C.2.1 dX11_by_68 (lv_at hl 1 rfl) ?_
          refine lv_iload C.1 C.2.1 dX11_by_70 (lv_at hl 0 rfl) ?_
          refine lv_iload C.1 C.2.1 dX11_by_72 (lv_at hl 2 rfl) ?_
          obtain ⟨hk, h⟩ := ckk_ok h
          obtain ⟨⟨r13, S12⟩, h_S12, h⟩ := bd_ok h
          replace h := lt2_ok h
          refine c_callW (rest := [.int v4]) C X hJ hl.1 11 (by decide) hk [.ref a9, .int x10, .int r2] (tk_11_findValues l h_S12) cw11_319 ki_11_findValues kl_11_findValues rfl ⟨by decide, by decide⟩ ⟨(by decide), (by decide)⟩ rfl (Nat.le_of_ble_eq_true rfl) dX11_by_74 (fun H locs hJ => ?_)
          refine W.eq (g2 := F0 m 77 ls [.int r13, .int v4]) rfl ?_
          refine lv_icmp_lt (tgt := 82) C.1 C.2.1 dX11_by_77 (by decide) (fun c14 => ?_) (fun c14 => ?_)
          · have h := if_t h c14
            refine lv_aload_n C.1 C.2.1 dX11_by_82 rfl (lv_at hl 4 rfl) ?_
            refine lv_aload C.1 C.2.1 dX11_by_83 (lv_at hl 1 rfl) ?_
            refine lv_iload C.1 C.2.1 dX11_by_85 (lv_at hl 0 rfl) ?_
            refine lv_iload C.1 C.2.1 dX11_by_87 (lv_at hl 2 rfl) ?_
            refine lv_iload C.1 C.2.1 dX11_by_89 (lv_at hl 8 rfl) ?_
            obtain ⟨hk, h⟩ := ckk_ok h
            obtain ⟨o15, h_o15, h⟩ := bd_ok h
            refine c_callR (rest := []) C X hJ.1 hl.1 11 (by decide) hk [.ref a9, .int x10, .int r2, .int v4] (tk_11_sourceAt l h_o15) cw11_336 ki_11_sourceAt kl_11_sourceAt rfl ⟨by decide, by decide⟩ ⟨(by decide), (by decide)⟩ rfl (Nat.le_of_ble_eq_true rfl) dX11_by_91 ?_
            refine W.eq (g2 := F0 m 94 ls [va_rf o15]) rfl ?_
            refine lv_astoreq (o := o15) (lv' := [(9, va_rf o15), (8, .int x10), (7, .ref a9), (6, .int r2), (5, .int r1), (0, .ref v0), (1, .int v1), (2, .int v2), (3, .int v3), (4, .int v4)]) C.1 C.2.1 dX11_by_94 hl (by decide) rfl (fun ls hl => ?_)
            refine lv_aloadq (o := o15) C.1 C.2.1 dX11_by_96 (lv_at hl 0 rfl) ?_
            rcases o15 with _ | a16
            · replace h := cs_n h
              refine lv_ifnonnullN C.1 C.2.1 dX11_by_98 ?_
              refine lv_iconst (v := 0) C.1 C.2.1 dX11_by_101 (by decide) ?_
              refine lv_goto (tgt := 110) C.1 C.2.1 dX11_by_102 (by decide) ?_
              exact wk_11_by_110 C X h hJ (lv_sub hl [] rfl)
            · replace h := cs_s h
              refine lv_ifnonnull (tgt := 105) C.1 C.2.1 dX11_by_98 (by decide) ?_
              refine lv_aload C.1 C.2.1 dX11_by_105 (lv_at hl 0 rfl) ?_
              obtain ⟨hk, h⟩ := ckk_ok h
              refine gk11_142 C X hJ.1 hk dX11_by_107 ?_
              exact wk_11_by_110 C X h hJ (lv_sub hl [] rfl)
          · have h := if_f h c14
            exact wk_11_by_80 C X h hJ (lv_sub hl [] rfl)
      · have h := if_t h c5
        exact wk_11_by_38 C X h hJ (lv_sub hl [] rfl)
end
theorem dX11_list_0 : decode cX11_list 0 = .ok (.iload_n 1, 1) := by decide +kernel
theorem dX11_list_1 : decode cX11_list 1 = .ok (.invokestatic 112, 3) := by decide +kernel
theorem dX11_list_4 : decode cX11_list 4 = .ok (.ifCond .eq 7, 3) := by decide +kernel
theorem dX11_list_7 : decode cX11_list 7 = .ok (.iload_n 2, 1) := by decide +kernel
theorem dX11_list_8 : decode cX11_list 8 = .ok (.ifCond .ge 5, 3) := by decide +kernel
theorem dX11_list_11 : decode cX11_list 11 = .ok (.iconst (-1), 1) := by decide +kernel
theorem dX11_list_12 : decode cX11_list 12 = .ok (.ireturn, 1) := by decide +kernel
theorem dX11_list_13 : decode cX11_list 13 = .ok (.iconst 0, 1) := by decide +kernel
theorem dX11_list_14 : decode cX11_list 14 = .ok (.istore_n 3, 1) := by decide +kernel
theorem dX11_list_15 : decode cX11_list 15 = .ok (.iconst 0, 1) := by decide +kernel
theorem dX11_list_16 : decode cX11_list 16 = .ok (.istore 4, 2) := by decide +kernel
theorem dX11_list_18 : decode cX11_list 18 = .ok (.iload 4, 2) := by decide +kernel
theorem dX11_list_20 : decode cX11_list 20 = .ok (.bipush 48, 2) := by decide +kernel
theorem dX11_list_22 : decode cX11_list 22 = .ok (.if_icmp .ge 44, 3) := by decide +kernel
theorem dX11_list_25 : decode cX11_list 25 = .ok (.aload_n 0, 1) := by decide +kernel
theorem dX11_list_26 : decode cX11_list 26 = .ok (.getfield 25, 3) := by decide +kernel
theorem dX11_list_29 : decode cX11_list 29 = .ok (.iload_n 1, 1) := by decide +kernel
theorem dX11_list_30 : decode cX11_list 30 = .ok (.aaload, 1) := by decide +kernel
theorem dX11_list_31 : decode cX11_list 31 = .ok (.getfield 147, 3) := by decide +kernel
theorem dX11_list_34 : decode cX11_list 34 = .ok (.iload 4, 2) := by decide +kernel
theorem dX11_list_36 : decode cX11_list 36 = .ok (.invokevirtual 298, 3) := by decide +kernel
theorem dX11_list_39 : decode cX11_list 39 = .ok (.ifCond .eq 21, 3) := by decide +kernel
theorem dX11_list_42 : decode cX11_list 42 = .ok (.iload_n 3, 1) := by decide +kernel
theorem dX11_list_43 : decode cX11_list 43 = .ok (.iload_n 2, 1) := by decide +kernel
theorem dX11_list_44 : decode cX11_list 44 = .ok (.if_icmp .ne 13, 3) := by decide +kernel
theorem dX11_list_47 : decode cX11_list 47 = .ok (.aload_n 0, 1) := by decide +kernel
theorem dX11_list_48 : decode cX11_list 48 = .ok (.getfield 19, 3) := by decide +kernel
theorem dX11_list_51 : decode cX11_list 51 = .ok (.iload 4, 2) := by decide +kernel
theorem dX11_list_53 : decode cX11_list 53 = .ok (.invokevirtual 201, 3) := by decide +kernel
theorem dX11_list_56 : decode cX11_list 56 = .ok (.ireturn, 1) := by decide +kernel
theorem dX11_list_57 : decode cX11_list 57 = .ok (.iinc 3 1, 3) := by decide +kernel
theorem dX11_list_60 : decode cX11_list 60 = .ok (.iinc 4 1, 3) := by decide +kernel
theorem dX11_list_63 : decode cX11_list 63 = .ok (.goto (-45), 3) := by decide +kernel
theorem dX11_list_66 : decode cX11_list 66 = .ok (.iconst (-1), 1) := by decide +kernel
theorem dX11_list_67 : decode cX11_list 67 = .ok (.ireturn, 1) := by decide +kernel
theorem kd_11_list : Cond.code yX11_list cX11_list 5 (some .int) ∈ lw_g := mt_at 1491 (by decide +kernel) rfl
theorem ki_11_list : Cond.instanceMethod yX11_list ∈ lw_g := mt_at 1489 (by decide +kernel) rfl
theorem kl_11_list : Cond.selects (kRn 11) yX11_list yX11_list ∈ lw_g := mt_at 1490 (by decide +kernel) rfl
section
variable {p : Program} {l : Launch} {e : Env} {R : Room} {s : State} {m : MethodId} {args : Array Value} {below : List Frame} {meth : Method} {c : Code} {D : cG} {S : cSt} {r : Int32}
noncomputable def fk_11_list_11 (S : cSt) : Option (Int32) :=
some (-1 : Int32)
set_option maxRecDepth 100000 in
set_option maxHeartbeats 4000000 in
theorem wk_11_list_11 (C : cY p R s m args meth c RX11 cX11_list 5 3 0 0 65 (some .int)) (X : cX D s) (hW : cW D S s.heap) : ∀ {ls : Array Slot}, fk_11_list_11 S = some r → lv_has ls 5 [] → W p l e R s m args below meth c s.heap [] 0 0 (MQ below (kQ (some (.int r))) args s 0 0 mNo) (F0 m 11 ls []) := by
  intro ls h hl
  unfold fk_11_list_11 at h
  refine lv_iconst (v := -1) C.1 C.2.1 dX11_list_11 (by decide) ?_
  cases h
  exact c_reti C rfl rfl dX11_list_12
noncomputable def fk_11_list_60 (g_18 : Nat → Int32 → Int32 → Int32 → Int32 → Option (Int32)) (S : cSt) (v0 : Nat) (v1 : Int32) (v2 : Int32) (v3 : Int32) (v4 : Int32) : Option (Int32) :=
lt (v4 + (1 : Int32)) fun x1 =>
g_18 v0 v1 v2 v3 x1
set_option maxRecDepth 100000 in
set_option maxHeartbeats 4000000 in
theorem wk_11_list_60 (C : cY p R s m args meth c RX11 cX11_list 5 3 0 0 65 (some .int)) (X : cX D s) (hW : cW D S s.heap) {g_18 : Nat → Int32 → Int32 → Int32 → Int32 → Option (Int32)} (hg_18 : ∀ {v0 : Nat} {v1 : Int32} {v2 : Int32} {v3 : Int32} {v4 : Int32} {ls : Array Slot}, g_18 v0 v1 v2 v3 v4 = some r → lv_has ls 5 [(0, .ref v0), (1, .int v1), (2, .int v2), (3, .int v3), (4, .int v4)] → W p l e R s m args below meth c s.heap [] 0 0 (MQ below (kQ (some (.int r))) args s 0 0 mNo) (F0 m 18 ls [])) : ∀ {v0 : Nat} {v1 : Int32} {v2 : Int32} {v3 : Int32} {v4 : Int32} {ls : Array Slot}, fk_11_list_60 g_18 S v0 v1 v2 v3 v4 = some r → lv_has ls 5 [(0, .ref v0), (1, .int v1), (2, .int v2), (3, .int v3), (4, .int v4)] → W p l e R s m args below meth c s.heap [] 0 0 (MQ below (kQ (some (.int r))) args s 0 0 mNo) (F0 m 60 ls []) := by
  intro v0 v1 v2 v3 v4 ls h hl
  unfold fk_11_list_60 at h
  refine lt_ok h (fun x1 e_x1 h => ?_)
  refine lv_iinc (v := x1) (lv' := [(4, .int x1), (0, .ref v0), (1, .int v1), (2, .int v2), (3, .int v3)]) C.1 C.2.1 dX11_list_60 hl (k := 4) rfl (by rw [← e_x1]; rfl) (by decide) rfl (fun ls hl => ?_)
  refine lv_goto (tgt := 18) C.1 C.2.1 dX11_list_63 (by decide) ?_
  exact hg_18 h (lv_sub hl [1, 2, 3, 4, 0] rfl)
noncomputable def fk_11_list_18 (S : cSt) : Nat → Nat → Int32 → Int32 → Int32 → Int32 → Option (Int32)
  | 0, _, _, _, _, _ => none
  | n + 1, v0, v1, v2, v3, v4 =>
    if (48 : Int32) ≤ v4 then (
    some (-1 : Int32))
    else (
    ckk S v0 12 (bd (kR S v0 2) fun a2 =>
    ckk S a2 31 (ck v1 (kL S a2) (lt (kO S a2 (Int32.toNatClampNeg v1)) fun o3 =>
    bd o3 fun a4 =>
    ckk S a4 8 (bd (kR S a4 2) fun a5 =>
    ckk S a5 11 (bd (fk_10_isThere S a5 v4) fun r6 =>
    if r6 = 0 then (
    fk_11_list_60 (fk_11_list_18 S n) S v0 v1 v2 v3 v4)
    else (
    if v3 = v2 then (
    ckk S v0 12 (bd (kR S v0 1) fun a10 =>
    ckk S a10 1 (bd (fk_0_nameOf S a10 v4) fun r11 =>
    some r11)))
    else (
    lt (v3 + (1 : Int32)) fun x9 =>
    fk_11_list_60 (fk_11_list_18 S n) S v0 v1 v2 x9 v4))))))))
set_option maxRecDepth 100000 in
set_option maxHeartbeats 4000000 in
theorem wk_11_list_18 (C : cY p R s m args meth c RX11 cX11_list 5 3 0 0 65 (some .int)) (X : cX D s) (hW : cW D S s.heap) : ∀ (n : Nat), ∀ {v0 : Nat} {v1 : Int32} {v2 : Int32} {v3 : Int32} {v4 : Int32} {ls : Array Slot}, fk_11_list_18 S n v0 v1 v2 v3 v4 = some r → lv_has ls 5 [(0, .ref v0), (1, .int v1), (2, .int v2), (3, .int v3), (4, .int v4)] → W p l e R s m args below meth c s.heap [] 0 0 (MQ below (kQ (some (.int r))) args s 0 0 mNo) (F0 m 18 ls []) := by
  intro n
  induction n with
  | zero =>
    intro v0 v1 v2 v3 v4 ls h hl
    exact absurd (show (none : Option (Int32)) = _ from h) (fun q => by cases q)
  | succ n ih =>
    intro v0 v1 v2 v3 v4 ls h hl
    rw [fk_11_list_18] at h
    refine lv_iload C.1 C.2.1 dX11_list_18 (lv_at hl 4 rfl) ?_
    refine lv_bipush (v := 48) C.1 C.2.1 dX11_list_20 (by decide) ?_
    refine lv_icmp_ge (tgt := 66) C.1 C.2.1 dX11_list_22 (by decide) (fun c1 => ?_) (fun c1 => ?_)
    · have h := if_t h c1
      refine lv_iconst (v := -1) C.1 C.2.1 dX11_list_66 (by decide) ?_
      cases h
      exact c_reti C rfl rfl dX11_list_67
    · have h := if_f h c1
      refine lv_aload_n C.1 C.2.1 dX11_list_25 rfl (lv_at hl 0 rfl) ?_
      obtain ⟨hk, h⟩ := ckk_ok h
      obtain ⟨a2, h_a2, h⟩ := bd_ok h
      refine gk11_25 C X hW hk h_a2 dX11_list_26 ?_
      refine lv_iload_n C.1 C.2.1 dX11_list_29 rfl (lv_at hl 1 rfl) ?_
      obtain ⟨hk, h⟩ := ckk_ok h
      obtain ⟨hin2, h⟩ := ck_ok h
      refine c_aald C 31 (by decide) X.2.2.2.2.2.1 hW hk hin2 dX11_list_30 ?_
      refine lt_ok h (fun o3 e_o3 h => ?_)
      refine lv_nmq e_o3 ?_
      obtain ⟨a4, e_a4, h⟩ := bd_ok h
      revert h; subst e_a4; intro h
      obtain ⟨hk, h⟩ := ckk_ok h
      obtain ⟨a5, h_a5, h⟩ := bd_ok h
      refine gk11_147 C X hW hk h_a5 dX11_list_31 ?_
      refine lv_iload C.1 C.2.1 dX11_list_34 (lv_at hl 4 rfl) ?_
      obtain ⟨hk, h⟩ := ckk_ok h
      obtain ⟨r6, h_r6, h⟩ := bd_ok h
      refine c_callR (rest := []) C X hW hl.1 10 (by decide) hk [.int v4] (tk_10_isThere l h_r6) cw11_298 ki_10_isThere kl_10_isThere rfl ⟨by decide, by decide⟩ ⟨(by decide), (by decide)⟩ rfl (Nat.le_of_ble_eq_true rfl) dX11_list_36 ?_
      refine W.eq (g2 := F0 m 39 ls [.int r6]) rfl ?_
      refine lv_if_eq (tgt := 60) C.1 C.2.1 dX11_list_39 (by decide) (fun c7 => ?_) (fun c7 => ?_)
      · have h := if_t h c7
        exact wk_11_list_60 C X hW ih h (lv_sub hl [0, 1, 2, 3, 4] rfl)
      · have h := if_f h c7
        refine lv_iload_n C.1 C.2.1 dX11_list_42 rfl (lv_at hl 3 rfl) ?_
        refine lv_iload_n C.1 C.2.1 dX11_list_43 rfl (lv_at hl 2 rfl) ?_
        refine lv_icmp_ne (tgt := 57) C.1 C.2.1 dX11_list_44 (by decide) (fun c8 => ?_) (fun c8 => ?_)
        · have h := if_f h c8
          refine lt_ok h (fun x9 e_x9 h => ?_)
          refine lv_iinc (v := x9) (lv' := [(3, .int x9), (0, .ref v0), (1, .int v1), (2, .int v2), (4, .int v4)]) C.1 C.2.1 dX11_list_57 hl (k := 3) rfl (by rw [← e_x9]; rfl) (by decide) rfl (fun ls hl => ?_)
          exact wk_11_list_60 C X hW ih h (lv_sub hl [1, 2, 3, 0, 4] rfl)
        · have h := if_t h c8
          refine lv_aload_n C.1 C.2.1 dX11_list_47 rfl (lv_at hl 0 rfl) ?_
          obtain ⟨hk, h⟩ := ckk_ok h
          obtain ⟨a10, h_a10, h⟩ := bd_ok h
          refine gk11_19 C X hW hk h_a10 dX11_list_48 ?_
          refine lv_iload C.1 C.2.1 dX11_list_51 (lv_at hl 4 rfl) ?_
          obtain ⟨hk, h⟩ := ckk_ok h
          obtain ⟨r11, h_r11, h⟩ := bd_ok h
          refine c_callR (rest := []) C X hW hl.1 0 (by decide) hk [.int v4] (tk_0_nameOf l h_r11) cw11_201 ki_0_nameOf kl_0_nameOf rfl ⟨by decide, by decide⟩ ⟨(by decide), (by decide)⟩ rfl (Nat.le_of_ble_eq_true rfl) dX11_list_53 ?_
          refine W.eq (g2 := F0 m 56 ls [.int r11]) rfl ?_
          cases h
          exact c_reti C rfl rfl dX11_list_56
noncomputable def fk_11_list (S : cSt) (v0 : Nat) (v1 : Int32) (v2 : Int32) : Option (Int32) :=
bd (fk_11_isNode v1) fun r1 =>
if r1 = 0 then (
fk_11_list_11 S)
else (
if 0 ≤ v2 then (
fk_11_list_18 S mFU v0 v1 v2 (0 : Int32) (0 : Int32))
else (
fk_11_list_11 S))
set_option maxRecDepth 100000 in
set_option maxHeartbeats 4000000 in
theorem tk_11_list (l : Launch) {D : cG} {S : cSt} {v0 : Nat} {v1 : Int32} {v2 : Int32} {r : Int32}  (h : fk_11_list S v0 v1 v2 = some r) : Met l yX11_list (Cond.code yX11_list cX11_list 5 (some .int) :: lw_g) { frames := 3, cells := 0, slots := 0, locals := 65 } (kPi [.ref v0, .int v1, .int v2] D S) (kQ (some (.int r))) 0 0 (mNo) := by
  refine Met.ofW (cc := cX11_list) (maxL := 5) (ret := (some .int)) (by decide) rfl ?_
  intro p e s m args below meth c s₁ B hml hv
  obtain ⟨rfl, hW, X⟩ := hv
  have C : cY p (headSpec (Cond.code yX11_list cX11_list 5 (some .int) :: lw_g) { frames := 3, cells := 0, slots := 0, locals := 65 }).room s m _ meth c RX11 cX11_list 5 3 0 0 65 (some .int) := ⟨B.exec, B.bytes, hml, findClass_of_methodNamed B.named, fun w hw => atoms_spec (ws := Cond.code yX11_list cX11_list 5 (some .int) :: lw_g) B.pre w (List.mem_cons_of_mem _ hw), ⟨Nat.le_refl _, Nat.le_refl _, Nat.le_refl _, Nat.le_refl _⟩, B.returns, B.notSynchronized⟩
  have hl := lv_entry ([.ref v0, .int v1, .int v2]) (n := 5) (Nat.le_of_ble_eq_true rfl)
  rw [lg_entry_eq]
  generalize (lg_sl ([.ref v0, .int v1, .int v2]) ++ List.replicate (5 - (lg_sl ([.ref v0, .int v1, .int v2])).length) Slot.unset).toArray = ls at hl ⊢
  have hl : lv_has ls 5 [(0, .ref v0), (1, .int v1), (2, .int v2)] := hl
  unfold fk_11_list at h
  refine lv_iload_n C.1 C.2.1 dX11_list_0 rfl (lv_at hl 1 rfl) ?_
  obtain ⟨r1, h_r1, h⟩ := bd_ok h
  refine c_callS (rest := []) C hl.1 [.int v1] (tk_11_isNode l h_r1) cw11_112 ks_11_isNode rfl ⟨by decide, by decide⟩ ⟨(by decide), (by decide)⟩ rfl (Nat.le_of_ble_eq_true rfl) dX11_list_1 ?_
  refine W.eq (g2 := F0 m 4 ls [.int r1]) rfl ?_
  refine lv_if_eq (tgt := 11) C.1 C.2.1 dX11_list_4 (by decide) (fun c2 => ?_) (fun c2 => ?_)
  · have h := if_t h c2
    exact wk_11_list_11 C X hW h (lv_sub hl [] rfl)
  · have h := if_f h c2
    refine lv_iload_n C.1 C.2.1 dX11_list_7 rfl (lv_at hl 2 rfl) ?_
    refine lv_if_ge (tgt := 13) C.1 C.2.1 dX11_list_8 (by decide) (fun c3 => ?_) (fun c3 => ?_)
    · have h := if_t h c3
      refine lv_iconst (v := 0) C.1 C.2.1 dX11_list_13 (by decide) ?_
      refine lv_istore_n (lv' := [(3, .int (0 : Int32)), (0, .ref v0), (1, .int v1), (2, .int v2)]) C.1 C.2.1 dX11_list_14 rfl hl (by decide) rfl (fun ls hl => ?_)
      refine lv_iconst (v := 0) C.1 C.2.1 dX11_list_15 (by decide) ?_
      refine lv_istore (lv' := [(4, .int (0 : Int32)), (3, .int (0 : Int32)), (0, .ref v0), (1, .int v1), (2, .int v2)]) C.1 C.2.1 dX11_list_16 hl (by decide) rfl (fun ls hl => ?_)
      exact wk_11_list_18 C X hW mFU h (lv_sub hl [2, 3, 4, 1, 0] rfl)
    · have h := if_f h c3
      exact wk_11_list_11 C X hW h (lv_sub hl [] rfl)
end
