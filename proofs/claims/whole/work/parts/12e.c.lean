-- made by wip/whole/gen12.py: 7_turnsLists, 10_isApplied, 10_isMade, 10_isGood, 10_lastGood, 10_isThere, 10_latestOf, 7_listsWith, 107_fill_53178, 10_raise, 10_gatherKnown, 10_findSeveral, 10_sumOf, 10_findShares
theorem dX7_turnsLists_0 : decode cX7_turnsLists 0 = .ok (.iload_n 0, 1) := by decide +kernel
theorem dX7_turnsLists_1 : decode cX7_turnsLists 1 = .ok (.ifCond .eq 14, 3) := by decide +kernel
theorem dX7_turnsLists_4 : decode cX7_turnsLists 4 = .ok (.iload_n 0, 1) := by decide +kernel
theorem dX7_turnsLists_5 : decode cX7_turnsLists 5 = .ok (.iconst 1, 1) := by decide +kernel
theorem dX7_turnsLists_6 : decode cX7_turnsLists 6 = .ok (.if_icmp .eq 9, 3) := by decide +kernel
theorem dX7_turnsLists_9 : decode cX7_turnsLists 9 = .ok (.iload_n 0, 1) := by decide +kernel
theorem dX7_turnsLists_10 : decode cX7_turnsLists 10 = .ok (.bipush 12, 2) := by decide +kernel
theorem dX7_turnsLists_12 : decode cX7_turnsLists 12 = .ok (.if_icmp .ne 7, 3) := by decide +kernel
theorem dX7_turnsLists_15 : decode cX7_turnsLists 15 = .ok (.iconst 1, 1) := by decide +kernel
theorem dX7_turnsLists_16 : decode cX7_turnsLists 16 = .ok (.goto 4, 3) := by decide +kernel
theorem dX7_turnsLists_19 : decode cX7_turnsLists 19 = .ok (.iconst 0, 1) := by decide +kernel
theorem dX7_turnsLists_20 : decode cX7_turnsLists 20 = .ok (.ireturn, 1) := by decide +kernel
theorem kd_7_turnsLists : Cond.code yX7_turnsLists cX7_turnsLists 1 (some .boolean) ∈ lw_g := mt_at 1077 (by decide +kernel) rfl
theorem ks_7_turnsLists : Cond.static yX7_turnsLists ∈ lw_g := mt_at 1076 (by decide +kernel) rfl
section
variable {p : Program} {l : Launch} {e : Env} {R : Room} {s : State} {m : MethodId} {args : Array Value} {below : List Frame} {meth : Method} {c : Code} {D : cG} {r : Int32}
noncomputable def fk_7_turnsLists_20 (s0 : Int32) : Option (Int32) :=
ckz s0 (some s0)
set_option maxRecDepth 100000 in
set_option maxHeartbeats 4000000 in
theorem wk_7_turnsLists_20 (C : cY p R s m args meth c RX7 cX7_turnsLists 1 0 0 0 0 (some .boolean)) : ∀ {s0 : Int32} {ls : Array Slot}, fk_7_turnsLists_20 s0 = some r → lv_has ls 1 [] → W p l e R s m args below meth c s.heap [] 0 0 (MQ below (kQ (some (.int r))) args s 0 0 mNo) (F0 m 20 ls [.int s0]) := by
  intro s0 ls h hl
  unfold fk_7_turnsLists_20 at h
  obtain ⟨hzo, h⟩ := ckz_ok h
  cases h
  exact c_retn C (by rcases hzo with h9 | h9 <;> (rw [h9]; rfl)) rfl rfl dX7_turnsLists_20
noncomputable def fk_7_turnsLists_15 : Option (Int32) :=
fk_7_turnsLists_20 (1 : Int32)
set_option maxRecDepth 100000 in
set_option maxHeartbeats 4000000 in
theorem wk_7_turnsLists_15 (C : cY p R s m args meth c RX7 cX7_turnsLists 1 0 0 0 0 (some .boolean)) : ∀ {ls : Array Slot}, fk_7_turnsLists_15 = some r → lv_has ls 1 [] → W p l e R s m args below meth c s.heap [] 0 0 (MQ below (kQ (some (.int r))) args s 0 0 mNo) (F0 m 15 ls []) := by
  intro ls h hl
  unfold fk_7_turnsLists_15 at h
  refine lv_iconst (v := 1) C.1 C.2.1 dX7_turnsLists_15 (by decide) ?_
  refine lv_goto (tgt := 20) C.1 C.2.1 dX7_turnsLists_16 (by decide) ?_
  exact wk_7_turnsLists_20 C h (lv_sub hl [] rfl)
noncomputable def fk_7_turnsLists (v0 : Int32) : Option (Int32) :=
if v0 = 0 then (
fk_7_turnsLists_15)
else (
if v0 = (1 : Int32) then (
fk_7_turnsLists_15)
else (
if v0 = (12 : Int32) then (
fk_7_turnsLists_15)
else (
fk_7_turnsLists_20 (0 : Int32))))
set_option maxRecDepth 100000 in
set_option maxHeartbeats 4000000 in
theorem tk_7_turnsLists (l : Launch) {v0 : Int32} {r : Int32}  (h : fk_7_turnsLists v0 = some r) : Met l yX7_turnsLists (Cond.code yX7_turnsLists cX7_turnsLists 1 (some .boolean) :: lw_g) { frames := 0, cells := 0, slots := 0, locals := 0 } (mPs [.int v0]) (kQ (some (.int r))) 0 0 (mNo) := by
  refine Met.ofW (cc := cX7_turnsLists) (maxL := 1) (ret := (some .boolean)) (by decide) rfl ?_
  intro p e s m args below meth c s₁ B hml hv
  obtain rfl := hv
  have C : cY p (headSpec (Cond.code yX7_turnsLists cX7_turnsLists 1 (some .boolean) :: lw_g) { frames := 0, cells := 0, slots := 0, locals := 0 }).room s m _ meth c RX7 cX7_turnsLists 1 0 0 0 0 (some .boolean) := ⟨B.exec, B.bytes, hml, findClass_of_methodNamed B.named, fun w hw => atoms_spec (ws := Cond.code yX7_turnsLists cX7_turnsLists 1 (some .boolean) :: lw_g) B.pre w (List.mem_cons_of_mem _ hw), ⟨Nat.le_refl _, Nat.le_refl _, Nat.le_refl _, Nat.le_refl _⟩, B.returns, B.notSynchronized⟩
  have hl := lv_entry ([.int v0]) (n := 1) (Nat.le_of_ble_eq_true rfl)
  rw [lg_entry_eq]
  generalize (lg_sl ([.int v0]) ++ List.replicate (1 - (lg_sl ([.int v0])).length) Slot.unset).toArray = ls at hl ⊢
  have hl : lv_has ls 1 [(0, .int v0)] := hl
  unfold fk_7_turnsLists at h
  refine lv_iload_n C.1 C.2.1 dX7_turnsLists_0 rfl (lv_at hl 0 rfl) ?_
  refine lv_if_eq (tgt := 15) C.1 C.2.1 dX7_turnsLists_1 (by decide) (fun c1 => ?_) (fun c1 => ?_)
  · have h := if_t h c1
    exact wk_7_turnsLists_15 C h (lv_sub hl [] rfl)
  · have h := if_f h c1
    refine lv_iload_n C.1 C.2.1 dX7_turnsLists_4 rfl (lv_at hl 0 rfl) ?_
    refine lv_iconst (v := 1) C.1 C.2.1 dX7_turnsLists_5 (by decide) ?_
    refine lv_icmp_eq (tgt := 15) C.1 C.2.1 dX7_turnsLists_6 (by decide) (fun c2 => ?_) (fun c2 => ?_)
    · have h := if_t h c2
      exact wk_7_turnsLists_15 C h (lv_sub hl [] rfl)
    · have h := if_f h c2
      refine lv_iload_n C.1 C.2.1 dX7_turnsLists_9 rfl (lv_at hl 0 rfl) ?_
      refine lv_bipush (v := 12) C.1 C.2.1 dX7_turnsLists_10 (by decide) ?_
      refine lv_icmp_ne (tgt := 19) C.1 C.2.1 dX7_turnsLists_12 (by decide) (fun c3 => ?_) (fun c3 => ?_)
      · have h := if_f h c3
        refine lv_iconst (v := 0) C.1 C.2.1 dX7_turnsLists_19 (by decide) ?_
        exact wk_7_turnsLists_20 C h (lv_sub hl [] rfl)
      · have h := if_t h c3
        exact wk_7_turnsLists_15 C h (lv_sub hl [] rfl)
end
theorem dX10_isApplied_0 : decode cX10_isApplied 0 = .ok (.aload_n 0, 1) := by decide +kernel
theorem dX10_isApplied_1 : decode cX10_isApplied 1 = .ok (.getfield 38, 3) := by decide +kernel
theorem dX10_isApplied_4 : decode cX10_isApplied 4 = .ok (.getfield 65, 3) := by decide +kernel
theorem dX10_isApplied_7 : decode cX10_isApplied 7 = .ok (.aload_n 1, 1) := by decide +kernel
theorem dX10_isApplied_8 : decode cX10_isApplied 8 = .ok (.getfield 68, 3) := by decide +kernel
theorem dX10_isApplied_11 : decode cX10_isApplied 11 = .ok (.iaload, 1) := by decide +kernel
theorem dX10_isApplied_12 : decode cX10_isApplied 12 = .ok (.istore_n 2, 1) := by decide +kernel
theorem dX10_isApplied_13 : decode cX10_isApplied 13 = .ok (.iload_n 2, 1) := by decide +kernel
theorem dX10_isApplied_14 : decode cX10_isApplied 14 = .ok (.ifCond .le 15, 3) := by decide +kernel
theorem dX10_isApplied_17 : decode cX10_isApplied 17 = .ok (.iload_n 2, 1) := by decide +kernel
theorem dX10_isApplied_18 : decode cX10_isApplied 18 = .ok (.aload_n 0, 1) := by decide +kernel
theorem dX10_isApplied_19 : decode cX10_isApplied 19 = .ok (.getfield 30, 3) := by decide +kernel
theorem dX10_isApplied_22 : decode cX10_isApplied 22 = .ok (.if_icmp .gt 7, 3) := by decide +kernel
theorem dX10_isApplied_25 : decode cX10_isApplied 25 = .ok (.iconst 1, 1) := by decide +kernel
theorem dX10_isApplied_26 : decode cX10_isApplied 26 = .ok (.goto 4, 3) := by decide +kernel
theorem dX10_isApplied_29 : decode cX10_isApplied 29 = .ok (.iconst 0, 1) := by decide +kernel
theorem dX10_isApplied_30 : decode cX10_isApplied 30 = .ok (.ireturn, 1) := by decide +kernel
theorem kd_10_isApplied : Cond.code yX10_isApplied cX10_isApplied 3 (some .boolean) ∈ lw_g := mt_at 459 (by decide +kernel) rfl
theorem ki_10_isApplied : Cond.instanceMethod yX10_isApplied ∈ lw_g := mt_at 457 (by decide +kernel) rfl
theorem kl_10_isApplied : Cond.selects (kRn 10) yX10_isApplied yX10_isApplied ∈ lw_g := mt_at 458 (by decide +kernel) rfl
section
variable {p : Program} {l : Launch} {e : Env} {R : Room} {s : State} {m : MethodId} {args : Array Value} {below : List Frame} {meth : Method} {c : Code} {H : Heap} {locs : List Loc} {cells slots : Nat} {Q : State → Prop}
variable {D : cG} {S S0 : cSt} {cc : ByteArray} {nL : Nat} {pc : Nat} {ls : Array Slot} {rest : List Value} {H0 : Heap} {nF nR nC nS : Nat} {ret : Option FieldType} {a : Nat}
theorem gk10_30 (C : cY p R s m args meth c RX10 cc nL nF nC nS nR ret) (X : cX D s) (hW : cW D S H) (hk : kK S a = 11) (hdg : decode cc pc = .ok (.getfield 30, 3)) (kk : W p l e R s m args below meth c H locs cells slots Q (F0 m (pc + 3) ls (.int (kF S a 8) :: rest))) : W p l e R s m args below meth c H locs cells slots Q (F0 m pc ls (.ref a :: rest)) := c_get C X hW 10 (by decide) ly_10 hk 8 (by decide) (mt_at 282 (by decide +kernel) (by decide +kernel)) hdg (by rw [cV_I (by decide +kernel)]; exact kk)
theorem gk10_38 (C : cY p R s m args meth c RX10 cc nL nF nC nS nR ret) (X : cX D s) (hW : cW D S H) (hk : kK S a = 11) {x : Nat} (hx : kR S a 7 = some x) (hdg : decode cc pc = .ok (.getfield 38, 3)) (kk : W p l e R s m args below meth c H locs cells slots Q (F0 m (pc + 3) ls (.ref x :: rest))) : W p l e R s m args below meth c H locs cells slots Q (F0 m pc ls (.ref a :: rest)) := c_get C X hW 10 (by decide) ly_10 hk 7 (by decide) (mt_at 280 (by decide +kernel) (by decide +kernel)) hdg (by rw [cV_R (by decide +kernel) hx]; exact kk)
theorem gk10_65 (C : cY p R s m args meth c RX10 cc nL nF nC nS nR ret) (X : cX D s) (hW : cW D S H) (hk : kK S a = 5) {x : Nat} (hx : kR S a 1 = some x) (hdg : decode cc pc = .ok (.getfield 65, 3)) (kk : W p l e R s m args below meth c H locs cells slots Q (F0 m (pc + 3) ls (.ref x :: rest))) : W p l e R s m args below meth c H locs cells slots Q (F0 m pc ls (.ref a :: rest)) := c_get C X hW 4 (by decide) ly_4 hk 1 (by decide) (mt_at 229 (by decide +kernel) (by decide +kernel)) hdg (by rw [cV_R (by decide +kernel) hx]; exact kk)
theorem gk10_68 (C : cY p R s m args meth c RX10 cc nL nF nC nS nR ret) (X : cX D s) (hW : cW D S H) (hk : kK S a = 9) (hdg : decode cc pc = .ok (.getfield 68, 3)) (kk : W p l e R s m args below meth c H locs cells slots Q (F0 m (pc + 3) ls (.int (kF S a 12) :: rest))) : W p l e R s m args below meth c H locs cells slots Q (F0 m pc ls (.ref a :: rest)) := c_get C X hW 8 (by decide) ly_8 hk 12 (by decide) (mt_at 1027 (by decide +kernel) (by decide +kernel)) hdg (by rw [cV_I (by decide +kernel)]; exact kk)
end
section
variable {p : Program} {l : Launch} {e : Env} {R : Room} {s : State} {m : MethodId} {args : Array Value} {below : List Frame} {meth : Method} {c : Code} {D : cG} {S : cSt} {r : Int32}
noncomputable def fk_10_isApplied_30 (S : cSt) (s0 : Int32) : Option (Int32) :=
ckz s0 (some s0)
set_option maxRecDepth 100000 in
set_option maxHeartbeats 4000000 in
theorem wk_10_isApplied_30 (C : cY p R s m args meth c RX10 cX10_isApplied 3 0 0 0 0 (some .boolean)) (X : cX D s) (hW : cW D S s.heap) : ∀ {s0 : Int32} {ls : Array Slot}, fk_10_isApplied_30 S s0 = some r → lv_has ls 3 [] → W p l e R s m args below meth c s.heap [] 0 0 (MQ below (kQ (some (.int r))) args s 0 0 mNo) (F0 m 30 ls [.int s0]) := by
  intro s0 ls h hl
  unfold fk_10_isApplied_30 at h
  obtain ⟨hzo, h⟩ := ckz_ok h
  cases h
  exact c_retn C (by rcases hzo with h9 | h9 <;> (rw [h9]; rfl)) rfl rfl dX10_isApplied_30
noncomputable def fk_10_isApplied_29 (S : cSt) : Option (Int32) :=
fk_10_isApplied_30 S (0 : Int32)
set_option maxRecDepth 100000 in
set_option maxHeartbeats 4000000 in
theorem wk_10_isApplied_29 (C : cY p R s m args meth c RX10 cX10_isApplied 3 0 0 0 0 (some .boolean)) (X : cX D s) (hW : cW D S s.heap) : ∀ {ls : Array Slot}, fk_10_isApplied_29 S = some r → lv_has ls 3 [] → W p l e R s m args below meth c s.heap [] 0 0 (MQ below (kQ (some (.int r))) args s 0 0 mNo) (F0 m 29 ls []) := by
  intro ls h hl
  unfold fk_10_isApplied_29 at h
  refine lv_iconst (v := 0) C.1 C.2.1 dX10_isApplied_29 (by decide) ?_
  exact wk_10_isApplied_30 C X hW h (lv_sub hl [] rfl)
noncomputable def fk_10_isApplied (S : cSt) (v0 : Nat) (v1 : Nat) : Option (Int32) :=
ckk S v0 11 (bd (kR S v0 7) fun a1 =>
ckk S a1 5 (bd (kR S a1 1) fun a2 =>
ckk S v1 9 (
ckk S a2 20 (ck (kF S v1 12) (kL S a2) (
lt (kI S a2 (Int32.toNatClampNeg (kF S v1 12))) fun x3 =>
if x3 ≤ 0 then (
fk_10_isApplied_29 S)
else (
ckk S v0 11 (
if (kF S v0 8) < x3 then (
fk_10_isApplied_29 S)
else (
fk_10_isApplied_30 S (1 : Int32)))))))))
set_option maxRecDepth 100000 in
set_option maxHeartbeats 4000000 in
theorem tk_10_isApplied (l : Launch) {D : cG} {S : cSt} {v0 : Nat} {v1 : Nat} {r : Int32}  (h : fk_10_isApplied S v0 v1 = some r) : Met l yX10_isApplied (Cond.code yX10_isApplied cX10_isApplied 3 (some .boolean) :: lw_g) { frames := 0, cells := 0, slots := 0, locals := 0 } (kPi [.ref v0, .ref v1] D S) (kQ (some (.int r))) 0 0 (mNo) := by
  refine Met.ofW (cc := cX10_isApplied) (maxL := 3) (ret := (some .boolean)) (by decide) rfl ?_
  intro p e s m args below meth c s₁ B hml hv
  obtain ⟨rfl, hW, X⟩ := hv
  have C : cY p (headSpec (Cond.code yX10_isApplied cX10_isApplied 3 (some .boolean) :: lw_g) { frames := 0, cells := 0, slots := 0, locals := 0 }).room s m _ meth c RX10 cX10_isApplied 3 0 0 0 0 (some .boolean) := ⟨B.exec, B.bytes, hml, findClass_of_methodNamed B.named, fun w hw => atoms_spec (ws := Cond.code yX10_isApplied cX10_isApplied 3 (some .boolean) :: lw_g) B.pre w (List.mem_cons_of_mem _ hw), ⟨Nat.le_refl _, Nat.le_refl _, Nat.le_refl _, Nat.le_refl _⟩, B.returns, B.notSynchronized⟩
  have hl := lv_entry ([.ref v0, .ref v1]) (n := 3) (Nat.le_of_ble_eq_true rfl)
  rw [lg_entry_eq]
  generalize (lg_sl ([.ref v0, .ref v1]) ++ List.replicate (3 - (lg_sl ([.ref v0, .ref v1])).length) Slot.unset).toArray = ls at hl ⊢
  have hl : lv_has ls 3 [(0, .ref v0), (1, .ref v1)] := hl
  unfold fk_10_isApplied at h
  refine lv_aload_n C.1 C.2.1 dX10_isApplied_0 rfl (lv_at hl 0 rfl) ?_
  obtain ⟨hk, h⟩ := ckk_ok h
  obtain ⟨a1, h_a1, h⟩ := bd_ok h
  refine gk10_38 C X hW hk h_a1 dX10_isApplied_1 ?_
  obtain ⟨hk, h⟩ := ckk_ok h
  obtain ⟨a2, h_a2, h⟩ := bd_ok h
  refine gk10_65 C X hW hk h_a2 dX10_isApplied_4 ?_
  refine lv_aload_n C.1 C.2.1 dX10_isApplied_7 rfl (lv_at hl 1 rfl) ?_
  obtain ⟨hk, h⟩ := ckk_ok h
  refine gk10_68 C X hW hk dX10_isApplied_8 ?_
  obtain ⟨hk, h⟩ := ckk_ok h
  obtain ⟨hin2, h⟩ := ck_ok h
  refine c_iald C X hW hk hin2 dX10_isApplied_11 ?_
  refine lt_ok h (fun x3 e_x3 h => ?_)
  refine lv_nm e_x3 ?_
  refine lv_istore_n (lv' := [(2, .int x3), (0, .ref v0), (1, .ref v1)]) C.1 C.2.1 dX10_isApplied_12 rfl hl (by decide) rfl (fun ls hl => ?_)
  refine lv_iload_n C.1 C.2.1 dX10_isApplied_13 rfl (lv_at hl 0 rfl) ?_
  refine lv_if_le (tgt := 29) C.1 C.2.1 dX10_isApplied_14 (by decide) (fun c4 => ?_) (fun c4 => ?_)
  · have h := if_t h c4
    exact wk_10_isApplied_29 C X hW h (lv_sub hl [] rfl)
  · have h := if_f h c4
    refine lv_iload_n C.1 C.2.1 dX10_isApplied_17 rfl (lv_at hl 0 rfl) ?_
    refine lv_aload_n C.1 C.2.1 dX10_isApplied_18 rfl (lv_at hl 1 rfl) ?_
    obtain ⟨hk, h⟩ := ckk_ok h
    refine gk10_30 C X hW hk dX10_isApplied_19 ?_
    refine lv_icmp_gt (tgt := 29) C.1 C.2.1 dX10_isApplied_22 (by decide) (fun c5 => ?_) (fun c5 => ?_)
    · have h := if_t h c5
      exact wk_10_isApplied_29 C X hW h (lv_sub hl [] rfl)
    · have h := if_f h c5
      refine lv_iconst (v := 1) C.1 C.2.1 dX10_isApplied_25 (by decide) ?_
      refine lv_goto (tgt := 30) C.1 C.2.1 dX10_isApplied_26 (by decide) ?_
      exact wk_10_isApplied_30 C X hW h (lv_sub hl [] rfl)
end
theorem dX10_isMade_0 : decode cX10_isMade 0 = .ok (.aload_n 0, 1) := by decide +kernel
theorem dX10_isMade_1 : decode cX10_isMade 1 = .ok (.getfield 34, 3) := by decide +kernel
theorem dX10_isMade_4 : decode cX10_isMade 4 = .ok (.iload_n 1, 1) := by decide +kernel
theorem dX10_isMade_5 : decode cX10_isMade 5 = .ok (.invokevirtual 71, 3) := by decide +kernel
theorem dX10_isMade_8 : decode cX10_isMade 8 = .ok (.astore_n 2, 1) := by decide +kernel
theorem dX10_isMade_9 : decode cX10_isMade 9 = .ok (.aload_n 2, 1) := by decide +kernel
theorem dX10_isMade_10 : decode cX10_isMade 10 = .ok (.ifnull 15, 3) := by decide +kernel
theorem dX10_isMade_13 : decode cX10_isMade 13 = .ok (.aload_n 0, 1) := by decide +kernel
theorem dX10_isMade_14 : decode cX10_isMade 14 = .ok (.aload_n 2, 1) := by decide +kernel
theorem dX10_isMade_15 : decode cX10_isMade 15 = .ok (.invokevirtual 75, 3) := by decide +kernel
theorem dX10_isMade_18 : decode cX10_isMade 18 = .ok (.ifCond .eq 7, 3) := by decide +kernel
theorem dX10_isMade_21 : decode cX10_isMade 21 = .ok (.iconst 1, 1) := by decide +kernel
theorem dX10_isMade_22 : decode cX10_isMade 22 = .ok (.goto 4, 3) := by decide +kernel
theorem dX10_isMade_25 : decode cX10_isMade 25 = .ok (.iconst 0, 1) := by decide +kernel
theorem dX10_isMade_26 : decode cX10_isMade 26 = .ok (.ireturn, 1) := by decide +kernel
theorem kd_10_isMade : Cond.code yX10_isMade cX10_isMade 3 (some .boolean) ∈ lw_g := mt_at 451 (by decide +kernel) rfl
theorem ki_10_isMade : Cond.instanceMethod yX10_isMade ∈ lw_g := mt_at 449 (by decide +kernel) rfl
theorem kl_10_isMade : Cond.selects (kRn 10) yX10_isMade yX10_isMade ∈ lw_g := mt_at 450 (by decide +kernel) rfl
theorem cw10_71 : cCw RX10 71 yX0_makeOf cX0_makeOf 2 (some (.object "AccordHouse$Row")) 1 := ⟨kd_0_makeOf, mt_at 452 (by decide +kernel) rfl, mt_at 3 (by decide +kernel) rfl, by decide +kernel⟩
theorem cw10_75 : cCw RX10 75 yX10_isApplied cX10_isApplied 3 (some .boolean) 1 := ⟨kd_10_isApplied, mt_at 456 (by decide +kernel) rfl, mt_at 10 (by decide +kernel) rfl, by decide +kernel⟩
section
variable {p : Program} {l : Launch} {e : Env} {R : Room} {s : State} {m : MethodId} {args : Array Value} {below : List Frame} {meth : Method} {c : Code} {H : Heap} {locs : List Loc} {cells slots : Nat} {Q : State → Prop}
variable {D : cG} {S S0 : cSt} {cc : ByteArray} {nL : Nat} {pc : Nat} {ls : Array Slot} {rest : List Value} {H0 : Heap} {nF nR nC nS : Nat} {ret : Option FieldType} {a : Nat}
theorem gk10_34 (C : cY p R s m args meth c RX10 cc nL nF nC nS nR ret) (X : cX D s) (hW : cW D S H) (hk : kK S a = 11) {x : Nat} (hx : kR S a 1 = some x) (hdg : decode cc pc = .ok (.getfield 34, 3)) (kk : W p l e R s m args below meth c H locs cells slots Q (F0 m (pc + 3) ls (.ref x :: rest))) : W p l e R s m args below meth c H locs cells slots Q (F0 m pc ls (.ref a :: rest)) := c_get C X hW 10 (by decide) ly_10 hk 1 (by decide) (mt_at 274 (by decide +kernel) (by decide +kernel)) hdg (by rw [cV_R (by decide +kernel) hx]; exact kk)
end
section
variable {p : Program} {l : Launch} {e : Env} {R : Room} {s : State} {m : MethodId} {args : Array Value} {below : List Frame} {meth : Method} {c : Code} {D : cG} {S : cSt} {r : Int32}
noncomputable def fk_10_isMade_26 (S : cSt) (s0 : Int32) : Option (Int32) :=
ckz s0 (some s0)
set_option maxRecDepth 100000 in
set_option maxHeartbeats 4000000 in
theorem wk_10_isMade_26 (C : cY p R s m args meth c RX10 cX10_isMade 3 1 0 0 22 (some .boolean)) (X : cX D s) (hW : cW D S s.heap) : ∀ {s0 : Int32} {ls : Array Slot}, fk_10_isMade_26 S s0 = some r → lv_has ls 3 [] → W p l e R s m args below meth c s.heap [] 0 0 (MQ below (kQ (some (.int r))) args s 0 0 mNo) (F0 m 26 ls [.int s0]) := by
  intro s0 ls h hl
  unfold fk_10_isMade_26 at h
  obtain ⟨hzo, h⟩ := ckz_ok h
  cases h
  exact c_retn C (by rcases hzo with h9 | h9 <;> (rw [h9]; rfl)) rfl rfl dX10_isMade_26
noncomputable def fk_10_isMade_25 (S : cSt) : Option (Int32) :=
fk_10_isMade_26 S (0 : Int32)
set_option maxRecDepth 100000 in
set_option maxHeartbeats 4000000 in
theorem wk_10_isMade_25 (C : cY p R s m args meth c RX10 cX10_isMade 3 1 0 0 22 (some .boolean)) (X : cX D s) (hW : cW D S s.heap) : ∀ {ls : Array Slot}, fk_10_isMade_25 S = some r → lv_has ls 3 [] → W p l e R s m args below meth c s.heap [] 0 0 (MQ below (kQ (some (.int r))) args s 0 0 mNo) (F0 m 25 ls []) := by
  intro ls h hl
  unfold fk_10_isMade_25 at h
  refine lv_iconst (v := 0) C.1 C.2.1 dX10_isMade_25 (by decide) ?_
  exact wk_10_isMade_26 C X hW h (lv_sub hl [] rfl)
noncomputable def fk_10_isMade (S : cSt) (v0 : Nat) (v1 : Int32) : Option (Int32) :=
ckk S v0 11 (bd (kR S v0 1) fun a1 =>
ckk S a1 1 (bd (fk_0_makeOf S a1 v1) fun o2 =>
cs o2 (
fk_10_isMade_25 S) (fun a3 =>
ckk S v0 11 (bd (fk_10_isApplied S v0 a3) fun r4 =>
if r4 = 0 then (
fk_10_isMade_25 S)
else (
fk_10_isMade_26 S (1 : Int32))))))
set_option maxRecDepth 100000 in
set_option maxHeartbeats 4000000 in
theorem tk_10_isMade (l : Launch) {D : cG} {S : cSt} {v0 : Nat} {v1 : Int32} {r : Int32}  (h : fk_10_isMade S v0 v1 = some r) : Met l yX10_isMade (Cond.code yX10_isMade cX10_isMade 3 (some .boolean) :: lw_g) { frames := 1, cells := 0, slots := 0, locals := 22 } (kPi [.ref v0, .int v1] D S) (kQ (some (.int r))) 0 0 (mNo) := by
  refine Met.ofW (cc := cX10_isMade) (maxL := 3) (ret := (some .boolean)) (by decide) rfl ?_
  intro p e s m args below meth c s₁ B hml hv
  obtain ⟨rfl, hW, X⟩ := hv
  have C : cY p (headSpec (Cond.code yX10_isMade cX10_isMade 3 (some .boolean) :: lw_g) { frames := 1, cells := 0, slots := 0, locals := 22 }).room s m _ meth c RX10 cX10_isMade 3 1 0 0 22 (some .boolean) := ⟨B.exec, B.bytes, hml, findClass_of_methodNamed B.named, fun w hw => atoms_spec (ws := Cond.code yX10_isMade cX10_isMade 3 (some .boolean) :: lw_g) B.pre w (List.mem_cons_of_mem _ hw), ⟨Nat.le_refl _, Nat.le_refl _, Nat.le_refl _, Nat.le_refl _⟩, B.returns, B.notSynchronized⟩
  have hl := lv_entry ([.ref v0, .int v1]) (n := 3) (Nat.le_of_ble_eq_true rfl)
  rw [lg_entry_eq]
  generalize (lg_sl ([.ref v0, .int v1]) ++ List.replicate (3 - (lg_sl ([.ref v0, .int v1])).length) Slot.unset).toArray = ls at hl ⊢
  have hl : lv_has ls 3 [(0, .ref v0), (1, .int v1)] := hl
  unfold fk_10_isMade at h
  refine lv_aload_n C.1 C.2.1 dX10_isMade_0 rfl (lv_at hl 0 rfl) ?_
  obtain ⟨hk, h⟩ := ckk_ok h
  obtain ⟨a1, h_a1, h⟩ := bd_ok h
  refine gk10_34 C X hW hk h_a1 dX10_isMade_1 ?_
  refine lv_iload_n C.1 C.2.1 dX10_isMade_4 rfl (lv_at hl 1 rfl) ?_
  obtain ⟨hk, h⟩ := ckk_ok h
  obtain ⟨o2, h_o2, h⟩ := bd_ok h
  refine c_callR (rest := []) C X hW hl.1 0 (by decide) hk [.int v1] (tk_0_makeOf l h_o2) cw10_71 ki_0_makeOf kl_0_makeOf rfl ⟨by decide, by decide⟩ ⟨(by decide), (by decide)⟩ rfl (Nat.le_of_ble_eq_true rfl) dX10_isMade_5 ?_
  refine W.eq (g2 := F0 m 8 ls [va_rf o2]) rfl ?_
  refine lv_astore_nq (o := o2) (lv' := [(2, va_rf o2), (0, .ref v0), (1, .int v1)]) C.1 C.2.1 dX10_isMade_8 rfl hl (by decide) rfl (fun ls hl => ?_)
  refine lv_aload_nq (o := o2) C.1 C.2.1 dX10_isMade_9 rfl (lv_at hl 0 rfl) ?_
  rcases o2 with _ | a3
  · replace h := cs_n h
    refine lv_ifnullN (tgt := 25) C.1 C.2.1 dX10_isMade_10 (by decide) ?_
    exact wk_10_isMade_25 C X hW h (lv_sub hl [] rfl)
  · replace h := cs_s h
    refine lv_ifnull C.1 C.2.1 dX10_isMade_10 ?_
    refine lv_aload_n C.1 C.2.1 dX10_isMade_13 rfl (lv_at hl 1 rfl) ?_
    refine lv_aload_n C.1 C.2.1 dX10_isMade_14 rfl (lv_at hl 0 rfl) ?_
    obtain ⟨hk, h⟩ := ckk_ok h
    obtain ⟨r4, h_r4, h⟩ := bd_ok h
    refine c_callR (rest := []) C X hW hl.1 10 (by decide) hk [.ref a3] (tk_10_isApplied l h_r4) cw10_75 ki_10_isApplied kl_10_isApplied rfl ⟨by decide, by decide⟩ ⟨(by decide), (by decide)⟩ rfl (Nat.le_of_ble_eq_true rfl) dX10_isMade_15 ?_
    refine W.eq (g2 := F0 m 18 ls [.int r4]) rfl ?_
    refine lv_if_eq (tgt := 25) C.1 C.2.1 dX10_isMade_18 (by decide) (fun c5 => ?_) (fun c5 => ?_)
    · have h := if_t h c5
      exact wk_10_isMade_25 C X hW h (lv_sub hl [] rfl)
    · have h := if_f h c5
      refine lv_iconst (v := 1) C.1 C.2.1 dX10_isMade_21 (by decide) ?_
      refine lv_goto (tgt := 26) C.1 C.2.1 dX10_isMade_22 (by decide) ?_
      exact wk_10_isMade_26 C X hW h (lv_sub hl [] rfl)
end
theorem dX10_isGood_0 : decode cX10_isGood 0 = .ok (.aload_n 0, 1) := by decide +kernel
theorem dX10_isGood_1 : decode cX10_isGood 1 = .ok (.getfield 38, 3) := by decide +kernel
theorem dX10_isGood_4 : decode cX10_isGood 4 = .ok (.getfield 65, 3) := by decide +kernel
theorem dX10_isGood_7 : decode cX10_isGood 7 = .ok (.aload_n 1, 1) := by decide +kernel
theorem dX10_isGood_8 : decode cX10_isGood 8 = .ok (.getfield 68, 3) := by decide +kernel
theorem dX10_isGood_11 : decode cX10_isGood 11 = .ok (.iaload, 1) := by decide +kernel
theorem dX10_isGood_12 : decode cX10_isGood 12 = .ok (.istore_n 2, 1) := by decide +kernel
theorem dX10_isGood_13 : decode cX10_isGood 13 = .ok (.iload_n 2, 1) := by decide +kernel
theorem dX10_isGood_14 : decode cX10_isGood 14 = .ok (.ifCond .le 27, 3) := by decide +kernel
theorem dX10_isGood_17 : decode cX10_isGood 17 = .ok (.iload_n 2, 1) := by decide +kernel
theorem dX10_isGood_18 : decode cX10_isGood 18 = .ok (.aload_n 0, 1) := by decide +kernel
theorem dX10_isGood_19 : decode cX10_isGood 19 = .ok (.getfield 30, 3) := by decide +kernel
theorem dX10_isGood_22 : decode cX10_isGood 22 = .ok (.if_icmp .gt 19, 3) := by decide +kernel
theorem dX10_isGood_25 : decode cX10_isGood 25 = .ok (.aload_n 0, 1) := by decide +kernel
theorem dX10_isGood_26 : decode cX10_isGood 26 = .ok (.getfield 42, 3) := by decide +kernel
theorem dX10_isGood_29 : decode cX10_isGood 29 = .ok (.aload_n 1, 1) := by decide +kernel
theorem dX10_isGood_30 : decode cX10_isGood 30 = .ok (.getfield 68, 3) := by decide +kernel
theorem dX10_isGood_33 : decode cX10_isGood 33 = .ok (.iaload, 1) := by decide +kernel
theorem dX10_isGood_34 : decode cX10_isGood 34 = .ok (.ifCond .ne 7, 3) := by decide +kernel
theorem dX10_isGood_37 : decode cX10_isGood 37 = .ok (.iconst 1, 1) := by decide +kernel
theorem dX10_isGood_38 : decode cX10_isGood 38 = .ok (.goto 4, 3) := by decide +kernel
theorem dX10_isGood_41 : decode cX10_isGood 41 = .ok (.iconst 0, 1) := by decide +kernel
theorem dX10_isGood_42 : decode cX10_isGood 42 = .ok (.ireturn, 1) := by decide +kernel
theorem kd_10_isGood : Cond.code yX10_isGood cX10_isGood 3 (some .boolean) ∈ lw_g := mt_at 527 (by decide +kernel) rfl
theorem ki_10_isGood : Cond.instanceMethod yX10_isGood ∈ lw_g := mt_at 525 (by decide +kernel) rfl
theorem kl_10_isGood : Cond.selects (kRn 10) yX10_isGood yX10_isGood ∈ lw_g := mt_at 526 (by decide +kernel) rfl
section
variable {p : Program} {l : Launch} {e : Env} {R : Room} {s : State} {m : MethodId} {args : Array Value} {below : List Frame} {meth : Method} {c : Code} {H : Heap} {locs : List Loc} {cells slots : Nat} {Q : State → Prop}
variable {D : cG} {S S0 : cSt} {cc : ByteArray} {nL : Nat} {pc : Nat} {ls : Array Slot} {rest : List Value} {H0 : Heap} {nF nR nC nS : Nat} {ret : Option FieldType} {a : Nat}
theorem gk10_42 (C : cY p R s m args meth c RX10 cc nL nF nC nS nR ret) (X : cX D s) (hW : cW D S H) (hk : kK S a = 11) {x : Nat} (hx : kR S a 2 = some x) (hdg : decode cc pc = .ok (.getfield 42, 3)) (kk : W p l e R s m args below meth c H locs cells slots Q (F0 m (pc + 3) ls (.ref x :: rest))) : W p l e R s m args below meth c H locs cells slots Q (F0 m pc ls (.ref a :: rest)) := c_get C X hW 10 (by decide) ly_10 hk 2 (by decide) (mt_at 275 (by decide +kernel) (by decide +kernel)) hdg (by rw [cV_R (by decide +kernel) hx]; exact kk)
end
section
variable {p : Program} {l : Launch} {e : Env} {R : Room} {s : State} {m : MethodId} {args : Array Value} {below : List Frame} {meth : Method} {c : Code} {D : cG} {S : cSt} {r : Int32}
noncomputable def fk_10_isGood_42 (S : cSt) (s0 : Int32) : Option (Int32) :=
ckz s0 (some s0)
set_option maxRecDepth 100000 in
set_option maxHeartbeats 4000000 in
theorem wk_10_isGood_42 (C : cY p R s m args meth c RX10 cX10_isGood 3 0 0 0 0 (some .boolean)) (X : cX D s) (hW : cW D S s.heap) : ∀ {s0 : Int32} {ls : Array Slot}, fk_10_isGood_42 S s0 = some r → lv_has ls 3 [] → W p l e R s m args below meth c s.heap [] 0 0 (MQ below (kQ (some (.int r))) args s 0 0 mNo) (F0 m 42 ls [.int s0]) := by
  intro s0 ls h hl
  unfold fk_10_isGood_42 at h
  obtain ⟨hzo, h⟩ := ckz_ok h
  cases h
  exact c_retn C (by rcases hzo with h9 | h9 <;> (rw [h9]; rfl)) rfl rfl dX10_isGood_42
noncomputable def fk_10_isGood_41 (S : cSt) : Option (Int32) :=
fk_10_isGood_42 S (0 : Int32)
set_option maxRecDepth 100000 in
set_option maxHeartbeats 4000000 in
theorem wk_10_isGood_41 (C : cY p R s m args meth c RX10 cX10_isGood 3 0 0 0 0 (some .boolean)) (X : cX D s) (hW : cW D S s.heap) : ∀ {ls : Array Slot}, fk_10_isGood_41 S = some r → lv_has ls 3 [] → W p l e R s m args below meth c s.heap [] 0 0 (MQ below (kQ (some (.int r))) args s 0 0 mNo) (F0 m 41 ls []) := by
  intro ls h hl
  unfold fk_10_isGood_41 at h
  refine lv_iconst (v := 0) C.1 C.2.1 dX10_isGood_41 (by decide) ?_
  exact wk_10_isGood_42 C X hW h (lv_sub hl [] rfl)
noncomputable def fk_10_isGood (S : cSt) (v0 : Nat) (v1 : Nat) : Option (Int32) :=
ckk S v0 11 (bd (kR S v0 7) fun a1 =>
ckk S a1 5 (bd (kR S a1 1) fun a2 =>
ckk S v1 9 (
ckk S a2 20 (ck (kF S v1 12) (kL S a2) (
lt (kI S a2 (Int32.toNatClampNeg (kF S v1 12))) fun x3 =>
if x3 ≤ 0 then (
fk_10_isGood_41 S)
else (
ckk S v0 11 (
if (kF S v0 8) < x3 then (
fk_10_isGood_41 S)
else (
ckk S v0 11 (bd (kR S v0 2) fun a6 =>
ckk S v1 9 (
ckk S a6 20 (ck (kF S v1 12) (kL S a6) (
if (kI S a6 (Int32.toNatClampNeg (kF S v1 12))) = 0 then (
fk_10_isGood_42 S (1 : Int32))
else (
fk_10_isGood_41 S)))))))))))))
set_option maxRecDepth 100000 in
set_option maxHeartbeats 4000000 in
theorem tk_10_isGood (l : Launch) {D : cG} {S : cSt} {v0 : Nat} {v1 : Nat} {r : Int32}  (h : fk_10_isGood S v0 v1 = some r) : Met l yX10_isGood (Cond.code yX10_isGood cX10_isGood 3 (some .boolean) :: lw_g) { frames := 0, cells := 0, slots := 0, locals := 0 } (kPi [.ref v0, .ref v1] D S) (kQ (some (.int r))) 0 0 (mNo) := by
  refine Met.ofW (cc := cX10_isGood) (maxL := 3) (ret := (some .boolean)) (by decide) rfl ?_
  intro p e s m args below meth c s₁ B hml hv
  obtain ⟨rfl, hW, X⟩ := hv
  have C : cY p (headSpec (Cond.code yX10_isGood cX10_isGood 3 (some .boolean) :: lw_g) { frames := 0, cells := 0, slots := 0, locals := 0 }).room s m _ meth c RX10 cX10_isGood 3 0 0 0 0 (some .boolean) := ⟨B.exec, B.bytes, hml, findClass_of_methodNamed B.named, fun w hw => atoms_spec (ws := Cond.code yX10_isGood cX10_isGood 3 (some .boolean) :: lw_g) B.pre w (List.mem_cons_of_mem _ hw), ⟨Nat.le_refl _, Nat.le_refl _, Nat.le_refl _, Nat.le_refl _⟩, B.returns, B.notSynchronized⟩
  have hl := lv_entry ([.ref v0, .ref v1]) (n := 3) (Nat.le_of_ble_eq_true rfl)
  rw [lg_entry_eq]
  generalize (lg_sl ([.ref v0, .ref v1]) ++ List.replicate (3 - (lg_sl ([.ref v0, .ref v1])).length) Slot.unset).toArray = ls at hl ⊢
  have hl : lv_has ls 3 [(0, .ref v0), (1, .ref v1)] := hl
  unfold fk_10_isGood at h
  refine lv_aload_n C.1 C.2.1 dX10_isGood_0 rfl (lv_at hl 0 rfl) ?_
  obtain ⟨hk, h⟩ := ckk_ok h
  obtain ⟨a1, h_a1, h⟩ := bd_ok h
  refine gk10_38 C X hW hk h_a1 dX10_isGood_1 ?_
  obtain ⟨hk, h⟩ := ckk_ok h
  obtain ⟨a2, h_a2, h⟩ := bd_ok h
  refine gk10_65 C X hW hk h_a2 dX10_isGood_4 ?_
  refine lv_aload_n C.1 C.2.1 dX10_isGood_7 rfl (lv_at hl 1 rfl) ?_
  obtain ⟨hk, h⟩ := ckk_ok h
  refine gk10_68 C X hW hk dX10_isGood_8 ?_
  obtain ⟨hk, h⟩ := ckk_ok h
  obtain ⟨hin2, h⟩ := ck_ok h
  refine c_iald C X hW hk hin2 dX10_isGood_11 ?_
  refine lt_ok h (fun x3 e_x3 h => ?_)
  refine lv_nm e_x3 ?_
  refine lv_istore_n (lv' := [(2, .int x3), (0, .ref v0), (1, .ref v1)]) C.1 C.2.1 dX10_isGood_12 rfl hl (by decide) rfl (fun ls hl => ?_)
  refine lv_iload_n C.1 C.2.1 dX10_isGood_13 rfl (lv_at hl 0 rfl) ?_
  refine lv_if_le (tgt := 41) C.1 C.2.1 dX10_isGood_14 (by decide) (fun c4 => ?_) (fun c4 => ?_)
  · have h := if_t h c4
    exact wk_10_isGood_41 C X hW h (lv_sub hl [] rfl)
  · have h := if_f h c4
    refine lv_iload_n C.1 C.2.1 dX10_isGood_17 rfl (lv_at hl 0 rfl) ?_
    refine lv_aload_n C.1 C.2.1 dX10_isGood_18 rfl (lv_at hl 1 rfl) ?_
    obtain ⟨hk, h⟩ := ckk_ok h
    refine gk10_30 C X hW hk dX10_isGood_19 ?_
    refine lv_icmp_gt (tgt := 41) C.1 C.2.1 dX10_isGood_22 (by decide) (fun c5 => ?_) (fun c5 => ?_)
    · have h := if_t h c5
      exact wk_10_isGood_41 C X hW h (lv_sub hl [] rfl)
    · have h := if_f h c5
      refine lv_aload_n C.1 C.2.1 dX10_isGood_25 rfl (lv_at hl 1 rfl) ?_
      obtain ⟨hk, h⟩ := ckk_ok h
      obtain ⟨a6, h_a6, h⟩ := bd_ok h
      refine gk10_42 C X hW hk h_a6 dX10_isGood_26 ?_
      refine lv_aload_n C.1 C.2.1 dX10_isGood_29 rfl (lv_at hl 2 rfl) ?_
      obtain ⟨hk, h⟩ := ckk_ok h
      refine gk10_68 C X hW hk dX10_isGood_30 ?_
      obtain ⟨hk, h⟩ := ckk_ok h
      obtain ⟨hin2, h⟩ := ck_ok h
      refine c_iald C X hW hk hin2 dX10_isGood_33 ?_
      refine lv_if_ne (tgt := 41) C.1 C.2.1 dX10_isGood_34 (by decide) (fun c7 => ?_) (fun c7 => ?_)
      · have h := if_f h c7
        exact wk_10_isGood_41 C X hW h (lv_sub hl [] rfl)
      · have h := if_t h c7
        refine lv_iconst (v := 1) C.1 C.2.1 dX10_isGood_37 (by decide) ?_
        refine lv_goto (tgt := 42) C.1 C.2.1 dX10_isGood_38 (by decide) ?_
        exact wk_10_isGood_42 C X hW h (lv_sub hl [] rfl)
end
theorem dX10_lastGood_0 : decode cX10_lastGood 0 = .ok (.aload_n 0, 1) := by decide +kernel
theorem dX10_lastGood_1 : decode cX10_lastGood 1 = .ok (.getfield 38, 3) := by decide +kernel
theorem dX10_lastGood_4 : decode cX10_lastGood 4 = .ok (.getfield 93, 3) := by decide +kernel
theorem dX10_lastGood_7 : decode cX10_lastGood 7 = .ok (.iload_n 1, 1) := by decide +kernel
theorem dX10_lastGood_8 : decode cX10_lastGood 8 = .ok (.aaload, 1) := by decide +kernel
theorem dX10_lastGood_9 : decode cX10_lastGood 9 = .ok (.astore_n 2, 1) := by decide +kernel
theorem dX10_lastGood_10 : decode cX10_lastGood 10 = .ok (.aload_n 2, 1) := by decide +kernel
theorem dX10_lastGood_11 : decode cX10_lastGood 11 = .ok (.ifnull 29, 3) := by decide +kernel
theorem dX10_lastGood_14 : decode cX10_lastGood 14 = .ok (.aload_n 0, 1) := by decide +kernel
theorem dX10_lastGood_15 : decode cX10_lastGood 15 = .ok (.aload_n 2, 1) := by decide +kernel
theorem dX10_lastGood_16 : decode cX10_lastGood 16 = .ok (.invokevirtual 96, 3) := by decide +kernel
theorem dX10_lastGood_19 : decode cX10_lastGood 19 = .ok (.ifCond .eq 5, 3) := by decide +kernel
theorem dX10_lastGood_22 : decode cX10_lastGood 22 = .ok (.aload_n 2, 1) := by decide +kernel
theorem dX10_lastGood_23 : decode cX10_lastGood 23 = .ok (.areturn, 1) := by decide +kernel
theorem dX10_lastGood_24 : decode cX10_lastGood 24 = .ok (.aload_n 0, 1) := by decide +kernel
theorem dX10_lastGood_25 : decode cX10_lastGood 25 = .ok (.getfield 38, 3) := by decide +kernel
theorem dX10_lastGood_28 : decode cX10_lastGood 28 = .ok (.getfield 99, 3) := by decide +kernel
theorem dX10_lastGood_31 : decode cX10_lastGood 31 = .ok (.aload_n 2, 1) := by decide +kernel
theorem dX10_lastGood_32 : decode cX10_lastGood 32 = .ok (.getfield 68, 3) := by decide +kernel
theorem dX10_lastGood_35 : decode cX10_lastGood 35 = .ok (.aaload, 1) := by decide +kernel
theorem dX10_lastGood_36 : decode cX10_lastGood 36 = .ok (.astore_n 2, 1) := by decide +kernel
theorem dX10_lastGood_37 : decode cX10_lastGood 37 = .ok (.goto (-27), 3) := by decide +kernel
theorem dX10_lastGood_40 : decode cX10_lastGood 40 = .ok (.aconst_null, 1) := by decide +kernel
theorem dX10_lastGood_41 : decode cX10_lastGood 41 = .ok (.areturn, 1) := by decide +kernel
theorem kd_10_lastGood : Cond.code yX10_lastGood cX10_lastGood 3 (some (.object "AccordHouse$Row")) ∈ lw_g := mt_at 523 (by decide +kernel) rfl
theorem ki_10_lastGood : Cond.instanceMethod yX10_lastGood ∈ lw_g := mt_at 521 (by decide +kernel) rfl
theorem kl_10_lastGood : Cond.selects (kRn 10) yX10_lastGood yX10_lastGood ∈ lw_g := mt_at 522 (by decide +kernel) rfl
theorem cw10_96 : cCw RX10 96 yX10_isGood cX10_isGood 3 (some .boolean) 1 := ⟨kd_10_isGood, mt_at 524 (by decide +kernel) rfl, mt_at 10 (by decide +kernel) rfl, by decide +kernel⟩
section
variable {p : Program} {l : Launch} {e : Env} {R : Room} {s : State} {m : MethodId} {args : Array Value} {below : List Frame} {meth : Method} {c : Code} {H : Heap} {locs : List Loc} {cells slots : Nat} {Q : State → Prop}
variable {D : cG} {S S0 : cSt} {cc : ByteArray} {nL : Nat} {pc : Nat} {ls : Array Slot} {rest : List Value} {H0 : Heap} {nF nR nC nS : Nat} {ret : Option FieldType} {a : Nat}
theorem gk10_93 (C : cY p R s m args meth c RX10 cc nL nF nC nS nR ret) (X : cX D s) (hW : cW D S H) (hk : kK S a = 5) {x : Nat} (hx : kR S a 6 = some x) (hdg : decode cc pc = .ok (.getfield 93, 3)) (kk : W p l e R s m args below meth c H locs cells slots Q (F0 m (pc + 3) ls (.ref x :: rest))) : W p l e R s m args below meth c H locs cells slots Q (F0 m pc ls (.ref a :: rest)) := c_get C X hW 4 (by decide) ly_4 hk 6 (by decide) (mt_at 242 (by decide +kernel) (by decide +kernel)) hdg (by rw [cV_R (by decide +kernel) hx]; exact kk)
theorem gk10_99 (C : cY p R s m args meth c RX10 cc nL nF nC nS nR ret) (X : cX D s) (hW : cW D S H) (hk : kK S a = 5) {x : Nat} (hx : kR S a 3 = some x) (hdg : decode cc pc = .ok (.getfield 99, 3)) (kk : W p l e R s m args below meth c H locs cells slots Q (F0 m (pc + 3) ls (.ref x :: rest))) : W p l e R s m args below meth c H locs cells slots Q (F0 m pc ls (.ref a :: rest)) := c_get C X hW 4 (by decide) ly_4 hk 3 (by decide) (mt_at 234 (by decide +kernel) (by decide +kernel)) hdg (by rw [cV_R (by decide +kernel) hx]; exact kk)
end
section
variable {p : Program} {l : Launch} {e : Env} {R : Room} {s : State} {m : MethodId} {args : Array Value} {below : List Frame} {meth : Method} {c : Code} {D : cG} {S : cSt} {r : Option Nat}
noncomputable def fk_10_lastGood_10 (S : cSt) : Nat → Nat → Option Nat → Option (Option Nat)
  | 0, _, _ => none
  | n + 1, v0, v2 =>
    cs v2 (
    some none) (fun a1 =>
    ckk S v0 11 (bd (fk_10_isGood S v0 a1) fun r2 =>
    if r2 = 0 then (
    ckk S v0 11 (bd (kR S v0 7) fun a4 =>
    ckk S a4 5 (bd (kR S a4 3) fun a5 =>
    ckk S a1 9 (
    ckk S a5 30 (ck (kF S a1 12) (kL S a5) (lt (kO S a5 (Int32.toNatClampNeg (kF S a1 12))) fun o6 =>
    fk_10_lastGood_10 S n v0 o6))))))
    else (
    some (some a1))))
set_option maxRecDepth 100000 in
set_option maxHeartbeats 4000000 in
theorem wk_10_lastGood_10 (C : cY p R s m args meth c RX10 cX10_lastGood 3 1 0 0 22 (some (.object "AccordHouse$Row"))) (X : cX D s) (hW : cW D S s.heap) : ∀ (n : Nat), ∀ {v0 : Nat} {v2 : Option Nat} {ls : Array Slot}, fk_10_lastGood_10 S n v0 v2 = some r → lv_has ls 3 [(0, .ref v0), (2, va_rf v2)] → W p l e R s m args below meth c s.heap [] 0 0 (MQ below (kQ (some (va_rf r))) args s 0 0 mNo) (F0 m 10 ls []) := by
  intro n
  induction n with
  | zero =>
    intro v0 v2 ls h hl
    exact absurd (show (none : Option (Option Nat)) = _ from h) (fun q => by cases q)
  | succ n ih =>
    intro v0 v2 ls h hl
    rw [fk_10_lastGood_10] at h
    refine lv_aload_nq (o := v2) C.1 C.2.1 dX10_lastGood_10 rfl (lv_at hl 1 rfl) ?_
    rcases v2 with _ | a1
    · replace h := cs_n h
      refine lv_ifnullN (tgt := 40) C.1 C.2.1 dX10_lastGood_11 (by decide) ?_
      refine lv_null C.1 C.2.1 dX10_lastGood_40 ?_
      cases h
      exact c_reta (o := none) C rfl rfl dX10_lastGood_41
    · replace h := cs_s h
      refine lv_ifnull C.1 C.2.1 dX10_lastGood_11 ?_
      refine lv_aload_n C.1 C.2.1 dX10_lastGood_14 rfl (lv_at hl 0 rfl) ?_
      refine lv_aload_n C.1 C.2.1 dX10_lastGood_15 rfl (lv_at hl 1 rfl) ?_
      obtain ⟨hk, h⟩ := ckk_ok h
      obtain ⟨r2, h_r2, h⟩ := bd_ok h
      refine c_callR (rest := []) C X hW hl.1 10 (by decide) hk [.ref a1] (tk_10_isGood l h_r2) cw10_96 ki_10_isGood kl_10_isGood rfl ⟨by decide, by decide⟩ ⟨(by decide), (by decide)⟩ rfl (Nat.le_of_ble_eq_true rfl) dX10_lastGood_16 ?_
      refine W.eq (g2 := F0 m 19 ls [.int r2]) rfl ?_
      refine lv_if_eq (tgt := 24) C.1 C.2.1 dX10_lastGood_19 (by decide) (fun c3 => ?_) (fun c3 => ?_)
      · have h := if_t h c3
        refine lv_aload_n C.1 C.2.1 dX10_lastGood_24 rfl (lv_at hl 0 rfl) ?_
        obtain ⟨hk, h⟩ := ckk_ok h
        obtain ⟨a4, h_a4, h⟩ := bd_ok h
        refine gk10_38 C X hW hk h_a4 dX10_lastGood_25 ?_
        obtain ⟨hk, h⟩ := ckk_ok h
        obtain ⟨a5, h_a5, h⟩ := bd_ok h
        refine gk10_99 C X hW hk h_a5 dX10_lastGood_28 ?_
        refine lv_aload_n C.1 C.2.1 dX10_lastGood_31 rfl (lv_at hl 1 rfl) ?_
        obtain ⟨hk, h⟩ := ckk_ok h
        refine gk10_68 C X hW hk dX10_lastGood_32 ?_
        obtain ⟨hk, h⟩ := ckk_ok h
        obtain ⟨hin2, h⟩ := ck_ok h
        refine c_aald C 30 (by decide) X.2.2.2.2.1 hW hk hin2 dX10_lastGood_35 ?_
        refine lt_ok h (fun o6 e_o6 h => ?_)
        refine lv_nmq e_o6 ?_
        refine lv_astore_nq (o := o6) (lv' := [(2, va_rf o6), (0, .ref v0)]) C.1 C.2.1 dX10_lastGood_36 rfl hl (by decide) rfl (fun ls hl => ?_)
        refine lv_goto (tgt := 10) C.1 C.2.1 dX10_lastGood_37 (by decide) ?_
        exact ih h (lv_sub hl [1, 0] rfl)
      · have h := if_f h c3
        refine lv_aload_n C.1 C.2.1 dX10_lastGood_22 rfl (lv_at hl 1 rfl) ?_
        cases h
        exact c_reta (o := (some a1)) C rfl rfl dX10_lastGood_23
noncomputable def fk_10_lastGood (S : cSt) (v0 : Nat) (v1 : Int32) : Option (Option Nat) :=
ckk S v0 11 (bd (kR S v0 7) fun a1 =>
ckk S a1 5 (bd (kR S a1 6) fun a2 =>
ckk S a2 30 (ck v1 (kL S a2) (lt (kO S a2 (Int32.toNatClampNeg v1)) fun o3 =>
fk_10_lastGood_10 S mFU v0 o3))))
set_option maxRecDepth 100000 in
set_option maxHeartbeats 4000000 in
theorem tk_10_lastGood (l : Launch) {D : cG} {S : cSt} {v0 : Nat} {v1 : Int32} {r : Option Nat}  (h : fk_10_lastGood S v0 v1 = some r) : Met l yX10_lastGood (Cond.code yX10_lastGood cX10_lastGood 3 (some (.object "AccordHouse$Row")) :: lw_g) { frames := 1, cells := 0, slots := 0, locals := 22 } (kPi [.ref v0, .int v1] D S) (kQ (some (va_rf r))) 0 0 (mNo) := by
  refine Met.ofW (cc := cX10_lastGood) (maxL := 3) (ret := (some (.object "AccordHouse$Row"))) (by decide) rfl ?_
  intro p e s m args below meth c s₁ B hml hv
  obtain ⟨rfl, hW, X⟩ := hv
  have C : cY p (headSpec (Cond.code yX10_lastGood cX10_lastGood 3 (some (.object "AccordHouse$Row")) :: lw_g) { frames := 1, cells := 0, slots := 0, locals := 22 }).room s m _ meth c RX10 cX10_lastGood 3 1 0 0 22 (some (.object "AccordHouse$Row")) := ⟨B.exec, B.bytes, hml, findClass_of_methodNamed B.named, fun w hw => atoms_spec (ws := Cond.code yX10_lastGood cX10_lastGood 3 (some (.object "AccordHouse$Row")) :: lw_g) B.pre w (List.mem_cons_of_mem _ hw), ⟨Nat.le_refl _, Nat.le_refl _, Nat.le_refl _, Nat.le_refl _⟩, B.returns, B.notSynchronized⟩
  have hl := lv_entry ([.ref v0, .int v1]) (n := 3) (Nat.le_of_ble_eq_true rfl)
  rw [lg_entry_eq]
  generalize (lg_sl ([.ref v0, .int v1]) ++ List.replicate (3 - (lg_sl ([.ref v0, .int v1])).length) Slot.unset).toArray = ls at hl ⊢
  have hl : lv_has ls 3 [(0, .ref v0), (1, .int v1)] := hl
  unfold fk_10_lastGood at h
  refine lv_aload_n C.1 C.2.1 dX10_lastGood_0 rfl (lv_at hl 0 rfl) ?_
  obtain ⟨hk, h⟩ := ckk_ok h
  obtain ⟨a1, h_a1, h⟩ := bd_ok h
  refine gk10_38 C X hW hk h_a1 dX10_lastGood_1 ?_
  obtain ⟨hk, h⟩ := ckk_ok h
  obtain ⟨a2, h_a2, h⟩ := bd_ok h
  refine gk10_93 C X hW hk h_a2 dX10_lastGood_4 ?_
  refine lv_iload_n C.1 C.2.1 dX10_lastGood_7 rfl (lv_at hl 1 rfl) ?_
  obtain ⟨hk, h⟩ := ckk_ok h
  obtain ⟨hin2, h⟩ := ck_ok h
  refine c_aald C 30 (by decide) X.2.2.2.2.1 hW hk hin2 dX10_lastGood_8 ?_
  refine lt_ok h (fun o3 e_o3 h => ?_)
  refine lv_nmq e_o3 ?_
  refine lv_astore_nq (o := o3) (lv' := [(2, va_rf o3), (0, .ref v0), (1, .int v1)]) C.1 C.2.1 dX10_lastGood_9 rfl hl (by decide) rfl (fun ls hl => ?_)
  exact wk_10_lastGood_10 C X hW mFU h (lv_sub hl [1, 0] rfl)
end
theorem dX10_isThere_0 : decode cX10_isThere 0 = .ok (.aload_n 0, 1) := by decide +kernel
theorem dX10_isThere_1 : decode cX10_isThere 1 = .ok (.iload_n 1, 1) := by decide +kernel
theorem dX10_isThere_2 : decode cX10_isThere 2 = .ok (.invokevirtual 79, 3) := by decide +kernel
theorem dX10_isThere_5 : decode cX10_isThere 5 = .ok (.ifCond .eq 21, 3) := by decide +kernel
theorem dX10_isThere_8 : decode cX10_isThere 8 = .ok (.aload_n 0, 1) := by decide +kernel
theorem dX10_isThere_9 : decode cX10_isThere 9 = .ok (.iload_n 1, 1) := by decide +kernel
theorem dX10_isThere_10 : decode cX10_isThere 10 = .ok (.bipush 8, 2) := by decide +kernel
theorem dX10_isThere_12 : decode cX10_isThere 12 = .ok (.imul, 1) := by decide +kernel
theorem dX10_isThere_13 : decode cX10_isThere 13 = .ok (.bipush 6, 2) := by decide +kernel
theorem dX10_isThere_15 : decode cX10_isThere 15 = .ok (.iadd, 1) := by decide +kernel
theorem dX10_isThere_16 : decode cX10_isThere 16 = .ok (.invokevirtual 83, 3) := by decide +kernel
theorem dX10_isThere_19 : decode cX10_isThere 19 = .ok (.ifnonnull 7, 3) := by decide +kernel
theorem dX10_isThere_22 : decode cX10_isThere 22 = .ok (.iconst 1, 1) := by decide +kernel
theorem dX10_isThere_23 : decode cX10_isThere 23 = .ok (.goto 4, 3) := by decide +kernel
theorem dX10_isThere_26 : decode cX10_isThere 26 = .ok (.iconst 0, 1) := by decide +kernel
theorem dX10_isThere_27 : decode cX10_isThere 27 = .ok (.ireturn, 1) := by decide +kernel
theorem kd_10_isThere : Cond.code yX10_isThere cX10_isThere 2 (some .boolean) ∈ lw_g := mt_at 518 (by decide +kernel) rfl
theorem ki_10_isThere : Cond.instanceMethod yX10_isThere ∈ lw_g := mt_at 516 (by decide +kernel) rfl
theorem kl_10_isThere : Cond.selects (kRn 10) yX10_isThere yX10_isThere ∈ lw_g := mt_at 517 (by decide +kernel) rfl
theorem cw10_79 : cCw RX10 79 yX10_isMade cX10_isMade 3 (some .boolean) 1 := ⟨kd_10_isMade, mt_at 519 (by decide +kernel) rfl, mt_at 10 (by decide +kernel) rfl, by decide +kernel⟩
theorem cw10_83 : cCw RX10 83 yX10_lastGood cX10_lastGood 3 (some (.object "AccordHouse$Row")) 1 := ⟨kd_10_lastGood, mt_at 520 (by decide +kernel) rfl, mt_at 10 (by decide +kernel) rfl, by decide +kernel⟩
section
variable {p : Program} {l : Launch} {e : Env} {R : Room} {s : State} {m : MethodId} {args : Array Value} {below : List Frame} {meth : Method} {c : Code} {D : cG} {S : cSt} {r : Int32}
noncomputable def fk_10_isThere_27 (S : cSt) (s0 : Int32) : Option (Int32) :=
ckz s0 (some s0)
set_option maxRecDepth 100000 in
set_option maxHeartbeats 4000000 in
theorem wk_10_isThere_27 (C : cY p R s m args meth c RX10 cX10_isThere 2 2 0 0 44 (some .boolean)) (X : cX D s) (hW : cW D S s.heap) : ∀ {s0 : Int32} {ls : Array Slot}, fk_10_isThere_27 S s0 = some r → lv_has ls 2 [] → W p l e R s m args below meth c s.heap [] 0 0 (MQ below (kQ (some (.int r))) args s 0 0 mNo) (F0 m 27 ls [.int s0]) := by
  intro s0 ls h hl
  unfold fk_10_isThere_27 at h
  obtain ⟨hzo, h⟩ := ckz_ok h
  cases h
  exact c_retn C (by rcases hzo with h9 | h9 <;> (rw [h9]; rfl)) rfl rfl dX10_isThere_27
noncomputable def fk_10_isThere_26 (S : cSt) : Option (Int32) :=
fk_10_isThere_27 S (0 : Int32)
set_option maxRecDepth 100000 in
set_option maxHeartbeats 4000000 in
theorem wk_10_isThere_26 (C : cY p R s m args meth c RX10 cX10_isThere 2 2 0 0 44 (some .boolean)) (X : cX D s) (hW : cW D S s.heap) : ∀ {ls : Array Slot}, fk_10_isThere_26 S = some r → lv_has ls 2 [] → W p l e R s m args below meth c s.heap [] 0 0 (MQ below (kQ (some (.int r))) args s 0 0 mNo) (F0 m 26 ls []) := by
  intro ls h hl
  unfold fk_10_isThere_26 at h
  refine lv_iconst (v := 0) C.1 C.2.1 dX10_isThere_26 (by decide) ?_
  exact wk_10_isThere_27 C X hW h (lv_sub hl [] rfl)
noncomputable def fk_10_isThere (S : cSt) (v0 : Nat) (v1 : Int32) : Option (Int32) :=
ckk S v0 11 (bd (fk_10_isMade S v0 v1) fun r1 =>
if r1 = 0 then (
fk_10_isThere_26 S)
else (
ckk S v0 11 (bd (fk_10_lastGood S v0 ((v1 * (8 : Int32)) + (6 : Int32))) fun o3 =>
cs o3 (
fk_10_isThere_27 S (1 : Int32)) (fun a4 =>
fk_10_isThere_26 S))))
set_option maxRecDepth 100000 in
set_option maxHeartbeats 4000000 in
theorem tk_10_isThere (l : Launch) {D : cG} {S : cSt} {v0 : Nat} {v1 : Int32} {r : Int32}  (h : fk_10_isThere S v0 v1 = some r) : Met l yX10_isThere (Cond.code yX10_isThere cX10_isThere 2 (some .boolean) :: lw_g) { frames := 2, cells := 0, slots := 0, locals := 44 } (kPi [.ref v0, .int v1] D S) (kQ (some (.int r))) 0 0 (mNo) := by
  refine Met.ofW (cc := cX10_isThere) (maxL := 2) (ret := (some .boolean)) (by decide) rfl ?_
  intro p e s m args below meth c s₁ B hml hv
  obtain ⟨rfl, hW, X⟩ := hv
  have C : cY p (headSpec (Cond.code yX10_isThere cX10_isThere 2 (some .boolean) :: lw_g) { frames := 2, cells := 0, slots := 0, locals := 44 }).room s m _ meth c RX10 cX10_isThere 2 2 0 0 44 (some .boolean) := ⟨B.exec, B.bytes, hml, findClass_of_methodNamed B.named, fun w hw => atoms_spec (ws := Cond.code yX10_isThere cX10_isThere 2 (some .boolean) :: lw_g) B.pre w (List.mem_cons_of_mem _ hw), ⟨Nat.le_refl _, Nat.le_refl _, Nat.le_refl _, Nat.le_refl _⟩, B.returns, B.notSynchronized⟩
  have hl := lv_entry ([.ref v0, .int v1]) (n := 2) (Nat.le_of_ble_eq_true rfl)
  rw [lg_entry_eq]
  generalize (lg_sl ([.ref v0, .int v1]) ++ List.replicate (2 - (lg_sl ([.ref v0, .int v1])).length) Slot.unset).toArray = ls at hl ⊢
  have hl : lv_has ls 2 [(0, .ref v0), (1, .int v1)] := hl
  unfold fk_10_isThere at h
  refine lv_aload_n C.1 C.2.1 dX10_isThere_0 rfl (lv_at hl 0 rfl) ?_
  refine lv_iload_n C.1 C.2.1 dX10_isThere_1 rfl (lv_at hl 1 rfl) ?_
  obtain ⟨hk, h⟩ := ckk_ok h
  obtain ⟨r1, h_r1, h⟩ := bd_ok h
  refine c_callR (rest := []) C X hW hl.1 10 (by decide) hk [.int v1] (tk_10_isMade l h_r1) cw10_79 ki_10_isMade kl_10_isMade rfl ⟨by decide, by decide⟩ ⟨(by decide), (by decide)⟩ rfl (Nat.le_of_ble_eq_true rfl) dX10_isThere_2 ?_
  refine W.eq (g2 := F0 m 5 ls [.int r1]) rfl ?_
  refine lv_if_eq (tgt := 26) C.1 C.2.1 dX10_isThere_5 (by decide) (fun c2 => ?_) (fun c2 => ?_)
  · have h := if_t h c2
    exact wk_10_isThere_26 C X hW h (lv_sub hl [] rfl)
  · have h := if_f h c2
    refine lv_aload_n C.1 C.2.1 dX10_isThere_8 rfl (lv_at hl 0 rfl) ?_
    refine lv_iload_n C.1 C.2.1 dX10_isThere_9 rfl (lv_at hl 1 rfl) ?_
    refine lv_bipush (v := 8) C.1 C.2.1 dX10_isThere_10 (by decide) ?_
    refine lv_imul C.1 C.2.1 dX10_isThere_12 ?_
    refine lv_bipush (v := 6) C.1 C.2.1 dX10_isThere_13 (by decide) ?_
    refine lv_iadd C.1 C.2.1 dX10_isThere_15 ?_
    obtain ⟨hk, h⟩ := ckk_ok h
    obtain ⟨o3, h_o3, h⟩ := bd_ok h
    refine c_callR (rest := []) C X hW hl.1 10 (by decide) hk [.int ((v1 * (8 : Int32)) + (6 : Int32))] (tk_10_lastGood l h_o3) cw10_83 ki_10_lastGood kl_10_lastGood rfl ⟨by decide, by decide⟩ ⟨(by decide), (by decide)⟩ rfl (Nat.le_of_ble_eq_true rfl) dX10_isThere_16 ?_
    refine W.eq (g2 := F0 m 19 ls [va_rf o3]) rfl ?_
    rcases o3 with _ | a4
    · replace h := cs_n h
      refine lv_ifnonnullN C.1 C.2.1 dX10_isThere_19 ?_
      refine lv_iconst (v := 1) C.1 C.2.1 dX10_isThere_22 (by decide) ?_
      refine lv_goto (tgt := 27) C.1 C.2.1 dX10_isThere_23 (by decide) ?_
      exact wk_10_isThere_27 C X hW h (lv_sub hl [] rfl)
    · replace h := cs_s h
      refine lv_ifnonnull (tgt := 26) C.1 C.2.1 dX10_isThere_19 (by decide) ?_
      exact wk_10_isThere_26 C X hW h (lv_sub hl [] rfl)
end
theorem dX10_latestOf_0 : decode cX10_latestOf 0 = .ok (.aload_n 0, 1) := by decide +kernel
theorem dX10_latestOf_1 : decode cX10_latestOf 1 = .ok (.iload_n 1, 1) := by decide +kernel
theorem dX10_latestOf_2 : decode cX10_latestOf 2 = .ok (.invokevirtual 83, 3) := by decide +kernel
theorem dX10_latestOf_5 : decode cX10_latestOf 5 = .ok (.astore_n 2, 1) := by decide +kernel
theorem dX10_latestOf_6 : decode cX10_latestOf 6 = .ok (.aload_n 2, 1) := by decide +kernel
theorem dX10_latestOf_7 : decode cX10_latestOf 7 = .ok (.ifnonnull 7, 3) := by decide +kernel
theorem dX10_latestOf_10 : decode cX10_latestOf 10 = .ok (.iconst 0, 1) := by decide +kernel
theorem dX10_latestOf_11 : decode cX10_latestOf 11 = .ok (.goto 7, 3) := by decide +kernel
theorem dX10_latestOf_14 : decode cX10_latestOf 14 = .ok (.aload_n 2, 1) := by decide +kernel
theorem dX10_latestOf_15 : decode cX10_latestOf 15 = .ok (.getfield 102, 3) := by decide +kernel
theorem dX10_latestOf_18 : decode cX10_latestOf 18 = .ok (.ireturn, 1) := by decide +kernel
theorem kd_10_latestOf : Cond.code yX10_latestOf cX10_latestOf 3 (some .int) ∈ lw_g := mt_at 1087 (by decide +kernel) rfl
theorem ki_10_latestOf : Cond.instanceMethod yX10_latestOf ∈ lw_g := mt_at 1085 (by decide +kernel) rfl
theorem kl_10_latestOf : Cond.selects (kRn 10) yX10_latestOf yX10_latestOf ∈ lw_g := mt_at 1086 (by decide +kernel) rfl
section
variable {p : Program} {l : Launch} {e : Env} {R : Room} {s : State} {m : MethodId} {args : Array Value} {below : List Frame} {meth : Method} {c : Code} {H : Heap} {locs : List Loc} {cells slots : Nat} {Q : State → Prop}
variable {D : cG} {S S0 : cSt} {cc : ByteArray} {nL : Nat} {pc : Nat} {ls : Array Slot} {rest : List Value} {H0 : Heap} {nF nR nC nS : Nat} {ret : Option FieldType} {a : Nat}
theorem gk10_102 (C : cY p R s m args meth c RX10 cc nL nF nC nS nR ret) (X : cX D s) (hW : cW D S H) (hk : kK S a = 9) (hdg : decode cc pc = .ok (.getfield 102, 3)) (kk : W p l e R s m args below meth c H locs cells slots Q (F0 m (pc + 3) ls (.int (kF S a 4) :: rest))) : W p l e R s m args below meth c H locs cells slots Q (F0 m pc ls (.ref a :: rest)) := c_get C X hW 8 (by decide) ly_8 hk 4 (by decide) (mt_at 985 (by decide +kernel) (by decide +kernel)) hdg (by rw [cV_I (by decide +kernel)]; exact kk)
end
section
variable {p : Program} {l : Launch} {e : Env} {R : Room} {s : State} {m : MethodId} {args : Array Value} {below : List Frame} {meth : Method} {c : Code} {D : cG} {S : cSt} {r : Int32}
noncomputable def fk_10_latestOf_18 (S : cSt) (s0 : Int32) : Option (Int32) :=
some s0
set_option maxRecDepth 100000 in
set_option maxHeartbeats 4000000 in
theorem wk_10_latestOf_18 (C : cY p R s m args meth c RX10 cX10_latestOf 3 2 0 0 44 (some .int)) (X : cX D s) (hW : cW D S s.heap) : ∀ {s0 : Int32} {ls : Array Slot}, fk_10_latestOf_18 S s0 = some r → lv_has ls 3 [] → W p l e R s m args below meth c s.heap [] 0 0 (MQ below (kQ (some (.int r))) args s 0 0 mNo) (F0 m 18 ls [.int s0]) := by
  intro s0 ls h hl
  unfold fk_10_latestOf_18 at h
  cases h
  exact c_reti C rfl rfl dX10_latestOf_18
noncomputable def fk_10_latestOf (S : cSt) (v0 : Nat) (v1 : Int32) : Option (Int32) :=
ckk S v0 11 (bd (fk_10_lastGood S v0 v1) fun o1 =>
cs o1 (
fk_10_latestOf_18 S (0 : Int32)) (fun a2 =>
ckk S a2 9 (
fk_10_latestOf_18 S (kF S a2 4))))
set_option maxRecDepth 100000 in
set_option maxHeartbeats 4000000 in
theorem tk_10_latestOf (l : Launch) {D : cG} {S : cSt} {v0 : Nat} {v1 : Int32} {r : Int32}  (h : fk_10_latestOf S v0 v1 = some r) : Met l yX10_latestOf (Cond.code yX10_latestOf cX10_latestOf 3 (some .int) :: lw_g) { frames := 2, cells := 0, slots := 0, locals := 44 } (kPi [.ref v0, .int v1] D S) (kQ (some (.int r))) 0 0 (mNo) := by
  refine Met.ofW (cc := cX10_latestOf) (maxL := 3) (ret := (some .int)) (by decide) rfl ?_
  intro p e s m args below meth c s₁ B hml hv
  obtain ⟨rfl, hW, X⟩ := hv
  have C : cY p (headSpec (Cond.code yX10_latestOf cX10_latestOf 3 (some .int) :: lw_g) { frames := 2, cells := 0, slots := 0, locals := 44 }).room s m _ meth c RX10 cX10_latestOf 3 2 0 0 44 (some .int) := ⟨B.exec, B.bytes, hml, findClass_of_methodNamed B.named, fun w hw => atoms_spec (ws := Cond.code yX10_latestOf cX10_latestOf 3 (some .int) :: lw_g) B.pre w (List.mem_cons_of_mem _ hw), ⟨Nat.le_refl _, Nat.le_refl _, Nat.le_refl _, Nat.le_refl _⟩, B.returns, B.notSynchronized⟩
  have hl := lv_entry ([.ref v0, .int v1]) (n := 3) (Nat.le_of_ble_eq_true rfl)
  rw [lg_entry_eq]
  generalize (lg_sl ([.ref v0, .int v1]) ++ List.replicate (3 - (lg_sl ([.ref v0, .int v1])).length) Slot.unset).toArray = ls at hl ⊢
  have hl : lv_has ls 3 [(0, .ref v0), (1, .int v1)] := hl
  unfold fk_10_latestOf at h
  refine lv_aload_n C.1 C.2.1 dX10_latestOf_0 rfl (lv_at hl 0 rfl) ?_
  refine lv_iload_n C.1 C.2.1 dX10_latestOf_1 rfl (lv_at hl 1 rfl) ?_
  obtain ⟨hk, h⟩ := ckk_ok h
  obtain ⟨o1, h_o1, h⟩ := bd_ok h
  refine c_callR (rest := []) C X hW hl.1 10 (by decide) hk [.int v1] (tk_10_lastGood l h_o1) cw10_83 ki_10_lastGood kl_10_lastGood rfl ⟨by decide, by decide⟩ ⟨(by decide), (by decide)⟩ rfl (Nat.le_of_ble_eq_true rfl) dX10_latestOf_2 ?_
  refine W.eq (g2 := F0 m 5 ls [va_rf o1]) rfl ?_
  refine lv_astore_nq (o := o1) (lv' := [(2, va_rf o1), (0, .ref v0), (1, .int v1)]) C.1 C.2.1 dX10_latestOf_5 rfl hl (by decide) rfl (fun ls hl => ?_)
  refine lv_aload_nq (o := o1) C.1 C.2.1 dX10_latestOf_6 rfl (lv_at hl 0 rfl) ?_
  rcases o1 with _ | a2
  · replace h := cs_n h
    refine lv_ifnonnullN C.1 C.2.1 dX10_latestOf_7 ?_
    refine lv_iconst (v := 0) C.1 C.2.1 dX10_latestOf_10 (by decide) ?_
    refine lv_goto (tgt := 18) C.1 C.2.1 dX10_latestOf_11 (by decide) ?_
    exact wk_10_latestOf_18 C X hW h (lv_sub hl [] rfl)
  · replace h := cs_s h
    refine lv_ifnonnull (tgt := 14) C.1 C.2.1 dX10_latestOf_7 (by decide) ?_
    refine lv_aload_n C.1 C.2.1 dX10_latestOf_14 rfl (lv_at hl 0 rfl) ?_
    obtain ⟨hk, h⟩ := ckk_ok h
    refine gk10_102 C X hW hk dX10_latestOf_15 ?_
    exact wk_10_latestOf_18 C X hW h (lv_sub hl [] rfl)
end
theorem dX7_listsWith_0 : decode cX7_listsWith 0 = .ok (.aload_n 0, 1) := by decide +kernel
theorem dX7_listsWith_1 : decode cX7_listsWith 1 = .ok (.getfield 85, 3) := by decide +kernel
theorem dX7_listsWith_4 : decode cX7_listsWith 4 = .ok (.iload_n 1, 1) := by decide +kernel
theorem dX7_listsWith_5 : decode cX7_listsWith 5 = .ok (.invokevirtual 199, 3) := by decide +kernel
theorem dX7_listsWith_8 : decode cX7_listsWith 8 = .ok (.ifCond .ne 5, 3) := by decide +kernel
theorem dX7_listsWith_11 : decode cX7_listsWith 11 = .ok (.iconst 0, 1) := by decide +kernel
theorem dX7_listsWith_12 : decode cX7_listsWith 12 = .ok (.ireturn, 1) := by decide +kernel
theorem dX7_listsWith_13 : decode cX7_listsWith 13 = .ok (.iconst 0, 1) := by decide +kernel
theorem dX7_listsWith_14 : decode cX7_listsWith 14 = .ok (.istore_n 2, 1) := by decide +kernel
theorem dX7_listsWith_15 : decode cX7_listsWith 15 = .ok (.iconst 0, 1) := by decide +kernel
theorem dX7_listsWith_16 : decode cX7_listsWith 16 = .ok (.istore_n 3, 1) := by decide +kernel
theorem dX7_listsWith_17 : decode cX7_listsWith 17 = .ok (.iload_n 3, 1) := by decide +kernel
theorem dX7_listsWith_18 : decode cX7_listsWith 18 = .ok (.iconst 4, 1) := by decide +kernel
theorem dX7_listsWith_19 : decode cX7_listsWith 19 = .ok (.if_icmp .ge 106, 3) := by decide +kernel
theorem dX7_listsWith_22 : decode cX7_listsWith 22 = .ok (.aload_n 0, 1) := by decide +kernel
theorem dX7_listsWith_23 : decode cX7_listsWith 23 = .ok (.getfield 58, 3) := by decide +kernel
theorem dX7_listsWith_26 : decode cX7_listsWith 26 = .ok (.iconst 4, 1) := by decide +kernel
theorem dX7_listsWith_27 : decode cX7_listsWith 27 = .ok (.iload_n 3, 1) := by decide +kernel
theorem dX7_listsWith_28 : decode cX7_listsWith 28 = .ok (.imul, 1) := by decide +kernel
theorem dX7_listsWith_29 : decode cX7_listsWith 29 = .ok (.iaload, 1) := by decide +kernel
theorem dX7_listsWith_30 : decode cX7_listsWith 30 = .ok (.aload_n 0, 1) := by decide +kernel
theorem dX7_listsWith_31 : decode cX7_listsWith 31 = .ok (.getfield 64, 3) := by decide +kernel
theorem dX7_listsWith_34 : decode cX7_listsWith 34 = .ok (.iload_n 1, 1) := by decide +kernel
theorem dX7_listsWith_35 : decode cX7_listsWith 35 = .ok (.invokevirtual 202, 3) := by decide +kernel
theorem dX7_listsWith_38 : decode cX7_listsWith 38 = .ok (.iconst 1, 1) := by decide +kernel
theorem dX7_listsWith_39 : decode cX7_listsWith 39 = .ok (.iadd, 1) := by decide +kernel
theorem dX7_listsWith_40 : decode cX7_listsWith 40 = .ok (.if_icmp .ne 79, 3) := by decide +kernel
theorem dX7_listsWith_43 : decode cX7_listsWith 43 = .ok (.aload_n 0, 1) := by decide +kernel
theorem dX7_listsWith_44 : decode cX7_listsWith 44 = .ok (.getfield 85, 3) := by decide +kernel
theorem dX7_listsWith_47 : decode cX7_listsWith 47 = .ok (.iload_n 1, 1) := by decide +kernel
theorem dX7_listsWith_48 : decode cX7_listsWith 48 = .ok (.bipush 8, 2) := by decide +kernel
theorem dX7_listsWith_50 : decode cX7_listsWith 50 = .ok (.imul, 1) := by decide +kernel
theorem dX7_listsWith_51 : decode cX7_listsWith 51 = .ok (.aload_n 0, 1) := by decide +kernel
theorem dX7_listsWith_52 : decode cX7_listsWith 52 = .ok (.getfield 58, 3) := by decide +kernel
theorem dX7_listsWith_55 : decode cX7_listsWith 55 = .ok (.iconst 4, 1) := by decide +kernel
theorem dX7_listsWith_56 : decode cX7_listsWith 56 = .ok (.iload_n 3, 1) := by decide +kernel
theorem dX7_listsWith_57 : decode cX7_listsWith 57 = .ok (.imul, 1) := by decide +kernel
theorem dX7_listsWith_58 : decode cX7_listsWith 58 = .ok (.iconst 1, 1) := by decide +kernel
theorem dX7_listsWith_59 : decode cX7_listsWith 59 = .ok (.iadd, 1) := by decide +kernel
theorem dX7_listsWith_60 : decode cX7_listsWith 60 = .ok (.iaload, 1) := by decide +kernel
theorem dX7_listsWith_61 : decode cX7_listsWith 61 = .ok (.iadd, 1) := by decide +kernel
theorem dX7_listsWith_62 : decode cX7_listsWith 62 = .ok (.invokevirtual 205, 3) := by decide +kernel
theorem dX7_listsWith_65 : decode cX7_listsWith 65 = .ok (.istore 4, 2) := by decide +kernel
theorem dX7_listsWith_67 : decode cX7_listsWith 67 = .ok (.iload 4, 2) := by decide +kernel
theorem dX7_listsWith_69 : decode cX7_listsWith 69 = .ok (.aload_n 0, 1) := by decide +kernel
theorem dX7_listsWith_70 : decode cX7_listsWith 70 = .ok (.getfield 58, 3) := by decide +kernel
theorem dX7_listsWith_73 : decode cX7_listsWith 73 = .ok (.iconst 4, 1) := by decide +kernel
theorem dX7_listsWith_74 : decode cX7_listsWith 74 = .ok (.iload_n 3, 1) := by decide +kernel
theorem dX7_listsWith_75 : decode cX7_listsWith 75 = .ok (.imul, 1) := by decide +kernel
theorem dX7_listsWith_76 : decode cX7_listsWith 76 = .ok (.iconst 2, 1) := by decide +kernel
theorem dX7_listsWith_77 : decode cX7_listsWith 77 = .ok (.iadd, 1) := by decide +kernel
theorem dX7_listsWith_78 : decode cX7_listsWith 78 = .ok (.iaload, 1) := by decide +kernel
theorem dX7_listsWith_79 : decode cX7_listsWith 79 = .ok (.if_icmp .lt 22, 3) := by decide +kernel
theorem dX7_listsWith_82 : decode cX7_listsWith 82 = .ok (.iload 4, 2) := by decide +kernel
theorem dX7_listsWith_84 : decode cX7_listsWith 84 = .ok (.aload_n 0, 1) := by decide +kernel
theorem dX7_listsWith_85 : decode cX7_listsWith 85 = .ok (.getfield 58, 3) := by decide +kernel
theorem dX7_listsWith_88 : decode cX7_listsWith 88 = .ok (.iconst 4, 1) := by decide +kernel
theorem dX7_listsWith_89 : decode cX7_listsWith 89 = .ok (.iload_n 3, 1) := by decide +kernel
theorem dX7_listsWith_90 : decode cX7_listsWith 90 = .ok (.imul, 1) := by decide +kernel
theorem dX7_listsWith_91 : decode cX7_listsWith 91 = .ok (.iconst 3, 1) := by decide +kernel
theorem dX7_listsWith_92 : decode cX7_listsWith 92 = .ok (.iadd, 1) := by decide +kernel
theorem dX7_listsWith_93 : decode cX7_listsWith 93 = .ok (.iaload, 1) := by decide +kernel
theorem dX7_listsWith_94 : decode cX7_listsWith 94 = .ok (.if_icmp .gt 7, 3) := by decide +kernel
theorem dX7_listsWith_97 : decode cX7_listsWith 97 = .ok (.iconst 1, 1) := by decide +kernel
theorem dX7_listsWith_98 : decode cX7_listsWith 98 = .ok (.goto 4, 3) := by decide +kernel
theorem dX7_listsWith_101 : decode cX7_listsWith 101 = .ok (.iconst 0, 1) := by decide +kernel
theorem dX7_listsWith_102 : decode cX7_listsWith 102 = .ok (.istore 5, 2) := by decide +kernel
theorem dX7_listsWith_104 : decode cX7_listsWith 104 = .ok (.iload_n 2, 1) := by decide +kernel
theorem dX7_listsWith_105 : decode cX7_listsWith 105 = .ok (.iload 5, 2) := by decide +kernel
theorem dX7_listsWith_107 : decode cX7_listsWith 107 = .ok (.ifCond .eq 9, 3) := by decide +kernel
theorem dX7_listsWith_110 : decode cX7_listsWith 110 = .ok (.iconst 1, 1) := by decide +kernel
theorem dX7_listsWith_111 : decode cX7_listsWith 111 = .ok (.iload_n 3, 1) := by decide +kernel
theorem dX7_listsWith_112 : decode cX7_listsWith 112 = .ok (.ishl, 1) := by decide +kernel
theorem dX7_listsWith_113 : decode cX7_listsWith 113 = .ok (.goto 4, 3) := by decide +kernel
theorem dX7_listsWith_116 : decode cX7_listsWith 116 = .ok (.iconst 0, 1) := by decide +kernel
theorem dX7_listsWith_117 : decode cX7_listsWith 117 = .ok (.ior, 1) := by decide +kernel
theorem dX7_listsWith_118 : decode cX7_listsWith 118 = .ok (.istore_n 2, 1) := by decide +kernel
theorem dX7_listsWith_119 : decode cX7_listsWith 119 = .ok (.iinc 3 1, 3) := by decide +kernel
theorem dX7_listsWith_122 : decode cX7_listsWith 122 = .ok (.goto (-105), 3) := by decide +kernel
theorem dX7_listsWith_125 : decode cX7_listsWith 125 = .ok (.iload_n 2, 1) := by decide +kernel
theorem dX7_listsWith_126 : decode cX7_listsWith 126 = .ok (.ireturn, 1) := by decide +kernel
theorem kd_7_listsWith : Cond.code yX7_listsWith cX7_listsWith 6 (some .int) ∈ lw_g := mt_at 1081 (by decide +kernel) rfl
theorem ki_7_listsWith : Cond.instanceMethod yX7_listsWith ∈ lw_g := mt_at 1079 (by decide +kernel) rfl
theorem kl_7_listsWith : Cond.selects (kRn 7) yX7_listsWith yX7_listsWith ∈ lw_g := mt_at 1080 (by decide +kernel) rfl
theorem cw7_199 : cCw RX7 199 yX10_isThere cX10_isThere 2 (some .boolean) 1 := ⟨kd_10_isThere, mt_at 1082 (by decide +kernel) rfl, mt_at 10 (by decide +kernel) rfl, by decide +kernel⟩
theorem cw7_202 : cCw RX7 202 yX0_kindOf cX0_kindOf 3 (some .int) 1 := ⟨kd_0_kindOf, mt_at 1083 (by decide +kernel) rfl, mt_at 3 (by decide +kernel) rfl, by decide +kernel⟩
theorem cw7_205 : cCw RX7 205 yX10_latestOf cX10_latestOf 3 (some .int) 1 := ⟨kd_10_latestOf, mt_at 1084 (by decide +kernel) rfl, mt_at 10 (by decide +kernel) rfl, by decide +kernel⟩
section
variable {p : Program} {l : Launch} {e : Env} {R : Room} {s : State} {m : MethodId} {args : Array Value} {below : List Frame} {meth : Method} {c : Code} {H : Heap} {locs : List Loc} {cells slots : Nat} {Q : State → Prop}
variable {D : cG} {S S0 : cSt} {cc : ByteArray} {nL : Nat} {pc : Nat} {ls : Array Slot} {rest : List Value} {H0 : Heap} {nF nR nC nS : Nat} {ret : Option FieldType} {a : Nat}
theorem gk7_58 (C : cY p R s m args meth c RX7 cc nL nF nC nS nR ret) (X : cX D s) (hW : cW D S H) (hk : kK S a = 8) {x : Nat} (hx : kR S a 16 = some x) (hdg : decode cc pc = .ok (.getfield 58, 3)) (kk : W p l e R s m args below meth c H locs cells slots Q (F0 m (pc + 3) ls (.ref x :: rest))) : W p l e R s m args below meth c H locs cells slots Q (F0 m pc ls (.ref a :: rest)) := c_get C X hW 7 (by decide) ly_7 hk 16 (by decide) (mt_at 333 (by decide +kernel) (by decide +kernel)) hdg (by rw [cV_R (by decide +kernel) hx]; exact kk)
theorem gk7_85 (C : cY p R s m args meth c RX7 cc nL nF nC nS nR ret) (X : cX D s) (hW : cW D S H) (hk : kK S a = 8) {x : Nat} (hx : kR S a 2 = some x) (hdg : decode cc pc = .ok (.getfield 85, 3)) (kk : W p l e R s m args below meth c H locs cells slots Q (F0 m (pc + 3) ls (.ref x :: rest))) : W p l e R s m args below meth c H locs cells slots Q (F0 m pc ls (.ref a :: rest)) := c_get C X hW 7 (by decide) ly_7 hk 2 (by decide) (mt_at 307 (by decide +kernel) (by decide +kernel)) hdg (by rw [cV_R (by decide +kernel) hx]; exact kk)
end
section
variable {p : Program} {l : Launch} {e : Env} {R : Room} {s : State} {m : MethodId} {args : Array Value} {below : List Frame} {meth : Method} {c : Code} {D : cG} {S : cSt} {r : Int32}
noncomputable def fk_7_listsWith_119 (g_17 : Nat → Int32 → Int32 → Int32 → Option (Int32)) (S : cSt) (v0 : Nat) (v1 : Int32) (v2 : Int32) (v3 : Int32) : Option (Int32) :=
lt (v3 + (1 : Int32)) fun x1 =>
g_17 v0 v1 v2 x1
set_option maxRecDepth 100000 in
set_option maxHeartbeats 4000000 in
theorem wk_7_listsWith_119 (C : cY p R s m args meth c RX7 cX7_listsWith 6 3 0 0 66 (some .int)) (X : cX D s) (hW : cW D S s.heap) {g_17 : Nat → Int32 → Int32 → Int32 → Option (Int32)} (hg_17 : ∀ {v0 : Nat} {v1 : Int32} {v2 : Int32} {v3 : Int32} {ls : Array Slot}, g_17 v0 v1 v2 v3 = some r → lv_has ls 6 [(0, .ref v0), (1, .int v1), (2, .int v2), (3, .int v3)] → W p l e R s m args below meth c s.heap [] 0 0 (MQ below (kQ (some (.int r))) args s 0 0 mNo) (F0 m 17 ls [])) : ∀ {v0 : Nat} {v1 : Int32} {v2 : Int32} {v3 : Int32} {ls : Array Slot}, fk_7_listsWith_119 g_17 S v0 v1 v2 v3 = some r → lv_has ls 6 [(0, .ref v0), (1, .int v1), (2, .int v2), (3, .int v3)] → W p l e R s m args below meth c s.heap [] 0 0 (MQ below (kQ (some (.int r))) args s 0 0 mNo) (F0 m 119 ls []) := by
  intro v0 v1 v2 v3 ls h hl
  unfold fk_7_listsWith_119 at h
  refine lt_ok h (fun x1 e_x1 h => ?_)
  refine lv_iinc (v := x1) (lv' := [(3, .int x1), (0, .ref v0), (1, .int v1), (2, .int v2)]) C.1 C.2.1 dX7_listsWith_119 hl (k := 3) rfl (by rw [← e_x1]; rfl) (by decide) rfl (fun ls hl => ?_)
  refine lv_goto (tgt := 17) C.1 C.2.1 dX7_listsWith_122 (by decide) ?_
  exact hg_17 h (lv_sub hl [1, 2, 3, 0] rfl)
noncomputable def fk_7_listsWith_117 (g_17 : Nat → Int32 → Int32 → Int32 → Option (Int32)) (S : cSt) (v0 : Nat) (v1 : Int32) (v3 : Int32) (s0 : Int32) (s1 : Int32) : Option (Int32) :=
lt (s0 ||| s1) fun x1 =>
fk_7_listsWith_119 g_17 S v0 v1 x1 v3
set_option maxRecDepth 100000 in
set_option maxHeartbeats 4000000 in
theorem wk_7_listsWith_117 (C : cY p R s m args meth c RX7 cX7_listsWith 6 3 0 0 66 (some .int)) (X : cX D s) (hW : cW D S s.heap) {g_17 : Nat → Int32 → Int32 → Int32 → Option (Int32)} (hg_17 : ∀ {v0 : Nat} {v1 : Int32} {v2 : Int32} {v3 : Int32} {ls : Array Slot}, g_17 v0 v1 v2 v3 = some r → lv_has ls 6 [(0, .ref v0), (1, .int v1), (2, .int v2), (3, .int v3)] → W p l e R s m args below meth c s.heap [] 0 0 (MQ below (kQ (some (.int r))) args s 0 0 mNo) (F0 m 17 ls [])) : ∀ {v0 : Nat} {v1 : Int32} {v3 : Int32} {s0 : Int32} {s1 : Int32} {ls : Array Slot}, fk_7_listsWith_117 g_17 S v0 v1 v3 s0 s1 = some r → lv_has ls 6 [(0, .ref v0), (1, .int v1), (3, .int v3)] → W p l e R s m args below meth c s.heap [] 0 0 (MQ below (kQ (some (.int r))) args s 0 0 mNo) (F0 m 117 ls [.int s1, .int s0]) := by
  intro v0 v1 v3 s0 s1 ls h hl
  unfold fk_7_listsWith_117 at h
  refine lv_ior C.1 C.2.1 dX7_listsWith_117 ?_
  refine lt_ok h (fun x1 e_x1 h => ?_)
  refine lv_nm e_x1 ?_
  refine lv_istore_n (lv' := [(2, .int x1), (0, .ref v0), (1, .int v1), (3, .int v3)]) C.1 C.2.1 dX7_listsWith_118 rfl hl (by decide) rfl (fun ls hl => ?_)
  exact wk_7_listsWith_119 C X hW hg_17 h (lv_sub hl [1, 2, 0, 3] rfl)
noncomputable def fk_7_listsWith_102 (g_17 : Nat → Int32 → Int32 → Int32 → Option (Int32)) (S : cSt) (v0 : Nat) (v1 : Int32) (v2 : Int32) (v3 : Int32) (s0 : Int32) : Option (Int32) :=
if s0 = 0 then (
fk_7_listsWith_117 g_17 S v0 v1 v3 v2 (0 : Int32))
else (
fk_7_listsWith_117 g_17 S v0 v1 v3 v2 ((1 : Int32) <<< (v3 &&& 31)))
set_option maxRecDepth 100000 in
set_option maxHeartbeats 4000000 in
theorem wk_7_listsWith_102 (C : cY p R s m args meth c RX7 cX7_listsWith 6 3 0 0 66 (some .int)) (X : cX D s) (hW : cW D S s.heap) {g_17 : Nat → Int32 → Int32 → Int32 → Option (Int32)} (hg_17 : ∀ {v0 : Nat} {v1 : Int32} {v2 : Int32} {v3 : Int32} {ls : Array Slot}, g_17 v0 v1 v2 v3 = some r → lv_has ls 6 [(0, .ref v0), (1, .int v1), (2, .int v2), (3, .int v3)] → W p l e R s m args below meth c s.heap [] 0 0 (MQ below (kQ (some (.int r))) args s 0 0 mNo) (F0 m 17 ls [])) : ∀ {v0 : Nat} {v1 : Int32} {v2 : Int32} {v3 : Int32} {s0 : Int32} {ls : Array Slot}, fk_7_listsWith_102 g_17 S v0 v1 v2 v3 s0 = some r → lv_has ls 6 [(0, .ref v0), (1, .int v1), (2, .int v2), (3, .int v3)] → W p l e R s m args below meth c s.heap [] 0 0 (MQ below (kQ (some (.int r))) args s 0 0 mNo) (F0 m 102 ls [.int s0]) := by
  intro v0 v1 v2 v3 s0 ls h hl
  unfold fk_7_listsWith_102 at h
  refine lv_istore (lv' := [(5, .int s0), (0, .ref v0), (1, .int v1), (2, .int v2), (3, .int v3)]) C.1 C.2.1 dX7_listsWith_102 hl (by decide) rfl (fun ls hl => ?_)
  refine lv_iload_n C.1 C.2.1 dX7_listsWith_104 rfl (lv_at hl 3 rfl) ?_
  refine lv_iload C.1 C.2.1 dX7_listsWith_105 (lv_at hl 0 rfl) ?_
  refine lv_if_eq (tgt := 116) C.1 C.2.1 dX7_listsWith_107 (by decide) (fun c1 => ?_) (fun c1 => ?_)
  · have h := if_t h c1
    refine lv_iconst (v := 0) C.1 C.2.1 dX7_listsWith_116 (by decide) ?_
    exact wk_7_listsWith_117 C X hW hg_17 h (lv_sub hl [1, 2, 4] rfl)
  · have h := if_f h c1
    refine lv_iconst (v := 1) C.1 C.2.1 dX7_listsWith_110 (by decide) ?_
    refine lv_iload_n C.1 C.2.1 dX7_listsWith_111 rfl (lv_at hl 4 rfl) ?_
    refine lv_ishl C.1 C.2.1 dX7_listsWith_112 ?_
    refine lv_goto (tgt := 117) C.1 C.2.1 dX7_listsWith_113 (by decide) ?_
    exact wk_7_listsWith_117 C X hW hg_17 h (lv_sub hl [1, 2, 4] rfl)
noncomputable def fk_7_listsWith_101 (g_17 : Nat → Int32 → Int32 → Int32 → Option (Int32)) (S : cSt) (v0 : Nat) (v1 : Int32) (v2 : Int32) (v3 : Int32) : Option (Int32) :=
fk_7_listsWith_102 g_17 S v0 v1 v2 v3 (0 : Int32)
set_option maxRecDepth 100000 in
set_option maxHeartbeats 4000000 in
theorem wk_7_listsWith_101 (C : cY p R s m args meth c RX7 cX7_listsWith 6 3 0 0 66 (some .int)) (X : cX D s) (hW : cW D S s.heap) {g_17 : Nat → Int32 → Int32 → Int32 → Option (Int32)} (hg_17 : ∀ {v0 : Nat} {v1 : Int32} {v2 : Int32} {v3 : Int32} {ls : Array Slot}, g_17 v0 v1 v2 v3 = some r → lv_has ls 6 [(0, .ref v0), (1, .int v1), (2, .int v2), (3, .int v3)] → W p l e R s m args below meth c s.heap [] 0 0 (MQ below (kQ (some (.int r))) args s 0 0 mNo) (F0 m 17 ls [])) : ∀ {v0 : Nat} {v1 : Int32} {v2 : Int32} {v3 : Int32} {ls : Array Slot}, fk_7_listsWith_101 g_17 S v0 v1 v2 v3 = some r → lv_has ls 6 [(0, .ref v0), (1, .int v1), (2, .int v2), (3, .int v3)] → W p l e R s m args below meth c s.heap [] 0 0 (MQ below (kQ (some (.int r))) args s 0 0 mNo) (F0 m 101 ls []) := by
  intro v0 v1 v2 v3 ls h hl
  unfold fk_7_listsWith_101 at h
  refine lv_iconst (v := 0) C.1 C.2.1 dX7_listsWith_101 (by decide) ?_
  exact wk_7_listsWith_102 C X hW hg_17 h (lv_sub hl [0, 1, 2, 3] rfl)
noncomputable def fk_7_listsWith_17 (S : cSt) : Nat → Nat → Int32 → Int32 → Int32 → Option (Int32)
  | 0, _, _, _, _ => none
  | n + 1, v0, v1, v2, v3 =>
    if (4 : Int32) ≤ v3 then (
    some v2)
    else (
    ckk S v0 8 (bd (kR S v0 16) fun a2 =>
    ckk S a2 20 (ck ((4 : Int32) * v3) (kL S a2) (
    ckk S v0 8 (bd (kR S v0 12) fun a3 =>
    ckk S a3 1 (bd (fk_0_kindOf S a3 v1) fun r4 =>
    if (kI S a2 (Int32.toNatClampNeg ((4 : Int32) * v3))) = (r4 + (1 : Int32)) then (
    ckk S v0 8 (bd (kR S v0 2) fun a6 =>
    ckk S v0 8 (bd (kR S v0 16) fun a7 =>
    ckk S a7 20 (ck (((4 : Int32) * v3) + (1 : Int32)) (kL S a7) (
    ckk S a6 11 (bd (fk_10_latestOf S a6 ((v1 * (8 : Int32)) + (kI S a7 (Int32.toNatClampNeg (((4 : Int32) * v3) + (1 : Int32)))))) fun r8 =>
    ckk S v0 8 (bd (kR S v0 16) fun a9 =>
    ckk S a9 20 (ck (((4 : Int32) * v3) + (2 : Int32)) (kL S a9) (
    if r8 < (kI S a9 (Int32.toNatClampNeg (((4 : Int32) * v3) + (2 : Int32)))) then (
    fk_7_listsWith_101 (fk_7_listsWith_17 S n) S v0 v1 v2 v3)
    else (
    ckk S v0 8 (bd (kR S v0 16) fun a11 =>
    ckk S a11 20 (ck (((4 : Int32) * v3) + (3 : Int32)) (kL S a11) (
    if (kI S a11 (Int32.toNatClampNeg (((4 : Int32) * v3) + (3 : Int32)))) < r8 then (
    fk_7_listsWith_101 (fk_7_listsWith_17 S n) S v0 v1 v2 v3)
    else (
    fk_7_listsWith_102 (fk_7_listsWith_17 S n) S v0 v1 v2 v3 (1 : Int32)))))))))))))))
    else (
    fk_7_listsWith_119 (fk_7_listsWith_17 S n) S v0 v1 v2 v3)))))))
set_option maxRecDepth 100000 in
set_option maxHeartbeats 4000000 in
theorem wk_7_listsWith_17 (C : cY p R s m args meth c RX7 cX7_listsWith 6 3 0 0 66 (some .int)) (X : cX D s) (hW : cW D S s.heap) : ∀ (n : Nat), ∀ {v0 : Nat} {v1 : Int32} {v2 : Int32} {v3 : Int32} {ls : Array Slot}, fk_7_listsWith_17 S n v0 v1 v2 v3 = some r → lv_has ls 6 [(0, .ref v0), (1, .int v1), (2, .int v2), (3, .int v3)] → W p l e R s m args below meth c s.heap [] 0 0 (MQ below (kQ (some (.int r))) args s 0 0 mNo) (F0 m 17 ls []) := by
  intro n
  induction n with
  | zero =>
    intro v0 v1 v2 v3 ls h hl
    exact absurd (show (none : Option (Int32)) = _ from h) (fun q => by cases q)
  | succ n ih =>
    intro v0 v1 v2 v3 ls h hl
    rw [fk_7_listsWith_17] at h
    refine lv_iload_n C.1 C.2.1 dX7_listsWith_17 rfl (lv_at hl 3 rfl) ?_
    refine lv_iconst (v := 4) C.1 C.2.1 dX7_listsWith_18 (by decide) ?_
    refine lv_icmp_ge (tgt := 125) C.1 C.2.1 dX7_listsWith_19 (by decide) (fun c1 => ?_) (fun c1 => ?_)
    · have h := if_t h c1
      refine lv_iload_n C.1 C.2.1 dX7_listsWith_125 rfl (lv_at hl 2 rfl) ?_
      cases h
      exact c_reti C rfl rfl dX7_listsWith_126
    · have h := if_f h c1
      refine lv_aload_n C.1 C.2.1 dX7_listsWith_22 rfl (lv_at hl 0 rfl) ?_
      obtain ⟨hk, h⟩ := ckk_ok h
      obtain ⟨a2, h_a2, h⟩ := bd_ok h
      refine gk7_58 C X hW hk h_a2 dX7_listsWith_23 ?_
      refine lv_iconst (v := 4) C.1 C.2.1 dX7_listsWith_26 (by decide) ?_
      refine lv_iload_n C.1 C.2.1 dX7_listsWith_27 rfl (lv_at hl 3 rfl) ?_
      refine lv_imul C.1 C.2.1 dX7_listsWith_28 ?_
      obtain ⟨hk, h⟩ := ckk_ok h
      obtain ⟨hin2, h⟩ := ck_ok h
      refine c_iald C X hW hk hin2 dX7_listsWith_29 ?_
      refine lv_aload_n C.1 C.2.1 dX7_listsWith_30 rfl (lv_at hl 0 rfl) ?_
      obtain ⟨hk, h⟩ := ckk_ok h
      obtain ⟨a3, h_a3, h⟩ := bd_ok h
      refine gk7_64 C X hW hk h_a3 dX7_listsWith_31 ?_
      refine lv_iload_n C.1 C.2.1 dX7_listsWith_34 rfl (lv_at hl 1 rfl) ?_
      obtain ⟨hk, h⟩ := ckk_ok h
      obtain ⟨r4, h_r4, h⟩ := bd_ok h
      refine c_callR (rest := [.int (kI S a2 (Int32.toNatClampNeg ((4 : Int32) * v3)))]) C X hW hl.1 0 (by decide) hk [.int v1] (tk_0_kindOf l h_r4) cw7_202 ki_0_kindOf kl_0_kindOf rfl ⟨by decide, by decide⟩ ⟨(by decide), (by decide)⟩ rfl (Nat.le_of_ble_eq_true rfl) dX7_listsWith_35 ?_
      refine W.eq (g2 := F0 m 38 ls [.int r4, .int (kI S a2 (Int32.toNatClampNeg ((4 : Int32) * v3)))]) rfl ?_
      refine lv_iconst (v := 1) C.1 C.2.1 dX7_listsWith_38 (by decide) ?_
      refine lv_iadd C.1 C.2.1 dX7_listsWith_39 ?_
      refine lv_icmp_ne (tgt := 119) C.1 C.2.1 dX7_listsWith_40 (by decide) (fun c5 => ?_) (fun c5 => ?_)
      · have h := if_f h c5
        exact wk_7_listsWith_119 C X hW ih h (lv_sub hl [0, 1, 2, 3] rfl)
      · have h := if_t h c5
        refine lv_aload_n C.1 C.2.1 dX7_listsWith_43 rfl (lv_at hl 0 rfl) ?_
        obtain ⟨hk, h⟩ := ckk_ok h
        obtain ⟨a6, h_a6, h⟩ := bd_ok h
        refine gk7_85 C X hW hk h_a6 dX7_listsWith_44 ?_
        refine lv_iload_n C.1 C.2.1 dX7_listsWith_47 rfl (lv_at hl 1 rfl) ?_
        refine lv_bipush (v := 8) C.1 C.2.1 dX7_listsWith_48 (by decide) ?_
        refine lv_imul C.1 C.2.1 dX7_listsWith_50 ?_
        refine lv_aload_n C.1 C.2.1 dX7_listsWith_51 rfl (lv_at hl 0 rfl) ?_
        obtain ⟨hk, h⟩ := ckk_ok h
        obtain ⟨a7, h_a7, h⟩ := bd_ok h
        refine gk7_58 C X hW hk h_a7 dX7_listsWith_52 ?_
        refine lv_iconst (v := 4) C.1 C.2.1 dX7_listsWith_55 (by decide) ?_
        refine lv_iload_n C.1 C.2.1 dX7_listsWith_56 rfl (lv_at hl 3 rfl) ?_
        refine lv_imul C.1 C.2.1 dX7_listsWith_57 ?_
        refine lv_iconst (v := 1) C.1 C.2.1 dX7_listsWith_58 (by decide) ?_
        refine lv_iadd C.1 C.2.1 dX7_listsWith_59 ?_
        obtain ⟨hk, h⟩ := ckk_ok h
        obtain ⟨hin2, h⟩ := ck_ok h
        refine c_iald C X hW hk hin2 dX7_listsWith_60 ?_
        refine lv_iadd C.1 C.2.1 dX7_listsWith_61 ?_
        obtain ⟨hk, h⟩ := ckk_ok h
        obtain ⟨r8, h_r8, h⟩ := bd_ok h
        refine c_callR (rest := []) C X hW hl.1 10 (by decide) hk [.int ((v1 * (8 : Int32)) + (kI S a7 (Int32.toNatClampNeg (((4 : Int32) * v3) + (1 : Int32)))))] (tk_10_latestOf l h_r8) cw7_205 ki_10_latestOf kl_10_latestOf rfl ⟨by decide, by decide⟩ ⟨(by decide), (by decide)⟩ rfl (Nat.le_of_ble_eq_true rfl) dX7_listsWith_62 ?_
        refine W.eq (g2 := F0 m 65 ls [.int r8]) rfl ?_
        refine lv_istore (lv' := [(4, .int r8), (0, .ref v0), (1, .int v1), (2, .int v2), (3, .int v3)]) C.1 C.2.1 dX7_listsWith_65 hl (by decide) rfl (fun ls hl => ?_)
        refine lv_iload C.1 C.2.1 dX7_listsWith_67 (lv_at hl 0 rfl) ?_
        refine lv_aload_n C.1 C.2.1 dX7_listsWith_69 rfl (lv_at hl 1 rfl) ?_
        obtain ⟨hk, h⟩ := ckk_ok h
        obtain ⟨a9, h_a9, h⟩ := bd_ok h
        refine gk7_58 C X hW hk h_a9 dX7_listsWith_70 ?_
        refine lv_iconst (v := 4) C.1 C.2.1 dX7_listsWith_73 (by decide) ?_
        refine lv_iload_n C.1 C.2.1 dX7_listsWith_74 rfl (lv_at hl 4 rfl) ?_
        refine lv_imul C.1 C.2.1 dX7_listsWith_75 ?_
        refine lv_iconst (v := 2) C.1 C.2.1 dX7_listsWith_76 (by decide) ?_
        refine lv_iadd C.1 C.2.1 dX7_listsWith_77 ?_
        obtain ⟨hk, h⟩ := ckk_ok h
        obtain ⟨hin2, h⟩ := ck_ok h
        refine c_iald C X hW hk hin2 dX7_listsWith_78 ?_
        refine lv_icmp_lt (tgt := 101) C.1 C.2.1 dX7_listsWith_79 (by decide) (fun c10 => ?_) (fun c10 => ?_)
        · have h := if_t h c10
          exact wk_7_listsWith_101 C X hW ih h (lv_sub hl [1, 2, 3, 4] rfl)
        · have h := if_f h c10
          refine lv_iload C.1 C.2.1 dX7_listsWith_82 (lv_at hl 0 rfl) ?_
          refine lv_aload_n C.1 C.2.1 dX7_listsWith_84 rfl (lv_at hl 1 rfl) ?_
          obtain ⟨hk, h⟩ := ckk_ok h
          obtain ⟨a11, h_a11, h⟩ := bd_ok h
          refine gk7_58 C X hW hk h_a11 dX7_listsWith_85 ?_
          refine lv_iconst (v := 4) C.1 C.2.1 dX7_listsWith_88 (by decide) ?_
          refine lv_iload_n C.1 C.2.1 dX7_listsWith_89 rfl (lv_at hl 4 rfl) ?_
          refine lv_imul C.1 C.2.1 dX7_listsWith_90 ?_
          refine lv_iconst (v := 3) C.1 C.2.1 dX7_listsWith_91 (by decide) ?_
          refine lv_iadd C.1 C.2.1 dX7_listsWith_92 ?_
          obtain ⟨hk, h⟩ := ckk_ok h
          obtain ⟨hin2, h⟩ := ck_ok h
          refine c_iald C X hW hk hin2 dX7_listsWith_93 ?_
          refine lv_icmp_gt (tgt := 101) C.1 C.2.1 dX7_listsWith_94 (by decide) (fun c12 => ?_) (fun c12 => ?_)
          · have h := if_t h c12
            exact wk_7_listsWith_101 C X hW ih h (lv_sub hl [1, 2, 3, 4] rfl)
          · have h := if_f h c12
            refine lv_iconst (v := 1) C.1 C.2.1 dX7_listsWith_97 (by decide) ?_
            refine lv_goto (tgt := 102) C.1 C.2.1 dX7_listsWith_98 (by decide) ?_
            exact wk_7_listsWith_102 C X hW ih h (lv_sub hl [1, 2, 3, 4] rfl)
noncomputable def fk_7_listsWith (S : cSt) (v0 : Nat) (v1 : Int32) : Option (Int32) :=
ckk S v0 8 (bd (kR S v0 2) fun a1 =>
ckk S a1 11 (bd (fk_10_isThere S a1 v1) fun r2 =>
if r2 = 0 then (
some (0 : Int32))
else (
fk_7_listsWith_17 S mFU v0 v1 (0 : Int32) (0 : Int32))))
set_option maxRecDepth 100000 in
set_option maxHeartbeats 4000000 in
theorem tk_7_listsWith (l : Launch) {D : cG} {S : cSt} {v0 : Nat} {v1 : Int32} {r : Int32}  (h : fk_7_listsWith S v0 v1 = some r) : Met l yX7_listsWith (Cond.code yX7_listsWith cX7_listsWith 6 (some .int) :: lw_g) { frames := 3, cells := 0, slots := 0, locals := 66 } (kPi [.ref v0, .int v1] D S) (kQ (some (.int r))) 0 0 (mNo) := by
  refine Met.ofW (cc := cX7_listsWith) (maxL := 6) (ret := (some .int)) (by decide) rfl ?_
  intro p e s m args below meth c s₁ B hml hv
  obtain ⟨rfl, hW, X⟩ := hv
  have C : cY p (headSpec (Cond.code yX7_listsWith cX7_listsWith 6 (some .int) :: lw_g) { frames := 3, cells := 0, slots := 0, locals := 66 }).room s m _ meth c RX7 cX7_listsWith 6 3 0 0 66 (some .int) := ⟨B.exec, B.bytes, hml, findClass_of_methodNamed B.named, fun w hw => atoms_spec (ws := Cond.code yX7_listsWith cX7_listsWith 6 (some .int) :: lw_g) B.pre w (List.mem_cons_of_mem _ hw), ⟨Nat.le_refl _, Nat.le_refl _, Nat.le_refl _, Nat.le_refl _⟩, B.returns, B.notSynchronized⟩
  have hl := lv_entry ([.ref v0, .int v1]) (n := 6) (Nat.le_of_ble_eq_true rfl)
  rw [lg_entry_eq]
  generalize (lg_sl ([.ref v0, .int v1]) ++ List.replicate (6 - (lg_sl ([.ref v0, .int v1])).length) Slot.unset).toArray = ls at hl ⊢
  have hl : lv_has ls 6 [(0, .ref v0), (1, .int v1)] := hl
  unfold fk_7_listsWith at h
  refine lv_aload_n C.1 C.2.1 dX7_listsWith_0 rfl (lv_at hl 0 rfl) ?_
  obtain ⟨hk, h⟩ := ckk_ok h
  obtain ⟨a1, h_a1, h⟩ := bd_ok h
  refine gk7_85 C X hW hk h_a1 dX7_listsWith_1 ?_
  refine lv_iload_n C.1 C.2.1 dX7_listsWith_4 rfl (lv_at hl 1 rfl) ?_
  obtain ⟨hk, h⟩ := ckk_ok h
  obtain ⟨r2, h_r2, h⟩ := bd_ok h
  refine c_callR (rest := []) C X hW hl.1 10 (by decide) hk [.int v1] (tk_10_isThere l h_r2) cw7_199 ki_10_isThere kl_10_isThere rfl ⟨by decide, by decide⟩ ⟨(by decide), (by decide)⟩ rfl (Nat.le_of_ble_eq_true rfl) dX7_listsWith_5 ?_
  refine W.eq (g2 := F0 m 8 ls [.int r2]) rfl ?_
  refine lv_if_ne (tgt := 13) C.1 C.2.1 dX7_listsWith_8 (by decide) (fun c3 => ?_) (fun c3 => ?_)
  · have h := if_f h c3
    refine lv_iconst (v := 0) C.1 C.2.1 dX7_listsWith_13 (by decide) ?_
    refine lv_istore_n (lv' := [(2, .int (0 : Int32)), (0, .ref v0), (1, .int v1)]) C.1 C.2.1 dX7_listsWith_14 rfl hl (by decide) rfl (fun ls hl => ?_)
    refine lv_iconst (v := 0) C.1 C.2.1 dX7_listsWith_15 (by decide) ?_
    refine lv_istore_n (lv' := [(3, .int (0 : Int32)), (2, .int (0 : Int32)), (0, .ref v0), (1, .int v1)]) C.1 C.2.1 dX7_listsWith_16 rfl hl (by decide) rfl (fun ls hl => ?_)
    exact wk_7_listsWith_17 C X hW mFU h (lv_sub hl [2, 3, 1, 0] rfl)
  · have h := if_t h c3
    refine lv_iconst (v := 0) C.1 C.2.1 dX7_listsWith_11 (by decide) ?_
    cases h
    exact c_reti C rfl rfl dX7_listsWith_12
end
theorem dJ7_fill_53178_0 : decode cJ7_fill_53178 0 = .ok (.iconst 0, 1) := by decide +kernel
theorem dJ7_fill_53178_1 : decode cJ7_fill_53178 1 = .ok (.istore_n 2, 1) := by decide +kernel
theorem dJ7_fill_53178_2 : decode cJ7_fill_53178 2 = .ok (.aload_n 0, 1) := by decide +kernel
theorem dJ7_fill_53178_3 : decode cJ7_fill_53178 3 = .ok (.arraylength, 1) := by decide +kernel
theorem dJ7_fill_53178_4 : decode cJ7_fill_53178 4 = .ok (.istore_n 3, 1) := by decide +kernel
theorem dJ7_fill_53178_5 : decode cJ7_fill_53178 5 = .ok (.iload_n 2, 1) := by decide +kernel
theorem dJ7_fill_53178_6 : decode cJ7_fill_53178 6 = .ok (.iload_n 3, 1) := by decide +kernel
theorem dJ7_fill_53178_7 : decode cJ7_fill_53178 7 = .ok (.if_icmp .ge 13, 3) := by decide +kernel
theorem dJ7_fill_53178_10 : decode cJ7_fill_53178 10 = .ok (.aload_n 0, 1) := by decide +kernel
theorem dJ7_fill_53178_11 : decode cJ7_fill_53178 11 = .ok (.iload_n 2, 1) := by decide +kernel
theorem dJ7_fill_53178_12 : decode cJ7_fill_53178 12 = .ok (.iload_n 1, 1) := by decide +kernel
theorem dJ7_fill_53178_13 : decode cJ7_fill_53178 13 = .ok (.iastore, 1) := by decide +kernel
theorem dJ7_fill_53178_14 : decode cJ7_fill_53178 14 = .ok (.iinc 2 1, 3) := by decide +kernel
theorem dJ7_fill_53178_17 : decode cJ7_fill_53178 17 = .ok (.goto (-12), 3) := by decide +kernel
theorem dJ7_fill_53178_20 : decode cJ7_fill_53178 20 = .ok (.return_, 1) := by decide +kernel
theorem kd_107_fill_53178 : Cond.code yJ7_fill_53178 cJ7_fill_53178 4 none ∈ lw_g := mt_at 606 (by decide +kernel) rfl
theorem ks_107_fill_53178 : Cond.static yJ7_fill_53178 ∈ lw_g := mt_at 605 (by decide +kernel) rfl
section
variable {p : Program} {l : Launch} {e : Env} {R : Room} {s : State} {m : MethodId} {args : Array Value} {below : List Frame} {meth : Method} {c : Code} {D : cG} {S0 S9 : cSt}
noncomputable def fk_107_fill_53178_5 : Nat → cSt → Nat → Int32 → Int32 → Int32 → Option (cSt)
  | 0, _, _, _, _, _ => none
  | n + 1, S, v0, v1, v2, v3 =>
    if v3 ≤ v2 then (
    some S)
    else (
    ckk S v0 20 (ck v2 (kL S v0) (lt (cWi S v0 (Int32.toNatClampNeg v2) v1) fun S2 =>
    lt (v2 + (1 : Int32)) fun x3 =>
    fk_107_fill_53178_5 n S2 v0 v1 x3 v3)))
set_option maxRecDepth 100000 in
set_option maxHeartbeats 4000000 in
theorem wk_107_fill_53178_5 (C : cY p R s m args meth c RJ7 cJ7_fill_53178 4 0 0 0 0 none) (X : cX D s) : ∀ (n : Nat), ∀ {S : cSt} {v0 : Nat} {v1 : Int32} {v2 : Int32} {v3 : Int32} {H : Heap} {locs : List Loc} {ls : Array Slot}, fk_107_fill_53178_5 n S v0 v1 v2 v3 = some S9 → cJ D S0 s.heap S H locs → lv_has ls 4 [(0, .ref v0), (1, .int v1), (2, .int v2), (3, .int v3)] → W p l e R s m args below meth c H locs 0 0 (MQ below (kW none D S0 S9) args s 0 0 (cA S0)) (F0 m 5 ls []) := by
  intro n
  induction n with
  | zero =>
    intro S v0 v1 v2 v3 H locs ls h hJ hl
    exact absurd (show (none : Option (cSt)) = _ from h) (fun q => by cases q)
  | succ n ih =>
    intro S v0 v1 v2 v3 H locs ls h hJ hl
    rw [fk_107_fill_53178_5] at h
    refine lv_iload_n C.1 C.2.1 dJ7_fill_53178_5 rfl (lv_at hl 2 rfl) ?_
    refine lv_iload_n C.1 C.2.1 dJ7_fill_53178_6 rfl (lv_at hl 3 rfl) ?_
    refine lv_icmp_ge (tgt := 20) C.1 C.2.1 dJ7_fill_53178_7 (by decide) (fun c1 => ?_) (fun c1 => ?_)
    · have h := if_t h c1
      cases h
      exact c_retvW C hJ dJ7_fill_53178_20
    · have h := if_f h c1
      refine lv_aload_n C.1 C.2.1 dJ7_fill_53178_10 rfl (lv_at hl 0 rfl) ?_
      refine lv_iload_n C.1 C.2.1 dJ7_fill_53178_11 rfl (lv_at hl 2 rfl) ?_
      refine lv_iload_n C.1 C.2.1 dJ7_fill_53178_12 rfl (lv_at hl 1 rfl) ?_
      obtain ⟨hk, h⟩ := ckk_ok h
      obtain ⟨hin2, h⟩ := ck_ok h
      refine c_iast C X hJ hk hin2 dJ7_fill_53178_13 (fun H locs hJ => ?_)
      refine lt_ok h (fun S2 e_S2 h => ?_)
      rw [e_S2] at hJ
      refine lt_ok h (fun x3 e_x3 h => ?_)
      refine lv_iinc (v := x3) (lv' := [(2, .int x3), (0, .ref v0), (1, .int v1), (3, .int v3)]) C.1 C.2.1 dJ7_fill_53178_14 hl (k := 2) rfl (by rw [← e_x3]; rfl) (by decide) rfl (fun ls hl => ?_)
      refine lv_goto (tgt := 5) C.1 C.2.1 dJ7_fill_53178_17 (by decide) ?_
      exact ih h hJ (lv_sub hl [1, 2, 0, 3] rfl)
noncomputable def fk_107_fill_53178 (S : cSt) (v0 : Nat) (v1 : Int32) : Option (cSt) :=
ckk S v0 20 (
lt (Int32.ofNat (kL S v0)) fun x1 =>
fk_107_fill_53178_5 mFU S v0 v1 (0 : Int32) x1)
set_option maxRecDepth 100000 in
set_option maxHeartbeats 4000000 in
theorem tk_107_fill_53178 (l : Launch) {D : cG} {S : cSt} {v0 : Nat} {v1 : Int32} {S9 : cSt} (h : fk_107_fill_53178 S v0 v1 = some S9) : Met l yJ7_fill_53178 (Cond.code yJ7_fill_53178 cJ7_fill_53178 4 none :: lw_g) { frames := 0, cells := 0, slots := 0, locals := 0 } (kPi [.ref v0, .int v1] D S) (kW none D S S9) 0 0 (cA S) := by
  refine Met.ofW (cc := cJ7_fill_53178) (maxL := 4) (ret := none) (by decide) rfl ?_
  intro p e s m args below meth c s₁ B hml hv
  obtain ⟨rfl, hW, X⟩ := hv
  have C : cY p (headSpec (Cond.code yJ7_fill_53178 cJ7_fill_53178 4 none :: lw_g) { frames := 0, cells := 0, slots := 0, locals := 0 }).room s m _ meth c RJ7 cJ7_fill_53178 4 0 0 0 0 none := ⟨B.exec, B.bytes, hml, findClass_of_methodNamed B.named, fun w hw => atoms_spec (ws := Cond.code yJ7_fill_53178 cJ7_fill_53178 4 none :: lw_g) B.pre w (List.mem_cons_of_mem _ hw), ⟨Nat.le_refl _, Nat.le_refl _, Nat.le_refl _, Nat.le_refl _⟩, B.returns, B.notSynchronized⟩
  have hl := lv_entry ([.ref v0, .int v1]) (n := 4) (Nat.le_of_ble_eq_true rfl)
  rw [lg_entry_eq]
  generalize (lg_sl ([.ref v0, .int v1]) ++ List.replicate (4 - (lg_sl ([.ref v0, .int v1])).length) Slot.unset).toArray = ls at hl ⊢
  have hl : lv_has ls 4 [(0, .ref v0), (1, .int v1)] := hl
  have hJ : cJ D S s.heap S s.heap [] := cJ.rf hW
  unfold fk_107_fill_53178 at h
  refine lv_iconst (v := 0) C.1 C.2.1 dJ7_fill_53178_0 (by decide) ?_
  refine lv_istore_n (lv' := [(2, .int (0 : Int32)), (0, .ref v0), (1, .int v1)]) C.1 C.2.1 dJ7_fill_53178_1 rfl hl (by decide) rfl (fun ls hl => ?_)
  refine lv_aload_n C.1 C.2.1 dJ7_fill_53178_2 rfl (lv_at hl 1 rfl) ?_
  obtain ⟨hk, h⟩ := ckk_ok h
  refine c_leni C 20 (by decide) (by decide) X.2.1 hJ.1 hk dJ7_fill_53178_3 ?_
  refine lt_ok h (fun x1 e_x1 h => ?_)
  refine lv_nm e_x1 ?_
  refine lv_istore_n (lv' := [(3, .int x1), (2, .int (0 : Int32)), (0, .ref v0), (1, .int v1)]) C.1 C.2.1 dJ7_fill_53178_4 rfl hl (by decide) rfl (fun ls hl => ?_)
  exact wk_107_fill_53178_5 C X mFU h hJ (lv_sub hl [2, 3, 1, 0] rfl)
end
theorem dX10_raise_0 : decode cX10_raise 0 = .ok (.iconst 0, 1) := by decide +kernel
theorem dX10_raise_1 : decode cX10_raise 1 = .ok (.istore_n 3, 1) := by decide +kernel
theorem dX10_raise_2 : decode cX10_raise 2 = .ok (.iload_n 3, 1) := by decide +kernel
theorem dX10_raise_3 : decode cX10_raise 3 = .ok (.iconst 4, 1) := by decide +kernel
theorem dX10_raise_4 : decode cX10_raise 4 = .ok (.if_icmp .ge 28, 3) := by decide +kernel
theorem dX10_raise_7 : decode cX10_raise 7 = .ok (.aload_n 2, 1) := by decide +kernel
theorem dX10_raise_8 : decode cX10_raise 8 = .ok (.iload_n 3, 1) := by decide +kernel
theorem dX10_raise_9 : decode cX10_raise 9 = .ok (.iaload, 1) := by decide +kernel
theorem dX10_raise_10 : decode cX10_raise 10 = .ok (.aload_n 0, 1) := by decide +kernel
theorem dX10_raise_11 : decode cX10_raise 11 = .ok (.iload_n 1, 1) := by decide +kernel
theorem dX10_raise_12 : decode cX10_raise 12 = .ok (.iload_n 3, 1) := by decide +kernel
theorem dX10_raise_13 : decode cX10_raise 13 = .ok (.iadd, 1) := by decide +kernel
theorem dX10_raise_14 : decode cX10_raise 14 = .ok (.iaload, 1) := by decide +kernel
theorem dX10_raise_15 : decode cX10_raise 15 = .ok (.if_icmp .le 11, 3) := by decide +kernel
theorem dX10_raise_18 : decode cX10_raise 18 = .ok (.aload_n 0, 1) := by decide +kernel
theorem dX10_raise_19 : decode cX10_raise 19 = .ok (.iload_n 1, 1) := by decide +kernel
theorem dX10_raise_20 : decode cX10_raise 20 = .ok (.iload_n 3, 1) := by decide +kernel
theorem dX10_raise_21 : decode cX10_raise 21 = .ok (.iadd, 1) := by decide +kernel
theorem dX10_raise_22 : decode cX10_raise 22 = .ok (.aload_n 2, 1) := by decide +kernel
theorem dX10_raise_23 : decode cX10_raise 23 = .ok (.iload_n 3, 1) := by decide +kernel
theorem dX10_raise_24 : decode cX10_raise 24 = .ok (.iaload, 1) := by decide +kernel
theorem dX10_raise_25 : decode cX10_raise 25 = .ok (.iastore, 1) := by decide +kernel
theorem dX10_raise_26 : decode cX10_raise 26 = .ok (.iinc 3 1, 3) := by decide +kernel
theorem dX10_raise_29 : decode cX10_raise 29 = .ok (.goto (-27), 3) := by decide +kernel
theorem dX10_raise_32 : decode cX10_raise 32 = .ok (.return_, 1) := by decide +kernel
theorem kd_10_raise : Cond.code yX10_raise cX10_raise 4 none ∈ lw_g := mt_at 638 (by decide +kernel) rfl
theorem ks_10_raise : Cond.static yX10_raise ∈ lw_g := mt_at 637 (by decide +kernel) rfl
section
variable {p : Program} {l : Launch} {e : Env} {R : Room} {s : State} {m : MethodId} {args : Array Value} {below : List Frame} {meth : Method} {c : Code} {D : cG} {S0 S9 : cSt}
noncomputable def fk_10_raise_26 (g_2 : cSt → Nat → Int32 → Nat → Int32 → Option (cSt)) (S : cSt) (v0 : Nat) (v1 : Int32) (v2 : Nat) (v3 : Int32) : Option (cSt) :=
lt (v3 + (1 : Int32)) fun x1 =>
g_2 S v0 v1 v2 x1
set_option maxRecDepth 100000 in
set_option maxHeartbeats 4000000 in
theorem wk_10_raise_26 (C : cY p R s m args meth c RX10 cX10_raise 4 0 0 0 0 none) (X : cX D s) {g_2 : cSt → Nat → Int32 → Nat → Int32 → Option (cSt)} (hg_2 : ∀ {S : cSt} {v0 : Nat} {v1 : Int32} {v2 : Nat} {v3 : Int32} {H : Heap} {locs : List Loc} {ls : Array Slot}, g_2 S v0 v1 v2 v3 = some S9 → cJ D S0 s.heap S H locs → lv_has ls 4 [(0, .ref v0), (1, .int v1), (2, .ref v2), (3, .int v3)] → W p l e R s m args below meth c H locs 0 0 (MQ below (kW none D S0 S9) args s 0 0 (cA S0)) (F0 m 2 ls [])) : ∀ {S : cSt} {v0 : Nat} {v1 : Int32} {v2 : Nat} {v3 : Int32} {H : Heap} {locs : List Loc} {ls : Array Slot}, fk_10_raise_26 g_2 S v0 v1 v2 v3 = some S9 → cJ D S0 s.heap S H locs → lv_has ls 4 [(0, .ref v0), (1, .int v1), (2, .ref v2), (3, .int v3)] → W p l e R s m args below meth c H locs 0 0 (MQ below (kW none D S0 S9) args s 0 0 (cA S0)) (F0 m 26 ls []) := by
  intro S v0 v1 v2 v3 H locs ls h hJ hl
  unfold fk_10_raise_26 at h
  refine lt_ok h (fun x1 e_x1 h => ?_)
  refine lv_iinc (v := x1) (lv' := [(3, .int x1), (0, .ref v0), (1, .int v1), (2, .ref v2)]) C.1 C.2.1 dX10_raise_26 hl (k := 3) rfl (by rw [← e_x1]; rfl) (by decide) rfl (fun ls hl => ?_)
  refine lv_goto (tgt := 2) C.1 C.2.1 dX10_raise_29 (by decide) ?_
  exact hg_2 h hJ (lv_sub hl [1, 2, 3, 0] rfl)
noncomputable def fk_10_raise_2 : Nat → cSt → Nat → Int32 → Nat → Int32 → Option (cSt)
  | 0, _, _, _, _, _ => none
  | n + 1, S, v0, v1, v2, v3 =>
    if (4 : Int32) ≤ v3 then (
    some S)
    else (
    ckk S v2 20 (ck v3 (kL S v2) (
    ckk S v0 20 (ck (v1 + v3) (kL S v0) (
    if (kI S v2 (Int32.toNatClampNeg v3)) ≤ (kI S v0 (Int32.toNatClampNeg (v1 + v3))) then (
    fk_10_raise_26 (fk_10_raise_2 n) S v0 v1 v2 v3)
    else (
    ckk S v2 20 (ck v3 (kL S v2) (
    ckk S v0 20 (ck (v1 + v3) (kL S v0) (lt (cWi S v0 (Int32.toNatClampNeg (v1 + v3)) (kI S v2 (Int32.toNatClampNeg v3))) fun S3 =>
    fk_10_raise_26 (fk_10_raise_2 n) S3 v0 v1 v2 v3))))))))))
set_option maxRecDepth 100000 in
set_option maxHeartbeats 4000000 in
theorem wk_10_raise_2 (C : cY p R s m args meth c RX10 cX10_raise 4 0 0 0 0 none) (X : cX D s) : ∀ (n : Nat), ∀ {S : cSt} {v0 : Nat} {v1 : Int32} {v2 : Nat} {v3 : Int32} {H : Heap} {locs : List Loc} {ls : Array Slot}, fk_10_raise_2 n S v0 v1 v2 v3 = some S9 → cJ D S0 s.heap S H locs → lv_has ls 4 [(0, .ref v0), (1, .int v1), (2, .ref v2), (3, .int v3)] → W p l e R s m args below meth c H locs 0 0 (MQ below (kW none D S0 S9) args s 0 0 (cA S0)) (F0 m 2 ls []) := by
  intro n
  induction n with
  | zero =>
    intro S v0 v1 v2 v3 H locs ls h hJ hl
    exact absurd (show (none : Option (cSt)) = _ from h) (fun q => by cases q)
  | succ n ih =>
    intro S v0 v1 v2 v3 H locs ls h hJ hl
    rw [fk_10_raise_2] at h
    refine lv_iload_n C.1 C.2.1 dX10_raise_2 rfl (lv_at hl 3 rfl) ?_
    refine lv_iconst (v := 4) C.1 C.2.1 dX10_raise_3 (by decide) ?_
    refine lv_icmp_ge (tgt := 32) C.1 C.2.1 dX10_raise_4 (by decide) (fun c1 => ?_) (fun c1 => ?_)
    · have h := if_t h c1
      cases h
      exact c_retvW C hJ dX10_raise_32
    · have h := if_f h c1
      refine lv_aload_n C.1 C.2.1 dX10_raise_7 rfl (lv_at hl 2 rfl) ?_
      refine lv_iload_n C.1 C.2.1 dX10_raise_8 rfl (lv_at hl 3 rfl) ?_
      obtain ⟨hk, h⟩ := ckk_ok h
      obtain ⟨hin2, h⟩ := ck_ok h
      refine c_iald C X hJ.1 hk hin2 dX10_raise_9 ?_
      refine lv_aload_n C.1 C.2.1 dX10_raise_10 rfl (lv_at hl 0 rfl) ?_
      refine lv_iload_n C.1 C.2.1 dX10_raise_11 rfl (lv_at hl 1 rfl) ?_
      refine lv_iload_n C.1 C.2.1 dX10_raise_12 rfl (lv_at hl 3 rfl) ?_
      refine lv_iadd C.1 C.2.1 dX10_raise_13 ?_
      obtain ⟨hk, h⟩ := ckk_ok h
      obtain ⟨hin2, h⟩ := ck_ok h
      refine c_iald C X hJ.1 hk hin2 dX10_raise_14 ?_
      refine lv_icmp_le (tgt := 26) C.1 C.2.1 dX10_raise_15 (by decide) (fun c2 => ?_) (fun c2 => ?_)
      · have h := if_t h c2
        exact wk_10_raise_26 C X ih h hJ (lv_sub hl [0, 1, 2, 3] rfl)
      · have h := if_f h c2
        refine lv_aload_n C.1 C.2.1 dX10_raise_18 rfl (lv_at hl 0 rfl) ?_
        refine lv_iload_n C.1 C.2.1 dX10_raise_19 rfl (lv_at hl 1 rfl) ?_
        refine lv_iload_n C.1 C.2.1 dX10_raise_20 rfl (lv_at hl 3 rfl) ?_
        refine lv_iadd C.1 C.2.1 dX10_raise_21 ?_
        refine lv_aload_n C.1 C.2.1 dX10_raise_22 rfl (lv_at hl 2 rfl) ?_
        refine lv_iload_n C.1 C.2.1 dX10_raise_23 rfl (lv_at hl 3 rfl) ?_
        obtain ⟨hk, h⟩ := ckk_ok h
        obtain ⟨hin2, h⟩ := ck_ok h
        refine c_iald C X hJ.1 hk hin2 dX10_raise_24 ?_
        obtain ⟨hk, h⟩ := ckk_ok h
        obtain ⟨hin2, h⟩ := ck_ok h
        refine c_iast C X hJ hk hin2 dX10_raise_25 (fun H locs hJ => ?_)
        refine lt_ok h (fun S3 e_S3 h => ?_)
        rw [e_S3] at hJ
        exact wk_10_raise_26 C X ih h hJ (lv_sub hl [0, 1, 2, 3] rfl)
noncomputable def fk_10_raise (S : cSt) (v0 : Nat) (v1 : Int32) (v2 : Nat) : Option (cSt) :=
fk_10_raise_2 mFU S v0 v1 v2 (0 : Int32)
set_option maxRecDepth 100000 in
set_option maxHeartbeats 4000000 in
theorem tk_10_raise (l : Launch) {D : cG} {S : cSt} {v0 : Nat} {v1 : Int32} {v2 : Nat} {S9 : cSt} (h : fk_10_raise S v0 v1 v2 = some S9) : Met l yX10_raise (Cond.code yX10_raise cX10_raise 4 none :: lw_g) { frames := 0, cells := 0, slots := 0, locals := 0 } (kPi [.ref v0, .int v1, .ref v2] D S) (kW none D S S9) 0 0 (cA S) := by
  refine Met.ofW (cc := cX10_raise) (maxL := 4) (ret := none) (by decide) rfl ?_
  intro p e s m args below meth c s₁ B hml hv
  obtain ⟨rfl, hW, X⟩ := hv
  have C : cY p (headSpec (Cond.code yX10_raise cX10_raise 4 none :: lw_g) { frames := 0, cells := 0, slots := 0, locals := 0 }).room s m _ meth c RX10 cX10_raise 4 0 0 0 0 none := ⟨B.exec, B.bytes, hml, findClass_of_methodNamed B.named, fun w hw => atoms_spec (ws := Cond.code yX10_raise cX10_raise 4 none :: lw_g) B.pre w (List.mem_cons_of_mem _ hw), ⟨Nat.le_refl _, Nat.le_refl _, Nat.le_refl _, Nat.le_refl _⟩, B.returns, B.notSynchronized⟩
  have hl := lv_entry ([.ref v0, .int v1, .ref v2]) (n := 4) (Nat.le_of_ble_eq_true rfl)
  rw [lg_entry_eq]
  generalize (lg_sl ([.ref v0, .int v1, .ref v2]) ++ List.replicate (4 - (lg_sl ([.ref v0, .int v1, .ref v2])).length) Slot.unset).toArray = ls at hl ⊢
  have hl : lv_has ls 4 [(0, .ref v0), (1, .int v1), (2, .ref v2)] := hl
  have hJ : cJ D S s.heap S s.heap [] := cJ.rf hW
  unfold fk_10_raise at h
  refine lv_iconst (v := 0) C.1 C.2.1 dX10_raise_0 (by decide) ?_
  refine lv_istore_n (lv' := [(3, .int (0 : Int32)), (0, .ref v0), (1, .int v1), (2, .ref v2)]) C.1 C.2.1 dX10_raise_1 rfl hl (by decide) rfl (fun ls hl => ?_)
  exact wk_10_raise_2 C X mFU h hJ (lv_sub hl [1, 2, 3, 0] rfl)
end
theorem dX10_gatherKnown_0 : decode cX10_gatherKnown 0 = .ok (.aload_n 0, 1) := by decide +kernel
theorem dX10_gatherKnown_1 : decode cX10_gatherKnown 1 = .ok (.getfield 17, 3) := by decide +kernel
theorem dX10_gatherKnown_4 : decode cX10_gatherKnown 4 = .ok (.iconst 0, 1) := by decide +kernel
theorem dX10_gatherKnown_5 : decode cX10_gatherKnown 5 = .ok (.invokestatic 45, 3) := by decide +kernel
theorem dX10_gatherKnown_8 : decode cX10_gatherKnown 8 = .ok (.aload_n 0, 1) := by decide +kernel
theorem dX10_gatherKnown_9 : decode cX10_gatherKnown 9 = .ok (.getfield 38, 3) := by decide +kernel
theorem dX10_gatherKnown_12 : decode cX10_gatherKnown 12 = .ok (.getfield 93, 3) := by decide +kernel
theorem dX10_gatherKnown_15 : decode cX10_gatherKnown 15 = .ok (.iload_n 1, 1) := by decide +kernel
theorem dX10_gatherKnown_16 : decode cX10_gatherKnown 16 = .ok (.aaload, 1) := by decide +kernel
theorem dX10_gatherKnown_17 : decode cX10_gatherKnown 17 = .ok (.astore_n 2, 1) := by decide +kernel
theorem dX10_gatherKnown_18 : decode cX10_gatherKnown 18 = .ok (.aload_n 2, 1) := by decide +kernel
theorem dX10_gatherKnown_19 : decode cX10_gatherKnown 19 = .ok (.ifnull 39, 3) := by decide +kernel
theorem dX10_gatherKnown_22 : decode cX10_gatherKnown 22 = .ok (.aload_n 0, 1) := by decide +kernel
theorem dX10_gatherKnown_23 : decode cX10_gatherKnown 23 = .ok (.aload_n 2, 1) := by decide +kernel
theorem dX10_gatherKnown_24 : decode cX10_gatherKnown 24 = .ok (.invokevirtual 96, 3) := by decide +kernel
theorem dX10_gatherKnown_27 : decode cX10_gatherKnown 27 = .ok (.ifCond .eq 15, 3) := by decide +kernel
theorem dX10_gatherKnown_30 : decode cX10_gatherKnown 30 = .ok (.aload_n 0, 1) := by decide +kernel
theorem dX10_gatherKnown_31 : decode cX10_gatherKnown 31 = .ok (.getfield 17, 3) := by decide +kernel
theorem dX10_gatherKnown_34 : decode cX10_gatherKnown 34 = .ok (.iconst 0, 1) := by decide +kernel
theorem dX10_gatherKnown_35 : decode cX10_gatherKnown 35 = .ok (.aload_n 2, 1) := by decide +kernel
theorem dX10_gatherKnown_36 : decode cX10_gatherKnown 36 = .ok (.getfield 130, 3) := by decide +kernel
theorem dX10_gatherKnown_39 : decode cX10_gatherKnown 39 = .ok (.invokestatic 133, 3) := by decide +kernel
theorem dX10_gatherKnown_42 : decode cX10_gatherKnown 42 = .ok (.aload_n 0, 1) := by decide +kernel
theorem dX10_gatherKnown_43 : decode cX10_gatherKnown 43 = .ok (.getfield 38, 3) := by decide +kernel
theorem dX10_gatherKnown_46 : decode cX10_gatherKnown 46 = .ok (.getfield 99, 3) := by decide +kernel
theorem dX10_gatherKnown_49 : decode cX10_gatherKnown 49 = .ok (.aload_n 2, 1) := by decide +kernel
theorem dX10_gatherKnown_50 : decode cX10_gatherKnown 50 = .ok (.getfield 68, 3) := by decide +kernel
theorem dX10_gatherKnown_53 : decode cX10_gatherKnown 53 = .ok (.aaload, 1) := by decide +kernel
theorem dX10_gatherKnown_54 : decode cX10_gatherKnown 54 = .ok (.astore_n 2, 1) := by decide +kernel
theorem dX10_gatherKnown_55 : decode cX10_gatherKnown 55 = .ok (.goto (-37), 3) := by decide +kernel
theorem dX10_gatherKnown_58 : decode cX10_gatherKnown 58 = .ok (.return_, 1) := by decide +kernel
theorem kd_10_gatherKnown : Cond.code yX10_gatherKnown cX10_gatherKnown 3 none ∈ lw_g := mt_at 1101 (by decide +kernel) rfl
theorem ki_10_gatherKnown : Cond.instanceMethod yX10_gatherKnown ∈ lw_g := mt_at 1100 (by decide +kernel) rfl
theorem kl_10_gatherKnown : Cond.selects (kRn 10) yX10_gatherKnown yX10_gatherKnown ∈ lw_g := mt_sel 15 (by decide +kernel) rfl
theorem cw10_45 : cCw RX10 45 yJ7_fill_53178 cJ7_fill_53178 4 none 2 := ⟨kd_107_fill_53178, mt_at 604 (by decide +kernel) rfl, mt_at 24 (by decide +kernel) rfl, by decide +kernel⟩
theorem cw10_133 : cCw RX10 133 yX10_raise cX10_raise 4 none 3 := ⟨kd_10_raise, mt_at 636 (by decide +kernel) rfl, mt_at 10 (by decide +kernel) rfl, by decide +kernel⟩
section
variable {p : Program} {l : Launch} {e : Env} {R : Room} {s : State} {m : MethodId} {args : Array Value} {below : List Frame} {meth : Method} {c : Code} {H : Heap} {locs : List Loc} {cells slots : Nat} {Q : State → Prop}
variable {D : cG} {S S0 : cSt} {cc : ByteArray} {nL : Nat} {pc : Nat} {ls : Array Slot} {rest : List Value} {H0 : Heap} {nF nR nC nS : Nat} {ret : Option FieldType} {a : Nat}
theorem gk10_17 (C : cY p R s m args meth c RX10 cc nL nF nC nS nR ret) (X : cX D s) (hW : cW D S H) (hk : kK S a = 11) {x : Nat} (hx : kR S a 3 = some x) (hdg : decode cc pc = .ok (.getfield 17, 3)) (kk : W p l e R s m args below meth c H locs cells slots Q (F0 m (pc + 3) ls (.ref x :: rest))) : W p l e R s m args below meth c H locs cells slots Q (F0 m pc ls (.ref a :: rest)) := c_get C X hW 10 (by decide) ly_10 hk 3 (by decide) (mt_at 276 (by decide +kernel) (by decide +kernel)) hdg (by rw [cV_R (by decide +kernel) hx]; exact kk)
theorem gk10_130 (C : cY p R s m args meth c RX10 cc nL nF nC nS nR ret) (X : cX D s) (hW : cW D S H) (hk : kK S a = 9) {x : Nat} (hx : kR S a 10 = some x) (hdg : decode cc pc = .ok (.getfield 130, 3)) (kk : W p l e R s m args below meth c H locs cells slots Q (F0 m (pc + 3) ls (.ref x :: rest))) : W p l e R s m args below meth c H locs cells slots Q (F0 m pc ls (.ref a :: rest)) := c_get C X hW 8 (by decide) ly_8 hk 10 (by decide) (mt_at 1015 (by decide +kernel) (by decide +kernel)) hdg (by rw [cV_R (by decide +kernel) hx]; exact kk)
end
section
variable {p : Program} {l : Launch} {e : Env} {R : Room} {s : State} {m : MethodId} {args : Array Value} {below : List Frame} {meth : Method} {c : Code} {D : cG} {S0 S9 : cSt}
noncomputable def fk_10_gatherKnown_42 (g_18 : cSt → Nat → Option Nat → Option (cSt)) (S : cSt) (v0 : Nat) (v2 : Option Nat) : Option (cSt) :=
ckk S v0 11 (bd (kR S v0 7) fun a1 =>
ckk S a1 5 (bd (kR S a1 3) fun a2 =>
bd v2 fun a3 =>
ckk S a3 9 (
ckk S a2 30 (ck (kF S a3 12) (kL S a2) (lt (kO S a2 (Int32.toNatClampNeg (kF S a3 12))) fun o4 =>
g_18 S v0 o4)))))
set_option maxRecDepth 100000 in
set_option maxHeartbeats 4000000 in
theorem wk_10_gatherKnown_42 (C : cY p R s m args meth c RX10 cX10_gatherKnown 3 1 0 0 23 none) (X : cX D s) {g_18 : cSt → Nat → Option Nat → Option (cSt)} (hg_18 : ∀ {S : cSt} {v0 : Nat} {v2 : Option Nat} {H : Heap} {locs : List Loc} {ls : Array Slot}, g_18 S v0 v2 = some S9 → cJ D S0 s.heap S H locs → lv_has ls 3 [(0, .ref v0), (2, va_rf v2)] → W p l e R s m args below meth c H locs 0 0 (MQ below (kW none D S0 S9) args s 0 0 (cA S0)) (F0 m 18 ls [])) : ∀ {S : cSt} {v0 : Nat} {v2 : Option Nat} {H : Heap} {locs : List Loc} {ls : Array Slot}, fk_10_gatherKnown_42 g_18 S v0 v2 = some S9 → cJ D S0 s.heap S H locs → lv_has ls 3 [(0, .ref v0), (2, va_rf v2)] → W p l e R s m args below meth c H locs 0 0 (MQ below (kW none D S0 S9) args s 0 0 (cA S0)) (F0 m 42 ls []) := by
  intro S v0 v2 H locs ls h hJ hl
  unfold fk_10_gatherKnown_42 at h
  refine lv_aload_n C.1 C.2.1 dX10_gatherKnown_42 rfl (lv_at hl 0 rfl) ?_
  obtain ⟨hk, h⟩ := ckk_ok h
  obtain ⟨a1, h_a1, h⟩ := bd_ok h
  refine gk10_38 C X hJ.1 hk h_a1 dX10_gatherKnown_43 ?_
  obtain ⟨hk, h⟩ := ckk_ok h
  obtain ⟨a2, h_a2, h⟩ := bd_ok h
  refine gk10_99 C X hJ.1 hk h_a2 dX10_gatherKnown_46 ?_
  refine lv_aload_nq (o := v2) C.1 C.2.1 dX10_gatherKnown_49 rfl (lv_at hl 1 rfl) ?_
  obtain ⟨a3, e_a3, h⟩ := bd_ok h
  revert h; subst e_a3; intro h
  obtain ⟨hk, h⟩ := ckk_ok h
  refine gk10_68 C X hJ.1 hk dX10_gatherKnown_50 ?_
  obtain ⟨hk, h⟩ := ckk_ok h
  obtain ⟨hin2, h⟩ := ck_ok h
  refine c_aald C 30 (by decide) X.2.2.2.2.1 hJ.1 hk hin2 dX10_gatherKnown_53 ?_
  refine lt_ok h (fun o4 e_o4 h => ?_)
  refine lv_nmq e_o4 ?_
  refine lv_astore_nq (o := o4) (lv' := [(2, va_rf o4), (0, .ref v0)]) C.1 C.2.1 dX10_gatherKnown_54 rfl hl (by decide) rfl (fun ls hl => ?_)
  refine lv_goto (tgt := 18) C.1 C.2.1 dX10_gatherKnown_55 (by decide) ?_
  exact hg_18 h hJ (lv_sub hl [1, 0] rfl)
noncomputable def fk_10_gatherKnown_18 : Nat → cSt → Nat → Option Nat → Option (cSt)
  | 0, _, _, _ => none
  | n + 1, S, v0, v2 =>
    cs v2 (
    some S) (fun a1 =>
    ckk S v0 11 (bd (fk_10_isGood S v0 a1) fun r2 =>
    if r2 = 0 then (
    fk_10_gatherKnown_42 (fk_10_gatherKnown_18 n) S v0 (some a1))
    else (
    ckk S v0 11 (bd (kR S v0 3) fun a4 =>
    ckk S a1 9 (bd (kR S a1 10) fun a5 =>
    bd (fk_10_raise S a4 (0 : Int32) a5) fun S6 =>
    fk_10_gatherKnown_42 (fk_10_gatherKnown_18 n) S6 v0 (some a1))))))
set_option maxRecDepth 100000 in
set_option maxHeartbeats 4000000 in
theorem wk_10_gatherKnown_18 (C : cY p R s m args meth c RX10 cX10_gatherKnown 3 1 0 0 23 none) (X : cX D s) : ∀ (n : Nat), ∀ {S : cSt} {v0 : Nat} {v2 : Option Nat} {H : Heap} {locs : List Loc} {ls : Array Slot}, fk_10_gatherKnown_18 n S v0 v2 = some S9 → cJ D S0 s.heap S H locs → lv_has ls 3 [(0, .ref v0), (2, va_rf v2)] → W p l e R s m args below meth c H locs 0 0 (MQ below (kW none D S0 S9) args s 0 0 (cA S0)) (F0 m 18 ls []) := by
  intro n
  induction n with
  | zero =>
    intro S v0 v2 H locs ls h hJ hl
    exact absurd (show (none : Option (cSt)) = _ from h) (fun q => by cases q)
  | succ n ih =>
    intro S v0 v2 H locs ls h hJ hl
    rw [fk_10_gatherKnown_18] at h
    refine lv_aload_nq (o := v2) C.1 C.2.1 dX10_gatherKnown_18 rfl (lv_at hl 1 rfl) ?_
    rcases v2 with _ | a1
    · replace h := cs_n h
      refine lv_ifnullN (tgt := 58) C.1 C.2.1 dX10_gatherKnown_19 (by decide) ?_
      cases h
      exact c_retvW C hJ dX10_gatherKnown_58
    · replace h := cs_s h
      refine lv_ifnull C.1 C.2.1 dX10_gatherKnown_19 ?_
      refine lv_aload_n C.1 C.2.1 dX10_gatherKnown_22 rfl (lv_at hl 0 rfl) ?_
      refine lv_aload_n C.1 C.2.1 dX10_gatherKnown_23 rfl (lv_at hl 1 rfl) ?_
      obtain ⟨hk, h⟩ := ckk_ok h
      obtain ⟨r2, h_r2, h⟩ := bd_ok h
      refine c_callR (rest := []) C X hJ.1 hl.1 10 (by decide) hk [.ref a1] (tk_10_isGood l h_r2) cw10_96 ki_10_isGood kl_10_isGood rfl ⟨by decide, by decide⟩ ⟨(by decide), (by decide)⟩ rfl (Nat.le_of_ble_eq_true rfl) dX10_gatherKnown_24 ?_
      refine W.eq (g2 := F0 m 27 ls [.int r2]) rfl ?_
      refine lv_if_eq (tgt := 42) C.1 C.2.1 dX10_gatherKnown_27 (by decide) (fun c3 => ?_) (fun c3 => ?_)
      · have h := if_t h c3
        exact wk_10_gatherKnown_42 C X ih h hJ (lv_sub hl [0, 1] rfl)
      · have h := if_f h c3
        refine lv_aload_n C.1 C.2.1 dX10_gatherKnown_30 rfl (lv_at hl 0 rfl) ?_
        obtain ⟨hk, h⟩ := ckk_ok h
        obtain ⟨a4, h_a4, h⟩ := bd_ok h
        refine gk10_17 C X hJ.1 hk h_a4 dX10_gatherKnown_31 ?_
        refine lv_iconst (v := 0) C.1 C.2.1 dX10_gatherKnown_34 (by decide) ?_
        refine lv_aload_n C.1 C.2.1 dX10_gatherKnown_35 rfl (lv_at hl 1 rfl) ?_
        obtain ⟨hk, h⟩ := ckk_ok h
        obtain ⟨a5, h_a5, h⟩ := bd_ok h
        refine gk10_130 C X hJ.1 hk h_a5 dX10_gatherKnown_36 ?_
        obtain ⟨S6, h_S6, h⟩ := bd_ok h
        refine c_callSW (rest := []) C X hJ hl.1 [.ref a4, .int (0 : Int32), .ref a5] (tk_10_raise l h_S6) cw10_133 ks_10_raise rfl ⟨by decide, by decide⟩ ⟨(by decide), (by decide)⟩ rfl (Nat.le_of_ble_eq_true rfl) dX10_gatherKnown_39 (fun H locs hJ => ?_)
        refine W.eq (g2 := F0 m 42 ls []) rfl ?_
        exact wk_10_gatherKnown_42 C X ih h hJ (lv_sub hl [0, 1] rfl)
noncomputable def fk_10_gatherKnown (S : cSt) (v0 : Nat) (v1 : Int32) : Option (cSt) :=
ckk S v0 11 (bd (kR S v0 3) fun a1 =>
bd (fk_107_fill_53178 S a1 (0 : Int32)) fun S2 =>
ckk S2 v0 11 (bd (kR S2 v0 7) fun a3 =>
ckk S2 a3 5 (bd (kR S2 a3 6) fun a4 =>
ckk S2 a4 30 (ck v1 (kL S2 a4) (lt (kO S2 a4 (Int32.toNatClampNeg v1)) fun o5 =>
fk_10_gatherKnown_18 mFU S2 v0 o5)))))
set_option maxRecDepth 100000 in
set_option maxHeartbeats 4000000 in
theorem tk_10_gatherKnown (l : Launch) {D : cG} {S : cSt} {v0 : Nat} {v1 : Int32} {S9 : cSt} (h : fk_10_gatherKnown S v0 v1 = some S9) : Met l yX10_gatherKnown (Cond.code yX10_gatherKnown cX10_gatherKnown 3 none :: lw_g) { frames := 1, cells := 0, slots := 0, locals := 23 } (kPi [.ref v0, .int v1] D S) (kW none D S S9) 0 0 (cA S) := by
  refine Met.ofW (cc := cX10_gatherKnown) (maxL := 3) (ret := none) (by decide) rfl ?_
  intro p e s m args below meth c s₁ B hml hv
  obtain ⟨rfl, hW, X⟩ := hv
  have C : cY p (headSpec (Cond.code yX10_gatherKnown cX10_gatherKnown 3 none :: lw_g) { frames := 1, cells := 0, slots := 0, locals := 23 }).room s m _ meth c RX10 cX10_gatherKnown 3 1 0 0 23 none := ⟨B.exec, B.bytes, hml, findClass_of_methodNamed B.named, fun w hw => atoms_spec (ws := Cond.code yX10_gatherKnown cX10_gatherKnown 3 none :: lw_g) B.pre w (List.mem_cons_of_mem _ hw), ⟨Nat.le_refl _, Nat.le_refl _, Nat.le_refl _, Nat.le_refl _⟩, B.returns, B.notSynchronized⟩
  have hl := lv_entry ([.ref v0, .int v1]) (n := 3) (Nat.le_of_ble_eq_true rfl)
  rw [lg_entry_eq]
  generalize (lg_sl ([.ref v0, .int v1]) ++ List.replicate (3 - (lg_sl ([.ref v0, .int v1])).length) Slot.unset).toArray = ls at hl ⊢
  have hl : lv_has ls 3 [(0, .ref v0), (1, .int v1)] := hl
  have hJ : cJ D S s.heap S s.heap [] := cJ.rf hW
  unfold fk_10_gatherKnown at h
  refine lv_aload_n C.1 C.2.1 dX10_gatherKnown_0 rfl (lv_at hl 0 rfl) ?_
  obtain ⟨hk, h⟩ := ckk_ok h
  obtain ⟨a1, h_a1, h⟩ := bd_ok h
  refine gk10_17 C X hJ.1 hk h_a1 dX10_gatherKnown_1 ?_
  refine lv_iconst (v := 0) C.1 C.2.1 dX10_gatherKnown_4 (by decide) ?_
  obtain ⟨S2, h_S2, h⟩ := bd_ok h
  refine c_callSW (rest := []) C X hJ hl.1 [.ref a1, .int (0 : Int32)] (tk_107_fill_53178 l h_S2) cw10_45 ks_107_fill_53178 rfl ⟨by decide, by decide⟩ ⟨(by decide), (by decide)⟩ rfl (Nat.le_of_ble_eq_true rfl) dX10_gatherKnown_5 (fun H locs hJ => ?_)
  refine W.eq (g2 := F0 m 8 ls []) rfl ?_
  refine lv_aload_n C.1 C.2.1 dX10_gatherKnown_8 rfl (lv_at hl 0 rfl) ?_
  obtain ⟨hk, h⟩ := ckk_ok h
  obtain ⟨a3, h_a3, h⟩ := bd_ok h
  refine gk10_38 C X hJ.1 hk h_a3 dX10_gatherKnown_9 ?_
  obtain ⟨hk, h⟩ := ckk_ok h
  obtain ⟨a4, h_a4, h⟩ := bd_ok h
  refine gk10_93 C X hJ.1 hk h_a4 dX10_gatherKnown_12 ?_
  refine lv_iload_n C.1 C.2.1 dX10_gatherKnown_15 rfl (lv_at hl 1 rfl) ?_
  obtain ⟨hk, h⟩ := ckk_ok h
  obtain ⟨hin2, h⟩ := ck_ok h
  refine c_aald C 30 (by decide) X.2.2.2.2.1 hJ.1 hk hin2 dX10_gatherKnown_16 ?_
  refine lt_ok h (fun o5 e_o5 h => ?_)
  refine lv_nmq e_o5 ?_
  refine lv_astore_nq (o := o5) (lv' := [(2, va_rf o5), (0, .ref v0), (1, .int v1)]) C.1 C.2.1 dX10_gatherKnown_17 rfl hl (by decide) rfl (fun ls hl => ?_)
  exact wk_10_gatherKnown_18 C X mFU h hJ (lv_sub hl [1, 0] rfl)
end
theorem dX10_findSeveral_0 : decode cX10_findSeveral 0 = .ok (.aload_n 0, 1) := by decide +kernel
theorem dX10_findSeveral_1 : decode cX10_findSeveral 1 = .ok (.iload_n 1, 1) := by decide +kernel
theorem dX10_findSeveral_2 : decode cX10_findSeveral 2 = .ok (.invokevirtual 118, 3) := by decide +kernel
theorem dX10_findSeveral_5 : decode cX10_findSeveral 5 = .ok (.iconst 0, 1) := by decide +kernel
theorem dX10_findSeveral_6 : decode cX10_findSeveral 6 = .ok (.istore_n 2, 1) := by decide +kernel
theorem dX10_findSeveral_7 : decode cX10_findSeveral 7 = .ok (.aload_n 0, 1) := by decide +kernel
theorem dX10_findSeveral_8 : decode cX10_findSeveral 8 = .ok (.getfield 38, 3) := by decide +kernel
theorem dX10_findSeveral_11 : decode cX10_findSeveral 11 = .ok (.getfield 121, 3) := by decide +kernel
theorem dX10_findSeveral_14 : decode cX10_findSeveral 14 = .ok (.iload_n 1, 1) := by decide +kernel
theorem dX10_findSeveral_15 : decode cX10_findSeveral 15 = .ok (.aaload, 1) := by decide +kernel
theorem dX10_findSeveral_16 : decode cX10_findSeveral 16 = .ok (.astore_n 3, 1) := by decide +kernel
theorem dX10_findSeveral_17 : decode cX10_findSeveral 17 = .ok (.aload_n 3, 1) := by decide +kernel
theorem dX10_findSeveral_18 : decode cX10_findSeveral 18 = .ok (.ifnull 58, 3) := by decide +kernel
theorem dX10_findSeveral_21 : decode cX10_findSeveral 21 = .ok (.iload_n 2, 1) := by decide +kernel
theorem dX10_findSeveral_22 : decode cX10_findSeveral 22 = .ok (.iconst 4, 1) := by decide +kernel
theorem dX10_findSeveral_23 : decode cX10_findSeveral 23 = .ok (.if_icmp .ge 37, 3) := by decide +kernel
theorem dX10_findSeveral_26 : decode cX10_findSeveral 26 = .ok (.aload_n 0, 1) := by decide +kernel
theorem dX10_findSeveral_27 : decode cX10_findSeveral 27 = .ok (.aload_n 3, 1) := by decide +kernel
theorem dX10_findSeveral_28 : decode cX10_findSeveral 28 = .ok (.invokevirtual 96, 3) := by decide +kernel
theorem dX10_findSeveral_31 : decode cX10_findSeveral 31 = .ok (.ifCond .eq 29, 3) := by decide +kernel
theorem dX10_findSeveral_34 : decode cX10_findSeveral 34 = .ok (.aload_n 3, 1) := by decide +kernel
theorem dX10_findSeveral_35 : decode cX10_findSeveral 35 = .ok (.getfield 124, 3) := by decide +kernel
theorem dX10_findSeveral_38 : decode cX10_findSeveral 38 = .ok (.aload_n 0, 1) := by decide +kernel
theorem dX10_findSeveral_39 : decode cX10_findSeveral 39 = .ok (.getfield 17, 3) := by decide +kernel
theorem dX10_findSeveral_42 : decode cX10_findSeveral 42 = .ok (.aload_n 3, 1) := by decide +kernel
theorem dX10_findSeveral_43 : decode cX10_findSeveral 43 = .ok (.getfield 105, 3) := by decide +kernel
theorem dX10_findSeveral_46 : decode cX10_findSeveral 46 = .ok (.iaload, 1) := by decide +kernel
theorem dX10_findSeveral_47 : decode cX10_findSeveral 47 = .ok (.if_icmp .le 13, 3) := by decide +kernel
theorem dX10_findSeveral_50 : decode cX10_findSeveral 50 = .ok (.aload_n 0, 1) := by decide +kernel
theorem dX10_findSeveral_51 : decode cX10_findSeveral 51 = .ok (.getfield 11, 3) := by decide +kernel
theorem dX10_findSeveral_54 : decode cX10_findSeveral 54 = .ok (.iload_n 2, 1) := by decide +kernel
theorem dX10_findSeveral_55 : decode cX10_findSeveral 55 = .ok (.aload_n 3, 1) := by decide +kernel
theorem dX10_findSeveral_56 : decode cX10_findSeveral 56 = .ok (.aastore, 1) := by decide +kernel
theorem dX10_findSeveral_57 : decode cX10_findSeveral 57 = .ok (.iinc 2 1, 3) := by decide +kernel
theorem dX10_findSeveral_60 : decode cX10_findSeveral 60 = .ok (.aload_n 0, 1) := by decide +kernel
theorem dX10_findSeveral_61 : decode cX10_findSeveral 61 = .ok (.getfield 38, 3) := by decide +kernel
theorem dX10_findSeveral_64 : decode cX10_findSeveral 64 = .ok (.getfield 127, 3) := by decide +kernel
theorem dX10_findSeveral_67 : decode cX10_findSeveral 67 = .ok (.aload_n 3, 1) := by decide +kernel
theorem dX10_findSeveral_68 : decode cX10_findSeveral 68 = .ok (.getfield 68, 3) := by decide +kernel
theorem dX10_findSeveral_71 : decode cX10_findSeveral 71 = .ok (.aaload, 1) := by decide +kernel
theorem dX10_findSeveral_72 : decode cX10_findSeveral 72 = .ok (.astore_n 3, 1) := by decide +kernel
theorem dX10_findSeveral_73 : decode cX10_findSeveral 73 = .ok (.goto (-56), 3) := by decide +kernel
theorem dX10_findSeveral_76 : decode cX10_findSeveral 76 = .ok (.iload_n 2, 1) := by decide +kernel
theorem dX10_findSeveral_77 : decode cX10_findSeveral 77 = .ok (.ireturn, 1) := by decide +kernel
theorem kd_10_findSeveral : Cond.code yX10_findSeveral cX10_findSeveral 4 (some .int) ∈ lw_g := mt_at 1097 (by decide +kernel) rfl
theorem ki_10_findSeveral : Cond.instanceMethod yX10_findSeveral ∈ lw_g := mt_at 1095 (by decide +kernel) rfl
theorem kl_10_findSeveral : Cond.selects (kRn 10) yX10_findSeveral yX10_findSeveral ∈ lw_g := mt_at 1096 (by decide +kernel) rfl
theorem cw10_118 : cCw RX10 118 yX10_gatherKnown cX10_gatherKnown 3 none 1 := ⟨kd_10_gatherKnown, mt_at 1098 (by decide +kernel) rfl, mt_at 10 (by decide +kernel) rfl, by decide +kernel⟩
section
variable {p : Program} {l : Launch} {e : Env} {R : Room} {s : State} {m : MethodId} {args : Array Value} {below : List Frame} {meth : Method} {c : Code} {H : Heap} {locs : List Loc} {cells slots : Nat} {Q : State → Prop}
variable {D : cG} {S S0 : cSt} {cc : ByteArray} {nL : Nat} {pc : Nat} {ls : Array Slot} {rest : List Value} {H0 : Heap} {nF nR nC nS : Nat} {ret : Option FieldType} {a : Nat}
theorem gk10_11 (C : cY p R s m args meth c RX10 cc nL nF nC nS nR ret) (X : cX D s) (hW : cW D S H) (hk : kK S a = 11) {x : Nat} (hx : kR S a 0 = some x) (hdg : decode cc pc = .ok (.getfield 11, 3)) (kk : W p l e R s m args below meth c H locs cells slots Q (F0 m (pc + 3) ls (.ref x :: rest))) : W p l e R s m args below meth c H locs cells slots Q (F0 m pc ls (.ref a :: rest)) := c_get C X hW 10 (by decide) ly_10 hk 0 (by decide) (mt_at 272 (by decide +kernel) (by decide +kernel)) hdg (by rw [cV_R (by decide +kernel) hx]; exact kk)
theorem gk10_105 (C : cY p R s m args meth c RX10 cc nL nF nC nS nR ret) (X : cX D s) (hW : cW D S H) (hk : kK S a = 9) (hdg : decode cc pc = .ok (.getfield 105, 3)) (kk : W p l e R s m args below meth c H locs cells slots Q (F0 m (pc + 3) ls (.int (kF S a 6) :: rest))) : W p l e R s m args below meth c H locs cells slots Q (F0 m pc ls (.ref a :: rest)) := c_get C X hW 8 (by decide) ly_8 hk 6 (by decide) (mt_at 998 (by decide +kernel) (by decide +kernel)) hdg (by rw [cV_I (by decide +kernel)]; exact kk)
theorem gk10_121 (C : cY p R s m args meth c RX10 cc nL nF nC nS nR ret) (X : cX D s) (hW : cW D S H) (hk : kK S a = 5) {x : Nat} (hx : kR S a 5 = some x) (hdg : decode cc pc = .ok (.getfield 121, 3)) (kk : W p l e R s m args below meth c H locs cells slots Q (F0 m (pc + 3) ls (.ref x :: rest))) : W p l e R s m args below meth c H locs cells slots Q (F0 m pc ls (.ref a :: rest)) := c_get C X hW 4 (by decide) ly_4 hk 5 (by decide) (mt_at 240 (by decide +kernel) (by decide +kernel)) hdg (by rw [cV_R (by decide +kernel) hx]; exact kk)
theorem gk10_124 (C : cY p R s m args meth c RX10 cc nL nF nC nS nR ret) (X : cX D s) (hW : cW D S H) (hk : kK S a = 9) (hdg : decode cc pc = .ok (.getfield 124, 3)) (kk : W p l e R s m args below meth c H locs cells slots Q (F0 m (pc + 3) ls (.int (kF S a 7) :: rest))) : W p l e R s m args below meth c H locs cells slots Q (F0 m pc ls (.ref a :: rest)) := c_get C X hW 8 (by decide) ly_8 hk 7 (by decide) (mt_at 1003 (by decide +kernel) (by decide +kernel)) hdg (by rw [cV_I (by decide +kernel)]; exact kk)
theorem gk10_127 (C : cY p R s m args meth c RX10 cc nL nF nC nS nR ret) (X : cX D s) (hW : cW D S H) (hk : kK S a = 5) {x : Nat} (hx : kR S a 4 = some x) (hdg : decode cc pc = .ok (.getfield 127, 3)) (kk : W p l e R s m args below meth c H locs cells slots Q (F0 m (pc + 3) ls (.ref x :: rest))) : W p l e R s m args below meth c H locs cells slots Q (F0 m pc ls (.ref a :: rest)) := c_get C X hW 4 (by decide) ly_4 hk 4 (by decide) (mt_at 237 (by decide +kernel) (by decide +kernel)) hdg (by rw [cV_R (by decide +kernel) hx]; exact kk)
end
section
variable {p : Program} {l : Launch} {e : Env} {R : Room} {s : State} {m : MethodId} {args : Array Value} {below : List Frame} {meth : Method} {c : Code} {D : cG} {S0 S9 : cSt} {r : Int32}
noncomputable def fk_10_findSeveral_60 (g_17 : cSt → Nat → Int32 → Option Nat → Option (Int32 × cSt)) (S : cSt) (v0 : Nat) (v2 : Int32) (v3 : Option Nat) : Option (Int32 × cSt) :=
ckk S v0 11 (bd (kR S v0 7) fun a1 =>
ckk S a1 5 (bd (kR S a1 4) fun a2 =>
bd v3 fun a3 =>
ckk S a3 9 (
ckk S a2 30 (ck (kF S a3 12) (kL S a2) (lt (kO S a2 (Int32.toNatClampNeg (kF S a3 12))) fun o4 =>
g_17 S v0 v2 o4)))))
set_option maxRecDepth 100000 in
set_option maxHeartbeats 4000000 in
theorem wk_10_findSeveral_60 (C : cY p R s m args meth c RX10 cX10_findSeveral 4 2 0 0 45 (some .int)) (X : cX D s) {g_17 : cSt → Nat → Int32 → Option Nat → Option (Int32 × cSt)} (hg_17 : ∀ {S : cSt} {v0 : Nat} {v2 : Int32} {v3 : Option Nat} {H : Heap} {locs : List Loc} {ls : Array Slot}, g_17 S v0 v2 v3 = some (r, S9) → cJ D S0 s.heap S H locs → lv_has ls 4 [(0, .ref v0), (2, .int v2), (3, va_rf v3)] → W p l e R s m args below meth c H locs 0 0 (MQ below (kW (some (.int r)) D S0 S9) args s 0 0 (cA S0)) (F0 m 17 ls [])) : ∀ {S : cSt} {v0 : Nat} {v2 : Int32} {v3 : Option Nat} {H : Heap} {locs : List Loc} {ls : Array Slot}, fk_10_findSeveral_60 g_17 S v0 v2 v3 = some (r, S9) → cJ D S0 s.heap S H locs → lv_has ls 4 [(0, .ref v0), (2, .int v2), (3, va_rf v3)] → W p l e R s m args below meth c H locs 0 0 (MQ below (kW (some (.int r)) D S0 S9) args s 0 0 (cA S0)) (F0 m 60 ls []) := by
  intro S v0 v2 v3 H locs ls h hJ hl
  unfold fk_10_findSeveral_60 at h
  refine lv_aload_n C.1 C.2.1 dX10_findSeveral_60 rfl (lv_at hl 0 rfl) ?_
  obtain ⟨hk, h⟩ := ckk_ok h
  obtain ⟨a1, h_a1, h⟩ := bd_ok h
  refine gk10_38 C X hJ.1 hk h_a1 dX10_findSeveral_61 ?_
  obtain ⟨hk, h⟩ := ckk_ok h
  obtain ⟨a2, h_a2, h⟩ := bd_ok h
  refine gk10_127 C X hJ.1 hk h_a2 dX10_findSeveral_64 ?_
  refine lv_aload_nq (o := v3) C.1 C.2.1 dX10_findSeveral_67 rfl (lv_at hl 2 rfl) ?_
  obtain ⟨a3, e_a3, h⟩ := bd_ok h
  revert h; subst e_a3; intro h
  obtain ⟨hk, h⟩ := ckk_ok h
  refine gk10_68 C X hJ.1 hk dX10_findSeveral_68 ?_
  obtain ⟨hk, h⟩ := ckk_ok h
  obtain ⟨hin2, h⟩ := ck_ok h
  refine c_aald C 30 (by decide) X.2.2.2.2.1 hJ.1 hk hin2 dX10_findSeveral_71 ?_
  refine lt_ok h (fun o4 e_o4 h => ?_)
  refine lv_nmq e_o4 ?_
  refine lv_astore_nq (o := o4) (lv' := [(3, va_rf o4), (0, .ref v0), (2, .int v2)]) C.1 C.2.1 dX10_findSeveral_72 rfl hl (by decide) rfl (fun ls hl => ?_)
  refine lv_goto (tgt := 17) C.1 C.2.1 dX10_findSeveral_73 (by decide) ?_
  exact hg_17 h hJ (lv_sub hl [1, 2, 0] rfl)
noncomputable def fk_10_findSeveral_17 : Nat → cSt → Nat → Int32 → Option Nat → Option (Int32 × cSt)
  | 0, _, _, _, _ => none
  | n + 1, S, v0, v2, v3 =>
    cs v3 (
    some (v2, S)) (fun a1 =>
    if (4 : Int32) ≤ v2 then (
    fk_10_findSeveral_60 (fk_10_findSeveral_17 n) S v0 v2 (some a1))
    else (
    ckk S v0 11 (bd (fk_10_isGood S v0 a1) fun r3 =>
    if r3 = 0 then (
    fk_10_findSeveral_60 (fk_10_findSeveral_17 n) S v0 v2 (some a1))
    else (
    ckk S a1 9 (
    ckk S v0 11 (bd (kR S v0 3) fun a5 =>
    ckk S a1 9 (
    ckk S a5 20 (ck (kF S a1 6) (kL S a5) (
    if (kF S a1 7) ≤ (kI S a5 (Int32.toNatClampNeg (kF S a1 6))) then (
    fk_10_findSeveral_60 (fk_10_findSeveral_17 n) S v0 v2 (some a1))
    else (
    ckk S v0 11 (bd (kR S v0 0) fun a7 =>
    ckk S a7 30 (ck v2 (kL S a7) (ckq S (some a1) 9 (lt (cWo S a7 (Int32.toNatClampNeg v2) (some a1)) fun S8 =>
    lt (v2 + (1 : Int32)) fun x9 =>
    fk_10_findSeveral_60 (fk_10_findSeveral_17 n) S8 v0 x9 (some a1)))))))))))))))
set_option maxRecDepth 100000 in
set_option maxHeartbeats 4000000 in
theorem wk_10_findSeveral_17 (C : cY p R s m args meth c RX10 cX10_findSeveral 4 2 0 0 45 (some .int)) (X : cX D s) : ∀ (n : Nat), ∀ {S : cSt} {v0 : Nat} {v2 : Int32} {v3 : Option Nat} {H : Heap} {locs : List Loc} {ls : Array Slot}, fk_10_findSeveral_17 n S v0 v2 v3 = some (r, S9) → cJ D S0 s.heap S H locs → lv_has ls 4 [(0, .ref v0), (2, .int v2), (3, va_rf v3)] → W p l e R s m args below meth c H locs 0 0 (MQ below (kW (some (.int r)) D S0 S9) args s 0 0 (cA S0)) (F0 m 17 ls []) := by
  intro n
  induction n with
  | zero =>
    intro S v0 v2 v3 H locs ls h hJ hl
    exact absurd (show (none : Option (Int32 × cSt)) = _ from h) (fun q => by cases q)
  | succ n ih =>
    intro S v0 v2 v3 H locs ls h hJ hl
    rw [fk_10_findSeveral_17] at h
    refine lv_aload_nq (o := v3) C.1 C.2.1 dX10_findSeveral_17 rfl (lv_at hl 2 rfl) ?_
    rcases v3 with _ | a1
    · replace h := cs_n h
      refine lv_ifnullN (tgt := 76) C.1 C.2.1 dX10_findSeveral_18 (by decide) ?_
      refine lv_iload_n C.1 C.2.1 dX10_findSeveral_76 rfl (lv_at hl 1 rfl) ?_
      cases h
      exact c_retiW C hJ dX10_findSeveral_77
    · replace h := cs_s h
      refine lv_ifnull C.1 C.2.1 dX10_findSeveral_18 ?_
      refine lv_iload_n C.1 C.2.1 dX10_findSeveral_21 rfl (lv_at hl 1 rfl) ?_
      refine lv_iconst (v := 4) C.1 C.2.1 dX10_findSeveral_22 (by decide) ?_
      refine lv_icmp_ge (tgt := 60) C.1 C.2.1 dX10_findSeveral_23 (by decide) (fun c2 => ?_) (fun c2 => ?_)
      · have h := if_t h c2
        exact wk_10_findSeveral_60 C X ih h hJ (lv_sub hl [0, 1, 2] rfl)
      · have h := if_f h c2
        refine lv_aload_n C.1 C.2.1 dX10_findSeveral_26 rfl (lv_at hl 0 rfl) ?_
        refine lv_aload_n C.1 C.2.1 dX10_findSeveral_27 rfl (lv_at hl 2 rfl) ?_
        obtain ⟨hk, h⟩ := ckk_ok h
        obtain ⟨r3, h_r3, h⟩ := bd_ok h
        refine c_callR (rest := []) C X hJ.1 hl.1 10 (by decide) hk [.ref a1] (tk_10_isGood l h_r3) cw10_96 ki_10_isGood kl_10_isGood rfl ⟨by decide, by decide⟩ ⟨(by decide), (by decide)⟩ rfl (Nat.le_of_ble_eq_true rfl) dX10_findSeveral_28 ?_
        refine W.eq (g2 := F0 m 31 ls [.int r3]) rfl ?_
        refine lv_if_eq (tgt := 60) C.1 C.2.1 dX10_findSeveral_31 (by decide) (fun c4 => ?_) (fun c4 => ?_)
        · have h := if_t h c4
          exact wk_10_findSeveral_60 C X ih h hJ (lv_sub hl [0, 1, 2] rfl)
        · have h := if_f h c4
          refine lv_aload_n C.1 C.2.1 dX10_findSeveral_34 rfl (lv_at hl 2 rfl) ?_
          obtain ⟨hk, h⟩ := ckk_ok h
          refine gk10_124 C X hJ.1 hk dX10_findSeveral_35 ?_
          refine lv_aload_n C.1 C.2.1 dX10_findSeveral_38 rfl (lv_at hl 0 rfl) ?_
          obtain ⟨hk, h⟩ := ckk_ok h
          obtain ⟨a5, h_a5, h⟩ := bd_ok h
          refine gk10_17 C X hJ.1 hk h_a5 dX10_findSeveral_39 ?_
          refine lv_aload_n C.1 C.2.1 dX10_findSeveral_42 rfl (lv_at hl 2 rfl) ?_
          obtain ⟨hk, h⟩ := ckk_ok h
          refine gk10_105 C X hJ.1 hk dX10_findSeveral_43 ?_
          obtain ⟨hk, h⟩ := ckk_ok h
          obtain ⟨hin2, h⟩ := ck_ok h
          refine c_iald C X hJ.1 hk hin2 dX10_findSeveral_46 ?_
          refine lv_icmp_le (tgt := 60) C.1 C.2.1 dX10_findSeveral_47 (by decide) (fun c6 => ?_) (fun c6 => ?_)
          · have h := if_t h c6
            exact wk_10_findSeveral_60 C X ih h hJ (lv_sub hl [0, 1, 2] rfl)
          · have h := if_f h c6
            refine lv_aload_n C.1 C.2.1 dX10_findSeveral_50 rfl (lv_at hl 0 rfl) ?_
            obtain ⟨hk, h⟩ := ckk_ok h
            obtain ⟨a7, h_a7, h⟩ := bd_ok h
            refine gk10_11 C X hJ.1 hk h_a7 dX10_findSeveral_51 ?_
            refine lv_iload_n C.1 C.2.1 dX10_findSeveral_54 rfl (lv_at hl 1 rfl) ?_
            refine lv_aload_n C.1 C.2.1 dX10_findSeveral_55 rfl (lv_at hl 2 rfl) ?_
            obtain ⟨hk, h⟩ := ckk_ok h
            obtain ⟨hin2, h⟩ := ck_ok h
            obtain ⟨hkv, h⟩ := ckq_ok h
            refine c_aastq (o := (some a1)) C X 30 8 (by decide) (by decide) X.2.2.2.2.1 hJ hk hkv hin2 dX10_findSeveral_56 (fun H locs hJ => ?_)
            refine lt_ok h (fun S8 e_S8 h => ?_)
            rw [e_S8] at hJ
            refine lt_ok h (fun x9 e_x9 h => ?_)
            refine lv_iinc (v := x9) (lv' := [(2, .int x9), (0, .ref v0), (3, .ref a1)]) C.1 C.2.1 dX10_findSeveral_57 hl (k := 1) rfl (by rw [← e_x9]; rfl) (by decide) rfl (fun ls hl => ?_)
            exact wk_10_findSeveral_60 C X ih h hJ (lv_sub hl [1, 0, 2] rfl)
noncomputable def fk_10_findSeveral (S : cSt) (v0 : Nat) (v1 : Int32) : Option (Int32 × cSt) :=
ckk S v0 11 (bd (fk_10_gatherKnown S v0 v1) fun S1 =>
ckk S1 v0 11 (bd (kR S1 v0 7) fun a2 =>
ckk S1 a2 5 (bd (kR S1 a2 5) fun a3 =>
ckk S1 a3 30 (ck v1 (kL S1 a3) (lt (kO S1 a3 (Int32.toNatClampNeg v1)) fun o4 =>
fk_10_findSeveral_17 mFU S1 v0 (0 : Int32) o4)))))
set_option maxRecDepth 100000 in
set_option maxHeartbeats 4000000 in
theorem tk_10_findSeveral (l : Launch) {D : cG} {S : cSt} {v0 : Nat} {v1 : Int32} {r : Int32} {S9 : cSt} (h : fk_10_findSeveral S v0 v1 = some (r, S9)) : Met l yX10_findSeveral (Cond.code yX10_findSeveral cX10_findSeveral 4 (some .int) :: lw_g) { frames := 2, cells := 0, slots := 0, locals := 45 } (kPi [.ref v0, .int v1] D S) (kW (some (.int r)) D S S9) 0 0 (cA S) := by
  refine Met.ofW (cc := cX10_findSeveral) (maxL := 4) (ret := (some .int)) (by decide) rfl ?_
  intro p e s m args below meth c s₁ B hml hv
  obtain ⟨rfl, hW, X⟩ := hv
  have C : cY p (headSpec (Cond.code yX10_findSeveral cX10_findSeveral 4 (some .int) :: lw_g) { frames := 2, cells := 0, slots := 0, locals := 45 }).room s m _ meth c RX10 cX10_findSeveral 4 2 0 0 45 (some .int) := ⟨B.exec, B.bytes, hml, findClass_of_methodNamed B.named, fun w hw => atoms_spec (ws := Cond.code yX10_findSeveral cX10_findSeveral 4 (some .int) :: lw_g) B.pre w (List.mem_cons_of_mem _ hw), ⟨Nat.le_refl _, Nat.le_refl _, Nat.le_refl _, Nat.le_refl _⟩, B.returns, B.notSynchronized⟩
  have hl := lv_entry ([.ref v0, .int v1]) (n := 4) (Nat.le_of_ble_eq_true rfl)
  rw [lg_entry_eq]
  generalize (lg_sl ([.ref v0, .int v1]) ++ List.replicate (4 - (lg_sl ([.ref v0, .int v1])).length) Slot.unset).toArray = ls at hl ⊢
  have hl : lv_has ls 4 [(0, .ref v0), (1, .int v1)] := hl
  have hJ : cJ D S s.heap S s.heap [] := cJ.rf hW
  unfold fk_10_findSeveral at h
  refine lv_aload_n C.1 C.2.1 dX10_findSeveral_0 rfl (lv_at hl 0 rfl) ?_
  refine lv_iload_n C.1 C.2.1 dX10_findSeveral_1 rfl (lv_at hl 1 rfl) ?_
  obtain ⟨hk, h⟩ := ckk_ok h
  obtain ⟨S1, h_S1, h⟩ := bd_ok h
  refine c_callW (rest := []) C X hJ hl.1 10 (by decide) hk [.int v1] (tk_10_gatherKnown l h_S1) cw10_118 ki_10_gatherKnown kl_10_gatherKnown rfl ⟨by decide, by decide⟩ ⟨(by decide), (by decide)⟩ rfl (Nat.le_of_ble_eq_true rfl) dX10_findSeveral_2 (fun H locs hJ => ?_)
  refine W.eq (g2 := F0 m 5 ls []) rfl ?_
  refine lv_iconst (v := 0) C.1 C.2.1 dX10_findSeveral_5 (by decide) ?_
  refine lv_istore_n (lv' := [(2, .int (0 : Int32)), (0, .ref v0), (1, .int v1)]) C.1 C.2.1 dX10_findSeveral_6 rfl hl (by decide) rfl (fun ls hl => ?_)
  refine lv_aload_n C.1 C.2.1 dX10_findSeveral_7 rfl (lv_at hl 1 rfl) ?_
  obtain ⟨hk, h⟩ := ckk_ok h
  obtain ⟨a2, h_a2, h⟩ := bd_ok h
  refine gk10_38 C X hJ.1 hk h_a2 dX10_findSeveral_8 ?_
  obtain ⟨hk, h⟩ := ckk_ok h
  obtain ⟨a3, h_a3, h⟩ := bd_ok h
  refine gk10_121 C X hJ.1 hk h_a3 dX10_findSeveral_11 ?_
  refine lv_iload_n C.1 C.2.1 dX10_findSeveral_14 rfl (lv_at hl 2 rfl) ?_
  obtain ⟨hk, h⟩ := ckk_ok h
  obtain ⟨hin2, h⟩ := ck_ok h
  refine c_aald C 30 (by decide) X.2.2.2.2.1 hJ.1 hk hin2 dX10_findSeveral_15 ?_
  refine lt_ok h (fun o4 e_o4 h => ?_)
  refine lv_nmq e_o4 ?_
  refine lv_astore_nq (o := o4) (lv' := [(3, va_rf o4), (2, .int (0 : Int32)), (0, .ref v0), (1, .int v1)]) C.1 C.2.1 dX10_findSeveral_16 rfl hl (by decide) rfl (fun ls hl => ?_)
  exact wk_10_findSeveral_17 C X mFU h hJ (lv_sub hl [2, 1, 0] rfl)
end
theorem dX10_sumOf_0 : decode cX10_sumOf 0 = .ok (.iconst 0, 1) := by decide +kernel
theorem dX10_sumOf_1 : decode cX10_sumOf 1 = .ok (.istore_n 2, 1) := by decide +kernel
theorem dX10_sumOf_2 : decode cX10_sumOf 2 = .ok (.aload_n 0, 1) := by decide +kernel
theorem dX10_sumOf_3 : decode cX10_sumOf 3 = .ok (.getfield 38, 3) := by decide +kernel
theorem dX10_sumOf_6 : decode cX10_sumOf 6 = .ok (.getfield 93, 3) := by decide +kernel
theorem dX10_sumOf_9 : decode cX10_sumOf 9 = .ok (.iload_n 1, 1) := by decide +kernel
theorem dX10_sumOf_10 : decode cX10_sumOf 10 = .ok (.aaload, 1) := by decide +kernel
theorem dX10_sumOf_11 : decode cX10_sumOf 11 = .ok (.astore_n 3, 1) := by decide +kernel
theorem dX10_sumOf_12 : decode cX10_sumOf 12 = .ok (.aload_n 3, 1) := by decide +kernel
theorem dX10_sumOf_13 : decode cX10_sumOf 13 = .ok (.ifnull 34, 3) := by decide +kernel
theorem dX10_sumOf_16 : decode cX10_sumOf 16 = .ok (.aload_n 0, 1) := by decide +kernel
theorem dX10_sumOf_17 : decode cX10_sumOf 17 = .ok (.aload_n 3, 1) := by decide +kernel
theorem dX10_sumOf_18 : decode cX10_sumOf 18 = .ok (.invokevirtual 96, 3) := by decide +kernel
theorem dX10_sumOf_21 : decode cX10_sumOf 21 = .ok (.ifCond .eq 10, 3) := by decide +kernel
theorem dX10_sumOf_24 : decode cX10_sumOf 24 = .ok (.iload_n 2, 1) := by decide +kernel
theorem dX10_sumOf_25 : decode cX10_sumOf 25 = .ok (.aload_n 3, 1) := by decide +kernel
theorem dX10_sumOf_26 : decode cX10_sumOf 26 = .ok (.getfield 102, 3) := by decide +kernel
theorem dX10_sumOf_29 : decode cX10_sumOf 29 = .ok (.iadd, 1) := by decide +kernel
theorem dX10_sumOf_30 : decode cX10_sumOf 30 = .ok (.istore_n 2, 1) := by decide +kernel
theorem dX10_sumOf_31 : decode cX10_sumOf 31 = .ok (.aload_n 0, 1) := by decide +kernel
theorem dX10_sumOf_32 : decode cX10_sumOf 32 = .ok (.getfield 38, 3) := by decide +kernel
theorem dX10_sumOf_35 : decode cX10_sumOf 35 = .ok (.getfield 99, 3) := by decide +kernel
theorem dX10_sumOf_38 : decode cX10_sumOf 38 = .ok (.aload_n 3, 1) := by decide +kernel
theorem dX10_sumOf_39 : decode cX10_sumOf 39 = .ok (.getfield 68, 3) := by decide +kernel
theorem dX10_sumOf_42 : decode cX10_sumOf 42 = .ok (.aaload, 1) := by decide +kernel
theorem dX10_sumOf_43 : decode cX10_sumOf 43 = .ok (.astore_n 3, 1) := by decide +kernel
theorem dX10_sumOf_44 : decode cX10_sumOf 44 = .ok (.goto (-32), 3) := by decide +kernel
theorem dX10_sumOf_47 : decode cX10_sumOf 47 = .ok (.iload_n 2, 1) := by decide +kernel
theorem dX10_sumOf_48 : decode cX10_sumOf 48 = .ok (.ireturn, 1) := by decide +kernel
theorem kd_10_sumOf : Cond.code yX10_sumOf cX10_sumOf 4 (some .int) ∈ lw_g := mt_at 1105 (by decide +kernel) rfl
theorem ki_10_sumOf : Cond.instanceMethod yX10_sumOf ∈ lw_g := mt_at 1103 (by decide +kernel) rfl
theorem kl_10_sumOf : Cond.selects (kRn 10) yX10_sumOf yX10_sumOf ∈ lw_g := mt_at 1104 (by decide +kernel) rfl
section
variable {p : Program} {l : Launch} {e : Env} {R : Room} {s : State} {m : MethodId} {args : Array Value} {below : List Frame} {meth : Method} {c : Code} {D : cG} {S : cSt} {r : Int32}
noncomputable def fk_10_sumOf_31 (g_12 : Nat → Int32 → Option Nat → Option (Int32)) (S : cSt) (v0 : Nat) (v2 : Int32) (v3 : Option Nat) : Option (Int32) :=
ckk S v0 11 (bd (kR S v0 7) fun a1 =>
ckk S a1 5 (bd (kR S a1 3) fun a2 =>
bd v3 fun a3 =>
ckk S a3 9 (
ckk S a2 30 (ck (kF S a3 12) (kL S a2) (lt (kO S a2 (Int32.toNatClampNeg (kF S a3 12))) fun o4 =>
g_12 v0 v2 o4)))))
set_option maxRecDepth 100000 in
set_option maxHeartbeats 4000000 in
theorem wk_10_sumOf_31 (C : cY p R s m args meth c RX10 cX10_sumOf 4 1 0 0 22 (some .int)) (X : cX D s) (hW : cW D S s.heap) {g_12 : Nat → Int32 → Option Nat → Option (Int32)} (hg_12 : ∀ {v0 : Nat} {v2 : Int32} {v3 : Option Nat} {ls : Array Slot}, g_12 v0 v2 v3 = some r → lv_has ls 4 [(0, .ref v0), (2, .int v2), (3, va_rf v3)] → W p l e R s m args below meth c s.heap [] 0 0 (MQ below (kQ (some (.int r))) args s 0 0 mNo) (F0 m 12 ls [])) : ∀ {v0 : Nat} {v2 : Int32} {v3 : Option Nat} {ls : Array Slot}, fk_10_sumOf_31 g_12 S v0 v2 v3 = some r → lv_has ls 4 [(0, .ref v0), (2, .int v2), (3, va_rf v3)] → W p l e R s m args below meth c s.heap [] 0 0 (MQ below (kQ (some (.int r))) args s 0 0 mNo) (F0 m 31 ls []) := by
  intro v0 v2 v3 ls h hl
  unfold fk_10_sumOf_31 at h
  refine lv_aload_n C.1 C.2.1 dX10_sumOf_31 rfl (lv_at hl 0 rfl) ?_
  obtain ⟨hk, h⟩ := ckk_ok h
  obtain ⟨a1, h_a1, h⟩ := bd_ok h
  refine gk10_38 C X hW hk h_a1 dX10_sumOf_32 ?_
  obtain ⟨hk, h⟩ := ckk_ok h
  obtain ⟨a2, h_a2, h⟩ := bd_ok h
  refine gk10_99 C X hW hk h_a2 dX10_sumOf_35 ?_
  refine lv_aload_nq (o := v3) C.1 C.2.1 dX10_sumOf_38 rfl (lv_at hl 2 rfl) ?_
  obtain ⟨a3, e_a3, h⟩ := bd_ok h
  revert h; subst e_a3; intro h
  obtain ⟨hk, h⟩ := ckk_ok h
  refine gk10_68 C X hW hk dX10_sumOf_39 ?_
  obtain ⟨hk, h⟩ := ckk_ok h
  obtain ⟨hin2, h⟩ := ck_ok h
  refine c_aald C 30 (by decide) X.2.2.2.2.1 hW hk hin2 dX10_sumOf_42 ?_
  refine lt_ok h (fun o4 e_o4 h => ?_)
  refine lv_nmq e_o4 ?_
  refine lv_astore_nq (o := o4) (lv' := [(3, va_rf o4), (0, .ref v0), (2, .int v2)]) C.1 C.2.1 dX10_sumOf_43 rfl hl (by decide) rfl (fun ls hl => ?_)
  refine lv_goto (tgt := 12) C.1 C.2.1 dX10_sumOf_44 (by decide) ?_
  exact hg_12 h (lv_sub hl [1, 2, 0] rfl)
noncomputable def fk_10_sumOf_12 (S : cSt) : Nat → Nat → Int32 → Option Nat → Option (Int32)
  | 0, _, _, _ => none
  | n + 1, v0, v2, v3 =>
    cs v3 (
    some v2) (fun a1 =>
    ckk S v0 11 (bd (fk_10_isGood S v0 a1) fun r2 =>
    if r2 = 0 then (
    fk_10_sumOf_31 (fk_10_sumOf_12 S n) S v0 v2 (some a1))
    else (
    ckk S a1 9 (
    lt (v2 + (kF S a1 4)) fun x4 =>
    fk_10_sumOf_31 (fk_10_sumOf_12 S n) S v0 x4 (some a1)))))
set_option maxRecDepth 100000 in
set_option maxHeartbeats 4000000 in
theorem wk_10_sumOf_12 (C : cY p R s m args meth c RX10 cX10_sumOf 4 1 0 0 22 (some .int)) (X : cX D s) (hW : cW D S s.heap) : ∀ (n : Nat), ∀ {v0 : Nat} {v2 : Int32} {v3 : Option Nat} {ls : Array Slot}, fk_10_sumOf_12 S n v0 v2 v3 = some r → lv_has ls 4 [(0, .ref v0), (2, .int v2), (3, va_rf v3)] → W p l e R s m args below meth c s.heap [] 0 0 (MQ below (kQ (some (.int r))) args s 0 0 mNo) (F0 m 12 ls []) := by
  intro n
  induction n with
  | zero =>
    intro v0 v2 v3 ls h hl
    exact absurd (show (none : Option (Int32)) = _ from h) (fun q => by cases q)
  | succ n ih =>
    intro v0 v2 v3 ls h hl
    rw [fk_10_sumOf_12] at h
    refine lv_aload_nq (o := v3) C.1 C.2.1 dX10_sumOf_12 rfl (lv_at hl 2 rfl) ?_
    rcases v3 with _ | a1
    · replace h := cs_n h
      refine lv_ifnullN (tgt := 47) C.1 C.2.1 dX10_sumOf_13 (by decide) ?_
      refine lv_iload_n C.1 C.2.1 dX10_sumOf_47 rfl (lv_at hl 1 rfl) ?_
      cases h
      exact c_reti C rfl rfl dX10_sumOf_48
    · replace h := cs_s h
      refine lv_ifnull C.1 C.2.1 dX10_sumOf_13 ?_
      refine lv_aload_n C.1 C.2.1 dX10_sumOf_16 rfl (lv_at hl 0 rfl) ?_
      refine lv_aload_n C.1 C.2.1 dX10_sumOf_17 rfl (lv_at hl 2 rfl) ?_
      obtain ⟨hk, h⟩ := ckk_ok h
      obtain ⟨r2, h_r2, h⟩ := bd_ok h
      refine c_callR (rest := []) C X hW hl.1 10 (by decide) hk [.ref a1] (tk_10_isGood l h_r2) cw10_96 ki_10_isGood kl_10_isGood rfl ⟨by decide, by decide⟩ ⟨(by decide), (by decide)⟩ rfl (Nat.le_of_ble_eq_true rfl) dX10_sumOf_18 ?_
      refine W.eq (g2 := F0 m 21 ls [.int r2]) rfl ?_
      refine lv_if_eq (tgt := 31) C.1 C.2.1 dX10_sumOf_21 (by decide) (fun c3 => ?_) (fun c3 => ?_)
      · have h := if_t h c3
        exact wk_10_sumOf_31 C X hW ih h (lv_sub hl [0, 1, 2] rfl)
      · have h := if_f h c3
        refine lv_iload_n C.1 C.2.1 dX10_sumOf_24 rfl (lv_at hl 1 rfl) ?_
        refine lv_aload_n C.1 C.2.1 dX10_sumOf_25 rfl (lv_at hl 2 rfl) ?_
        obtain ⟨hk, h⟩ := ckk_ok h
        refine gk10_102 C X hW hk dX10_sumOf_26 ?_
        refine lv_iadd C.1 C.2.1 dX10_sumOf_29 ?_
        refine lt_ok h (fun x4 e_x4 h => ?_)
        refine lv_nm e_x4 ?_
        refine lv_istore_n (lv' := [(2, .int x4), (0, .ref v0), (3, .ref a1)]) C.1 C.2.1 dX10_sumOf_30 rfl hl (by decide) rfl (fun ls hl => ?_)
        exact wk_10_sumOf_31 C X hW ih h (lv_sub hl [1, 0, 2] rfl)
noncomputable def fk_10_sumOf (S : cSt) (v0 : Nat) (v1 : Int32) : Option (Int32) :=
ckk S v0 11 (bd (kR S v0 7) fun a1 =>
ckk S a1 5 (bd (kR S a1 6) fun a2 =>
ckk S a2 30 (ck v1 (kL S a2) (lt (kO S a2 (Int32.toNatClampNeg v1)) fun o3 =>
fk_10_sumOf_12 S mFU v0 (0 : Int32) o3))))
set_option maxRecDepth 100000 in
set_option maxHeartbeats 4000000 in
theorem tk_10_sumOf (l : Launch) {D : cG} {S : cSt} {v0 : Nat} {v1 : Int32} {r : Int32}  (h : fk_10_sumOf S v0 v1 = some r) : Met l yX10_sumOf (Cond.code yX10_sumOf cX10_sumOf 4 (some .int) :: lw_g) { frames := 1, cells := 0, slots := 0, locals := 22 } (kPi [.ref v0, .int v1] D S) (kQ (some (.int r))) 0 0 (mNo) := by
  refine Met.ofW (cc := cX10_sumOf) (maxL := 4) (ret := (some .int)) (by decide) rfl ?_
  intro p e s m args below meth c s₁ B hml hv
  obtain ⟨rfl, hW, X⟩ := hv
  have C : cY p (headSpec (Cond.code yX10_sumOf cX10_sumOf 4 (some .int) :: lw_g) { frames := 1, cells := 0, slots := 0, locals := 22 }).room s m _ meth c RX10 cX10_sumOf 4 1 0 0 22 (some .int) := ⟨B.exec, B.bytes, hml, findClass_of_methodNamed B.named, fun w hw => atoms_spec (ws := Cond.code yX10_sumOf cX10_sumOf 4 (some .int) :: lw_g) B.pre w (List.mem_cons_of_mem _ hw), ⟨Nat.le_refl _, Nat.le_refl _, Nat.le_refl _, Nat.le_refl _⟩, B.returns, B.notSynchronized⟩
  have hl := lv_entry ([.ref v0, .int v1]) (n := 4) (Nat.le_of_ble_eq_true rfl)
  rw [lg_entry_eq]
  generalize (lg_sl ([.ref v0, .int v1]) ++ List.replicate (4 - (lg_sl ([.ref v0, .int v1])).length) Slot.unset).toArray = ls at hl ⊢
  have hl : lv_has ls 4 [(0, .ref v0), (1, .int v1)] := hl
  unfold fk_10_sumOf at h
  refine lv_iconst (v := 0) C.1 C.2.1 dX10_sumOf_0 (by decide) ?_
  refine lv_istore_n (lv' := [(2, .int (0 : Int32)), (0, .ref v0), (1, .int v1)]) C.1 C.2.1 dX10_sumOf_1 rfl hl (by decide) rfl (fun ls hl => ?_)
  refine lv_aload_n C.1 C.2.1 dX10_sumOf_2 rfl (lv_at hl 1 rfl) ?_
  obtain ⟨hk, h⟩ := ckk_ok h
  obtain ⟨a1, h_a1, h⟩ := bd_ok h
  refine gk10_38 C X hW hk h_a1 dX10_sumOf_3 ?_
  obtain ⟨hk, h⟩ := ckk_ok h
  obtain ⟨a2, h_a2, h⟩ := bd_ok h
  refine gk10_93 C X hW hk h_a2 dX10_sumOf_6 ?_
  refine lv_iload_n C.1 C.2.1 dX10_sumOf_9 rfl (lv_at hl 2 rfl) ?_
  obtain ⟨hk, h⟩ := ckk_ok h
  obtain ⟨hin2, h⟩ := ck_ok h
  refine c_aald C 30 (by decide) X.2.2.2.2.1 hW hk hin2 dX10_sumOf_10 ?_
  refine lt_ok h (fun o3 e_o3 h => ?_)
  refine lv_nmq e_o3 ?_
  refine lv_astore_nq (o := o3) (lv' := [(3, va_rf o3), (2, .int (0 : Int32)), (0, .ref v0), (1, .int v1)]) C.1 C.2.1 dX10_sumOf_11 rfl hl (by decide) rfl (fun ls hl => ?_)
  exact wk_10_sumOf_12 C X hW mFU h (lv_sub hl [2, 1, 0] rfl)
end
theorem dX10_findShares_0 : decode cX10_findShares 0 = .ok (.aload_n 0, 1) := by decide +kernel
theorem dX10_findShares_1 : decode cX10_findShares 1 = .ok (.getfield 27, 3) := by decide +kernel
theorem dX10_findShares_4 : decode cX10_findShares 4 = .ok (.iconst 0, 1) := by decide +kernel
theorem dX10_findShares_5 : decode cX10_findShares 5 = .ok (.invokestatic 45, 3) := by decide +kernel
theorem dX10_findShares_8 : decode cX10_findShares 8 = .ok (.aload_n 0, 1) := by decide +kernel
theorem dX10_findShares_9 : decode cX10_findShares 9 = .ok (.getfield 38, 3) := by decide +kernel
theorem dX10_findShares_12 : decode cX10_findShares 12 = .ok (.getfield 93, 3) := by decide +kernel
theorem dX10_findShares_15 : decode cX10_findShares 15 = .ok (.iload_n 1, 1) := by decide +kernel
theorem dX10_findShares_16 : decode cX10_findShares 16 = .ok (.aaload, 1) := by decide +kernel
theorem dX10_findShares_17 : decode cX10_findShares 17 = .ok (.astore_n 2, 1) := by decide +kernel
theorem dX10_findShares_18 : decode cX10_findShares 18 = .ok (.aload_n 2, 1) := by decide +kernel
theorem dX10_findShares_19 : decode cX10_findShares 19 = .ok (.ifnull 84, 3) := by decide +kernel
theorem dX10_findShares_22 : decode cX10_findShares 22 = .ok (.aload_n 0, 1) := by decide +kernel
theorem dX10_findShares_23 : decode cX10_findShares 23 = .ok (.aload_n 2, 1) := by decide +kernel
theorem dX10_findShares_24 : decode cX10_findShares 24 = .ok (.invokevirtual 96, 3) := by decide +kernel
theorem dX10_findShares_27 : decode cX10_findShares 27 = .ok (.ifCond .eq 60, 3) := by decide +kernel
theorem dX10_findShares_30 : decode cX10_findShares 30 = .ok (.aload_n 0, 1) := by decide +kernel
theorem dX10_findShares_31 : decode cX10_findShares 31 = .ok (.getfield 27, 3) := by decide +kernel
theorem dX10_findShares_34 : decode cX10_findShares 34 = .ok (.aload_n 2, 1) := by decide +kernel
theorem dX10_findShares_35 : decode cX10_findShares 35 = .ok (.getfield 105, 3) := by decide +kernel
theorem dX10_findShares_38 : decode cX10_findShares 38 = .ok (.dup2, 1) := by decide +kernel
theorem dX10_findShares_39 : decode cX10_findShares 39 = .ok (.iaload, 1) := by decide +kernel
theorem dX10_findShares_40 : decode cX10_findShares 40 = .ok (.aload_n 2, 1) := by decide +kernel
theorem dX10_findShares_41 : decode cX10_findShares 41 = .ok (.getfield 108, 3) := by decide +kernel
theorem dX10_findShares_44 : decode cX10_findShares 44 = .ok (.iconst 4, 1) := by decide +kernel
theorem dX10_findShares_45 : decode cX10_findShares 45 = .ok (.if_icmp .ne 10, 3) := by decide +kernel
theorem dX10_findShares_48 : decode cX10_findShares 48 = .ok (.aload_n 2, 1) := by decide +kernel
theorem dX10_findShares_49 : decode cX10_findShares 49 = .ok (.getfield 102, 3) := by decide +kernel
theorem dX10_findShares_52 : decode cX10_findShares 52 = .ok (.goto 8, 3) := by decide +kernel
theorem dX10_findShares_55 : decode cX10_findShares 55 = .ok (.aload_n 2, 1) := by decide +kernel
theorem dX10_findShares_56 : decode cX10_findShares 56 = .ok (.getfield 102, 3) := by decide +kernel
theorem dX10_findShares_59 : decode cX10_findShares 59 = .ok (.ineg, 1) := by decide +kernel
theorem dX10_findShares_60 : decode cX10_findShares 60 = .ok (.iadd, 1) := by decide +kernel
theorem dX10_findShares_61 : decode cX10_findShares 61 = .ok (.iastore, 1) := by decide +kernel
theorem dX10_findShares_62 : decode cX10_findShares 62 = .ok (.aload_n 2, 1) := by decide +kernel
theorem dX10_findShares_63 : decode cX10_findShares 63 = .ok (.getfield 108, 3) := by decide +kernel
theorem dX10_findShares_66 : decode cX10_findShares 66 = .ok (.bipush 6, 2) := by decide +kernel
theorem dX10_findShares_68 : decode cX10_findShares 68 = .ok (.if_icmp .ne 19, 3) := by decide +kernel
theorem dX10_findShares_71 : decode cX10_findShares 71 = .ok (.aload_n 0, 1) := by decide +kernel
theorem dX10_findShares_72 : decode cX10_findShares 72 = .ok (.getfield 27, 3) := by decide +kernel
theorem dX10_findShares_75 : decode cX10_findShares 75 = .ok (.aload_n 2, 1) := by decide +kernel
theorem dX10_findShares_76 : decode cX10_findShares 76 = .ok (.getfield 111, 3) := by decide +kernel
theorem dX10_findShares_79 : decode cX10_findShares 79 = .ok (.dup2, 1) := by decide +kernel
theorem dX10_findShares_80 : decode cX10_findShares 80 = .ok (.iaload, 1) := by decide +kernel
theorem dX10_findShares_81 : decode cX10_findShares 81 = .ok (.aload_n 2, 1) := by decide +kernel
theorem dX10_findShares_82 : decode cX10_findShares 82 = .ok (.getfield 102, 3) := by decide +kernel
theorem dX10_findShares_85 : decode cX10_findShares 85 = .ok (.iadd, 1) := by decide +kernel
theorem dX10_findShares_86 : decode cX10_findShares 86 = .ok (.iastore, 1) := by decide +kernel
theorem dX10_findShares_87 : decode cX10_findShares 87 = .ok (.aload_n 0, 1) := by decide +kernel
theorem dX10_findShares_88 : decode cX10_findShares 88 = .ok (.getfield 38, 3) := by decide +kernel
theorem dX10_findShares_91 : decode cX10_findShares 91 = .ok (.getfield 99, 3) := by decide +kernel
theorem dX10_findShares_94 : decode cX10_findShares 94 = .ok (.aload_n 2, 1) := by decide +kernel
theorem dX10_findShares_95 : decode cX10_findShares 95 = .ok (.getfield 68, 3) := by decide +kernel
theorem dX10_findShares_98 : decode cX10_findShares 98 = .ok (.aaload, 1) := by decide +kernel
theorem dX10_findShares_99 : decode cX10_findShares 99 = .ok (.astore_n 2, 1) := by decide +kernel
theorem dX10_findShares_100 : decode cX10_findShares 100 = .ok (.goto (-82), 3) := by decide +kernel
theorem dX10_findShares_103 : decode cX10_findShares 103 = .ok (.aload_n 0, 1) := by decide +kernel
theorem dX10_findShares_104 : decode cX10_findShares 104 = .ok (.getfield 27, 3) := by decide +kernel
theorem dX10_findShares_107 : decode cX10_findShares 107 = .ok (.iconst 4, 1) := by decide +kernel
theorem dX10_findShares_108 : decode cX10_findShares 108 = .ok (.aload_n 0, 1) := by decide +kernel
theorem dX10_findShares_109 : decode cX10_findShares 109 = .ok (.getfield 27, 3) := by decide +kernel
theorem dX10_findShares_112 : decode cX10_findShares 112 = .ok (.iconst 0, 1) := by decide +kernel
theorem dX10_findShares_113 : decode cX10_findShares 113 = .ok (.iaload, 1) := by decide +kernel
theorem dX10_findShares_114 : decode cX10_findShares 114 = .ok (.aload_n 0, 1) := by decide +kernel
theorem dX10_findShares_115 : decode cX10_findShares 115 = .ok (.getfield 27, 3) := by decide +kernel
theorem dX10_findShares_118 : decode cX10_findShares 118 = .ok (.iconst 1, 1) := by decide +kernel
theorem dX10_findShares_119 : decode cX10_findShares 119 = .ok (.iaload, 1) := by decide +kernel
theorem dX10_findShares_120 : decode cX10_findShares 120 = .ok (.iadd, 1) := by decide +kernel
theorem dX10_findShares_121 : decode cX10_findShares 121 = .ok (.aload_n 0, 1) := by decide +kernel
theorem dX10_findShares_122 : decode cX10_findShares 122 = .ok (.getfield 27, 3) := by decide +kernel
theorem dX10_findShares_125 : decode cX10_findShares 125 = .ok (.iconst 2, 1) := by decide +kernel
theorem dX10_findShares_126 : decode cX10_findShares 126 = .ok (.iaload, 1) := by decide +kernel
theorem dX10_findShares_127 : decode cX10_findShares 127 = .ok (.iadd, 1) := by decide +kernel
theorem dX10_findShares_128 : decode cX10_findShares 128 = .ok (.aload_n 0, 1) := by decide +kernel
theorem dX10_findShares_129 : decode cX10_findShares 129 = .ok (.getfield 27, 3) := by decide +kernel
theorem dX10_findShares_132 : decode cX10_findShares 132 = .ok (.iconst 3, 1) := by decide +kernel
theorem dX10_findShares_133 : decode cX10_findShares 133 = .ok (.iaload, 1) := by decide +kernel
theorem dX10_findShares_134 : decode cX10_findShares 134 = .ok (.iadd, 1) := by decide +kernel
theorem dX10_findShares_135 : decode cX10_findShares 135 = .ok (.iastore, 1) := by decide +kernel
theorem dX10_findShares_136 : decode cX10_findShares 136 = .ok (.return_, 1) := by decide +kernel
theorem kd_10_findShares : Cond.code yX10_findShares cX10_findShares 3 none ∈ lw_g := mt_at 603 (by decide +kernel) rfl
theorem ki_10_findShares : Cond.instanceMethod yX10_findShares ∈ lw_g := mt_at 602 (by decide +kernel) rfl
theorem kl_10_findShares : Cond.selects (kRn 10) yX10_findShares yX10_findShares ∈ lw_g := mt_sel 9 (by decide +kernel) rfl
section
variable {p : Program} {l : Launch} {e : Env} {R : Room} {s : State} {m : MethodId} {args : Array Value} {below : List Frame} {meth : Method} {c : Code} {H : Heap} {locs : List Loc} {cells slots : Nat} {Q : State → Prop}
variable {D : cG} {S S0 : cSt} {cc : ByteArray} {nL : Nat} {pc : Nat} {ls : Array Slot} {rest : List Value} {H0 : Heap} {nF nR nC nS : Nat} {ret : Option FieldType} {a : Nat}
theorem gk10_27 (C : cY p R s m args meth c RX10 cc nL nF nC nS nR ret) (X : cX D s) (hW : cW D S H) (hk : kK S a = 11) {x : Nat} (hx : kR S a 6 = some x) (hdg : decode cc pc = .ok (.getfield 27, 3)) (kk : W p l e R s m args below meth c H locs cells slots Q (F0 m (pc + 3) ls (.ref x :: rest))) : W p l e R s m args below meth c H locs cells slots Q (F0 m pc ls (.ref a :: rest)) := c_get C X hW 10 (by decide) ly_10 hk 6 (by decide) (mt_at 279 (by decide +kernel) (by decide +kernel)) hdg (by rw [cV_R (by decide +kernel) hx]; exact kk)
theorem gk10_108 (C : cY p R s m args meth c RX10 cc nL nF nC nS nR ret) (X : cX D s) (hW : cW D S H) (hk : kK S a = 9) (hdg : decode cc pc = .ok (.getfield 108, 3)) (kk : W p l e R s m args below meth c H locs cells slots Q (F0 m (pc + 3) ls (.int (kF S a 0) :: rest))) : W p l e R s m args below meth c H locs cells slots Q (F0 m pc ls (.ref a :: rest)) := c_get C X hW 8 (by decide) ly_8 hk 0 (by decide) (mt_at 968 (by decide +kernel) (by decide +kernel)) hdg (by rw [cV_I (by decide +kernel)]; exact kk)
theorem gk10_111 (C : cY p R s m args meth c RX10 cc nL nF nC nS nR ret) (X : cX D s) (hW : cW D S H) (hk : kK S a = 9) (hdg : decode cc pc = .ok (.getfield 111, 3)) (kk : W p l e R s m args below meth c H locs cells slots Q (F0 m (pc + 3) ls (.int (kF S a 5) :: rest))) : W p l e R s m args below meth c H locs cells slots Q (F0 m pc ls (.ref a :: rest)) := c_get C X hW 8 (by decide) ly_8 hk 5 (by decide) (mt_at 992 (by decide +kernel) (by decide +kernel)) hdg (by rw [cV_I (by decide +kernel)]; exact kk)
end
section
variable {p : Program} {l : Launch} {e : Env} {R : Room} {s : State} {m : MethodId} {args : Array Value} {below : List Frame} {meth : Method} {c : Code} {D : cG} {S0 S9 : cSt}
noncomputable def fk_10_findShares_87 (g_18 : cSt → Nat → Option Nat → Option (cSt)) (S : cSt) (v0 : Nat) (v2 : Option Nat) : Option (cSt) :=
ckk S v0 11 (bd (kR S v0 7) fun a1 =>
ckk S a1 5 (bd (kR S a1 3) fun a2 =>
bd v2 fun a3 =>
ckk S a3 9 (
ckk S a2 30 (ck (kF S a3 12) (kL S a2) (lt (kO S a2 (Int32.toNatClampNeg (kF S a3 12))) fun o4 =>
g_18 S v0 o4)))))
set_option maxRecDepth 100000 in
set_option maxHeartbeats 4000000 in
theorem wk_10_findShares_87 (C : cY p R s m args meth c RX10 cX10_findShares 3 1 0 0 23 none) (X : cX D s) {g_18 : cSt → Nat → Option Nat → Option (cSt)} (hg_18 : ∀ {S : cSt} {v0 : Nat} {v2 : Option Nat} {H : Heap} {locs : List Loc} {ls : Array Slot}, g_18 S v0 v2 = some S9 → cJ D S0 s.heap S H locs → lv_has ls 3 [(0, .ref v0), (2, va_rf v2)] → W p l e R s m args below meth c H locs 0 0 (MQ below (kW none D S0 S9) args s 0 0 (cA S0)) (F0 m 18 ls [])) : ∀ {S : cSt} {v0 : Nat} {v2 : Option Nat} {H : Heap} {locs : List Loc} {ls : Array Slot}, fk_10_findShares_87 g_18 S v0 v2 = some S9 → cJ D S0 s.heap S H locs → lv_has ls 3 [(0, .ref v0), (2, va_rf v2)] → W p l e R s m args below meth c H locs 0 0 (MQ below (kW none D S0 S9) args s 0 0 (cA S0)) (F0 m 87 ls []) := by
  intro S v0 v2 H locs ls h hJ hl
  unfold fk_10_findShares_87 at h
  refine lv_aload_n C.1 C.2.1 dX10_findShares_87 rfl (lv_at hl 0 rfl) ?_
  obtain ⟨hk, h⟩ := ckk_ok h
  obtain ⟨a1, h_a1, h⟩ := bd_ok h
  refine gk10_38 C X hJ.1 hk h_a1 dX10_findShares_88 ?_
  obtain ⟨hk, h⟩ := ckk_ok h
  obtain ⟨a2, h_a2, h⟩ := bd_ok h
  refine gk10_99 C X hJ.1 hk h_a2 dX10_findShares_91 ?_
  refine lv_aload_nq (o := v2) C.1 C.2.1 dX10_findShares_94 rfl (lv_at hl 1 rfl) ?_
  obtain ⟨a3, e_a3, h⟩ := bd_ok h
  revert h; subst e_a3; intro h
  obtain ⟨hk, h⟩ := ckk_ok h
  refine gk10_68 C X hJ.1 hk dX10_findShares_95 ?_
  obtain ⟨hk, h⟩ := ckk_ok h
  obtain ⟨hin2, h⟩ := ck_ok h
  refine c_aald C 30 (by decide) X.2.2.2.2.1 hJ.1 hk hin2 dX10_findShares_98 ?_
  refine lt_ok h (fun o4 e_o4 h => ?_)
  refine lv_nmq e_o4 ?_
  refine lv_astore_nq (o := o4) (lv' := [(2, va_rf o4), (0, .ref v0)]) C.1 C.2.1 dX10_findShares_99 rfl hl (by decide) rfl (fun ls hl => ?_)
  refine lv_goto (tgt := 18) C.1 C.2.1 dX10_findShares_100 (by decide) ?_
  exact hg_18 h hJ (lv_sub hl [1, 0] rfl)
noncomputable def fk_10_findShares_60 (g_18 : cSt → Nat → Option Nat → Option (cSt)) (S : cSt) (v0 : Nat) (v2 : Option Nat) (s0 : Nat) (s1 : Int32) (s2 : Int32) (s3 : Int32) : Option (cSt) :=
ckk S s0 20 (ck s1 (kL S s0) (lt (cWi S s0 (Int32.toNatClampNeg s1) (s2 + s3)) fun S1 =>
bd v2 fun a2 =>
ckk S1 a2 9 (
if (kF S1 a2 0) = (6 : Int32) then (
ckk S1 v0 11 (bd (kR S1 v0 6) fun a4 =>
ckk S1 a2 9 (
ckk S1 a4 20 (ck (kF S1 a2 5) (kL S1 a4) (
ckk S1 a2 9 (
ckk S1 a4 20 (ck (kF S1 a2 5) (kL S1 a4) (lt (cWi S1 a4 (Int32.toNatClampNeg (kF S1 a2 5)) ((kI S1 a4 (Int32.toNatClampNeg (kF S1 a2 5))) + (kF S1 a2 4))) fun S5 =>
fk_10_findShares_87 g_18 S5 v0 (some a2)))))))))
else (
fk_10_findShares_87 g_18 S1 v0 (some a2)))))
set_option maxRecDepth 100000 in
set_option maxHeartbeats 4000000 in
theorem wk_10_findShares_60 (C : cY p R s m args meth c RX10 cX10_findShares 3 1 0 0 23 none) (X : cX D s) {g_18 : cSt → Nat → Option Nat → Option (cSt)} (hg_18 : ∀ {S : cSt} {v0 : Nat} {v2 : Option Nat} {H : Heap} {locs : List Loc} {ls : Array Slot}, g_18 S v0 v2 = some S9 → cJ D S0 s.heap S H locs → lv_has ls 3 [(0, .ref v0), (2, va_rf v2)] → W p l e R s m args below meth c H locs 0 0 (MQ below (kW none D S0 S9) args s 0 0 (cA S0)) (F0 m 18 ls [])) : ∀ {S : cSt} {v0 : Nat} {v2 : Option Nat} {s0 : Nat} {s1 : Int32} {s2 : Int32} {s3 : Int32} {H : Heap} {locs : List Loc} {ls : Array Slot}, fk_10_findShares_60 g_18 S v0 v2 s0 s1 s2 s3 = some S9 → cJ D S0 s.heap S H locs → lv_has ls 3 [(0, .ref v0), (2, va_rf v2)] → W p l e R s m args below meth c H locs 0 0 (MQ below (kW none D S0 S9) args s 0 0 (cA S0)) (F0 m 60 ls [.int s3, .int s2, .int s1, .ref s0]) := by
  intro S v0 v2 s0 s1 s2 s3 H locs ls h hJ hl
  unfold fk_10_findShares_60 at h
  refine lv_iadd C.1 C.2.1 dX10_findShares_60 ?_
  obtain ⟨hk, h⟩ := ckk_ok h
  obtain ⟨hin2, h⟩ := ck_ok h
  refine c_iast C X hJ hk hin2 dX10_findShares_61 (fun H locs hJ => ?_)
  refine lt_ok h (fun S1 e_S1 h => ?_)
  rw [e_S1] at hJ
  refine lv_aload_nq (o := v2) C.1 C.2.1 dX10_findShares_62 rfl (lv_at hl 1 rfl) ?_
  obtain ⟨a2, e_a2, h⟩ := bd_ok h
  revert h; subst e_a2; intro h
  obtain ⟨hk, h⟩ := ckk_ok h
  refine gk10_108 C X hJ.1 hk dX10_findShares_63 ?_
  refine lv_bipush (v := 6) C.1 C.2.1 dX10_findShares_66 (by decide) ?_
  refine lv_icmp_ne (tgt := 87) C.1 C.2.1 dX10_findShares_68 (by decide) (fun c3 => ?_) (fun c3 => ?_)
  · have h := if_f h c3
    exact wk_10_findShares_87 C X hg_18 h hJ (lv_sub hl [0, 1] rfl)
  · have h := if_t h c3
    refine lv_aload_n C.1 C.2.1 dX10_findShares_71 rfl (lv_at hl 0 rfl) ?_
    obtain ⟨hk, h⟩ := ckk_ok h
    obtain ⟨a4, h_a4, h⟩ := bd_ok h
    refine gk10_27 C X hJ.1 hk h_a4 dX10_findShares_72 ?_
    refine lv_aload_n C.1 C.2.1 dX10_findShares_75 rfl (lv_at hl 1 rfl) ?_
    obtain ⟨hk, h⟩ := ckk_ok h
    refine gk10_111 C X hJ.1 hk dX10_findShares_76 ?_
    refine lv_dup2_11 C.1 C.2.1 dX10_findShares_79 rfl rfl ?_
    obtain ⟨hk, h⟩ := ckk_ok h
    obtain ⟨hin2, h⟩ := ck_ok h
    refine c_iald C X hJ.1 hk hin2 dX10_findShares_80 ?_
    refine lv_aload_n C.1 C.2.1 dX10_findShares_81 rfl (lv_at hl 1 rfl) ?_
    obtain ⟨hk, h⟩ := ckk_ok h
    refine gk10_102 C X hJ.1 hk dX10_findShares_82 ?_
    refine lv_iadd C.1 C.2.1 dX10_findShares_85 ?_
    obtain ⟨hk, h⟩ := ckk_ok h
    obtain ⟨hin2, h⟩ := ck_ok h
    refine c_iast C X hJ hk hin2 dX10_findShares_86 (fun H locs hJ => ?_)
    refine lt_ok h (fun S5 e_S5 h => ?_)
    rw [e_S5] at hJ
    exact wk_10_findShares_87 C X hg_18 h hJ (lv_sub hl [0, 1] rfl)
noncomputable def fk_10_findShares_18 : Nat → cSt → Nat → Option Nat → Option (cSt)
  | 0, _, _, _ => none
  | n + 1, S, v0, v2 =>
    cs v2 (
    ckk S v0 11 (bd (kR S v0 6) fun a2 =>
    ckk S v0 11 (bd (kR S v0 6) fun a3 =>
    ckk S a3 20 (ck (0 : Int32) (kL S a3) (
    ckk S v0 11 (bd (kR S v0 6) fun a4 =>
    ckk S a4 20 (ck (1 : Int32) (kL S a4) (
    ckk S v0 11 (bd (kR S v0 6) fun a5 =>
    ckk S a5 20 (ck (2 : Int32) (kL S a5) (
    ckk S v0 11 (bd (kR S v0 6) fun a6 =>
    ckk S a6 20 (ck (3 : Int32) (kL S a6) (
    ckk S a2 20 (ck (4 : Int32) (kL S a2) (lt (cWi S a2 (Int32.toNatClampNeg (4 : Int32)) ((((kI S a3 (Int32.toNatClampNeg (0 : Int32))) + (kI S a4 (Int32.toNatClampNeg (1 : Int32)))) + (kI S a5 (Int32.toNatClampNeg (2 : Int32)))) + (kI S a6 (Int32.toNatClampNeg (3 : Int32))))) fun S7 =>
    some S7)))))))))))))))) (fun a1 =>
    ckk S v0 11 (bd (fk_10_isGood S v0 a1) fun r8 =>
    if r8 = 0 then (
    fk_10_findShares_87 (fk_10_findShares_18 n) S v0 (some a1))
    else (
    ckk S v0 11 (bd (kR S v0 6) fun a10 =>
    ckk S a1 9 (
    ckk S a10 20 (ck (kF S a1 6) (kL S a10) (
    ckk S a1 9 (
    if (kF S a1 0) = (4 : Int32) then (
    ckk S a1 9 (
    fk_10_findShares_60 (fk_10_findShares_18 n) S v0 (some a1) a10 (kF S a1 6) (kI S a10 (Int32.toNatClampNeg (kF S a1 6))) (kF S a1 4)))
    else (
    ckk S a1 9 (
    fk_10_findShares_60 (fk_10_findShares_18 n) S v0 (some a1) a10 (kF S a1 6) (kI S a10 (Int32.toNatClampNeg (kF S a1 6))) (-(kF S a1 4))))))))))))
set_option maxRecDepth 100000 in
set_option maxHeartbeats 4000000 in
theorem wk_10_findShares_18 (C : cY p R s m args meth c RX10 cX10_findShares 3 1 0 0 23 none) (X : cX D s) : ∀ (n : Nat), ∀ {S : cSt} {v0 : Nat} {v2 : Option Nat} {H : Heap} {locs : List Loc} {ls : Array Slot}, fk_10_findShares_18 n S v0 v2 = some S9 → cJ D S0 s.heap S H locs → lv_has ls 3 [(0, .ref v0), (2, va_rf v2)] → W p l e R s m args below meth c H locs 0 0 (MQ below (kW none D S0 S9) args s 0 0 (cA S0)) (F0 m 18 ls []) := by
  intro n
  induction n with
  | zero =>
    intro S v0 v2 H locs ls h hJ hl
    exact absurd (show (none : Option (cSt)) = _ from h) (fun q => by cases q)
  | succ n ih =>
    intro S v0 v2 H locs ls h hJ hl
    rw [fk_10_findShares_18] at h
    refine lv_aload_nq (o := v2) C.1 C.2.1 dX10_findShares_18 rfl (lv_at hl 1 rfl) ?_
    rcases v2 with _ | a1
    · replace h := cs_n h
      refine lv_ifnullN (tgt := 103) C.1 C.2.1 dX10_findShares_19 (by decide) ?_
      refine lv_aload_n C.1 C.2.1 dX10_findShares_103 rfl (lv_at hl 0 rfl) ?_
      obtain ⟨hk, h⟩ := ckk_ok h
      obtain ⟨a2, h_a2, h⟩ := bd_ok h
      refine gk10_27 C X hJ.1 hk h_a2 dX10_findShares_104 ?_
      refine lv_iconst (v := 4) C.1 C.2.1 dX10_findShares_107 (by decide) ?_
      refine lv_aload_n C.1 C.2.1 dX10_findShares_108 rfl (lv_at hl 0 rfl) ?_
      obtain ⟨hk, h⟩ := ckk_ok h
      obtain ⟨a3, h_a3, h⟩ := bd_ok h
      refine gk10_27 C X hJ.1 hk h_a3 dX10_findShares_109 ?_
      refine lv_iconst (v := 0) C.1 C.2.1 dX10_findShares_112 (by decide) ?_
      obtain ⟨hk, h⟩ := ckk_ok h
      obtain ⟨hin2, h⟩ := ck_ok h
      refine c_iald C X hJ.1 hk hin2 dX10_findShares_113 ?_
      refine lv_aload_n C.1 C.2.1 dX10_findShares_114 rfl (lv_at hl 0 rfl) ?_
      obtain ⟨hk, h⟩ := ckk_ok h
      obtain ⟨a4, h_a4, h⟩ := bd_ok h
      refine gk10_27 C X hJ.1 hk h_a4 dX10_findShares_115 ?_
      refine lv_iconst (v := 1) C.1 C.2.1 dX10_findShares_118 (by decide) ?_
      obtain ⟨hk, h⟩ := ckk_ok h
      obtain ⟨hin2, h⟩ := ck_ok h
      refine c_iald C X hJ.1 hk hin2 dX10_findShares_119 ?_
      refine lv_iadd C.1 C.2.1 dX10_findShares_120 ?_
      refine lv_aload_n C.1 C.2.1 dX10_findShares_121 rfl (lv_at hl 0 rfl) ?_
      obtain ⟨hk, h⟩ := ckk_ok h
      obtain ⟨a5, h_a5, h⟩ := bd_ok h
      refine gk10_27 C X hJ.1 hk h_a5 dX10_findShares_122 ?_
      refine lv_iconst (v := 2) C.1 C.2.1 dX10_findShares_125 (by decide) ?_
      obtain ⟨hk, h⟩ := ckk_ok h
      obtain ⟨hin2, h⟩ := ck_ok h
      refine c_iald C X hJ.1 hk hin2 dX10_findShares_126 ?_
      refine lv_iadd C.1 C.2.1 dX10_findShares_127 ?_
      refine lv_aload_n C.1 C.2.1 dX10_findShares_128 rfl (lv_at hl 0 rfl) ?_
      obtain ⟨hk, h⟩ := ckk_ok h
      obtain ⟨a6, h_a6, h⟩ := bd_ok h
      refine gk10_27 C X hJ.1 hk h_a6 dX10_findShares_129 ?_
      refine lv_iconst (v := 3) C.1 C.2.1 dX10_findShares_132 (by decide) ?_
      obtain ⟨hk, h⟩ := ckk_ok h
      obtain ⟨hin2, h⟩ := ck_ok h
      refine c_iald C X hJ.1 hk hin2 dX10_findShares_133 ?_
      refine lv_iadd C.1 C.2.1 dX10_findShares_134 ?_
      obtain ⟨hk, h⟩ := ckk_ok h
      obtain ⟨hin2, h⟩ := ck_ok h
      refine c_iast C X hJ hk hin2 dX10_findShares_135 (fun H locs hJ => ?_)
      refine lt_ok h (fun S7 e_S7 h => ?_)
      rw [e_S7] at hJ
      cases h
      exact c_retvW C hJ dX10_findShares_136
    · replace h := cs_s h
      refine lv_ifnull C.1 C.2.1 dX10_findShares_19 ?_
      refine lv_aload_n C.1 C.2.1 dX10_findShares_22 rfl (lv_at hl 0 rfl) ?_
      refine lv_aload_n C.1 C.2.1 dX10_findShares_23 rfl (lv_at hl 1 rfl) ?_
      obtain ⟨hk, h⟩ := ckk_ok h
      obtain ⟨r8, h_r8, h⟩ := bd_ok h
      refine c_callR (rest := []) C X hJ.1 hl.1 10 (by decide) hk [.ref a1] (tk_10_isGood l h_r8) cw10_96 ki_10_isGood kl_10_isGood rfl ⟨by decide, by decide⟩ ⟨(by decide), (by decide)⟩ rfl (Nat.le_of_ble_eq_true rfl) dX10_findShares_24 ?_
      refine W.eq (g2 := F0 m 27 ls [.int r8]) rfl ?_
      refine lv_if_eq (tgt := 87) C.1 C.2.1 dX10_findShares_27 (by decide) (fun c9 => ?_) (fun c9 => ?_)
      · have h := if_t h c9
        exact wk_10_findShares_87 C X ih h hJ (lv_sub hl [0, 1] rfl)
      · have h := if_f h c9
        refine lv_aload_n C.1 C.2.1 dX10_findShares_30 rfl (lv_at hl 0 rfl) ?_
        obtain ⟨hk, h⟩ := ckk_ok h
        obtain ⟨a10, h_a10, h⟩ := bd_ok h
        refine gk10_27 C X hJ.1 hk h_a10 dX10_findShares_31 ?_
        refine lv_aload_n C.1 C.2.1 dX10_findShares_34 rfl (lv_at hl 1 rfl) ?_
        obtain ⟨hk, h⟩ := ckk_ok h
        refine gk10_105 C X hJ.1 hk dX10_findShares_35 ?_
        refine lv_dup2_11 C.1 C.2.1 dX10_findShares_38 rfl rfl ?_
        obtain ⟨hk, h⟩ := ckk_ok h
        obtain ⟨hin2, h⟩ := ck_ok h
        refine c_iald C X hJ.1 hk hin2 dX10_findShares_39 ?_
        refine lv_aload_n C.1 C.2.1 dX10_findShares_40 rfl (lv_at hl 1 rfl) ?_
        obtain ⟨hk, h⟩ := ckk_ok h
        refine gk10_108 C X hJ.1 hk dX10_findShares_41 ?_
        refine lv_iconst (v := 4) C.1 C.2.1 dX10_findShares_44 (by decide) ?_
        refine lv_icmp_ne (tgt := 55) C.1 C.2.1 dX10_findShares_45 (by decide) (fun c11 => ?_) (fun c11 => ?_)
        · have h := if_f h c11
          refine lv_aload_n C.1 C.2.1 dX10_findShares_55 rfl (lv_at hl 1 rfl) ?_
          obtain ⟨hk, h⟩ := ckk_ok h
          refine gk10_102 C X hJ.1 hk dX10_findShares_56 ?_
          refine lv_ineg C.1 C.2.1 dX10_findShares_59 ?_
          exact wk_10_findShares_60 C X ih h hJ (lv_sub hl [0, 1] rfl)
        · have h := if_t h c11
          refine lv_aload_n C.1 C.2.1 dX10_findShares_48 rfl (lv_at hl 1 rfl) ?_
          obtain ⟨hk, h⟩ := ckk_ok h
          refine gk10_102 C X hJ.1 hk dX10_findShares_49 ?_
          refine lv_goto (tgt := 60) C.1 C.2.1 dX10_findShares_52 (by decide) ?_
          exact wk_10_findShares_60 C X ih h hJ (lv_sub hl [0, 1] rfl)
noncomputable def fk_10_findShares (S : cSt) (v0 : Nat) (v1 : Int32) : Option (cSt) :=
ckk S v0 11 (bd (kR S v0 6) fun a1 =>
bd (fk_107_fill_53178 S a1 (0 : Int32)) fun S2 =>
ckk S2 v0 11 (bd (kR S2 v0 7) fun a3 =>
ckk S2 a3 5 (bd (kR S2 a3 6) fun a4 =>
ckk S2 a4 30 (ck v1 (kL S2 a4) (lt (kO S2 a4 (Int32.toNatClampNeg v1)) fun o5 =>
fk_10_findShares_18 mFU S2 v0 o5)))))
set_option maxRecDepth 100000 in
set_option maxHeartbeats 4000000 in
theorem tk_10_findShares (l : Launch) {D : cG} {S : cSt} {v0 : Nat} {v1 : Int32} {S9 : cSt} (h : fk_10_findShares S v0 v1 = some S9) : Met l yX10_findShares (Cond.code yX10_findShares cX10_findShares 3 none :: lw_g) { frames := 1, cells := 0, slots := 0, locals := 23 } (kPi [.ref v0, .int v1] D S) (kW none D S S9) 0 0 (cA S) := by
  refine Met.ofW (cc := cX10_findShares) (maxL := 3) (ret := none) (by decide) rfl ?_
  intro p e s m args below meth c s₁ B hml hv
  obtain ⟨rfl, hW, X⟩ := hv
  have C : cY p (headSpec (Cond.code yX10_findShares cX10_findShares 3 none :: lw_g) { frames := 1, cells := 0, slots := 0, locals := 23 }).room s m _ meth c RX10 cX10_findShares 3 1 0 0 23 none := ⟨B.exec, B.bytes, hml, findClass_of_methodNamed B.named, fun w hw => atoms_spec (ws := Cond.code yX10_findShares cX10_findShares 3 none :: lw_g) B.pre w (List.mem_cons_of_mem _ hw), ⟨Nat.le_refl _, Nat.le_refl _, Nat.le_refl _, Nat.le_refl _⟩, B.returns, B.notSynchronized⟩
  have hl := lv_entry ([.ref v0, .int v1]) (n := 3) (Nat.le_of_ble_eq_true rfl)
  rw [lg_entry_eq]
  generalize (lg_sl ([.ref v0, .int v1]) ++ List.replicate (3 - (lg_sl ([.ref v0, .int v1])).length) Slot.unset).toArray = ls at hl ⊢
  have hl : lv_has ls 3 [(0, .ref v0), (1, .int v1)] := hl
  have hJ : cJ D S s.heap S s.heap [] := cJ.rf hW
  unfold fk_10_findShares at h
  refine lv_aload_n C.1 C.2.1 dX10_findShares_0 rfl (lv_at hl 0 rfl) ?_
  obtain ⟨hk, h⟩ := ckk_ok h
  obtain ⟨a1, h_a1, h⟩ := bd_ok h
  refine gk10_27 C X hJ.1 hk h_a1 dX10_findShares_1 ?_
  refine lv_iconst (v := 0) C.1 C.2.1 dX10_findShares_4 (by decide) ?_
  obtain ⟨S2, h_S2, h⟩ := bd_ok h
  refine c_callSW (rest := []) C X hJ hl.1 [.ref a1, .int (0 : Int32)] (tk_107_fill_53178 l h_S2) cw10_45 ks_107_fill_53178 rfl ⟨by decide, by decide⟩ ⟨(by decide), (by decide)⟩ rfl (Nat.le_of_ble_eq_true rfl) dX10_findShares_5 (fun H locs hJ => ?_)
  refine W.eq (g2 := F0 m 8 ls []) rfl ?_
  refine lv_aload_n C.1 C.2.1 dX10_findShares_8 rfl (lv_at hl 0 rfl) ?_
  obtain ⟨hk, h⟩ := ckk_ok h
  obtain ⟨a3, h_a3, h⟩ := bd_ok h
  refine gk10_38 C X hJ.1 hk h_a3 dX10_findShares_9 ?_
  obtain ⟨hk, h⟩ := ckk_ok h
  obtain ⟨a4, h_a4, h⟩ := bd_ok h
  refine gk10_93 C X hJ.1 hk h_a4 dX10_findShares_12 ?_
  refine lv_iload_n C.1 C.2.1 dX10_findShares_15 rfl (lv_at hl 1 rfl) ?_
  obtain ⟨hk, h⟩ := ckk_ok h
  obtain ⟨hin2, h⟩ := ck_ok h
  refine c_aald C 30 (by decide) X.2.2.2.2.1 hJ.1 hk hin2 dX10_findShares_16 ?_
  refine lt_ok h (fun o5 e_o5 h => ?_)
  refine lv_nmq e_o5 ?_
  refine lv_astore_nq (o := o5) (lv' := [(2, va_rf o5), (0, .ref v0), (1, .int v1)]) C.1 C.2.1 dX10_findShares_17 rfl hl (by decide) rfl (fun ls hl => ?_)
  exact wk_10_findShares_18 C X mFU h hJ (lv_sub hl [1, 0] rfl)
end
