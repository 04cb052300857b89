-- made by wip/whole/gen12.py: 11_fitsInsert, 11_fitsErase, 11_isOwned, 11_fitsByValue, 11_fits, 11_act, 11_carryOver
theorem dX11_fitsInsert_0 : decode cX11_fitsInsert 0 = .ok (.iload_n 2, 1) := by decide +kernel
theorem dX11_fitsInsert_1 : decode cX11_fitsInsert 1 = .ok (.bipush 32, 2) := by decide +kernel
theorem dX11_fitsInsert_3 : decode cX11_fitsInsert 3 = .ok (.if_icmp .lt 13, 3) := by decide +kernel
theorem dX11_fitsInsert_6 : decode cX11_fitsInsert 6 = .ok (.iload_n 2, 1) := by decide +kernel
theorem dX11_fitsInsert_7 : decode cX11_fitsInsert 7 = .ok (.bipush 126, 2) := by decide +kernel
theorem dX11_fitsInsert_9 : decode cX11_fitsInsert 9 = .ok (.if_icmp .gt 7, 3) := by decide +kernel
theorem dX11_fitsInsert_12 : decode cX11_fitsInsert 12 = .ok (.iload_n 3, 1) := by decide +kernel
theorem dX11_fitsInsert_13 : decode cX11_fitsInsert 13 = .ok (.ifCond .ge 5, 3) := by decide +kernel
theorem dX11_fitsInsert_16 : decode cX11_fitsInsert 16 = .ok (.iconst 0, 1) := by decide +kernel
theorem dX11_fitsInsert_17 : decode cX11_fitsInsert 17 = .ok (.ireturn, 1) := by decide +kernel
theorem dX11_fitsInsert_18 : decode cX11_fitsInsert 18 = .ok (.aload_n 0, 1) := by decide +kernel
theorem dX11_fitsInsert_19 : decode cX11_fitsInsert 19 = .ok (.getfield 41, 3) := by decide +kernel
theorem dX11_fitsInsert_22 : decode cX11_fitsInsert 22 = .ok (.aload_n 1, 1) := by decide +kernel
theorem dX11_fitsInsert_23 : decode cX11_fitsInsert 23 = .ok (.getfield 147, 3) := by decide +kernel
theorem dX11_fitsInsert_26 : decode cX11_fitsInsert 26 = .ok (.aload_n 0, 1) := by decide +kernel
theorem dX11_fitsInsert_27 : decode cX11_fitsInsert 27 = .ok (.getfield 48, 3) := by decide +kernel
theorem dX11_fitsInsert_30 : decode cX11_fitsInsert 30 = .ok (.getfield 150, 3) := by decide +kernel
theorem dX11_fitsInsert_33 : decode cX11_fitsInsert 33 = .ok (.bipush 8, 2) := by decide +kernel
theorem dX11_fitsInsert_35 : decode cX11_fitsInsert 35 = .ok (.imul, 1) := by decide +kernel
theorem dX11_fitsInsert_36 : decode cX11_fitsInsert 36 = .ok (.aload_n 0, 1) := by decide +kernel
theorem dX11_fitsInsert_37 : decode cX11_fitsInsert 37 = .ok (.getfield 48, 3) := by decide +kernel
theorem dX11_fitsInsert_40 : decode cX11_fitsInsert 40 = .ok (.getfield 496, 3) := by decide +kernel
theorem dX11_fitsInsert_43 : decode cX11_fitsInsert 43 = .ok (.iadd, 1) := by decide +kernel
theorem dX11_fitsInsert_44 : decode cX11_fitsInsert 44 = .ok (.invokevirtual 153, 3) := by decide +kernel
theorem dX11_fitsInsert_47 : decode cX11_fitsInsert 47 = .ok (.iload_n 3, 1) := by decide +kernel
theorem dX11_fitsInsert_48 : decode cX11_fitsInsert 48 = .ok (.aload_n 0, 1) := by decide +kernel
theorem dX11_fitsInsert_49 : decode cX11_fitsInsert 49 = .ok (.getfield 41, 3) := by decide +kernel
theorem dX11_fitsInsert_52 : decode cX11_fitsInsert 52 = .ok (.getfield 165, 3) := by decide +kernel
theorem dX11_fitsInsert_55 : decode cX11_fitsInsert 55 = .ok (.if_icmp .le 5, 3) := by decide +kernel
theorem dX11_fitsInsert_58 : decode cX11_fitsInsert 58 = .ok (.iconst 0, 1) := by decide +kernel
theorem dX11_fitsInsert_59 : decode cX11_fitsInsert 59 = .ok (.ireturn, 1) := by decide +kernel
theorem dX11_fitsInsert_60 : decode cX11_fitsInsert 60 = .ok (.aload_n 0, 1) := by decide +kernel
theorem dX11_fitsInsert_61 : decode cX11_fitsInsert 61 = .ok (.getfield 48, 3) := by decide +kernel
theorem dX11_fitsInsert_64 : decode cX11_fitsInsert 64 = .ok (.iload_n 2, 1) := by decide +kernel
theorem dX11_fitsInsert_65 : decode cX11_fitsInsert 65 = .ok (.putfield 486, 3) := by decide +kernel
theorem dX11_fitsInsert_68 : decode cX11_fitsInsert 68 = .ok (.aload_n 0, 1) := by decide +kernel
theorem dX11_fitsInsert_69 : decode cX11_fitsInsert 69 = .ok (.getfield 48, 3) := by decide +kernel
theorem dX11_fitsInsert_72 : decode cX11_fitsInsert 72 = .ok (.aload_n 0, 1) := by decide +kernel
theorem dX11_fitsInsert_73 : decode cX11_fitsInsert 73 = .ok (.getfield 41, 3) := by decide +kernel
theorem dX11_fitsInsert_76 : decode cX11_fitsInsert 76 = .ok (.iload_n 3, 1) := by decide +kernel
theorem dX11_fitsInsert_77 : decode cX11_fitsInsert 77 = .ok (.invokevirtual 176, 3) := by decide +kernel
theorem dX11_fitsInsert_80 : decode cX11_fitsInsert 80 = .ok (.putfield 482, 3) := by decide +kernel
theorem dX11_fitsInsert_83 : decode cX11_fitsInsert 83 = .ok (.iconst 1, 1) := by decide +kernel
theorem dX11_fitsInsert_84 : decode cX11_fitsInsert 84 = .ok (.ireturn, 1) := by decide +kernel
theorem kd_11_fitsInsert : Cond.code yX11_fitsInsert cX11_fitsInsert 4 (some .boolean) ∈ lw_g := mt_at 541 (by decide +kernel) rfl
theorem ki_11_fitsInsert : Cond.instanceMethod yX11_fitsInsert ∈ lw_g := mt_at 540 (by decide +kernel) rfl
theorem kl_11_fitsInsert : Cond.selects (kRn 11) yX11_fitsInsert yX11_fitsInsert ∈ lw_g := mt_sel 4 (by decide +kernel) rfl
theorem cw11_153 : cCw RX11 153 yX9_read cX9_read 6 none 2 := ⟨kd_9_read, mt_at 542 (by decide +kernel) rfl, mt_at 5 (by decide +kernel) rfl, by decide +kernel⟩
theorem cw11_176 : cCw RX11 176 yX9_nameAhead cX9_nameAhead 2 (some .int) 1 := ⟨kd_9_nameAhead, mt_at 553 (by decide +kernel) rfl, mt_at 5 (by decide +kernel) rfl, by decide +kernel⟩
section
variable {p : Program} {l : Launch} {e : Env} {R : Room} {s : State} {m : MethodId} {args : Array Value} {below : List Frame} {meth : Method} {c : Code} {H : Heap} {locs : List Loc} {cells slots : Nat} {Q : State → Prop}
variable {D : cG} {S S0 : cSt} {cc : ByteArray} {nL : Nat} {pc : Nat} {ls : Array Slot} {rest : List Value} {H0 : Heap} {nF nR nC nS : Nat} {ret : Option FieldType} {a : Nat}
theorem gk11_41 (C : cY p R s m args meth c RX11 cc nL nF nC nS nR ret) (X : cX D s) (hW : cW D S H) (hk : kK S a = 12) {x : Nat} (hx : kR S a 5 = some x) (hdg : decode cc pc = .ok (.getfield 41, 3)) (kk : W p l e R s m args below meth c H locs cells slots Q (F0 m (pc + 3) ls (.ref x :: rest))) : W p l e R s m args below meth c H locs cells slots Q (F0 m pc ls (.ref a :: rest)) := c_get C X hW 11 (by decide) ly_11 hk 5 (by decide) (mt_at 376 (by decide +kernel) (by decide +kernel)) hdg (by rw [cV_R (by decide +kernel) hx]; exact kk)
theorem gk11_48 (C : cY p R s m args meth c RX11 cc nL nF nC nS nR ret) (X : cX D s) (hW : cW D S H) (hk : kK S a = 12) {x : Nat} (hx : kR S a 6 = some x) (hdg : decode cc pc = .ok (.getfield 48, 3)) (kk : W p l e R s m args below meth c H locs cells slots Q (F0 m (pc + 3) ls (.ref x :: rest))) : W p l e R s m args below meth c H locs cells slots Q (F0 m pc ls (.ref a :: rest)) := c_get C X hW 11 (by decide) ly_11 hk 6 (by decide) (mt_at 377 (by decide +kernel) (by decide +kernel)) hdg (by rw [cV_R (by decide +kernel) hx]; exact kk)
theorem gk11_150 (C : cY p R s m args meth c RX11 cc nL nF nC nS nR ret) (X : cX D s) (hW : cW D S H) (hk : kK S a = 2) (hdg : decode cc pc = .ok (.getfield 150, 3)) (kk : W p l e R s m args below meth c H locs cells slots Q (F0 m (pc + 3) ls (.int (kF S a 1) :: rest))) : W p l e R s m args below meth c H locs cells slots Q (F0 m pc ls (.ref a :: rest)) := c_get C X hW 1 (by decide) ly_1 hk 1 (by decide) (mt_at 168 (by decide +kernel) (by decide +kernel)) hdg (by rw [cV_I (by decide +kernel)]; exact kk)
theorem gk11_165 (C : cY p R s m args meth c RX11 cc nL nF nC nS nR ret) (X : cX D s) (hW : cW D S H) (hk : kK S a = 10) (hdg : decode cc pc = .ok (.getfield 165, 3)) (kk : W p l e R s m args below meth c H locs cells slots Q (F0 m (pc + 3) ls (.int (kF S a 1) :: rest))) : W p l e R s m args below meth c H locs cells slots Q (F0 m pc ls (.ref a :: rest)) := c_get C X hW 9 (by decide) ly_9 hk 1 (by decide) (mt_at 130 (by decide +kernel) (by decide +kernel)) hdg (by rw [cV_I (by decide +kernel)]; exact kk)
theorem gk11_496 (C : cY p R s m args meth c RX11 cc nL nF nC nS nR ret) (X : cX D s) (hW : cW D S H) (hk : kK S a = 2) (hdg : decode cc pc = .ok (.getfield 496, 3)) (kk : W p l e R s m args below meth c H locs cells slots Q (F0 m (pc + 3) ls (.int (kF S a 3) :: rest))) : W p l e R s m args below meth c H locs cells slots Q (F0 m pc ls (.ref a :: rest)) := c_get C X hW 1 (by decide) ly_1 hk 3 (by decide) (mt_at 173 (by decide +kernel) (by decide +kernel)) hdg (by rw [cV_I (by decide +kernel)]; exact kk)
theorem pk11_482 {x : Int32} (C : cY p R s m args meth c RX11 cc nL nF nC nS nR ret) (X : cX D s) (hJ : cJ D S0 H0 S H locs) (hk : kK S a = 2) (hdg : decode cc pc = .ok (.putfield 482, 3)) (kk : ∀ (H1 : Heap) (locs1 : List Loc), cJ D S0 H0 (cPi S a 5 x) H1 locs1 → W p l e R s m args below meth c H1 locs1 cells slots Q (F0 m (pc + 3) ls (rest))) : W p l e R s m args below meth c H locs cells slots Q (F0 m pc ls (.int x :: .ref a :: rest)) := c_put (S1 := (cPi S a 5 x)) C X hJ 1 (by decide) ly_1 hk 5 (by decide) (by decide +kernel)  rfl rfl (by decide) rfl rfl (fun j _ => c_vI (by decide +kernel)) c_oPi (mt_at 179 (by decide +kernel) (by decide +kernel)) hdg kk
theorem pk11_486 {x : Int32} (C : cY p R s m args meth c RX11 cc nL nF nC nS nR ret) (X : cX D s) (hJ : cJ D S0 H0 S H locs) (hk : kK S a = 2) (hdg : decode cc pc = .ok (.putfield 486, 3)) (kk : ∀ (H1 : Heap) (locs1 : List Loc), cJ D S0 H0 (cPi S a 4 x) H1 locs1 → W p l e R s m args below meth c H1 locs1 cells slots Q (F0 m (pc + 3) ls (rest))) : W p l e R s m args below meth c H locs cells slots Q (F0 m pc ls (.int x :: .ref a :: rest)) := c_put (S1 := (cPi S a 4 x)) C X hJ 1 (by decide) ly_1 hk 4 (by decide) (by decide +kernel)  rfl rfl (by decide) rfl rfl (fun j _ => c_vI (by decide +kernel)) c_oPi (mt_at 176 (by decide +kernel) (by decide +kernel)) hdg kk
end
section
variable {p : Program} {l : Launch} {e : Env} {R : Room} {s : State} {m : MethodId} {args : Array Value} {below : List Frame} {meth : Method} {c : Code} {D : cG} {S0 S9 : cSt} {r : Int32}
noncomputable def fk_11_fitsInsert_16 (S : cSt) : Option (Int32 × cSt) :=
ckz (0 : Int32) (some ((0 : Int32), S))
set_option maxRecDepth 100000 in
set_option maxHeartbeats 4000000 in
theorem wk_11_fitsInsert_16 (C : cY p R s m args meth c RX11 cX11_fitsInsert 4 2 0 0 47 (some .boolean)) (X : cX D s) : ∀ {S : cSt} {H : Heap} {locs : List Loc} {ls : Array Slot}, fk_11_fitsInsert_16 S = some (r, S9) → cJ D S0 s.heap S H locs → lv_has ls 4 [] → W p l e R s m args below meth c H locs 0 0 (MQ below (kW (some (.int r)) D S0 S9) args s 0 0 (cA S0)) (F0 m 16 ls []) := by
  intro S H locs ls h hJ hl
  unfold fk_11_fitsInsert_16 at h
  refine lv_iconst (v := 0) C.1 C.2.1 dX11_fitsInsert_16 (by decide) ?_
  obtain ⟨hzo, h⟩ := ckz_ok h
  cases h
  exact c_retnW C (by rcases hzo with h9 | h9 <;> (rw [h9]; rfl)) hJ dX11_fitsInsert_17
noncomputable def fk_11_fitsInsert (S : cSt) (v0 : Nat) (v1 : Nat) (v2 : Int32) (v3 : Int32) : Option (Int32 × cSt) :=
if v2 < (32 : Int32) then (
fk_11_fitsInsert_16 S)
else (
if (126 : Int32) < v2 then (
fk_11_fitsInsert_16 S)
else (
if 0 ≤ v3 then (
ckk S v0 12 (bd (kR S v0 5) fun a4 =>
ckk S v1 8 (bd (kR S v1 2) fun a5 =>
ckk S v0 12 (bd (kR S v0 6) fun a6 =>
ckk S a6 2 (
ckk S v0 12 (bd (kR S v0 6) fun a7 =>
ckk S a7 2 (
ckk S a4 10 (bd (fk_9_read S a4 a5 (((kF S a6 1) * (8 : Int32)) + (kF S a7 3))) fun S8 =>
ckk S8 v0 12 (bd (kR S8 v0 5) fun a9 =>
ckk S8 a9 10 (
if v3 ≤ (kF S8 a9 1) then (
ckk S8 v0 12 (bd (kR S8 v0 6) fun a11 =>
ckk S8 a11 2 (lt (cPi S8 a11 4 v2) fun S12 =>
ckk S12 v0 12 (bd (kR S12 v0 6) fun a13 =>
ckk S12 v0 12 (bd (kR S12 v0 5) fun a14 =>
ckk S12 a14 10 (bd (fk_9_nameAhead S12 a14 v3) fun r15 =>
ckk S12 a13 2 (lt (cPi S12 a13 5 r15) fun S16 =>
ckz (1 : Int32) (some ((1 : Int32), S16)))))))))
else (
ckz (0 : Int32) (some ((0 : Int32), S8)))))))))))))
else (
fk_11_fitsInsert_16 S)))
set_option maxRecDepth 100000 in
set_option maxHeartbeats 4000000 in
theorem tk_11_fitsInsert (l : Launch) {D : cG} {S : cSt} {v0 : Nat} {v1 : Nat} {v2 : Int32} {v3 : Int32} {r : Int32} {S9 : cSt} (h : fk_11_fitsInsert S v0 v1 v2 v3 = some (r, S9)) : Met l yX11_fitsInsert (Cond.code yX11_fitsInsert cX11_fitsInsert 4 (some .boolean) :: lw_g) { frames := 2, cells := 0, slots := 0, locals := 47 } (kPi [.ref v0, .ref v1, .int v2, .int v3] D S) (kW (some (.int r)) D S S9) 0 0 (cA S) := by
  refine Met.ofW (cc := cX11_fitsInsert) (maxL := 4) (ret := (some .boolean)) (by decide) rfl ?_
  intro p e s m args below meth c s₁ B hml hv
  obtain ⟨rfl, hW, X⟩ := hv
  have C : cY p (headSpec (Cond.code yX11_fitsInsert cX11_fitsInsert 4 (some .boolean) :: lw_g) { frames := 2, cells := 0, slots := 0, locals := 47 }).room s m _ meth c RX11 cX11_fitsInsert 4 2 0 0 47 (some .boolean) := ⟨B.exec, B.bytes, hml, findClass_of_methodNamed B.named, fun w hw => atoms_spec (ws := Cond.code yX11_fitsInsert cX11_fitsInsert 4 (some .boolean) :: lw_g) B.pre w (List.mem_cons_of_mem _ hw), ⟨Nat.le_refl _, Nat.le_refl _, Nat.le_refl _, Nat.le_refl _⟩, B.returns, B.notSynchronized⟩
  have hl := lv_entry ([.ref v0, .ref v1, .int v2, .int v3]) (n := 4) (Nat.le_of_ble_eq_true rfl)
  rw [lg_entry_eq]
  generalize (lg_sl ([.ref v0, .ref v1, .int v2, .int v3]) ++ List.replicate (4 - (lg_sl ([.ref v0, .ref v1, .int v2, .int v3])).length) Slot.unset).toArray = ls at hl ⊢
  have hl : lv_has ls 4 [(0, .ref v0), (1, .ref v1), (2, .int v2), (3, .int v3)] := hl
  have hJ : cJ D S s.heap S s.heap [] := cJ.rf hW
  unfold fk_11_fitsInsert at h
  refine lv_iload_n C.1 C.2.1 dX11_fitsInsert_0 rfl (lv_at hl 2 rfl) ?_
  refine lv_bipush (v := 32) C.1 C.2.1 dX11_fitsInsert_1 (by decide) ?_
  refine lv_icmp_lt (tgt := 16) C.1 C.2.1 dX11_fitsInsert_3 (by decide) (fun c1 => ?_) (fun c1 => ?_)
  · have h := if_t h c1
    exact wk_11_fitsInsert_16 C X h hJ (lv_sub hl [] rfl)
  · have h := if_f h c1
    refine lv_iload_n C.1 C.2.1 dX11_fitsInsert_6 rfl (lv_at hl 2 rfl) ?_
    refine lv_bipush (v := 126) C.1 C.2.1 dX11_fitsInsert_7 (by decide) ?_
    refine lv_icmp_gt (tgt := 16) C.1 C.2.1 dX11_fitsInsert_9 (by decide) (fun c2 => ?_) (fun c2 => ?_)
    · have h := if_t h c2
      exact wk_11_fitsInsert_16 C X h hJ (lv_sub hl [] rfl)
    · have h := if_f h c2
      refine lv_iload_n C.1 C.2.1 dX11_fitsInsert_12 rfl (lv_at hl 3 rfl) ?_
      refine lv_if_ge (tgt := 18) C.1 C.2.1 dX11_fitsInsert_13 (by decide) (fun c3 => ?_) (fun c3 => ?_)
      · have h := if_t h c3
        refine lv_aload_n C.1 C.2.1 dX11_fitsInsert_18 rfl (lv_at hl 0 rfl) ?_
        obtain ⟨hk, h⟩ := ckk_ok h
        obtain ⟨a4, h_a4, h⟩ := bd_ok h
        refine gk11_41 C X hJ.1 hk h_a4 dX11_fitsInsert_19 ?_
        refine lv_aload_n C.1 C.2.1 dX11_fitsInsert_22 rfl (lv_at hl 1 rfl) ?_
        obtain ⟨hk, h⟩ := ckk_ok h
        obtain ⟨a5, h_a5, h⟩ := bd_ok h
        refine gk11_147 C X hJ.1 hk h_a5 dX11_fitsInsert_23 ?_
        refine lv_aload_n C.1 C.2.1 dX11_fitsInsert_26 rfl (lv_at hl 0 rfl) ?_
        obtain ⟨hk, h⟩ := ckk_ok h
        obtain ⟨a6, h_a6, h⟩ := bd_ok h
        refine gk11_48 C X hJ.1 hk h_a6 dX11_fitsInsert_27 ?_
        obtain ⟨hk, h⟩ := ckk_ok h
        refine gk11_150 C X hJ.1 hk dX11_fitsInsert_30 ?_
        refine lv_bipush (v := 8) C.1 C.2.1 dX11_fitsInsert_33 (by decide) ?_
        refine lv_imul C.1 C.2.1 dX11_fitsInsert_35 ?_
        refine lv_aload_n C.1 C.2.1 dX11_fitsInsert_36 rfl (lv_at hl 0 rfl) ?_
        obtain ⟨hk, h⟩ := ckk_ok h
        obtain ⟨a7, h_a7, h⟩ := bd_ok h
        refine gk11_48 C X hJ.1 hk h_a7 dX11_fitsInsert_37 ?_
        obtain ⟨hk, h⟩ := ckk_ok h
        refine gk11_496 C X hJ.1 hk dX11_fitsInsert_40 ?_
        refine lv_iadd C.1 C.2.1 dX11_fitsInsert_43 ?_
        obtain ⟨hk, h⟩ := ckk_ok h
        obtain ⟨S8, h_S8, h⟩ := bd_ok h
        refine c_callW (rest := []) C X hJ hl.1 9 (by decide) hk [.ref a5, .int (((kF S a6 1) * (8 : Int32)) + (kF S a7 3))] (tk_9_read l h_S8) cw11_153 ki_9_read kl_9_read rfl ⟨by decide, by decide⟩ ⟨(by decide), (by decide)⟩ rfl (Nat.le_of_ble_eq_true rfl) dX11_fitsInsert_44 (fun H locs hJ => ?_)
        refine W.eq (g2 := F0 m 47 ls []) rfl ?_
        refine lv_iload_n C.1 C.2.1 dX11_fitsInsert_47 rfl (lv_at hl 3 rfl) ?_
        refine lv_aload_n C.1 C.2.1 dX11_fitsInsert_48 rfl (lv_at hl 0 rfl) ?_
        obtain ⟨hk, h⟩ := ckk_ok h
        obtain ⟨a9, h_a9, h⟩ := bd_ok h
        refine gk11_41 C X hJ.1 hk h_a9 dX11_fitsInsert_49 ?_
        obtain ⟨hk, h⟩ := ckk_ok h
        refine gk11_165 C X hJ.1 hk dX11_fitsInsert_52 ?_
        refine lv_icmp_le (tgt := 60) C.1 C.2.1 dX11_fitsInsert_55 (by decide) (fun c10 => ?_) (fun c10 => ?_)
        · have h := if_t h c10
          refine lv_aload_n C.1 C.2.1 dX11_fitsInsert_60 rfl (lv_at hl 0 rfl) ?_
          obtain ⟨hk, h⟩ := ckk_ok h
          obtain ⟨a11, h_a11, h⟩ := bd_ok h
          refine gk11_48 C X hJ.1 hk h_a11 dX11_fitsInsert_61 ?_
          refine lv_iload_n C.1 C.2.1 dX11_fitsInsert_64 rfl (lv_at hl 2 rfl) ?_
          obtain ⟨hk, h⟩ := ckk_ok h
          refine pk11_486 C X hJ hk dX11_fitsInsert_65 (fun H locs hJ => ?_)
          refine lt_ok h (fun S12 e_S12 h => ?_)
          rw [e_S12] at hJ
          refine lv_aload_n C.1 C.2.1 dX11_fitsInsert_68 rfl (lv_at hl 0 rfl) ?_
          obtain ⟨hk, h⟩ := ckk_ok h
          obtain ⟨a13, h_a13, h⟩ := bd_ok h
          refine gk11_48 C X hJ.1 hk h_a13 dX11_fitsInsert_69 ?_
          refine lv_aload_n C.1 C.2.1 dX11_fitsInsert_72 rfl (lv_at hl 0 rfl) ?_
          obtain ⟨hk, h⟩ := ckk_ok h
          obtain ⟨a14, h_a14, h⟩ := bd_ok h
          refine gk11_41 C X hJ.1 hk h_a14 dX11_fitsInsert_73 ?_
          refine lv_iload_n C.1 C.2.1 dX11_fitsInsert_76 rfl (lv_at hl 3 rfl) ?_
          obtain ⟨hk, h⟩ := ckk_ok h
          obtain ⟨r15, h_r15, h⟩ := bd_ok h
          refine c_callR (rest := [.ref a13]) C X hJ.1 hl.1 9 (by decide) hk [.int v3] (tk_9_nameAhead l h_r15) cw11_176 ki_9_nameAhead kl_9_nameAhead rfl ⟨by decide, by decide⟩ ⟨(by decide), (by decide)⟩ rfl (Nat.le_of_ble_eq_true rfl) dX11_fitsInsert_77 ?_
          refine W.eq (g2 := F0 m 80 ls [.int r15, .ref a13]) rfl ?_
          obtain ⟨hk, h⟩ := ckk_ok h
          refine pk11_482 C X hJ hk dX11_fitsInsert_80 (fun H locs hJ => ?_)
          refine lt_ok h (fun S16 e_S16 h => ?_)
          rw [e_S16] at hJ
          refine lv_iconst (v := 1) C.1 C.2.1 dX11_fitsInsert_83 (by decide) ?_
          obtain ⟨hzo, h⟩ := ckz_ok h
          cases h
          exact c_retnW C (by rcases hzo with h9 | h9 <;> (rw [h9]; rfl)) hJ dX11_fitsInsert_84
        · have h := if_f h c10
          refine lv_iconst (v := 0) C.1 C.2.1 dX11_fitsInsert_58 (by decide) ?_
          obtain ⟨hzo, h⟩ := ckz_ok h
          cases h
          exact c_retnW C (by rcases hzo with h9 | h9 <;> (rw [h9]; rfl)) hJ dX11_fitsInsert_59
      · have h := if_f h c3
        exact wk_11_fitsInsert_16 C X h hJ (lv_sub hl [] rfl)
end
theorem dX11_fitsErase_0 : decode cX11_fitsErase 0 = .ok (.aload_n 0, 1) := by decide +kernel
theorem dX11_fitsErase_1 : decode cX11_fitsErase 1 = .ok (.getfield 41, 3) := by decide +kernel
theorem dX11_fitsErase_4 : decode cX11_fitsErase 4 = .ok (.aload_n 1, 1) := by decide +kernel
theorem dX11_fitsErase_5 : decode cX11_fitsErase 5 = .ok (.getfield 147, 3) := by decide +kernel
theorem dX11_fitsErase_8 : decode cX11_fitsErase 8 = .ok (.aload_n 0, 1) := by decide +kernel
theorem dX11_fitsErase_9 : decode cX11_fitsErase 9 = .ok (.getfield 48, 3) := by decide +kernel
theorem dX11_fitsErase_12 : decode cX11_fitsErase 12 = .ok (.getfield 150, 3) := by decide +kernel
theorem dX11_fitsErase_15 : decode cX11_fitsErase 15 = .ok (.bipush 8, 2) := by decide +kernel
theorem dX11_fitsErase_17 : decode cX11_fitsErase 17 = .ok (.imul, 1) := by decide +kernel
theorem dX11_fitsErase_18 : decode cX11_fitsErase 18 = .ok (.aload_n 0, 1) := by decide +kernel
theorem dX11_fitsErase_19 : decode cX11_fitsErase 19 = .ok (.getfield 48, 3) := by decide +kernel
theorem dX11_fitsErase_22 : decode cX11_fitsErase 22 = .ok (.getfield 496, 3) := by decide +kernel
theorem dX11_fitsErase_25 : decode cX11_fitsErase 25 = .ok (.iadd, 1) := by decide +kernel
theorem dX11_fitsErase_26 : decode cX11_fitsErase 26 = .ok (.invokevirtual 153, 3) := by decide +kernel
theorem dX11_fitsErase_29 : decode cX11_fitsErase 29 = .ok (.iload_n 2, 1) := by decide +kernel
theorem dX11_fitsErase_30 : decode cX11_fitsErase 30 = .ok (.ifCond .lt 14, 3) := by decide +kernel
theorem dX11_fitsErase_33 : decode cX11_fitsErase 33 = .ok (.iload_n 2, 1) := by decide +kernel
theorem dX11_fitsErase_34 : decode cX11_fitsErase 34 = .ok (.aload_n 0, 1) := by decide +kernel
theorem dX11_fitsErase_35 : decode cX11_fitsErase 35 = .ok (.getfield 41, 3) := by decide +kernel
theorem dX11_fitsErase_38 : decode cX11_fitsErase 38 = .ok (.getfield 165, 3) := by decide +kernel
theorem dX11_fitsErase_41 : decode cX11_fitsErase 41 = .ok (.if_icmp .lt 5, 3) := by decide +kernel
theorem dX11_fitsErase_44 : decode cX11_fitsErase 44 = .ok (.iconst 0, 1) := by decide +kernel
theorem dX11_fitsErase_45 : decode cX11_fitsErase 45 = .ok (.ireturn, 1) := by decide +kernel
theorem dX11_fitsErase_46 : decode cX11_fitsErase 46 = .ok (.aload_n 0, 1) := by decide +kernel
theorem dX11_fitsErase_47 : decode cX11_fitsErase 47 = .ok (.getfield 48, 3) := by decide +kernel
theorem dX11_fitsErase_50 : decode cX11_fitsErase 50 = .ok (.aload_n 0, 1) := by decide +kernel
theorem dX11_fitsErase_51 : decode cX11_fitsErase 51 = .ok (.getfield 41, 3) := by decide +kernel
theorem dX11_fitsErase_54 : decode cX11_fitsErase 54 = .ok (.getfield 377, 3) := by decide +kernel
theorem dX11_fitsErase_57 : decode cX11_fitsErase 57 = .ok (.iload_n 2, 1) := by decide +kernel
theorem dX11_fitsErase_58 : decode cX11_fitsErase 58 = .ok (.aaload, 1) := by decide +kernel
theorem dX11_fitsErase_59 : decode cX11_fitsErase 59 = .ok (.getfield 142, 3) := by decide +kernel
theorem dX11_fitsErase_62 : decode cX11_fitsErase 62 = .ok (.putfield 482, 3) := by decide +kernel
theorem dX11_fitsErase_65 : decode cX11_fitsErase 65 = .ok (.iconst 1, 1) := by decide +kernel
theorem dX11_fitsErase_66 : decode cX11_fitsErase 66 = .ok (.ireturn, 1) := by decide +kernel
theorem kd_11_fitsErase : Cond.code yX11_fitsErase cX11_fitsErase 3 (some .boolean) ∈ lw_g := mt_at 560 (by decide +kernel) rfl
theorem ki_11_fitsErase : Cond.instanceMethod yX11_fitsErase ∈ lw_g := mt_at 559 (by decide +kernel) rfl
theorem kl_11_fitsErase : Cond.selects (kRn 11) yX11_fitsErase yX11_fitsErase ∈ lw_g := mt_sel 6 (by decide +kernel) rfl
section
variable {p : Program} {l : Launch} {e : Env} {R : Room} {s : State} {m : MethodId} {args : Array Value} {below : List Frame} {meth : Method} {c : Code} {H : Heap} {locs : List Loc} {cells slots : Nat} {Q : State → Prop}
variable {D : cG} {S S0 : cSt} {cc : ByteArray} {nL : Nat} {pc : Nat} {ls : Array Slot} {rest : List Value} {H0 : Heap} {nF nR nC nS : Nat} {ret : Option FieldType} {a : Nat}
theorem gk11_142 (C : cY p R s m args meth c RX11 cc nL nF nC nS nR ret) (X : cX D s) (hW : cW D S H) (hk : kK S a = 9) (hdg : decode cc pc = .ok (.getfield 142, 3)) (kk : W p l e R s m args below meth c H locs cells slots Q (F0 m (pc + 3) ls (.int (kF S a 11) :: rest))) : W p l e R s m args below meth c H locs cells slots Q (F0 m pc ls (.ref a :: rest)) := c_get C X hW 8 (by decide) ly_8 hk 11 (by decide) (mt_at 1021 (by decide +kernel) (by decide +kernel)) hdg (by rw [cV_I (by decide +kernel)]; exact kk)
theorem gk11_377 (C : cY p R s m args meth c RX11 cc nL nF nC nS nR ret) (X : cX D s) (hW : cW D S H) (hk : kK S a = 10) {x : Nat} (hx : kR S a 0 = some x) (hdg : decode cc pc = .ok (.getfield 377, 3)) (kk : W p l e R s m args below meth c H locs cells slots Q (F0 m (pc + 3) ls (.ref x :: rest))) : W p l e R s m args below meth c H locs cells slots Q (F0 m pc ls (.ref a :: rest)) := c_get C X hW 9 (by decide) ly_9 hk 0 (by decide) (mt_at 128 (by decide +kernel) (by decide +kernel)) hdg (by rw [cV_R (by decide +kernel) hx]; exact kk)
end
section
variable {p : Program} {l : Launch} {e : Env} {R : Room} {s : State} {m : MethodId} {args : Array Value} {below : List Frame} {meth : Method} {c : Code} {D : cG} {S0 S9 : cSt} {r : Int32}
noncomputable def fk_11_fitsErase_44 (S : cSt) : Option (Int32 × cSt) :=
ckz (0 : Int32) (some ((0 : Int32), S))
set_option maxRecDepth 100000 in
set_option maxHeartbeats 4000000 in
theorem wk_11_fitsErase_44 (C : cY p R s m args meth c RX11 cX11_fitsErase 3 2 0 0 47 (some .boolean)) (X : cX D s) : ∀ {S : cSt} {H : Heap} {locs : List Loc} {ls : Array Slot}, fk_11_fitsErase_44 S = some (r, S9) → cJ D S0 s.heap S H locs → lv_has ls 3 [] → W p l e R s m args below meth c H locs 0 0 (MQ below (kW (some (.int r)) D S0 S9) args s 0 0 (cA S0)) (F0 m 44 ls []) := by
  intro S H locs ls h hJ hl
  unfold fk_11_fitsErase_44 at h
  refine lv_iconst (v := 0) C.1 C.2.1 dX11_fitsErase_44 (by decide) ?_
  obtain ⟨hzo, h⟩ := ckz_ok h
  cases h
  exact c_retnW C (by rcases hzo with h9 | h9 <;> (rw [h9]; rfl)) hJ dX11_fitsErase_45
noncomputable def fk_11_fitsErase (S : cSt) (v0 : Nat) (v1 : Nat) (v2 : Int32) : Option (Int32 × cSt) :=
ckk S v0 12 (bd (kR S v0 5) fun a1 =>
ckk S v1 8 (bd (kR S v1 2) fun a2 =>
ckk S v0 12 (bd (kR S v0 6) fun a3 =>
ckk S a3 2 (
ckk S v0 12 (bd (kR S v0 6) fun a4 =>
ckk S a4 2 (
ckk S a1 10 (bd (fk_9_read S a1 a2 (((kF S a3 1) * (8 : Int32)) + (kF S a4 3))) fun S5 =>
if v2 < 0 then (
fk_11_fitsErase_44 S5)
else (
ckk S5 v0 12 (bd (kR S5 v0 5) fun a7 =>
ckk S5 a7 10 (
if v2 < (kF S5 a7 1) then (
ckk S5 v0 12 (bd (kR S5 v0 6) fun a9 =>
ckk S5 v0 12 (bd (kR S5 v0 5) fun a10 =>
ckk S5 a10 10 (bd (kR S5 a10 0) fun a11 =>
ckk S5 a11 30 (ck v2 (kL S5 a11) (lt (kO S5 a11 (Int32.toNatClampNeg v2)) fun o12 =>
bd o12 fun a13 =>
ckk S5 a13 9 (
ckk S5 a9 2 (lt (cPi S5 a9 5 (kF S5 a13 11)) fun S14 =>
ckz (1 : Int32) (some ((1 : Int32), S14))))))))))
else (
fk_11_fitsErase_44 S5)))))))))))
set_option maxRecDepth 100000 in
set_option maxHeartbeats 4000000 in
theorem tk_11_fitsErase (l : Launch) {D : cG} {S : cSt} {v0 : Nat} {v1 : Nat} {v2 : Int32} {r : Int32} {S9 : cSt} (h : fk_11_fitsErase S v0 v1 v2 = some (r, S9)) : Met l yX11_fitsErase (Cond.code yX11_fitsErase cX11_fitsErase 3 (some .boolean) :: lw_g) { frames := 2, cells := 0, slots := 0, locals := 47 } (kPi [.ref v0, .ref v1, .int v2] D S) (kW (some (.int r)) D S S9) 0 0 (cA S) := by
  refine Met.ofW (cc := cX11_fitsErase) (maxL := 3) (ret := (some .boolean)) (by decide) rfl ?_
  intro p e s m args below meth c s₁ B hml hv
  obtain ⟨rfl, hW, X⟩ := hv
  have C : cY p (headSpec (Cond.code yX11_fitsErase cX11_fitsErase 3 (some .boolean) :: lw_g) { frames := 2, cells := 0, slots := 0, locals := 47 }).room s m _ meth c RX11 cX11_fitsErase 3 2 0 0 47 (some .boolean) := ⟨B.exec, B.bytes, hml, findClass_of_methodNamed B.named, fun w hw => atoms_spec (ws := Cond.code yX11_fitsErase cX11_fitsErase 3 (some .boolean) :: lw_g) B.pre w (List.mem_cons_of_mem _ hw), ⟨Nat.le_refl _, Nat.le_refl _, Nat.le_refl _, Nat.le_refl _⟩, B.returns, B.notSynchronized⟩
  have hl := lv_entry ([.ref v0, .ref v1, .int v2]) (n := 3) (Nat.le_of_ble_eq_true rfl)
  rw [lg_entry_eq]
  generalize (lg_sl ([.ref v0, .ref v1, .int v2]) ++ List.replicate (3 - (lg_sl ([.ref v0, .ref v1, .int v2])).length) Slot.unset).toArray = ls at hl ⊢
  have hl : lv_has ls 3 [(0, .ref v0), (1, .ref v1), (2, .int v2)] := hl
  have hJ : cJ D S s.heap S s.heap [] := cJ.rf hW
  unfold fk_11_fitsErase at h
  refine lv_aload_n C.1 C.2.1 dX11_fitsErase_0 rfl (lv_at hl 0 rfl) ?_
  obtain ⟨hk, h⟩ := ckk_ok h
  obtain ⟨a1, h_a1, h⟩ := bd_ok h
  refine gk11_41 C X hJ.1 hk h_a1 dX11_fitsErase_1 ?_
  refine lv_aload_n C.1 C.2.1 dX11_fitsErase_4 rfl (lv_at hl 1 rfl) ?_
  obtain ⟨hk, h⟩ := ckk_ok h
  obtain ⟨a2, h_a2, h⟩ := bd_ok h
  refine gk11_147 C X hJ.1 hk h_a2 dX11_fitsErase_5 ?_
  refine lv_aload_n C.1 C.2.1 dX11_fitsErase_8 rfl (lv_at hl 0 rfl) ?_
  obtain ⟨hk, h⟩ := ckk_ok h
  obtain ⟨a3, h_a3, h⟩ := bd_ok h
  refine gk11_48 C X hJ.1 hk h_a3 dX11_fitsErase_9 ?_
  obtain ⟨hk, h⟩ := ckk_ok h
  refine gk11_150 C X hJ.1 hk dX11_fitsErase_12 ?_
  refine lv_bipush (v := 8) C.1 C.2.1 dX11_fitsErase_15 (by decide) ?_
  refine lv_imul C.1 C.2.1 dX11_fitsErase_17 ?_
  refine lv_aload_n C.1 C.2.1 dX11_fitsErase_18 rfl (lv_at hl 0 rfl) ?_
  obtain ⟨hk, h⟩ := ckk_ok h
  obtain ⟨a4, h_a4, h⟩ := bd_ok h
  refine gk11_48 C X hJ.1 hk h_a4 dX11_fitsErase_19 ?_
  obtain ⟨hk, h⟩ := ckk_ok h
  refine gk11_496 C X hJ.1 hk dX11_fitsErase_22 ?_
  refine lv_iadd C.1 C.2.1 dX11_fitsErase_25 ?_
  obtain ⟨hk, h⟩ := ckk_ok h
  obtain ⟨S5, h_S5, h⟩ := bd_ok h
  refine c_callW (rest := []) C X hJ hl.1 9 (by decide) hk [.ref a2, .int (((kF S a3 1) * (8 : Int32)) + (kF S a4 3))] (tk_9_read l h_S5) cw11_153 ki_9_read kl_9_read rfl ⟨by decide, by decide⟩ ⟨(by decide), (by decide)⟩ rfl (Nat.le_of_ble_eq_true rfl) dX11_fitsErase_26 (fun H locs hJ => ?_)
  refine W.eq (g2 := F0 m 29 ls []) rfl ?_
  refine lv_iload_n C.1 C.2.1 dX11_fitsErase_29 rfl (lv_at hl 2 rfl) ?_
  refine lv_if_lt (tgt := 44) C.1 C.2.1 dX11_fitsErase_30 (by decide) (fun c6 => ?_) (fun c6 => ?_)
  · have h := if_t h c6
    exact wk_11_fitsErase_44 C X h hJ (lv_sub hl [] rfl)
  · have h := if_f h c6
    refine lv_iload_n C.1 C.2.1 dX11_fitsErase_33 rfl (lv_at hl 2 rfl) ?_
    refine lv_aload_n C.1 C.2.1 dX11_fitsErase_34 rfl (lv_at hl 0 rfl) ?_
    obtain ⟨hk, h⟩ := ckk_ok h
    obtain ⟨a7, h_a7, h⟩ := bd_ok h
    refine gk11_41 C X hJ.1 hk h_a7 dX11_fitsErase_35 ?_
    obtain ⟨hk, h⟩ := ckk_ok h
    refine gk11_165 C X hJ.1 hk dX11_fitsErase_38 ?_
    refine lv_icmp_lt (tgt := 46) C.1 C.2.1 dX11_fitsErase_41 (by decide) (fun c8 => ?_) (fun c8 => ?_)
    · have h := if_t h c8
      refine lv_aload_n C.1 C.2.1 dX11_fitsErase_46 rfl (lv_at hl 0 rfl) ?_
      obtain ⟨hk, h⟩ := ckk_ok h
      obtain ⟨a9, h_a9, h⟩ := bd_ok h
      refine gk11_48 C X hJ.1 hk h_a9 dX11_fitsErase_47 ?_
      refine lv_aload_n C.1 C.2.1 dX11_fitsErase_50 rfl (lv_at hl 0 rfl) ?_
      obtain ⟨hk, h⟩ := ckk_ok h
      obtain ⟨a10, h_a10, h⟩ := bd_ok h
      refine gk11_41 C X hJ.1 hk h_a10 dX11_fitsErase_51 ?_
      obtain ⟨hk, h⟩ := ckk_ok h
      obtain ⟨a11, h_a11, h⟩ := bd_ok h
      refine gk11_377 C X hJ.1 hk h_a11 dX11_fitsErase_54 ?_
      refine lv_iload_n C.1 C.2.1 dX11_fitsErase_57 rfl (lv_at hl 2 rfl) ?_
      obtain ⟨hk, h⟩ := ckk_ok h
      obtain ⟨hin2, h⟩ := ck_ok h
      refine c_aald C 30 (by decide) X.2.2.2.2.1 hJ.1 hk hin2 dX11_fitsErase_58 ?_
      refine lt_ok h (fun o12 e_o12 h => ?_)
      refine lv_nmq e_o12 ?_
      obtain ⟨a13, e_a13, h⟩ := bd_ok h
      revert h; subst e_a13; intro h
      obtain ⟨hk, h⟩ := ckk_ok h
      refine gk11_142 C X hJ.1 hk dX11_fitsErase_59 ?_
      obtain ⟨hk, h⟩ := ckk_ok h
      refine pk11_482 C X hJ hk dX11_fitsErase_62 (fun H locs hJ => ?_)
      refine lt_ok h (fun S14 e_S14 h => ?_)
      rw [e_S14] at hJ
      refine lv_iconst (v := 1) C.1 C.2.1 dX11_fitsErase_65 (by decide) ?_
      obtain ⟨hzo, h⟩ := ckz_ok h
      cases h
      exact c_retnW C (by rcases hzo with h9 | h9 <;> (rw [h9]; rfl)) hJ dX11_fitsErase_66
    · have h := if_f h c8
      exact wk_11_fitsErase_44 C X h hJ (lv_sub hl [] rfl)
end
theorem dX11_isOwned_0 : decode cX11_isOwned 0 = .ok (.aload_n 0, 1) := by decide +kernel
theorem dX11_isOwned_1 : decode cX11_isOwned 1 = .ok (.getfield 48, 3) := by decide +kernel
theorem dX11_isOwned_4 : decode cX11_isOwned 4 = .ok (.getfield 150, 3) := by decide +kernel
theorem dX11_isOwned_7 : decode cX11_isOwned 7 = .ok (.bipush 8, 2) := by decide +kernel
theorem dX11_isOwned_9 : decode cX11_isOwned 9 = .ok (.imul, 1) := by decide +kernel
theorem dX11_isOwned_10 : decode cX11_isOwned 10 = .ok (.aload_n 0, 1) := by decide +kernel
theorem dX11_isOwned_11 : decode cX11_isOwned 11 = .ok (.getfield 48, 3) := by decide +kernel
theorem dX11_isOwned_14 : decode cX11_isOwned 14 = .ok (.getfield 496, 3) := by decide +kernel
theorem dX11_isOwned_17 : decode cX11_isOwned 17 = .ok (.iadd, 1) := by decide +kernel
theorem dX11_isOwned_18 : decode cX11_isOwned 18 = .ok (.istore_n 3, 1) := by decide +kernel
theorem dX11_isOwned_19 : decode cX11_isOwned 19 = .ok (.iload_n 2, 1) := by decide +kernel
theorem dX11_isOwned_20 : decode cX11_isOwned 20 = .ok (.iconst 1, 1) := by decide +kernel
theorem dX11_isOwned_21 : decode cX11_isOwned 21 = .ok (.if_icmp .lt 30, 3) := by decide +kernel
theorem dX11_isOwned_24 : decode cX11_isOwned 24 = .ok (.iload_n 2, 1) := by decide +kernel
theorem dX11_isOwned_25 : decode cX11_isOwned 25 = .ok (.sipush 1000, 3) := by decide +kernel
theorem dX11_isOwned_28 : decode cX11_isOwned 28 = .ok (.if_icmp .gt 23, 3) := by decide +kernel
theorem dX11_isOwned_31 : decode cX11_isOwned 31 = .ok (.iload_n 2, 1) := by decide +kernel
theorem dX11_isOwned_32 : decode cX11_isOwned 32 = .ok (.aload_n 1, 1) := by decide +kernel
theorem dX11_isOwned_33 : decode cX11_isOwned 33 = .ok (.getfield 147, 3) := by decide +kernel
theorem dX11_isOwned_36 : decode cX11_isOwned 36 = .ok (.iload_n 3, 1) := by decide +kernel
theorem dX11_isOwned_37 : decode cX11_isOwned 37 = .ok (.aload_n 1, 1) := by decide +kernel
theorem dX11_isOwned_38 : decode cX11_isOwned 38 = .ok (.getfield 262, 3) := by decide +kernel
theorem dX11_isOwned_41 : decode cX11_isOwned 41 = .ok (.invokevirtual 333, 3) := by decide +kernel
theorem dX11_isOwned_44 : decode cX11_isOwned 44 = .ok (.if_icmp .gt 7, 3) := by decide +kernel
theorem dX11_isOwned_47 : decode cX11_isOwned 47 = .ok (.iconst 1, 1) := by decide +kernel
theorem dX11_isOwned_48 : decode cX11_isOwned 48 = .ok (.goto 4, 3) := by decide +kernel
theorem dX11_isOwned_51 : decode cX11_isOwned 51 = .ok (.iconst 0, 1) := by decide +kernel
theorem dX11_isOwned_52 : decode cX11_isOwned 52 = .ok (.ireturn, 1) := by decide +kernel
theorem kd_11_isOwned : Cond.code yX11_isOwned cX11_isOwned 4 (some .boolean) ∈ lw_g := mt_at 595 (by decide +kernel) rfl
theorem ki_11_isOwned : Cond.instanceMethod yX11_isOwned ∈ lw_g := mt_at 594 (by decide +kernel) rfl
theorem kl_11_isOwned : Cond.selects (kRn 11) yX11_isOwned yX11_isOwned ∈ lw_g := mt_sel 8 (by decide +kernel) rfl
theorem cw11_333 : cCw RX11 333 yX10_shareOf cX10_shareOf 3 (some .int) 2 := ⟨kd_10_shareOf, mt_at 596 (by decide +kernel) rfl, mt_at 10 (by decide +kernel) rfl, by decide +kernel⟩
section
variable {p : Program} {l : Launch} {e : Env} {R : Room} {s : State} {m : MethodId} {args : Array Value} {below : List Frame} {meth : Method} {c : Code} {H : Heap} {locs : List Loc} {cells slots : Nat} {Q : State → Prop}
variable {D : cG} {S S0 : cSt} {cc : ByteArray} {nL : Nat} {pc : Nat} {ls : Array Slot} {rest : List Value} {H0 : Heap} {nF nR nC nS : Nat} {ret : Option FieldType} {a : Nat}
theorem gk11_262 (C : cY p R s m args meth c RX11 cc nL nF nC nS nR ret) (X : cX D s) (hW : cW D S H) (hk : kK S a = 8) (hdg : decode cc pc = .ok (.getfield 262, 3)) (kk : W p l e R s m args below meth c H locs cells slots Q (F0 m (pc + 3) ls (.int (kF S a 0) :: rest))) : W p l e R s m args below meth c H locs cells slots Q (F0 m pc ls (.ref a :: rest)) := c_get C X hW 7 (by decide) ly_7 hk 0 (by decide) (mt_at 304 (by decide +kernel) (by decide +kernel)) hdg (by rw [cV_I (by decide +kernel)]; exact kk)
end
section
variable {p : Program} {l : Launch} {e : Env} {R : Room} {s : State} {m : MethodId} {args : Array Value} {below : List Frame} {meth : Method} {c : Code} {D : cG} {S0 S9 : cSt} {r : Int32}
noncomputable def fk_11_isOwned_52 (S : cSt) (s0 : Int32) : Option (Int32 × cSt) :=
ckz s0 (some (s0, S))
set_option maxRecDepth 100000 in
set_option maxHeartbeats 4000000 in
theorem wk_11_isOwned_52 (C : cY p R s m args meth c RX11 cX11_isOwned 4 3 0 0 67 (some .boolean)) (X : cX D s) : ∀ {S : cSt} {s0 : Int32} {H : Heap} {locs : List Loc} {ls : Array Slot}, fk_11_isOwned_52 S s0 = some (r, S9) → cJ D S0 s.heap S H locs → lv_has ls 4 [] → W p l e R s m args below meth c H locs 0 0 (MQ below (kW (some (.int r)) D S0 S9) args s 0 0 (cA S0)) (F0 m 52 ls [.int s0]) := by
  intro S s0 H locs ls h hJ hl
  unfold fk_11_isOwned_52 at h
  obtain ⟨hzo, h⟩ := ckz_ok h
  cases h
  exact c_retnW C (by rcases hzo with h9 | h9 <;> (rw [h9]; rfl)) hJ dX11_isOwned_52
noncomputable def fk_11_isOwned_51 (S : cSt) : Option (Int32 × cSt) :=
fk_11_isOwned_52 S (0 : Int32)
set_option maxRecDepth 100000 in
set_option maxHeartbeats 4000000 in
theorem wk_11_isOwned_51 (C : cY p R s m args meth c RX11 cX11_isOwned 4 3 0 0 67 (some .boolean)) (X : cX D s) : ∀ {S : cSt} {H : Heap} {locs : List Loc} {ls : Array Slot}, fk_11_isOwned_51 S = some (r, S9) → cJ D S0 s.heap S H locs → lv_has ls 4 [] → W p l e R s m args below meth c H locs 0 0 (MQ below (kW (some (.int r)) D S0 S9) args s 0 0 (cA S0)) (F0 m 51 ls []) := by
  intro S H locs ls h hJ hl
  unfold fk_11_isOwned_51 at h
  refine lv_iconst (v := 0) C.1 C.2.1 dX11_isOwned_51 (by decide) ?_
  exact wk_11_isOwned_52 C X h hJ (lv_sub hl [] rfl)
noncomputable def fk_11_isOwned (S : cSt) (v0 : Nat) (v1 : Nat) (v2 : Int32) : Option (Int32 × cSt) :=
ckk S v0 12 (bd (kR S v0 6) fun a1 =>
ckk S a1 2 (
ckk S v0 12 (bd (kR S v0 6) fun a2 =>
ckk S a2 2 (
lt (((kF S a1 1) * (8 : Int32)) + (kF S a2 3)) fun x3 =>
if v2 < (1 : Int32) then (
fk_11_isOwned_51 S)
else (
if (1000 : Int32) < v2 then (
fk_11_isOwned_51 S)
else (
ckk S v1 8 (bd (kR S v1 2) fun a6 =>
ckk S v1 8 (
ckk S a6 11 (bd (fk_10_shareOf S a6 x3 (kF S v1 0)) fun q_r8 => lt q_r8.1 fun r8 => lt q_r8.2 fun S7 =>
if r8 < v2 then (
fk_11_isOwned_51 S7)
else (
fk_11_isOwned_52 S7 (1 : Int32)))))))))))
set_option maxRecDepth 100000 in
set_option maxHeartbeats 4000000 in
theorem tk_11_isOwned (l : Launch) {D : cG} {S : cSt} {v0 : Nat} {v1 : Nat} {v2 : Int32} {r : Int32} {S9 : cSt} (h : fk_11_isOwned S v0 v1 v2 = some (r, S9)) : Met l yX11_isOwned (Cond.code yX11_isOwned cX11_isOwned 4 (some .boolean) :: lw_g) { frames := 3, cells := 0, slots := 0, locals := 67 } (kPi [.ref v0, .ref v1, .int v2] D S) (kW (some (.int r)) D S S9) 0 0 (cA S) := by
  refine Met.ofW (cc := cX11_isOwned) (maxL := 4) (ret := (some .boolean)) (by decide) rfl ?_
  intro p e s m args below meth c s₁ B hml hv
  obtain ⟨rfl, hW, X⟩ := hv
  have C : cY p (headSpec (Cond.code yX11_isOwned cX11_isOwned 4 (some .boolean) :: lw_g) { frames := 3, cells := 0, slots := 0, locals := 67 }).room s m _ meth c RX11 cX11_isOwned 4 3 0 0 67 (some .boolean) := ⟨B.exec, B.bytes, hml, findClass_of_methodNamed B.named, fun w hw => atoms_spec (ws := Cond.code yX11_isOwned cX11_isOwned 4 (some .boolean) :: lw_g) B.pre w (List.mem_cons_of_mem _ hw), ⟨Nat.le_refl _, Nat.le_refl _, Nat.le_refl _, Nat.le_refl _⟩, B.returns, B.notSynchronized⟩
  have hl := lv_entry ([.ref v0, .ref v1, .int v2]) (n := 4) (Nat.le_of_ble_eq_true rfl)
  rw [lg_entry_eq]
  generalize (lg_sl ([.ref v0, .ref v1, .int v2]) ++ List.replicate (4 - (lg_sl ([.ref v0, .ref v1, .int v2])).length) Slot.unset).toArray = ls at hl ⊢
  have hl : lv_has ls 4 [(0, .ref v0), (1, .ref v1), (2, .int v2)] := hl
  have hJ : cJ D S s.heap S s.heap [] := cJ.rf hW
  unfold fk_11_isOwned at h
  refine lv_aload_n C.1 C.2.1 dX11_isOwned_0 rfl (lv_at hl 0 rfl) ?_
  obtain ⟨hk, h⟩ := ckk_ok h
  obtain ⟨a1, h_a1, h⟩ := bd_ok h
  refine gk11_48 C X hJ.1 hk h_a1 dX11_isOwned_1 ?_
  obtain ⟨hk, h⟩ := ckk_ok h
  refine gk11_150 C X hJ.1 hk dX11_isOwned_4 ?_
  refine lv_bipush (v := 8) C.1 C.2.1 dX11_isOwned_7 (by decide) ?_
  refine lv_imul C.1 C.2.1 dX11_isOwned_9 ?_
  refine lv_aload_n C.1 C.2.1 dX11_isOwned_10 rfl (lv_at hl 0 rfl) ?_
  obtain ⟨hk, h⟩ := ckk_ok h
  obtain ⟨a2, h_a2, h⟩ := bd_ok h
  refine gk11_48 C X hJ.1 hk h_a2 dX11_isOwned_11 ?_
  obtain ⟨hk, h⟩ := ckk_ok h
  refine gk11_496 C X hJ.1 hk dX11_isOwned_14 ?_
  refine lv_iadd C.1 C.2.1 dX11_isOwned_17 ?_
  refine lt_ok h (fun x3 e_x3 h => ?_)
  refine lv_nm e_x3 ?_
  refine lv_istore_n (lv' := [(3, .int x3), (0, .ref v0), (1, .ref v1), (2, .int v2)]) C.1 C.2.1 dX11_isOwned_18 rfl hl (by decide) rfl (fun ls hl => ?_)
  refine lv_iload_n C.1 C.2.1 dX11_isOwned_19 rfl (lv_at hl 3 rfl) ?_
  refine lv_iconst (v := 1) C.1 C.2.1 dX11_isOwned_20 (by decide) ?_
  refine lv_icmp_lt (tgt := 51) C.1 C.2.1 dX11_isOwned_21 (by decide) (fun c4 => ?_) (fun c4 => ?_)
  · have h := if_t h c4
    exact wk_11_isOwned_51 C X h hJ (lv_sub hl [] rfl)
  · have h := if_f h c4
    refine lv_iload_n C.1 C.2.1 dX11_isOwned_24 rfl (lv_at hl 3 rfl) ?_
    refine lv_sipush (v := 1000) C.1 C.2.1 dX11_isOwned_25 (by decide) ?_
    refine lv_icmp_gt (tgt := 51) C.1 C.2.1 dX11_isOwned_28 (by decide) (fun c5 => ?_) (fun c5 => ?_)
    · have h := if_t h c5
      exact wk_11_isOwned_51 C X h hJ (lv_sub hl [] rfl)
    · have h := if_f h c5
      refine lv_iload_n C.1 C.2.1 dX11_isOwned_31 rfl (lv_at hl 3 rfl) ?_
      refine lv_aload_n C.1 C.2.1 dX11_isOwned_32 rfl (lv_at hl 2 rfl) ?_
      obtain ⟨hk, h⟩ := ckk_ok h
      obtain ⟨a6, h_a6, h⟩ := bd_ok h
      refine gk11_147 C X hJ.1 hk h_a6 dX11_isOwned_33 ?_
      refine lv_iload_n C.1 C.2.1 dX11_isOwned_36 rfl (lv_at hl 0 rfl) ?_
      refine lv_aload_n C.1 C.2.1 dX11_isOwned_37 rfl (lv_at hl 2 rfl) ?_
      obtain ⟨hk, h⟩ := ckk_ok h
      refine gk11_262 C X hJ.1 hk dX11_isOwned_38 ?_
      obtain ⟨hk, h⟩ := ckk_ok h
      obtain ⟨⟨r8, S7⟩, h_S7, h⟩ := bd_ok h
      replace h := lt2_ok h
      refine c_callW (rest := [.int v2]) C X hJ hl.1 10 (by decide) hk [.int x3, .int (kF S v1 0)] (tk_10_shareOf l h_S7) cw11_333 ki_10_shareOf kl_10_shareOf rfl ⟨by decide, by decide⟩ ⟨(by decide), (by decide)⟩ rfl (Nat.le_of_ble_eq_true rfl) dX11_isOwned_41 (fun H locs hJ => ?_)
      refine W.eq (g2 := F0 m 44 ls [.int r8, .int v2]) rfl ?_
      refine lv_icmp_gt (tgt := 51) C.1 C.2.1 dX11_isOwned_44 (by decide) (fun c9 => ?_) (fun c9 => ?_)
      · have h := if_t h c9
        exact wk_11_isOwned_51 C X h hJ (lv_sub hl [] rfl)
      · have h := if_f h c9
        refine lv_iconst (v := 1) C.1 C.2.1 dX11_isOwned_47 (by decide) ?_
        refine lv_goto (tgt := 52) C.1 C.2.1 dX11_isOwned_48 (by decide) ?_
        exact wk_11_isOwned_52 C X h hJ (lv_sub hl [] rfl)
end
theorem dX11_fitsByValue_0 : decode cX11_fitsByValue 0 = .ok (.aload_n 0, 1) := by decide +kernel
theorem dX11_fitsByValue_1 : decode cX11_fitsByValue 1 = .ok (.getfield 48, 3) := by decide +kernel
theorem dX11_fitsByValue_4 : decode cX11_fitsByValue 4 = .ok (.getfield 150, 3) := by decide +kernel
theorem dX11_fitsByValue_7 : decode cX11_fitsByValue 7 = .ok (.bipush 8, 2) := by decide +kernel
theorem dX11_fitsByValue_9 : decode cX11_fitsByValue 9 = .ok (.imul, 1) := by decide +kernel
theorem dX11_fitsByValue_10 : decode cX11_fitsByValue 10 = .ok (.aload_n 0, 1) := by decide +kernel
theorem dX11_fitsByValue_11 : decode cX11_fitsByValue 11 = .ok (.getfield 48, 3) := by decide +kernel
theorem dX11_fitsByValue_14 : decode cX11_fitsByValue 14 = .ok (.getfield 496, 3) := by decide +kernel
theorem dX11_fitsByValue_17 : decode cX11_fitsByValue 17 = .ok (.iadd, 1) := by decide +kernel
theorem dX11_fitsByValue_18 : decode cX11_fitsByValue 18 = .ok (.istore_n 3, 1) := by decide +kernel
theorem dX11_fitsByValue_19 : decode cX11_fitsByValue 19 = .ok (.aload_n 0, 1) := by decide +kernel
theorem dX11_fitsByValue_20 : decode cX11_fitsByValue 20 = .ok (.getfield 48, 3) := by decide +kernel
theorem dX11_fitsByValue_23 : decode cX11_fitsByValue 23 = .ok (.getfield 471, 3) := by decide +kernel
theorem dX11_fitsByValue_26 : decode cX11_fitsByValue 26 = .ok (.tableswitch 188 4 17 #[70, 88, 188, 95, 100, 188, 188, 188, 188, 188, 188, 188, 118, 136], 70) := by decide +kernel
theorem dX11_fitsByValue_96 : decode cX11_fitsByValue 96 = .ok (.iload_n 2, 1) := by decide +kernel
theorem dX11_fitsByValue_97 : decode cX11_fitsByValue 97 = .ok (.iconst 1, 1) := by decide +kernel
theorem dX11_fitsByValue_98 : decode cX11_fitsByValue 98 = .ok (.if_icmp .lt 14, 3) := by decide +kernel
theorem dX11_fitsByValue_101 : decode cX11_fitsByValue 101 = .ok (.iload_n 2, 1) := by decide +kernel
theorem dX11_fitsByValue_102 : decode cX11_fitsByValue 102 = .ok (.sipush 1000, 3) := by decide +kernel
theorem dX11_fitsByValue_105 : decode cX11_fitsByValue 105 = .ok (.if_icmp .gt 7, 3) := by decide +kernel
theorem dX11_fitsByValue_108 : decode cX11_fitsByValue 108 = .ok (.iconst 1, 1) := by decide +kernel
theorem dX11_fitsByValue_109 : decode cX11_fitsByValue 109 = .ok (.goto 4, 3) := by decide +kernel
theorem dX11_fitsByValue_112 : decode cX11_fitsByValue 112 = .ok (.iconst 0, 1) := by decide +kernel
theorem dX11_fitsByValue_113 : decode cX11_fitsByValue 113 = .ok (.ireturn, 1) := by decide +kernel
theorem dX11_fitsByValue_114 : decode cX11_fitsByValue 114 = .ok (.aload_n 0, 1) := by decide +kernel
theorem dX11_fitsByValue_115 : decode cX11_fitsByValue 115 = .ok (.aload_n 1, 1) := by decide +kernel
theorem dX11_fitsByValue_116 : decode cX11_fitsByValue 116 = .ok (.iload_n 2, 1) := by decide +kernel
theorem dX11_fitsByValue_117 : decode cX11_fitsByValue 117 = .ok (.invokevirtual 490, 3) := by decide +kernel
theorem dX11_fitsByValue_120 : decode cX11_fitsByValue 120 = .ok (.ireturn, 1) := by decide +kernel
theorem dX11_fitsByValue_121 : decode cX11_fitsByValue 121 = .ok (.iload_n 2, 1) := by decide +kernel
theorem dX11_fitsByValue_122 : decode cX11_fitsByValue 122 = .ok (.invokestatic 487, 3) := by decide +kernel
theorem dX11_fitsByValue_125 : decode cX11_fitsByValue 125 = .ok (.ireturn, 1) := by decide +kernel
theorem dX11_fitsByValue_126 : decode cX11_fitsByValue 126 = .ok (.aload_n 1, 1) := by decide +kernel
theorem dX11_fitsByValue_127 : decode cX11_fitsByValue 127 = .ok (.getfield 147, 3) := by decide +kernel
theorem dX11_fitsByValue_130 : decode cX11_fitsByValue 130 = .ok (.iload_n 3, 1) := by decide +kernel
theorem dX11_fitsByValue_131 : decode cX11_fitsByValue 131 = .ok (.iload_n 2, 1) := by decide +kernel
theorem dX11_fitsByValue_132 : decode cX11_fitsByValue 132 = .ok (.invokevirtual 497, 3) := by decide +kernel
theorem dX11_fitsByValue_135 : decode cX11_fitsByValue 135 = .ok (.ifnull 7, 3) := by decide +kernel
theorem dX11_fitsByValue_138 : decode cX11_fitsByValue 138 = .ok (.iconst 1, 1) := by decide +kernel
theorem dX11_fitsByValue_139 : decode cX11_fitsByValue 139 = .ok (.goto 4, 3) := by decide +kernel
theorem dX11_fitsByValue_142 : decode cX11_fitsByValue 142 = .ok (.iconst 0, 1) := by decide +kernel
theorem dX11_fitsByValue_143 : decode cX11_fitsByValue 143 = .ok (.ireturn, 1) := by decide +kernel
theorem dX11_fitsByValue_144 : decode cX11_fitsByValue 144 = .ok (.aload_n 1, 1) := by decide +kernel
theorem dX11_fitsByValue_145 : decode cX11_fitsByValue 145 = .ok (.getfield 147, 3) := by decide +kernel
theorem dX11_fitsByValue_148 : decode cX11_fitsByValue 148 = .ok (.iload_n 3, 1) := by decide +kernel
theorem dX11_fitsByValue_149 : decode cX11_fitsByValue 149 = .ok (.iload_n 2, 1) := by decide +kernel
theorem dX11_fitsByValue_150 : decode cX11_fitsByValue 150 = .ok (.invokevirtual 345, 3) := by decide +kernel
theorem dX11_fitsByValue_153 : decode cX11_fitsByValue 153 = .ok (.ifnull 7, 3) := by decide +kernel
theorem dX11_fitsByValue_156 : decode cX11_fitsByValue 156 = .ok (.iconst 1, 1) := by decide +kernel
theorem dX11_fitsByValue_157 : decode cX11_fitsByValue 157 = .ok (.goto 4, 3) := by decide +kernel
theorem dX11_fitsByValue_160 : decode cX11_fitsByValue 160 = .ok (.iconst 0, 1) := by decide +kernel
theorem dX11_fitsByValue_161 : decode cX11_fitsByValue 161 = .ok (.ireturn, 1) := by decide +kernel
theorem dX11_fitsByValue_162 : decode cX11_fitsByValue 162 = .ok (.aload_n 1, 1) := by decide +kernel
theorem dX11_fitsByValue_163 : decode cX11_fitsByValue 163 = .ok (.getfield 147, 3) := by decide +kernel
theorem dX11_fitsByValue_166 : decode cX11_fitsByValue 166 = .ok (.aload_n 0, 1) := by decide +kernel
theorem dX11_fitsByValue_167 : decode cX11_fitsByValue 167 = .ok (.getfield 48, 3) := by decide +kernel
theorem dX11_fitsByValue_170 : decode cX11_fitsByValue 170 = .ok (.getfield 150, 3) := by decide +kernel
theorem dX11_fitsByValue_173 : decode cX11_fitsByValue 173 = .ok (.aload_n 1, 1) := by decide +kernel
theorem dX11_fitsByValue_174 : decode cX11_fitsByValue 174 = .ok (.invokevirtual 310, 3) := by decide +kernel
theorem dX11_fitsByValue_177 : decode cX11_fitsByValue 177 = .ok (.invokevirtual 313, 3) := by decide +kernel
theorem dX11_fitsByValue_180 : decode cX11_fitsByValue 180 = .ok (.istore 4, 2) := by decide +kernel
theorem dX11_fitsByValue_182 : decode cX11_fitsByValue 182 = .ok (.iload_n 2, 1) := by decide +kernel
theorem dX11_fitsByValue_183 : decode cX11_fitsByValue 183 = .ok (.iconst 1, 1) := by decide +kernel
theorem dX11_fitsByValue_184 : decode cX11_fitsByValue 184 = .ok (.if_icmp .lt 28, 3) := by decide +kernel
theorem dX11_fitsByValue_187 : decode cX11_fitsByValue 187 = .ok (.iload_n 2, 1) := by decide +kernel
theorem dX11_fitsByValue_188 : decode cX11_fitsByValue 188 = .ok (.bipush 100, 2) := by decide +kernel
theorem dX11_fitsByValue_190 : decode cX11_fitsByValue 190 = .ok (.if_icmp .gt 22, 3) := by decide +kernel
theorem dX11_fitsByValue_193 : decode cX11_fitsByValue 193 = .ok (.iload 4, 2) := by decide +kernel
theorem dX11_fitsByValue_195 : decode cX11_fitsByValue 195 = .ok (.iconst (-1), 1) := by decide +kernel
theorem dX11_fitsByValue_196 : decode cX11_fitsByValue 196 = .ok (.if_icmp .eq 12, 3) := by decide +kernel
theorem dX11_fitsByValue_199 : decode cX11_fitsByValue 199 = .ok (.iload 4, 2) := by decide +kernel
theorem dX11_fitsByValue_201 : decode cX11_fitsByValue 201 = .ok (.aload_n 1, 1) := by decide +kernel
theorem dX11_fitsByValue_202 : decode cX11_fitsByValue 202 = .ok (.getfield 262, 3) := by decide +kernel
theorem dX11_fitsByValue_205 : decode cX11_fitsByValue 205 = .ok (.if_icmp .ne 7, 3) := by decide +kernel
theorem dX11_fitsByValue_208 : decode cX11_fitsByValue 208 = .ok (.iconst 1, 1) := by decide +kernel
theorem dX11_fitsByValue_209 : decode cX11_fitsByValue 209 = .ok (.goto 4, 3) := by decide +kernel
theorem dX11_fitsByValue_212 : decode cX11_fitsByValue 212 = .ok (.iconst 0, 1) := by decide +kernel
theorem dX11_fitsByValue_213 : decode cX11_fitsByValue 213 = .ok (.ireturn, 1) := by decide +kernel
theorem dX11_fitsByValue_214 : decode cX11_fitsByValue 214 = .ok (.iconst 1, 1) := by decide +kernel
theorem dX11_fitsByValue_215 : decode cX11_fitsByValue 215 = .ok (.ireturn, 1) := by decide +kernel
theorem kd_11_fitsByValue : Cond.code yX11_fitsByValue cX11_fitsByValue 5 (some .boolean) ∈ lw_g := mt_at 622 (by decide +kernel) rfl
theorem ki_11_fitsByValue : Cond.instanceMethod yX11_fitsByValue ∈ lw_g := mt_at 621 (by decide +kernel) rfl
theorem kl_11_fitsByValue : Cond.selects (kRn 11) yX11_fitsByValue yX11_fitsByValue ∈ lw_g := mt_sel 10 (by decide +kernel) rfl
theorem cw11_310 : cCw RX11 310 yX7_timeNow cX7_timeNow 1 (some .int) 0 := ⟨kd_7_timeNow, mt_at 607 (by decide +kernel) rfl, mt_at 7 (by decide +kernel) rfl, by decide +kernel⟩
theorem cw11_313 : cCw RX11 313 yX10_holderOf cX10_holderOf 8 (some .int) 2 := ⟨kd_10_holderOf, mt_at 614 (by decide +kernel) rfl, mt_at 10 (by decide +kernel) rfl, by decide +kernel⟩
theorem cw11_345 : cCw RX11 345 yX10_bindOf cX10_bindOf 4 (some (.object "AccordHouse$Row")) 2 := ⟨kd_10_bindOf, mt_at 639 (by decide +kernel) rfl, mt_at 10 (by decide +kernel) rfl, by decide +kernel⟩
theorem cw11_487 : cCw RX11 487 yX11_isKey cX11_isKey 1 (some .boolean) 1 := ⟨kd_11_isKey, mt_at 589 (by decide +kernel) rfl, mt_at 1 (by decide +kernel) rfl, by decide +kernel⟩
theorem cw11_490 : cCw RX11 490 yX11_isOwned cX11_isOwned 4 (some .boolean) 2 := ⟨kd_11_isOwned, mt_at 592 (by decide +kernel) rfl, mt_at 1 (by decide +kernel) rfl, by decide +kernel⟩
theorem cw11_497 : cCw RX11 497 yX10_enterOf cX10_enterOf 3 (some (.object "AccordHouse$Row")) 2 := ⟨kd_10_enterOf, mt_at 623 (by decide +kernel) rfl, mt_at 10 (by decide +kernel) rfl, by decide +kernel⟩
section
variable {p : Program} {l : Launch} {e : Env} {R : Room} {s : State} {m : MethodId} {args : Array Value} {below : List Frame} {meth : Method} {c : Code} {H : Heap} {locs : List Loc} {cells slots : Nat} {Q : State → Prop}
variable {D : cG} {S S0 : cSt} {cc : ByteArray} {nL : Nat} {pc : Nat} {ls : Array Slot} {rest : List Value} {H0 : Heap} {nF nR nC nS : Nat} {ret : Option FieldType} {a : Nat}
theorem gk11_471 (C : cY p R s m args meth c RX11 cc nL nF nC nS nR ret) (X : cX D s) (hW : cW D S H) (hk : kK S a = 2) (hdg : decode cc pc = .ok (.getfield 471, 3)) (kk : W p l e R s m args below meth c H locs cells slots Q (F0 m (pc + 3) ls (.int (kF S a 0) :: rest))) : W p l e R s m args below meth c H locs cells slots Q (F0 m pc ls (.ref a :: rest)) := c_get C X hW 1 (by decide) ly_1 hk 0 (by decide) (mt_at 164 (by decide +kernel) (by decide +kernel)) hdg (by rw [cV_I (by decide +kernel)]; exact kk)
end
section
variable {p : Program} {l : Launch} {e : Env} {R : Room} {s : State} {m : MethodId} {args : Array Value} {below : List Frame} {meth : Method} {c : Code} {D : cG} {S0 S9 : cSt} {r : Int32}
noncomputable def fk_11_fitsByValue_214 (S : cSt) : Option (Int32 × cSt) :=
ckz (1 : Int32) (some ((1 : Int32), S))
set_option maxRecDepth 100000 in
set_option maxHeartbeats 4000000 in
theorem wk_11_fitsByValue_214 (C : cY p R s m args meth c RX11 cX11_fitsByValue 5 4 0 0 90 (some .boolean)) (X : cX D s) : ∀ {S : cSt} {H : Heap} {locs : List Loc} {ls : Array Slot}, fk_11_fitsByValue_214 S = some (r, S9) → cJ D S0 s.heap S H locs → lv_has ls 5 [] → W p l e R s m args below meth c H locs 0 0 (MQ below (kW (some (.int r)) D S0 S9) args s 0 0 (cA S0)) (F0 m 214 ls []) := by
  intro S H locs ls h hJ hl
  unfold fk_11_fitsByValue_214 at h
  refine lv_iconst (v := 1) C.1 C.2.1 dX11_fitsByValue_214 (by decide) ?_
  obtain ⟨hzo, h⟩ := ckz_ok h
  cases h
  exact c_retnW C (by rcases hzo with h9 | h9 <;> (rw [h9]; rfl)) hJ dX11_fitsByValue_215
noncomputable def fk_11_fitsByValue_113 (S : cSt) (s0 : Int32) : Option (Int32 × cSt) :=
ckz s0 (some (s0, S))
set_option maxRecDepth 100000 in
set_option maxHeartbeats 4000000 in
theorem wk_11_fitsByValue_113 (C : cY p R s m args meth c RX11 cX11_fitsByValue 5 4 0 0 90 (some .boolean)) (X : cX D s) : ∀ {S : cSt} {s0 : Int32} {H : Heap} {locs : List Loc} {ls : Array Slot}, fk_11_fitsByValue_113 S s0 = some (r, S9) → cJ D S0 s.heap S H locs → lv_has ls 5 [] → W p l e R s m args below meth c H locs 0 0 (MQ below (kW (some (.int r)) D S0 S9) args s 0 0 (cA S0)) (F0 m 113 ls [.int s0]) := by
  intro S s0 H locs ls h hJ hl
  unfold fk_11_fitsByValue_113 at h
  obtain ⟨hzo, h⟩ := ckz_ok h
  cases h
  exact c_retnW C (by rcases hzo with h9 | h9 <;> (rw [h9]; rfl)) hJ dX11_fitsByValue_113
noncomputable def fk_11_fitsByValue_112 (S : cSt) : Option (Int32 × cSt) :=
fk_11_fitsByValue_113 S (0 : Int32)
set_option maxRecDepth 100000 in
set_option maxHeartbeats 4000000 in
theorem wk_11_fitsByValue_112 (C : cY p R s m args meth c RX11 cX11_fitsByValue 5 4 0 0 90 (some .boolean)) (X : cX D s) : ∀ {S : cSt} {H : Heap} {locs : List Loc} {ls : Array Slot}, fk_11_fitsByValue_112 S = some (r, S9) → cJ D S0 s.heap S H locs → lv_has ls 5 [] → W p l e R s m args below meth c H locs 0 0 (MQ below (kW (some (.int r)) D S0 S9) args s 0 0 (cA S0)) (F0 m 112 ls []) := by
  intro S H locs ls h hJ hl
  unfold fk_11_fitsByValue_112 at h
  refine lv_iconst (v := 0) C.1 C.2.1 dX11_fitsByValue_112 (by decide) ?_
  exact wk_11_fitsByValue_113 C X h hJ (lv_sub hl [] rfl)
noncomputable def fk_11_fitsByValue_143 (S : cSt) (s0 : Int32) : Option (Int32 × cSt) :=
ckz s0 (some (s0, S))
set_option maxRecDepth 100000 in
set_option maxHeartbeats 4000000 in
theorem wk_11_fitsByValue_143 (C : cY p R s m args meth c RX11 cX11_fitsByValue 5 4 0 0 90 (some .boolean)) (X : cX D s) : ∀ {S : cSt} {s0 : Int32} {H : Heap} {locs : List Loc} {ls : Array Slot}, fk_11_fitsByValue_143 S s0 = some (r, S9) → cJ D S0 s.heap S H locs → lv_has ls 5 [] → W p l e R s m args below meth c H locs 0 0 (MQ below (kW (some (.int r)) D S0 S9) args s 0 0 (cA S0)) (F0 m 143 ls [.int s0]) := by
  intro S s0 H locs ls h hJ hl
  unfold fk_11_fitsByValue_143 at h
  obtain ⟨hzo, h⟩ := ckz_ok h
  cases h
  exact c_retnW C (by rcases hzo with h9 | h9 <;> (rw [h9]; rfl)) hJ dX11_fitsByValue_143
noncomputable def fk_11_fitsByValue_161 (S : cSt) (s0 : Int32) : Option (Int32 × cSt) :=
ckz s0 (some (s0, S))
set_option maxRecDepth 100000 in
set_option maxHeartbeats 4000000 in
theorem wk_11_fitsByValue_161 (C : cY p R s m args meth c RX11 cX11_fitsByValue 5 4 0 0 90 (some .boolean)) (X : cX D s) : ∀ {S : cSt} {s0 : Int32} {H : Heap} {locs : List Loc} {ls : Array Slot}, fk_11_fitsByValue_161 S s0 = some (r, S9) → cJ D S0 s.heap S H locs → lv_has ls 5 [] → W p l e R s m args below meth c H locs 0 0 (MQ below (kW (some (.int r)) D S0 S9) args s 0 0 (cA S0)) (F0 m 161 ls [.int s0]) := by
  intro S s0 H locs ls h hJ hl
  unfold fk_11_fitsByValue_161 at h
  obtain ⟨hzo, h⟩ := ckz_ok h
  cases h
  exact c_retnW C (by rcases hzo with h9 | h9 <;> (rw [h9]; rfl)) hJ dX11_fitsByValue_161
noncomputable def fk_11_fitsByValue_213 (S : cSt) (s0 : Int32) : Option (Int32 × cSt) :=
ckz s0 (some (s0, S))
set_option maxRecDepth 100000 in
set_option maxHeartbeats 4000000 in
theorem wk_11_fitsByValue_213 (C : cY p R s m args meth c RX11 cX11_fitsByValue 5 4 0 0 90 (some .boolean)) (X : cX D s) : ∀ {S : cSt} {s0 : Int32} {H : Heap} {locs : List Loc} {ls : Array Slot}, fk_11_fitsByValue_213 S s0 = some (r, S9) → cJ D S0 s.heap S H locs → lv_has ls 5 [] → W p l e R s m args below meth c H locs 0 0 (MQ below (kW (some (.int r)) D S0 S9) args s 0 0 (cA S0)) (F0 m 213 ls [.int s0]) := by
  intro S s0 H locs ls h hJ hl
  unfold fk_11_fitsByValue_213 at h
  obtain ⟨hzo, h⟩ := ckz_ok h
  cases h
  exact c_retnW C (by rcases hzo with h9 | h9 <;> (rw [h9]; rfl)) hJ dX11_fitsByValue_213
noncomputable def fk_11_fitsByValue_212 (S : cSt) : Option (Int32 × cSt) :=
fk_11_fitsByValue_213 S (0 : Int32)
set_option maxRecDepth 100000 in
set_option maxHeartbeats 4000000 in
theorem wk_11_fitsByValue_212 (C : cY p R s m args meth c RX11 cX11_fitsByValue 5 4 0 0 90 (some .boolean)) (X : cX D s) : ∀ {S : cSt} {H : Heap} {locs : List Loc} {ls : Array Slot}, fk_11_fitsByValue_212 S = some (r, S9) → cJ D S0 s.heap S H locs → lv_has ls 5 [] → W p l e R s m args below meth c H locs 0 0 (MQ below (kW (some (.int r)) D S0 S9) args s 0 0 (cA S0)) (F0 m 212 ls []) := by
  intro S H locs ls h hJ hl
  unfold fk_11_fitsByValue_212 at h
  refine lv_iconst (v := 0) C.1 C.2.1 dX11_fitsByValue_212 (by decide) ?_
  exact wk_11_fitsByValue_213 C X h hJ (lv_sub hl [] rfl)
noncomputable def fk_11_fitsByValue_208 (S : cSt) : Option (Int32 × cSt) :=
fk_11_fitsByValue_213 S (1 : Int32)
set_option maxRecDepth 100000 in
set_option maxHeartbeats 4000000 in
theorem wk_11_fitsByValue_208 (C : cY p R s m args meth c RX11 cX11_fitsByValue 5 4 0 0 90 (some .boolean)) (X : cX D s) : ∀ {S : cSt} {H : Heap} {locs : List Loc} {ls : Array Slot}, fk_11_fitsByValue_208 S = some (r, S9) → cJ D S0 s.heap S H locs → lv_has ls 5 [] → W p l e R s m args below meth c H locs 0 0 (MQ below (kW (some (.int r)) D S0 S9) args s 0 0 (cA S0)) (F0 m 208 ls []) := by
  intro S H locs ls h hJ hl
  unfold fk_11_fitsByValue_208 at h
  refine lv_iconst (v := 1) C.1 C.2.1 dX11_fitsByValue_208 (by decide) ?_
  refine lv_goto (tgt := 213) C.1 C.2.1 dX11_fitsByValue_209 (by decide) ?_
  exact wk_11_fitsByValue_213 C X h hJ (lv_sub hl [] rfl)
noncomputable def fk_11_fitsByValue (S : cSt) (v0 : Nat) (v1 : Nat) (v2 : Int32) : Option (Int32 × cSt) :=
ckk S v0 12 (bd (kR S v0 6) fun a1 =>
ckk S a1 2 (
ckk S v0 12 (bd (kR S v0 6) fun a2 =>
ckk S a2 2 (
lt (((kF S a1 1) * (8 : Int32)) + (kF S a2 3)) fun x3 =>
ckk S v0 12 (bd (kR S v0 6) fun a4 =>
ckk S a4 2 (
if (kF S a4 0) = (4 : Int32) then (
if v2 < (1 : Int32) then (
fk_11_fitsByValue_112 S)
else (
if (1000 : Int32) < v2 then (
fk_11_fitsByValue_112 S)
else (
fk_11_fitsByValue_113 S (1 : Int32))))
else if (kF S a4 0) = (5 : Int32) then (
ckk S v0 12 (bd (fk_11_isOwned S v0 v1 v2) fun q_r11 => lt q_r11.1 fun r11 => lt q_r11.2 fun S10 =>
ckz r11 (some (r11, S10))))
else if (kF S a4 0) = (6 : Int32) then (
fk_11_fitsByValue_214 S)
else if (kF S a4 0) = (7 : Int32) then (
bd (fk_11_isKey v2) fun r14 =>
ckz r14 (some (r14, S)))
else if (kF S a4 0) = (8 : Int32) then (
ckk S v1 8 (bd (kR S v1 2) fun a16 =>
ckk S a16 11 (bd (fk_10_enterOf S a16 x3 v2) fun q_o18 => lt q_o18.1 fun o18 => lt q_o18.2 fun S17 =>
cs o18 (
fk_11_fitsByValue_143 S17 (0 : Int32)) (fun a19 =>
fk_11_fitsByValue_143 S17 (1 : Int32)))))
else if (kF S a4 0) = (9 : Int32) then (
fk_11_fitsByValue_214 S)
else if (kF S a4 0) = (10 : Int32) then (
fk_11_fitsByValue_214 S)
else if (kF S a4 0) = (11 : Int32) then (
fk_11_fitsByValue_214 S)
else if (kF S a4 0) = (12 : Int32) then (
fk_11_fitsByValue_214 S)
else if (kF S a4 0) = (13 : Int32) then (
fk_11_fitsByValue_214 S)
else if (kF S a4 0) = (14 : Int32) then (
fk_11_fitsByValue_214 S)
else if (kF S a4 0) = (15 : Int32) then (
fk_11_fitsByValue_214 S)
else if (kF S a4 0) = (16 : Int32) then (
ckk S v1 8 (bd (kR S v1 2) fun a28 =>
ckk S a28 11 (bd (fk_10_bindOf S a28 x3 v2) fun o29 =>
cs o29 (
fk_11_fitsByValue_161 S (0 : Int32)) (fun a30 =>
fk_11_fitsByValue_161 S (1 : Int32)))))
else if (kF S a4 0) = (17 : Int32) then (
ckk S v1 8 (bd (kR S v1 2) fun a32 =>
ckk S v0 12 (bd (kR S v0 6) fun a33 =>
ckk S a33 2 (
ckk S v1 8 (bd (fk_7_timeNow S v1) fun r34 =>
ckk S a32 11 (bd (fk_10_holderOf S a32 (kF S a33 1) r34) fun r35 =>
if v2 < (1 : Int32) then (
fk_11_fitsByValue_212 S)
else (
if (100 : Int32) < v2 then (
fk_11_fitsByValue_212 S)
else (
if r35 = (-1 : Int32) then (
fk_11_fitsByValue_208 S)
else (
ckk S v1 8 (
if r35 = (kF S v1 0) then (
fk_11_fitsByValue_208 S)
else (
fk_11_fitsByValue_212 S)))))))))))
else (
fk_11_fitsByValue_214 S)))))))
set_option maxRecDepth 100000 in
set_option maxHeartbeats 4000000 in
theorem tk_11_fitsByValue (l : Launch) {D : cG} {S : cSt} {v0 : Nat} {v1 : Nat} {v2 : Int32} {r : Int32} {S9 : cSt} (h : fk_11_fitsByValue S v0 v1 v2 = some (r, S9)) : Met l yX11_fitsByValue (Cond.code yX11_fitsByValue cX11_fitsByValue 5 (some .boolean) :: lw_g) { frames := 4, cells := 0, slots := 0, locals := 90 } (kPi [.ref v0, .ref v1, .int v2] D S) (kW (some (.int r)) D S S9) 0 0 (cA S) := by
  refine Met.ofW (cc := cX11_fitsByValue) (maxL := 5) (ret := (some .boolean)) (by decide) rfl ?_
  intro p e s m args below meth c s₁ B hml hv
  obtain ⟨rfl, hW, X⟩ := hv
  have C : cY p (headSpec (Cond.code yX11_fitsByValue cX11_fitsByValue 5 (some .boolean) :: lw_g) { frames := 4, cells := 0, slots := 0, locals := 90 }).room s m _ meth c RX11 cX11_fitsByValue 5 4 0 0 90 (some .boolean) := ⟨B.exec, B.bytes, hml, findClass_of_methodNamed B.named, fun w hw => atoms_spec (ws := Cond.code yX11_fitsByValue cX11_fitsByValue 5 (some .boolean) :: lw_g) B.pre w (List.mem_cons_of_mem _ hw), ⟨Nat.le_refl _, Nat.le_refl _, Nat.le_refl _, Nat.le_refl _⟩, B.returns, B.notSynchronized⟩
  have hl := lv_entry ([.ref v0, .ref v1, .int v2]) (n := 5) (Nat.le_of_ble_eq_true rfl)
  rw [lg_entry_eq]
  generalize (lg_sl ([.ref v0, .ref v1, .int v2]) ++ List.replicate (5 - (lg_sl ([.ref v0, .ref v1, .int v2])).length) Slot.unset).toArray = ls at hl ⊢
  have hl : lv_has ls 5 [(0, .ref v0), (1, .ref v1), (2, .int v2)] := hl
  have hJ : cJ D S s.heap S s.heap [] := cJ.rf hW
  unfold fk_11_fitsByValue at h
  refine lv_aload_n C.1 C.2.1 dX11_fitsByValue_0 rfl (lv_at hl 0 rfl) ?_
  obtain ⟨hk, h⟩ := ckk_ok h
  obtain ⟨a1, h_a1, h⟩ := bd_ok h
  refine gk11_48 C X hJ.1 hk h_a1 dX11_fitsByValue_1 ?_
  obtain ⟨hk, h⟩ := ckk_ok h
  refine gk11_150 C X hJ.1 hk dX11_fitsByValue_4 ?_
  refine lv_bipush (v := 8) C.1 C.2.1 dX11_fitsByValue_7 (by decide) ?_
  refine lv_imul C.1 C.2.1 dX11_fitsByValue_9 ?_
  refine lv_aload_n C.1 C.2.1 dX11_fitsByValue_10 rfl (lv_at hl 0 rfl) ?_
  obtain ⟨hk, h⟩ := ckk_ok h
  obtain ⟨a2, h_a2, h⟩ := bd_ok h
  refine gk11_48 C X hJ.1 hk h_a2 dX11_fitsByValue_11 ?_
  obtain ⟨hk, h⟩ := ckk_ok h
  refine gk11_496 C X hJ.1 hk dX11_fitsByValue_14 ?_
  refine lv_iadd C.1 C.2.1 dX11_fitsByValue_17 ?_
  refine lt_ok h (fun x3 e_x3 h => ?_)
  refine lv_nm e_x3 ?_
  refine lv_istore_n (lv' := [(3, .int x3), (0, .ref v0), (1, .ref v1), (2, .int v2)]) C.1 C.2.1 dX11_fitsByValue_18 rfl hl (by decide) rfl (fun ls hl => ?_)
  refine lv_aload_n C.1 C.2.1 dX11_fitsByValue_19 rfl (lv_at hl 1 rfl) ?_
  obtain ⟨hk, h⟩ := ckk_ok h
  obtain ⟨a4, h_a4, h⟩ := bd_ok h
  refine gk11_48 C X hJ.1 hk h_a4 dX11_fitsByValue_20 ?_
  obtain ⟨hk, h⟩ := ckk_ok h
  refine gk11_471 C X hJ.1 hk dX11_fitsByValue_23 ?_
  by_cases c5 : (kF S a4 0) = (4 : Int32)
  · have h := if_t h c5
    refine lv_tableIn (off := 70) (tgt := 96) C.1 C.2.1 dX11_fitsByValue_26 (by rw [c5]; decide) (by rw [c5]; decide) (by rw [c5]; rfl) (by decide) ?_
    refine lv_iload_n C.1 C.2.1 dX11_fitsByValue_96 rfl (lv_at hl 3 rfl) ?_
    refine lv_iconst (v := 1) C.1 C.2.1 dX11_fitsByValue_97 (by decide) ?_
    refine lv_icmp_lt (tgt := 112) C.1 C.2.1 dX11_fitsByValue_98 (by decide) (fun c6 => ?_) (fun c6 => ?_)
    · have h := if_t h c6
      exact wk_11_fitsByValue_112 C X h hJ (lv_sub hl [] rfl)
    · have h := if_f h c6
      refine lv_iload_n C.1 C.2.1 dX11_fitsByValue_101 rfl (lv_at hl 3 rfl) ?_
      refine lv_sipush (v := 1000) C.1 C.2.1 dX11_fitsByValue_102 (by decide) ?_
      refine lv_icmp_gt (tgt := 112) C.1 C.2.1 dX11_fitsByValue_105 (by decide) (fun c7 => ?_) (fun c7 => ?_)
      · have h := if_t h c7
        exact wk_11_fitsByValue_112 C X h hJ (lv_sub hl [] rfl)
      · have h := if_f h c7
        refine lv_iconst (v := 1) C.1 C.2.1 dX11_fitsByValue_108 (by decide) ?_
        refine lv_goto (tgt := 113) C.1 C.2.1 dX11_fitsByValue_109 (by decide) ?_
        exact wk_11_fitsByValue_113 C X h hJ (lv_sub hl [] rfl)
  · have h := if_f h c5
    by_cases c8 : (kF S a4 0) = (5 : Int32)
    · have h := if_t h c8
      refine lv_tableIn (off := 88) (tgt := 114) C.1 C.2.1 dX11_fitsByValue_26 (by rw [c8]; decide) (by rw [c8]; decide) (by rw [c8]; rfl) (by decide) ?_
      refine lv_aload_n C.1 C.2.1 dX11_fitsByValue_114 rfl (lv_at hl 1 rfl) ?_
      refine lv_aload_n C.1 C.2.1 dX11_fitsByValue_115 rfl (lv_at hl 2 rfl) ?_
      refine lv_iload_n C.1 C.2.1 dX11_fitsByValue_116 rfl (lv_at hl 3 rfl) ?_
      obtain ⟨hk, h⟩ := ckk_ok h
      obtain ⟨⟨r11, S10⟩, h_S10, h⟩ := bd_ok h
      replace h := lt2_ok h
      refine c_callW (rest := []) C X hJ hl.1 11 (by decide) hk [.ref v1, .int v2] (tk_11_isOwned l h_S10) cw11_490 ki_11_isOwned kl_11_isOwned rfl ⟨by decide, by decide⟩ ⟨(by decide), (by decide)⟩ rfl (Nat.le_of_ble_eq_true rfl) dX11_fitsByValue_117 (fun H locs hJ => ?_)
      refine W.eq (g2 := F0 m 120 ls [.int r11]) rfl ?_
      obtain ⟨hzo, h⟩ := ckz_ok h
      cases h
      exact c_retnW C (by rcases hzo with h9 | h9 <;> (rw [h9]; rfl)) hJ dX11_fitsByValue_120
    · have h := if_f h c8
      by_cases c12 : (kF S a4 0) = (6 : Int32)
      · have h := if_t h c12
        refine lv_tableIn (off := 188) (tgt := 214) C.1 C.2.1 dX11_fitsByValue_26 (by rw [c12]; decide) (by rw [c12]; decide) (by rw [c12]; rfl) (by decide) ?_
        exact wk_11_fitsByValue_214 C X h hJ (lv_sub hl [] rfl)
      · have h := if_f h c12
        by_cases c13 : (kF S a4 0) = (7 : Int32)
        · have h := if_t h c13
          refine lv_tableIn (off := 95) (tgt := 121) C.1 C.2.1 dX11_fitsByValue_26 (by rw [c13]; decide) (by rw [c13]; decide) (by rw [c13]; rfl) (by decide) ?_
          refine lv_iload_n C.1 C.2.1 dX11_fitsByValue_121 rfl (lv_at hl 3 rfl) ?_
          obtain ⟨r14, h_r14, h⟩ := bd_ok h
          refine c_callS (rest := []) C hl.1 [.int v2] (tk_11_isKey l h_r14) cw11_487 ks_11_isKey rfl ⟨by decide, by decide⟩ ⟨(by decide), (by decide)⟩ rfl (Nat.le_of_ble_eq_true rfl) dX11_fitsByValue_122 ?_
          refine W.eq (g2 := F0 m 125 ls [.int r14]) rfl ?_
          obtain ⟨hzo, h⟩ := ckz_ok h
          cases h
          exact c_retnW C (by rcases hzo with h9 | h9 <;> (rw [h9]; rfl)) hJ dX11_fitsByValue_125
        · have h := if_f h c13
          by_cases c15 : (kF S a4 0) = (8 : Int32)
          · have h := if_t h c15
            refine lv_tableIn (off := 100) (tgt := 126) C.1 C.2.1 dX11_fitsByValue_26 (by rw [c15]; decide) (by rw [c15]; decide) (by rw [c15]; rfl) (by decide) ?_
            refine lv_aload_n C.1 C.2.1 dX11_fitsByValue_126 rfl (lv_at hl 2 rfl) ?_
            obtain ⟨hk, h⟩ := ckk_ok h
            obtain ⟨a16, h_a16, h⟩ := bd_ok h
            refine gk11_147 C X hJ.1 hk h_a16 dX11_fitsByValue_127 ?_
            refine lv_iload_n C.1 C.2.1 dX11_fitsByValue_130 rfl (lv_at hl 0 rfl) ?_
            refine lv_iload_n C.1 C.2.1 dX11_fitsByValue_131 rfl (lv_at hl 3 rfl) ?_
            obtain ⟨hk, h⟩ := ckk_ok h
            obtain ⟨⟨o18, S17⟩, h_S17, h⟩ := bd_ok h
            replace h := lt2_ok h
            refine c_callW (rest := []) C X hJ hl.1 10 (by decide) hk [.int x3, .int v2] (tk_10_enterOf l h_S17) cw11_497 ki_10_enterOf kl_10_enterOf rfl ⟨by decide, by decide⟩ ⟨(by decide), (by decide)⟩ rfl (Nat.le_of_ble_eq_true rfl) dX11_fitsByValue_132 (fun H locs hJ => ?_)
            refine W.eq (g2 := F0 m 135 ls [va_rf o18]) rfl ?_
            rcases o18 with _ | a19
            · replace h := cs_n h
              refine lv_ifnullN (tgt := 142) C.1 C.2.1 dX11_fitsByValue_135 (by decide) ?_
              refine lv_iconst (v := 0) C.1 C.2.1 dX11_fitsByValue_142 (by decide) ?_
              exact wk_11_fitsByValue_143 C X h hJ (lv_sub hl [] rfl)
            · replace h := cs_s h
              refine lv_ifnull C.1 C.2.1 dX11_fitsByValue_135 ?_
              refine lv_iconst (v := 1) C.1 C.2.1 dX11_fitsByValue_138 (by decide) ?_
              refine lv_goto (tgt := 143) C.1 C.2.1 dX11_fitsByValue_139 (by decide) ?_
              exact wk_11_fitsByValue_143 C X h hJ (lv_sub hl [] rfl)
          · have h := if_f h c15
            by_cases c20 : (kF S a4 0) = (9 : Int32)
            · have h := if_t h c20
              refine lv_tableIn (off := 188) (tgt := 214) C.1 C.2.1 dX11_fitsByValue_26 (by rw [c20]; decide) (by rw [c20]; decide) (by rw [c20]; rfl) (by decide) ?_
              exact wk_11_fitsByValue_214 C X h hJ (lv_sub hl [] rfl)
            · have h := if_f h c20
              by_cases c21 : (kF S a4 0) = (10 : Int32)
              · have h := if_t h c21
                refine lv_tableIn (off := 188) (tgt := 214) C.1 C.2.1 dX11_fitsByValue_26 (by rw [c21]; decide) (by rw [c21]; decide) (by rw [c21]; rfl) (by decide) ?_
                exact wk_11_fitsByValue_214 C X h hJ (lv_sub hl [] rfl)
              · have h := if_f h c21
                by_cases c22 : (kF S a4 0) = (11 : Int32)
                · have h := if_t h c22
                  refine lv_tableIn (off := 188) (tgt := 214) C.1 C.2.1 dX11_fitsByValue_26 (by rw [c22]; decide) (by rw [c22]; decide) (by rw [c22]; rfl) (by decide) ?_
                  exact wk_11_fitsByValue_214 C X h hJ (lv_sub hl [] rfl)
                · have h := if_f h c22
                  by_cases c23 : (kF S a4 0) = (12 : Int32)
                  · have h := if_t h c23
                    refine lv_tableIn (off := 188) (tgt := 214) C.1 C.2.1 dX11_fitsByValue_26 (by rw [c23]; decide) (by rw [c23]; decide) (by rw [c23]; rfl) (by decide) ?_
                    exact wk_11_fitsByValue_214 C X h hJ (lv_sub hl [] rfl)
                  · have h := if_f h c23
                    by_cases c24 : (kF S a4 0) = (13 : Int32)
                    · have h := if_t h c24
                      refine lv_tableIn (off := 188) (tgt := 214) C.1 C.2.1 dX11_fitsByValue_26 (by rw [c24]; decide) (by rw [c24]; decide) (by rw [c24]; rfl) (by decide) ?_
                      exact wk_11_fitsByValue_214 C X h hJ (lv_sub hl [] rfl)
                    · have h := if_f h c24
                      by_cases c25 : (kF S a4 0) = (14 : Int32)
                      · have h := if_t h c25
                        refine lv_tableIn (off := 188) (tgt := 214) C.1 C.2.1 dX11_fitsByValue_26 (by rw [c25]; decide) (by rw [c25]; decide) (by rw [c25]; rfl) (by decide) ?_
                        exact wk_11_fitsByValue_214 C X h hJ (lv_sub hl [] rfl)
                      · have h := if_f h c25
                        by_cases c26 : (kF S a4 0) = (15 : Int32)
                        · have h := if_t h c26
                          refine lv_tableIn (off := 188) (tgt := 214) C.1 C.2.1 dX11_fitsByValue_26 (by rw [c26]; decide) (by rw [c26]; decide) (by rw [c26]; rfl) (by decide) ?_
                          exact wk_11_fitsByValue_214 C X h hJ (lv_sub hl [] rfl)
                        · have h := if_f h c26
                          by_cases c27 : (kF S a4 0) = (16 : Int32)
                          · have h := if_t h c27
                            refine lv_tableIn (off := 118) (tgt := 144) C.1 C.2.1 dX11_fitsByValue_26 (by rw [c27]; decide) (by rw [c27]; decide) (by rw [c27]; rfl) (by decide) ?_
                            refine lv_aload_n C.1 C.2.1 dX11_fitsByValue_144 rfl (lv_at hl 2 rfl) ?_
                            obtain ⟨hk, h⟩ := ckk_ok h
                            obtain ⟨a28, h_a28, h⟩ := bd_ok h
                            refine gk11_147 C X hJ.1 hk h_a28 dX11_fitsByValue_145 ?_
                            refine lv_iload_n C.1 C.2.1 dX11_fitsByValue_148 rfl (lv_at hl 0 rfl) ?_
                            refine lv_iload_n C.1 C.2.1 dX11_fitsByValue_149 rfl (lv_at hl 3 rfl) ?_
                            obtain ⟨hk, h⟩ := ckk_ok h
                            obtain ⟨o29, h_o29, h⟩ := bd_ok h
                            refine c_callR (rest := []) C X hJ.1 hl.1 10 (by decide) hk [.int x3, .int v2] (tk_10_bindOf l h_o29) cw11_345 ki_10_bindOf kl_10_bindOf rfl ⟨by decide, by decide⟩ ⟨(by decide), (by decide)⟩ rfl (Nat.le_of_ble_eq_true rfl) dX11_fitsByValue_150 ?_
                            refine W.eq (g2 := F0 m 153 ls [va_rf o29]) rfl ?_
                            rcases o29 with _ | a30
                            · replace h := cs_n h
                              refine lv_ifnullN (tgt := 160) C.1 C.2.1 dX11_fitsByValue_153 (by decide) ?_
                              refine lv_iconst (v := 0) C.1 C.2.1 dX11_fitsByValue_160 (by decide) ?_
                              exact wk_11_fitsByValue_161 C X h hJ (lv_sub hl [] rfl)
                            · replace h := cs_s h
                              refine lv_ifnull C.1 C.2.1 dX11_fitsByValue_153 ?_
                              refine lv_iconst (v := 1) C.1 C.2.1 dX11_fitsByValue_156 (by decide) ?_
                              refine lv_goto (tgt := 161) C.1 C.2.1 dX11_fitsByValue_157 (by decide) ?_
                              exact wk_11_fitsByValue_161 C X h hJ (lv_sub hl [] rfl)
                          · have h := if_f h c27
                            by_cases c31 : (kF S a4 0) = (17 : Int32)
                            · have h := if_t h c31
                              refine lv_tableIn (off := 136) (tgt := 162) C.1 C.2.1 dX11_fitsByValue_26 (by rw [c31]; decide) (by rw [c31]; decide) (by rw [c31]; rfl) (by decide) ?_
                              refine lv_aload_n C.1 C.2.1 dX11_fitsByValue_162 rfl (lv_at hl 2 rfl) ?_
                              obtain ⟨hk, h⟩ := ckk_ok h
                              obtain ⟨a32, h_a32, h⟩ := bd_ok h
                              refine gk11_147 C X hJ.1 hk h_a32 dX11_fitsByValue_163 ?_
                              refine lv_aload_n C.1 C.2.1 dX11_fitsByValue_166 rfl (lv_at hl 1 rfl) ?_
                              obtain ⟨hk, h⟩ := ckk_ok h
                              obtain ⟨a33, h_a33, h⟩ := bd_ok h
                              refine gk11_48 C X hJ.1 hk h_a33 dX11_fitsByValue_167 ?_
                              obtain ⟨hk, h⟩ := ckk_ok h
                              refine gk11_150 C X hJ.1 hk dX11_fitsByValue_170 ?_
                              refine lv_aload_n C.1 C.2.1 dX11_fitsByValue_173 rfl (lv_at hl 2 rfl) ?_
                              obtain ⟨hk, h⟩ := ckk_ok h
                              obtain ⟨r34, h_r34, h⟩ := bd_ok h
                              refine c_callR (rest := [.int (kF S a33 1), .ref a32]) C X hJ.1 hl.1 7 (by decide) hk [] (tk_7_timeNow l h_r34) cw11_310 ki_7_timeNow kl_7_timeNow rfl ⟨by decide, by decide⟩ ⟨(by decide), (by decide)⟩ rfl (Nat.le_of_ble_eq_true rfl) dX11_fitsByValue_174 ?_
                              refine W.eq (g2 := F0 m 177 ls [.int r34, .int (kF S a33 1), .ref a32]) rfl ?_
                              obtain ⟨hk, h⟩ := ckk_ok h
                              obtain ⟨r35, h_r35, h⟩ := bd_ok h
                              refine c_callR (rest := []) C X hJ.1 hl.1 10 (by decide) hk [.int (kF S a33 1), .int r34] (tk_10_holderOf l h_r35) cw11_313 ki_10_holderOf kl_10_holderOf rfl ⟨by decide, by decide⟩ ⟨(by decide), (by decide)⟩ rfl (Nat.le_of_ble_eq_true rfl) dX11_fitsByValue_177 ?_
                              refine W.eq (g2 := F0 m 180 ls [.int r35]) rfl ?_
                              refine lv_istore (lv' := [(4, .int r35), (3, .int x3), (0, .ref v0), (1, .ref v1), (2, .int v2)]) C.1 C.2.1 dX11_fitsByValue_180 hl (by decide) rfl (fun ls hl => ?_)
                              refine lv_iload_n C.1 C.2.1 dX11_fitsByValue_182 rfl (lv_at hl 4 rfl) ?_
                              refine lv_iconst (v := 1) C.1 C.2.1 dX11_fitsByValue_183 (by decide) ?_
                              refine lv_icmp_lt (tgt := 212) C.1 C.2.1 dX11_fitsByValue_184 (by decide) (fun c36 => ?_) (fun c36 => ?_)
                              · have h := if_t h c36
                                exact wk_11_fitsByValue_212 C X h hJ (lv_sub hl [] rfl)
                              · have h := if_f h c36
                                refine lv_iload_n C.1 C.2.1 dX11_fitsByValue_187 rfl (lv_at hl 4 rfl) ?_
                                refine lv_bipush (v := 100) C.1 C.2.1 dX11_fitsByValue_188 (by decide) ?_
                                refine lv_icmp_gt (tgt := 212) C.1 C.2.1 dX11_fitsByValue_190 (by decide) (fun c37 => ?_) (fun c37 => ?_)
                                · have h := if_t h c37
                                  exact wk_11_fitsByValue_212 C X h hJ (lv_sub hl [] rfl)
                                · have h := if_f h c37
                                  refine lv_iload C.1 C.2.1 dX11_fitsByValue_193 (lv_at hl 0 rfl) ?_
                                  refine lv_iconst (v := -1) C.1 C.2.1 dX11_fitsByValue_195 (by decide) ?_
                                  refine lv_icmp_eq (tgt := 208) C.1 C.2.1 dX11_fitsByValue_196 (by decide) (fun c38 => ?_) (fun c38 => ?_)
                                  · have h := if_t h c38
                                    exact wk_11_fitsByValue_208 C X h hJ (lv_sub hl [] rfl)
                                  · have h := if_f h c38
                                    refine lv_iload C.1 C.2.1 dX11_fitsByValue_199 (lv_at hl 0 rfl) ?_
                                    refine lv_aload_n C.1 C.2.1 dX11_fitsByValue_201 rfl (lv_at hl 3 rfl) ?_
                                    obtain ⟨hk, h⟩ := ckk_ok h
                                    refine gk11_262 C X hJ.1 hk dX11_fitsByValue_202 ?_
                                    refine lv_icmp_ne (tgt := 212) C.1 C.2.1 dX11_fitsByValue_205 (by decide) (fun c39 => ?_) (fun c39 => ?_)
                                    · have h := if_f h c39
                                      exact wk_11_fitsByValue_212 C X h hJ (lv_sub hl [] rfl)
                                    · have h := if_t h c39
                                      exact wk_11_fitsByValue_208 C X h hJ (lv_sub hl [] rfl)
                            · have h := if_f h c31
                              have n_c5 := lv_neT c5 (a := 4) rfl
                              have n_c8 := lv_neT c8 (a := 5) rfl
                              have n_c12 := lv_neT c12 (a := 6) rfl
                              have n_c13 := lv_neT c13 (a := 7) rfl
                              have n_c15 := lv_neT c15 (a := 8) rfl
                              have n_c20 := lv_neT c20 (a := 9) rfl
                              have n_c21 := lv_neT c21 (a := 10) rfl
                              have n_c22 := lv_neT c22 (a := 11) rfl
                              have n_c23 := lv_neT c23 (a := 12) rfl
                              have n_c24 := lv_neT c24 (a := 13) rfl
                              have n_c25 := lv_neT c25 (a := 14) rfl
                              have n_c26 := lv_neT c26 (a := 15) rfl
                              have n_c27 := lv_neT c27 (a := 16) rfl
                              have n_c31 := lv_neT c31 (a := 17) rfl
                              refine lv_tableOut (tgt := 214) C.1 C.2.1 dX11_fitsByValue_26 (by omega) (by decide) ?_
                              exact wk_11_fitsByValue_214 C X h hJ (lv_sub hl [] rfl)
end
theorem dX11_fits_0 : decode cX11_fits 0 = .ok (.aload_n 0, 1) := by decide +kernel
theorem dX11_fits_1 : decode cX11_fits 1 = .ok (.getfield 48, 3) := by decide +kernel
theorem dX11_fits_4 : decode cX11_fits 4 = .ok (.getfield 471, 3) := by decide +kernel
theorem dX11_fits_7 : decode cX11_fits 7 = .ok (.tableswitch 234 6 18 #[155, 234, 234, 65, 73, 234, 201, 80, 107, 134, 234, 234, 203], 65) := by decide +kernel
theorem dX11_fits_72 : decode cX11_fits 72 = .ok (.aload_n 0, 1) := by decide +kernel
theorem dX11_fits_73 : decode cX11_fits 73 = .ok (.aload_n 1, 1) := by decide +kernel
theorem dX11_fits_74 : decode cX11_fits 74 = .ok (.iload_n 2, 1) := by decide +kernel
theorem dX11_fits_75 : decode cX11_fits 75 = .ok (.iload_n 3, 1) := by decide +kernel
theorem dX11_fits_76 : decode cX11_fits 76 = .ok (.invokevirtual 472, 3) := by decide +kernel
theorem dX11_fits_79 : decode cX11_fits 79 = .ok (.ireturn, 1) := by decide +kernel
theorem dX11_fits_80 : decode cX11_fits 80 = .ok (.aload_n 0, 1) := by decide +kernel
theorem dX11_fits_81 : decode cX11_fits 81 = .ok (.aload_n 1, 1) := by decide +kernel
theorem dX11_fits_82 : decode cX11_fits 82 = .ok (.iload_n 3, 1) := by decide +kernel
theorem dX11_fits_83 : decode cX11_fits 83 = .ok (.invokevirtual 475, 3) := by decide +kernel
theorem dX11_fits_86 : decode cX11_fits 86 = .ok (.ireturn, 1) := by decide +kernel
theorem dX11_fits_87 : decode cX11_fits 87 = .ok (.aload_n 0, 1) := by decide +kernel
theorem dX11_fits_88 : decode cX11_fits 88 = .ok (.getfield 48, 3) := by decide +kernel
theorem dX11_fits_91 : decode cX11_fits 91 = .ok (.aload_n 1, 1) := by decide +kernel
theorem dX11_fits_92 : decode cX11_fits 92 = .ok (.invokevirtual 479, 3) := by decide +kernel
theorem dX11_fits_95 : decode cX11_fits 95 = .ok (.putfield 482, 3) := by decide +kernel
theorem dX11_fits_98 : decode cX11_fits 98 = .ok (.aload_n 0, 1) := by decide +kernel
theorem dX11_fits_99 : decode cX11_fits 99 = .ok (.getfield 48, 3) := by decide +kernel
theorem dX11_fits_102 : decode cX11_fits 102 = .ok (.getfield 482, 3) := by decide +kernel
theorem dX11_fits_105 : decode cX11_fits 105 = .ok (.ifCond .lt 7, 3) := by decide +kernel
theorem dX11_fits_108 : decode cX11_fits 108 = .ok (.iconst 1, 1) := by decide +kernel
theorem dX11_fits_109 : decode cX11_fits 109 = .ok (.goto 4, 3) := by decide +kernel
theorem dX11_fits_112 : decode cX11_fits 112 = .ok (.iconst 0, 1) := by decide +kernel
theorem dX11_fits_113 : decode cX11_fits 113 = .ok (.ireturn, 1) := by decide +kernel
theorem dX11_fits_114 : decode cX11_fits 114 = .ok (.aload_n 0, 1) := by decide +kernel
theorem dX11_fits_115 : decode cX11_fits 115 = .ok (.getfield 48, 3) := by decide +kernel
theorem dX11_fits_118 : decode cX11_fits 118 = .ok (.aload_n 1, 1) := by decide +kernel
theorem dX11_fits_119 : decode cX11_fits 119 = .ok (.invokevirtual 483, 3) := by decide +kernel
theorem dX11_fits_122 : decode cX11_fits 122 = .ok (.putfield 482, 3) := by decide +kernel
theorem dX11_fits_125 : decode cX11_fits 125 = .ok (.aload_n 0, 1) := by decide +kernel
theorem dX11_fits_126 : decode cX11_fits 126 = .ok (.getfield 48, 3) := by decide +kernel
theorem dX11_fits_129 : decode cX11_fits 129 = .ok (.getfield 482, 3) := by decide +kernel
theorem dX11_fits_132 : decode cX11_fits 132 = .ok (.ifCond .lt 7, 3) := by decide +kernel
theorem dX11_fits_135 : decode cX11_fits 135 = .ok (.iconst 1, 1) := by decide +kernel
theorem dX11_fits_136 : decode cX11_fits 136 = .ok (.goto 4, 3) := by decide +kernel
theorem dX11_fits_139 : decode cX11_fits 139 = .ok (.iconst 0, 1) := by decide +kernel
theorem dX11_fits_140 : decode cX11_fits 140 = .ok (.ireturn, 1) := by decide +kernel
theorem dX11_fits_141 : decode cX11_fits 141 = .ok (.aload_n 0, 1) := by decide +kernel
theorem dX11_fits_142 : decode cX11_fits 142 = .ok (.getfield 48, 3) := by decide +kernel
theorem dX11_fits_145 : decode cX11_fits 145 = .ok (.iload_n 2, 1) := by decide +kernel
theorem dX11_fits_146 : decode cX11_fits 146 = .ok (.putfield 486, 3) := by decide +kernel
theorem dX11_fits_149 : decode cX11_fits 149 = .ok (.aload_n 0, 1) := by decide +kernel
theorem dX11_fits_150 : decode cX11_fits 150 = .ok (.getfield 48, 3) := by decide +kernel
theorem dX11_fits_153 : decode cX11_fits 153 = .ok (.iload_n 3, 1) := by decide +kernel
theorem dX11_fits_154 : decode cX11_fits 154 = .ok (.putfield 482, 3) := by decide +kernel
theorem dX11_fits_157 : decode cX11_fits 157 = .ok (.iload_n 2, 1) := by decide +kernel
theorem dX11_fits_158 : decode cX11_fits 158 = .ok (.invokestatic 487, 3) := by decide +kernel
theorem dX11_fits_161 : decode cX11_fits 161 = .ok (.ireturn, 1) := by decide +kernel
theorem dX11_fits_162 : decode cX11_fits 162 = .ok (.aload_n 0, 1) := by decide +kernel
theorem dX11_fits_163 : decode cX11_fits 163 = .ok (.getfield 48, 3) := by decide +kernel
theorem dX11_fits_166 : decode cX11_fits 166 = .ok (.iload_n 2, 1) := by decide +kernel
theorem dX11_fits_167 : decode cX11_fits 167 = .ok (.putfield 486, 3) := by decide +kernel
theorem dX11_fits_170 : decode cX11_fits 170 = .ok (.aload_n 0, 1) := by decide +kernel
theorem dX11_fits_171 : decode cX11_fits 171 = .ok (.getfield 48, 3) := by decide +kernel
theorem dX11_fits_174 : decode cX11_fits 174 = .ok (.iload_n 3, 1) := by decide +kernel
theorem dX11_fits_175 : decode cX11_fits 175 = .ok (.putfield 482, 3) := by decide +kernel
theorem dX11_fits_178 : decode cX11_fits 178 = .ok (.iload_n 3, 1) := by decide +kernel
theorem dX11_fits_179 : decode cX11_fits 179 = .ok (.invokestatic 112, 3) := by decide +kernel
theorem dX11_fits_182 : decode cX11_fits 182 = .ok (.ifCond .eq 24, 3) := by decide +kernel
theorem dX11_fits_185 : decode cX11_fits 185 = .ok (.iload_n 3, 1) := by decide +kernel
theorem dX11_fits_186 : decode cX11_fits 186 = .ok (.aload_n 1, 1) := by decide +kernel
theorem dX11_fits_187 : decode cX11_fits 187 = .ok (.getfield 262, 3) := by decide +kernel
theorem dX11_fits_190 : decode cX11_fits 190 = .ok (.if_icmp .eq 16, 3) := by decide +kernel
theorem dX11_fits_193 : decode cX11_fits 193 = .ok (.aload_n 0, 1) := by decide +kernel
theorem dX11_fits_194 : decode cX11_fits 194 = .ok (.aload_n 1, 1) := by decide +kernel
theorem dX11_fits_195 : decode cX11_fits 195 = .ok (.iload_n 2, 1) := by decide +kernel
theorem dX11_fits_196 : decode cX11_fits 196 = .ok (.invokevirtual 490, 3) := by decide +kernel
theorem dX11_fits_199 : decode cX11_fits 199 = .ok (.ifCond .eq 7, 3) := by decide +kernel
theorem dX11_fits_202 : decode cX11_fits 202 = .ok (.iconst 1, 1) := by decide +kernel
theorem dX11_fits_203 : decode cX11_fits 203 = .ok (.goto 4, 3) := by decide +kernel
theorem dX11_fits_206 : decode cX11_fits 206 = .ok (.iconst 0, 1) := by decide +kernel
theorem dX11_fits_207 : decode cX11_fits 207 = .ok (.ireturn, 1) := by decide +kernel
theorem dX11_fits_208 : decode cX11_fits 208 = .ok (.iconst 1, 1) := by decide +kernel
theorem dX11_fits_209 : decode cX11_fits 209 = .ok (.ireturn, 1) := by decide +kernel
theorem dX11_fits_210 : decode cX11_fits 210 = .ok (.aload_n 1, 1) := by decide +kernel
theorem dX11_fits_211 : decode cX11_fits 211 = .ok (.getfield 147, 3) := by decide +kernel
theorem dX11_fits_214 : decode cX11_fits 214 = .ok (.aload_n 0, 1) := by decide +kernel
theorem dX11_fits_215 : decode cX11_fits 215 = .ok (.getfield 48, 3) := by decide +kernel
theorem dX11_fits_218 : decode cX11_fits 218 = .ok (.getfield 150, 3) := by decide +kernel
theorem dX11_fits_221 : decode cX11_fits 221 = .ok (.aload_n 1, 1) := by decide +kernel
theorem dX11_fits_222 : decode cX11_fits 222 = .ok (.invokevirtual 310, 3) := by decide +kernel
theorem dX11_fits_225 : decode cX11_fits 225 = .ok (.invokevirtual 313, 3) := by decide +kernel
theorem dX11_fits_228 : decode cX11_fits 228 = .ok (.aload_n 1, 1) := by decide +kernel
theorem dX11_fits_229 : decode cX11_fits 229 = .ok (.getfield 262, 3) := by decide +kernel
theorem dX11_fits_232 : decode cX11_fits 232 = .ok (.if_icmp .ne 7, 3) := by decide +kernel
theorem dX11_fits_235 : decode cX11_fits 235 = .ok (.iconst 1, 1) := by decide +kernel
theorem dX11_fits_236 : decode cX11_fits 236 = .ok (.goto 4, 3) := by decide +kernel
theorem dX11_fits_239 : decode cX11_fits 239 = .ok (.iconst 0, 1) := by decide +kernel
theorem dX11_fits_240 : decode cX11_fits 240 = .ok (.ireturn, 1) := by decide +kernel
theorem dX11_fits_241 : decode cX11_fits 241 = .ok (.aload_n 0, 1) := by decide +kernel
theorem dX11_fits_242 : decode cX11_fits 242 = .ok (.getfield 48, 3) := by decide +kernel
theorem dX11_fits_245 : decode cX11_fits 245 = .ok (.iload_n 2, 1) := by decide +kernel
theorem dX11_fits_246 : decode cX11_fits 246 = .ok (.putfield 486, 3) := by decide +kernel
theorem dX11_fits_249 : decode cX11_fits 249 = .ok (.aload_n 0, 1) := by decide +kernel
theorem dX11_fits_250 : decode cX11_fits 250 = .ok (.aload_n 1, 1) := by decide +kernel
theorem dX11_fits_251 : decode cX11_fits 251 = .ok (.iload_n 2, 1) := by decide +kernel
theorem dX11_fits_252 : decode cX11_fits 252 = .ok (.invokevirtual 493, 3) := by decide +kernel
theorem dX11_fits_255 : decode cX11_fits 255 = .ok (.ireturn, 1) := by decide +kernel
theorem kd_11_fits : Cond.code yX11_fits cX11_fits 4 (some .boolean) ∈ lw_g := mt_at 537 (by decide +kernel) rfl
theorem ki_11_fits : Cond.instanceMethod yX11_fits ∈ lw_g := mt_at 536 (by decide +kernel) rfl
theorem kl_11_fits : Cond.selects (kRn 11) yX11_fits yX11_fits ∈ lw_g := mt_sel 3 (by decide +kernel) rfl
theorem cw11_472 : cCw RX11 472 yX11_fitsInsert cX11_fitsInsert 4 (some .boolean) 3 := ⟨kd_11_fitsInsert, mt_at 538 (by decide +kernel) rfl, mt_at 1 (by decide +kernel) rfl, by decide +kernel⟩
theorem cw11_475 : cCw RX11 475 yX11_fitsErase cX11_fitsErase 3 (some .boolean) 2 := ⟨kd_11_fitsErase, mt_at 557 (by decide +kernel) rfl, mt_at 1 (by decide +kernel) rfl, by decide +kernel⟩
theorem cw11_479 : cCw RX11 479 yX7_undoable cX7_undoable 3 (some .int) 0 := ⟨kd_7_undoable, mt_at 561 (by decide +kernel) rfl, mt_at 7 (by decide +kernel) rfl, by decide +kernel⟩
theorem cw11_483 : cCw RX11 483 yX7_redoable cX7_redoable 4 (some .int) 0 := ⟨kd_7_redoable, mt_at 585 (by decide +kernel) rfl, mt_at 7 (by decide +kernel) rfl, by decide +kernel⟩
theorem cw11_493 : cCw RX11 493 yX11_fitsByValue cX11_fitsByValue 5 (some .boolean) 2 := ⟨kd_11_fitsByValue, mt_at 619 (by decide +kernel) rfl, mt_at 1 (by decide +kernel) rfl, by decide +kernel⟩
section
variable {p : Program} {l : Launch} {e : Env} {R : Room} {s : State} {m : MethodId} {args : Array Value} {below : List Frame} {meth : Method} {c : Code} {H : Heap} {locs : List Loc} {cells slots : Nat} {Q : State → Prop}
variable {D : cG} {S S0 : cSt} {cc : ByteArray} {nL : Nat} {pc : Nat} {ls : Array Slot} {rest : List Value} {H0 : Heap} {nF nR nC nS : Nat} {ret : Option FieldType} {a : Nat}
theorem gk11_482 (C : cY p R s m args meth c RX11 cc nL nF nC nS nR ret) (X : cX D s) (hW : cW D S H) (hk : kK S a = 2) (hdg : decode cc pc = .ok (.getfield 482, 3)) (kk : W p l e R s m args below meth c H locs cells slots Q (F0 m (pc + 3) ls (.int (kF S a 5) :: rest))) : W p l e R s m args below meth c H locs cells slots Q (F0 m pc ls (.ref a :: rest)) := c_get C X hW 1 (by decide) ly_1 hk 5 (by decide) (mt_at 179 (by decide +kernel) (by decide +kernel)) hdg (by rw [cV_I (by decide +kernel)]; exact kk)
end
section
variable {p : Program} {l : Launch} {e : Env} {R : Room} {s : State} {m : MethodId} {args : Array Value} {below : List Frame} {meth : Method} {c : Code} {D : cG} {S0 S9 : cSt} {r : Int32}
noncomputable def fk_11_fits_241 (S : cSt) (v0 : Nat) (v1 : Nat) (v2 : Int32) : Option (Int32 × cSt) :=
ckk S v0 12 (bd (kR S v0 6) fun a1 =>
ckk S a1 2 (lt (cPi S a1 4 v2) fun S2 =>
ckk S2 v0 12 (bd (fk_11_fitsByValue S2 v0 v1 v2) fun q_r4 => lt q_r4.1 fun r4 => lt q_r4.2 fun S3 =>
ckz r4 (some (r4, S3)))))
set_option maxRecDepth 100000 in
set_option maxHeartbeats 4000000 in
theorem wk_11_fits_241 (C : cY p R s m args meth c RX11 cX11_fits 4 5 0 0 126 (some .boolean)) (X : cX D s) : ∀ {S : cSt} {v0 : Nat} {v1 : Nat} {v2 : Int32} {H : Heap} {locs : List Loc} {ls : Array Slot}, fk_11_fits_241 S v0 v1 v2 = some (r, S9) → cJ D S0 s.heap S H locs → lv_has ls 4 [(0, .ref v0), (1, .ref v1), (2, .int v2)] → W p l e R s m args below meth c H locs 0 0 (MQ below (kW (some (.int r)) D S0 S9) args s 0 0 (cA S0)) (F0 m 241 ls []) := by
  intro S v0 v1 v2 H locs ls h hJ hl
  unfold fk_11_fits_241 at h
  refine lv_aload_n C.1 C.2.1 dX11_fits_241 rfl (lv_at hl 0 rfl) ?_
  obtain ⟨hk, h⟩ := ckk_ok h
  obtain ⟨a1, h_a1, h⟩ := bd_ok h
  refine gk11_48 C X hJ.1 hk h_a1 dX11_fits_242 ?_
  refine lv_iload_n C.1 C.2.1 dX11_fits_245 rfl (lv_at hl 2 rfl) ?_
  obtain ⟨hk, h⟩ := ckk_ok h
  refine pk11_486 C X hJ hk dX11_fits_246 (fun H locs hJ => ?_)
  refine lt_ok h (fun S2 e_S2 h => ?_)
  rw [e_S2] at hJ
  refine lv_aload_n C.1 C.2.1 dX11_fits_249 rfl (lv_at hl 0 rfl) ?_
  refine lv_aload_n C.1 C.2.1 dX11_fits_250 rfl (lv_at hl 1 rfl) ?_
  refine lv_iload_n C.1 C.2.1 dX11_fits_251 rfl (lv_at hl 2 rfl) ?_
  obtain ⟨hk, h⟩ := ckk_ok h
  obtain ⟨⟨r4, S3⟩, h_S3, h⟩ := bd_ok h
  replace h := lt2_ok h
  refine c_callW (rest := []) C X hJ hl.1 11 (by decide) hk [.ref v1, .int v2] (tk_11_fitsByValue l h_S3) cw11_493 ki_11_fitsByValue kl_11_fitsByValue rfl ⟨by decide, by decide⟩ ⟨(by decide), (by decide)⟩ rfl (Nat.le_of_ble_eq_true rfl) dX11_fits_252 (fun H locs hJ => ?_)
  refine W.eq (g2 := F0 m 255 ls [.int r4]) rfl ?_
  obtain ⟨hzo, h⟩ := ckz_ok h
  cases h
  exact c_retnW C (by rcases hzo with h9 | h9 <;> (rw [h9]; rfl)) hJ dX11_fits_255
noncomputable def fk_11_fits_207 (S : cSt) (s0 : Int32) : Option (Int32 × cSt) :=
ckz s0 (some (s0, S))
set_option maxRecDepth 100000 in
set_option maxHeartbeats 4000000 in
theorem wk_11_fits_207 (C : cY p R s m args meth c RX11 cX11_fits 4 5 0 0 126 (some .boolean)) (X : cX D s) : ∀ {S : cSt} {s0 : Int32} {H : Heap} {locs : List Loc} {ls : Array Slot}, fk_11_fits_207 S s0 = some (r, S9) → cJ D S0 s.heap S H locs → lv_has ls 4 [] → W p l e R s m args below meth c H locs 0 0 (MQ below (kW (some (.int r)) D S0 S9) args s 0 0 (cA S0)) (F0 m 207 ls [.int s0]) := by
  intro S s0 H locs ls h hJ hl
  unfold fk_11_fits_207 at h
  obtain ⟨hzo, h⟩ := ckz_ok h
  cases h
  exact c_retnW C (by rcases hzo with h9 | h9 <;> (rw [h9]; rfl)) hJ dX11_fits_207
noncomputable def fk_11_fits_206 (S : cSt) : Option (Int32 × cSt) :=
fk_11_fits_207 S (0 : Int32)
set_option maxRecDepth 100000 in
set_option maxHeartbeats 4000000 in
theorem wk_11_fits_206 (C : cY p R s m args meth c RX11 cX11_fits 4 5 0 0 126 (some .boolean)) (X : cX D s) : ∀ {S : cSt} {H : Heap} {locs : List Loc} {ls : Array Slot}, fk_11_fits_206 S = some (r, S9) → cJ D S0 s.heap S H locs → lv_has ls 4 [] → W p l e R s m args below meth c H locs 0 0 (MQ below (kW (some (.int r)) D S0 S9) args s 0 0 (cA S0)) (F0 m 206 ls []) := by
  intro S H locs ls h hJ hl
  unfold fk_11_fits_206 at h
  refine lv_iconst (v := 0) C.1 C.2.1 dX11_fits_206 (by decide) ?_
  exact wk_11_fits_207 C X h hJ (lv_sub hl [] rfl)
noncomputable def fk_11_fits_113 (S : cSt) (s0 : Int32) : Option (Int32 × cSt) :=
ckz s0 (some (s0, S))
set_option maxRecDepth 100000 in
set_option maxHeartbeats 4000000 in
theorem wk_11_fits_113 (C : cY p R s m args meth c RX11 cX11_fits 4 5 0 0 126 (some .boolean)) (X : cX D s) : ∀ {S : cSt} {s0 : Int32} {H : Heap} {locs : List Loc} {ls : Array Slot}, fk_11_fits_113 S s0 = some (r, S9) → cJ D S0 s.heap S H locs → lv_has ls 4 [] → W p l e R s m args below meth c H locs 0 0 (MQ below (kW (some (.int r)) D S0 S9) args s 0 0 (cA S0)) (F0 m 113 ls [.int s0]) := by
  intro S s0 H locs ls h hJ hl
  unfold fk_11_fits_113 at h
  obtain ⟨hzo, h⟩ := ckz_ok h
  cases h
  exact c_retnW C (by rcases hzo with h9 | h9 <;> (rw [h9]; rfl)) hJ dX11_fits_113
noncomputable def fk_11_fits_140 (S : cSt) (s0 : Int32) : Option (Int32 × cSt) :=
ckz s0 (some (s0, S))
set_option maxRecDepth 100000 in
set_option maxHeartbeats 4000000 in
theorem wk_11_fits_140 (C : cY p R s m args meth c RX11 cX11_fits 4 5 0 0 126 (some .boolean)) (X : cX D s) : ∀ {S : cSt} {s0 : Int32} {H : Heap} {locs : List Loc} {ls : Array Slot}, fk_11_fits_140 S s0 = some (r, S9) → cJ D S0 s.heap S H locs → lv_has ls 4 [] → W p l e R s m args below meth c H locs 0 0 (MQ below (kW (some (.int r)) D S0 S9) args s 0 0 (cA S0)) (F0 m 140 ls [.int s0]) := by
  intro S s0 H locs ls h hJ hl
  unfold fk_11_fits_140 at h
  obtain ⟨hzo, h⟩ := ckz_ok h
  cases h
  exact c_retnW C (by rcases hzo with h9 | h9 <;> (rw [h9]; rfl)) hJ dX11_fits_140
noncomputable def fk_11_fits_240 (S : cSt) (s0 : Int32) : Option (Int32 × cSt) :=
ckz s0 (some (s0, S))
set_option maxRecDepth 100000 in
set_option maxHeartbeats 4000000 in
theorem wk_11_fits_240 (C : cY p R s m args meth c RX11 cX11_fits 4 5 0 0 126 (some .boolean)) (X : cX D s) : ∀ {S : cSt} {s0 : Int32} {H : Heap} {locs : List Loc} {ls : Array Slot}, fk_11_fits_240 S s0 = some (r, S9) → cJ D S0 s.heap S H locs → lv_has ls 4 [] → W p l e R s m args below meth c H locs 0 0 (MQ below (kW (some (.int r)) D S0 S9) args s 0 0 (cA S0)) (F0 m 240 ls [.int s0]) := by
  intro S s0 H locs ls h hJ hl
  unfold fk_11_fits_240 at h
  obtain ⟨hzo, h⟩ := ckz_ok h
  cases h
  exact c_retnW C (by rcases hzo with h9 | h9 <;> (rw [h9]; rfl)) hJ dX11_fits_240
noncomputable def fk_11_fits (S : cSt) (v0 : Nat) (v1 : Nat) (v2 : Int32) (v3 : Int32) : Option (Int32 × cSt) :=
ckk S v0 12 (bd (kR S v0 6) fun a1 =>
ckk S a1 2 (
if (kF S a1 0) = (6 : Int32) then (
ckk S v0 12 (bd (kR S v0 6) fun a3 =>
ckk S a3 2 (lt (cPi S a3 4 v2) fun S4 =>
ckk S4 v0 12 (bd (kR S4 v0 6) fun a5 =>
ckk S4 a5 2 (lt (cPi S4 a5 5 v3) fun S6 =>
bd (fk_11_isNode v3) fun r7 =>
if r7 = 0 then (
fk_11_fits_206 S6)
else (
ckk S6 v1 8 (
if v3 = (kF S6 v1 0) then (
fk_11_fits_206 S6)
else (
ckk S6 v0 12 (bd (fk_11_isOwned S6 v0 v1 v2) fun q_r11 => lt q_r11.1 fun r11 => lt q_r11.2 fun S10 =>
if r11 = 0 then (
fk_11_fits_206 S10)
else (
fk_11_fits_207 S10 (1 : Int32)))))))))))
else if (kF S a1 0) = (7 : Int32) then (
fk_11_fits_241 S v0 v1 v2)
else if (kF S a1 0) = (8 : Int32) then (
fk_11_fits_241 S v0 v1 v2)
else if (kF S a1 0) = (9 : Int32) then (
ckk S v0 12 (bd (fk_11_fitsInsert S v0 v1 v2 v3) fun q_r17 => lt q_r17.1 fun r17 => lt q_r17.2 fun S16 =>
ckz r17 (some (r17, S16))))
else if (kF S a1 0) = (10 : Int32) then (
ckk S v0 12 (bd (fk_11_fitsErase S v0 v1 v3) fun q_r20 => lt q_r20.1 fun r20 => lt q_r20.2 fun S19 =>
ckz r20 (some (r20, S19))))
else if (kF S a1 0) = (11 : Int32) then (
fk_11_fits_241 S v0 v1 v2)
else if (kF S a1 0) = (12 : Int32) then (
ckz (1 : Int32) (some ((1 : Int32), S)))
else if (kF S a1 0) = (13 : Int32) then (
ckk S v0 12 (bd (kR S v0 6) fun a24 =>
ckk S v1 8 (bd (fk_7_undoable S v1) fun r25 =>
ckk S a24 2 (lt (cPi S a24 5 r25) fun S26 =>
ckk S26 v0 12 (bd (kR S26 v0 6) fun a27 =>
ckk S26 a27 2 (
if (kF S26 a27 5) < 0 then (
fk_11_fits_113 S26 (0 : Int32))
else (
fk_11_fits_113 S26 (1 : Int32))))))))
else if (kF S a1 0) = (14 : Int32) then (
ckk S v0 12 (bd (kR S v0 6) fun a30 =>
ckk S v1 8 (bd (fk_7_redoable S v1) fun r31 =>
ckk S a30 2 (lt (cPi S a30 5 r31) fun S32 =>
ckk S32 v0 12 (bd (kR S32 v0 6) fun a33 =>
ckk S32 a33 2 (
if (kF S32 a33 5) < 0 then (
fk_11_fits_140 S32 (0 : Int32))
else (
fk_11_fits_140 S32 (1 : Int32))))))))
else if (kF S a1 0) = (15 : Int32) then (
ckk S v0 12 (bd (kR S v0 6) fun a36 =>
ckk S a36 2 (lt (cPi S a36 4 v2) fun S37 =>
ckk S37 v0 12 (bd (kR S37 v0 6) fun a38 =>
ckk S37 a38 2 (lt (cPi S37 a38 5 v3) fun S39 =>
bd (fk_11_isKey v2) fun r40 =>
ckz r40 (some (r40, S39)))))))
else if (kF S a1 0) = (16 : Int32) then (
fk_11_fits_241 S v0 v1 v2)
else if (kF S a1 0) = (17 : Int32) then (
fk_11_fits_241 S v0 v1 v2)
else if (kF S a1 0) = (18 : Int32) then (
ckk S v1 8 (bd (kR S v1 2) fun a44 =>
ckk S v0 12 (bd (kR S v0 6) fun a45 =>
ckk S a45 2 (
ckk S v1 8 (bd (fk_7_timeNow S v1) fun r46 =>
ckk S a44 11 (bd (fk_10_holderOf S a44 (kF S a45 1) r46) fun r47 =>
ckk S v1 8 (
if r47 = (kF S v1 0) then (
fk_11_fits_240 S (1 : Int32))
else (
fk_11_fits_240 S (0 : Int32)))))))))
else (
fk_11_fits_241 S v0 v1 v2)))
set_option maxRecDepth 100000 in
set_option maxHeartbeats 4000000 in
theorem tk_11_fits (l : Launch) {D : cG} {S : cSt} {v0 : Nat} {v1 : Nat} {v2 : Int32} {v3 : Int32} {r : Int32} {S9 : cSt} (h : fk_11_fits S v0 v1 v2 v3 = some (r, S9)) : Met l yX11_fits (Cond.code yX11_fits cX11_fits 4 (some .boolean) :: lw_g) { frames := 5, cells := 0, slots := 0, locals := 126 } (kPi [.ref v0, .ref v1, .int v2, .int v3] D S) (kW (some (.int r)) D S S9) 0 0 (cA S) := by
  refine Met.ofW (cc := cX11_fits) (maxL := 4) (ret := (some .boolean)) (by decide) rfl ?_
  intro p e s m args below meth c s₁ B hml hv
  obtain ⟨rfl, hW, X⟩ := hv
  have C : cY p (headSpec (Cond.code yX11_fits cX11_fits 4 (some .boolean) :: lw_g) { frames := 5, cells := 0, slots := 0, locals := 126 }).room s m _ meth c RX11 cX11_fits 4 5 0 0 126 (some .boolean) := ⟨B.exec, B.bytes, hml, findClass_of_methodNamed B.named, fun w hw => atoms_spec (ws := Cond.code yX11_fits cX11_fits 4 (some .boolean) :: lw_g) B.pre w (List.mem_cons_of_mem _ hw), ⟨Nat.le_refl _, Nat.le_refl _, Nat.le_refl _, Nat.le_refl _⟩, B.returns, B.notSynchronized⟩
  have hl := lv_entry ([.ref v0, .ref v1, .int v2, .int v3]) (n := 4) (Nat.le_of_ble_eq_true rfl)
  rw [lg_entry_eq]
  generalize (lg_sl ([.ref v0, .ref v1, .int v2, .int v3]) ++ List.replicate (4 - (lg_sl ([.ref v0, .ref v1, .int v2, .int v3])).length) Slot.unset).toArray = ls at hl ⊢
  have hl : lv_has ls 4 [(0, .ref v0), (1, .ref v1), (2, .int v2), (3, .int v3)] := hl
  have hJ : cJ D S s.heap S s.heap [] := cJ.rf hW
  unfold fk_11_fits at h
  refine lv_aload_n C.1 C.2.1 dX11_fits_0 rfl (lv_at hl 0 rfl) ?_
  obtain ⟨hk, h⟩ := ckk_ok h
  obtain ⟨a1, h_a1, h⟩ := bd_ok h
  refine gk11_48 C X hJ.1 hk h_a1 dX11_fits_1 ?_
  obtain ⟨hk, h⟩ := ckk_ok h
  refine gk11_471 C X hJ.1 hk dX11_fits_4 ?_
  by_cases c2 : (kF S a1 0) = (6 : Int32)
  · have h := if_t h c2
    refine lv_tableIn (off := 155) (tgt := 162) C.1 C.2.1 dX11_fits_7 (by rw [c2]; decide) (by rw [c2]; decide) (by rw [c2]; rfl) (by decide) ?_
    refine lv_aload_n C.1 C.2.1 dX11_fits_162 rfl (lv_at hl 0 rfl) ?_
    obtain ⟨hk, h⟩ := ckk_ok h
    obtain ⟨a3, h_a3, h⟩ := bd_ok h
    refine gk11_48 C X hJ.1 hk h_a3 dX11_fits_163 ?_
    refine lv_iload_n C.1 C.2.1 dX11_fits_166 rfl (lv_at hl 2 rfl) ?_
    obtain ⟨hk, h⟩ := ckk_ok h
    refine pk11_486 C X hJ hk dX11_fits_167 (fun H locs hJ => ?_)
    refine lt_ok h (fun S4 e_S4 h => ?_)
    rw [e_S4] at hJ
    refine lv_aload_n C.1 C.2.1 dX11_fits_170 rfl (lv_at hl 0 rfl) ?_
    obtain ⟨hk, h⟩ := ckk_ok h
    obtain ⟨a5, h_a5, h⟩ := bd_ok h
    refine gk11_48 C X hJ.1 hk h_a5 dX11_fits_171 ?_
    refine lv_iload_n C.1 C.2.1 dX11_fits_174 rfl (lv_at hl 3 rfl) ?_
    obtain ⟨hk, h⟩ := ckk_ok h
    refine pk11_482 C X hJ hk dX11_fits_175 (fun H locs hJ => ?_)
    refine lt_ok h (fun S6 e_S6 h => ?_)
    rw [e_S6] at hJ
    refine lv_iload_n C.1 C.2.1 dX11_fits_178 rfl (lv_at hl 3 rfl) ?_
    obtain ⟨r7, h_r7, h⟩ := bd_ok h
    refine c_callS (rest := []) C hl.1 [.int v3] (tk_11_isNode l h_r7) cw11_112 ks_11_isNode rfl ⟨by decide, by decide⟩ ⟨(by decide), (by decide)⟩ rfl (Nat.le_of_ble_eq_true rfl) dX11_fits_179 ?_
    refine W.eq (g2 := F0 m 182 ls [.int r7]) rfl ?_
    refine lv_if_eq (tgt := 206) C.1 C.2.1 dX11_fits_182 (by decide) (fun c8 => ?_) (fun c8 => ?_)
    · have h := if_t h c8
      exact wk_11_fits_206 C X h hJ (lv_sub hl [] rfl)
    · have h := if_f h c8
      refine lv_iload_n C.1 C.2.1 dX11_fits_185 rfl (lv_at hl 3 rfl) ?_
      refine lv_aload_n C.1 C.2.1 dX11_fits_186 rfl (lv_at hl 1 rfl) ?_
      obtain ⟨hk, h⟩ := ckk_ok h
      refine gk11_262 C X hJ.1 hk dX11_fits_187 ?_
      refine lv_icmp_eq (tgt := 206) C.1 C.2.1 dX11_fits_190 (by decide) (fun c9 => ?_) (fun c9 => ?_)
      · have h := if_t h c9
        exact wk_11_fits_206 C X h hJ (lv_sub hl [] rfl)
      · have h := if_f h c9
        refine lv_aload_n C.1 C.2.1 dX11_fits_193 rfl (lv_at hl 0 rfl) ?_
        refine lv_aload_n C.1 C.2.1 dX11_fits_194 rfl (lv_at hl 1 rfl) ?_
        refine lv_iload_n C.1 C.2.1 dX11_fits_195 rfl (lv_at hl 2 rfl) ?_
        obtain ⟨hk, h⟩ := ckk_ok h
        obtain ⟨⟨r11, S10⟩, h_S10, h⟩ := bd_ok h
        replace h := lt2_ok h
        refine c_callW (rest := []) C X hJ hl.1 11 (by decide) hk [.ref v1, .int v2] (tk_11_isOwned l h_S10) cw11_490 ki_11_isOwned kl_11_isOwned rfl ⟨by decide, by decide⟩ ⟨(by decide), (by decide)⟩ rfl (Nat.le_of_ble_eq_true rfl) dX11_fits_196 (fun H locs hJ => ?_)
        refine W.eq (g2 := F0 m 199 ls [.int r11]) rfl ?_
        refine lv_if_eq (tgt := 206) C.1 C.2.1 dX11_fits_199 (by decide) (fun c12 => ?_) (fun c12 => ?_)
        · have h := if_t h c12
          exact wk_11_fits_206 C X h hJ (lv_sub hl [] rfl)
        · have h := if_f h c12
          refine lv_iconst (v := 1) C.1 C.2.1 dX11_fits_202 (by decide) ?_
          refine lv_goto (tgt := 207) C.1 C.2.1 dX11_fits_203 (by decide) ?_
          exact wk_11_fits_207 C X h hJ (lv_sub hl [] rfl)
  · have h := if_f h c2
    by_cases c13 : (kF S a1 0) = (7 : Int32)
    · have h := if_t h c13
      refine lv_tableIn (off := 234) (tgt := 241) C.1 C.2.1 dX11_fits_7 (by rw [c13]; decide) (by rw [c13]; decide) (by rw [c13]; rfl) (by decide) ?_
      exact wk_11_fits_241 C X h hJ (lv_sub hl [0, 1, 2] rfl)
    · have h := if_f h c13
      by_cases c14 : (kF S a1 0) = (8 : Int32)
      · have h := if_t h c14
        refine lv_tableIn (off := 234) (tgt := 241) C.1 C.2.1 dX11_fits_7 (by rw [c14]; decide) (by rw [c14]; decide) (by rw [c14]; rfl) (by decide) ?_
        exact wk_11_fits_241 C X h hJ (lv_sub hl [0, 1, 2] rfl)
      · have h := if_f h c14
        by_cases c15 : (kF S a1 0) = (9 : Int32)
        · have h := if_t h c15
          refine lv_tableIn (off := 65) (tgt := 72) C.1 C.2.1 dX11_fits_7 (by rw [c15]; decide) (by rw [c15]; decide) (by rw [c15]; rfl) (by decide) ?_
          refine lv_aload_n C.1 C.2.1 dX11_fits_72 rfl (lv_at hl 0 rfl) ?_
          refine lv_aload_n C.1 C.2.1 dX11_fits_73 rfl (lv_at hl 1 rfl) ?_
          refine lv_iload_n C.1 C.2.1 dX11_fits_74 rfl (lv_at hl 2 rfl) ?_
          refine lv_iload_n C.1 C.2.1 dX11_fits_75 rfl (lv_at hl 3 rfl) ?_
          obtain ⟨hk, h⟩ := ckk_ok h
          obtain ⟨⟨r17, S16⟩, h_S16, h⟩ := bd_ok h
          replace h := lt2_ok h
          refine c_callW (rest := []) C X hJ hl.1 11 (by decide) hk [.ref v1, .int v2, .int v3] (tk_11_fitsInsert l h_S16) cw11_472 ki_11_fitsInsert kl_11_fitsInsert rfl ⟨by decide, by decide⟩ ⟨(by decide), (by decide)⟩ rfl (Nat.le_of_ble_eq_true rfl) dX11_fits_76 (fun H locs hJ => ?_)
          refine W.eq (g2 := F0 m 79 ls [.int r17]) rfl ?_
          obtain ⟨hzo, h⟩ := ckz_ok h
          cases h
          exact c_retnW C (by rcases hzo with h9 | h9 <;> (rw [h9]; rfl)) hJ dX11_fits_79
        · have h := if_f h c15
          by_cases c18 : (kF S a1 0) = (10 : Int32)
          · have h := if_t h c18
            refine lv_tableIn (off := 73) (tgt := 80) C.1 C.2.1 dX11_fits_7 (by rw [c18]; decide) (by rw [c18]; decide) (by rw [c18]; rfl) (by decide) ?_
            refine lv_aload_n C.1 C.2.1 dX11_fits_80 rfl (lv_at hl 0 rfl) ?_
            refine lv_aload_n C.1 C.2.1 dX11_fits_81 rfl (lv_at hl 1 rfl) ?_
            refine lv_iload_n C.1 C.2.1 dX11_fits_82 rfl (lv_at hl 3 rfl) ?_
            obtain ⟨hk, h⟩ := ckk_ok h
            obtain ⟨⟨r20, S19⟩, h_S19, h⟩ := bd_ok h
            replace h := lt2_ok h
            refine c_callW (rest := []) C X hJ hl.1 11 (by decide) hk [.ref v1, .int v3] (tk_11_fitsErase l h_S19) cw11_475 ki_11_fitsErase kl_11_fitsErase rfl ⟨by decide, by decide⟩ ⟨(by decide), (by decide)⟩ rfl (Nat.le_of_ble_eq_true rfl) dX11_fits_83 (fun H locs hJ => ?_)
            refine W.eq (g2 := F0 m 86 ls [.int r20]) rfl ?_
            obtain ⟨hzo, h⟩ := ckz_ok h
            cases h
            exact c_retnW C (by rcases hzo with h9 | h9 <;> (rw [h9]; rfl)) hJ dX11_fits_86
          · have h := if_f h c18
            by_cases c21 : (kF S a1 0) = (11 : Int32)
            · have h := if_t h c21
              refine lv_tableIn (off := 234) (tgt := 241) C.1 C.2.1 dX11_fits_7 (by rw [c21]; decide) (by rw [c21]; decide) (by rw [c21]; rfl) (by decide) ?_
              exact wk_11_fits_241 C X h hJ (lv_sub hl [0, 1, 2] rfl)
            · have h := if_f h c21
              by_cases c22 : (kF S a1 0) = (12 : Int32)
              · have h := if_t h c22
                refine lv_tableIn (off := 201) (tgt := 208) C.1 C.2.1 dX11_fits_7 (by rw [c22]; decide) (by rw [c22]; decide) (by rw [c22]; rfl) (by decide) ?_
                refine lv_iconst (v := 1) C.1 C.2.1 dX11_fits_208 (by decide) ?_
                obtain ⟨hzo, h⟩ := ckz_ok h
                cases h
                exact c_retnW C (by rcases hzo with h9 | h9 <;> (rw [h9]; rfl)) hJ dX11_fits_209
              · have h := if_f h c22
                by_cases c23 : (kF S a1 0) = (13 : Int32)
                · have h := if_t h c23
                  refine lv_tableIn (off := 80) (tgt := 87) C.1 C.2.1 dX11_fits_7 (by rw [c23]; decide) (by rw [c23]; decide) (by rw [c23]; rfl) (by decide) ?_
                  refine lv_aload_n C.1 C.2.1 dX11_fits_87 rfl (lv_at hl 0 rfl) ?_
                  obtain ⟨hk, h⟩ := ckk_ok h
                  obtain ⟨a24, h_a24, h⟩ := bd_ok h
                  refine gk11_48 C X hJ.1 hk h_a24 dX11_fits_88 ?_
                  refine lv_aload_n C.1 C.2.1 dX11_fits_91 rfl (lv_at hl 1 rfl) ?_
                  obtain ⟨hk, h⟩ := ckk_ok h
                  obtain ⟨r25, h_r25, h⟩ := bd_ok h
                  refine c_callR (rest := [.ref a24]) C X hJ.1 hl.1 7 (by decide) hk [] (tk_7_undoable l h_r25) cw11_479 ki_7_undoable kl_7_undoable rfl ⟨by decide, by decide⟩ ⟨(by decide), (by decide)⟩ rfl (Nat.le_of_ble_eq_true rfl) dX11_fits_92 ?_
                  refine W.eq (g2 := F0 m 95 ls [.int r25, .ref a24]) rfl ?_
                  obtain ⟨hk, h⟩ := ckk_ok h
                  refine pk11_482 C X hJ hk dX11_fits_95 (fun H locs hJ => ?_)
                  refine lt_ok h (fun S26 e_S26 h => ?_)
                  rw [e_S26] at hJ
                  refine lv_aload_n C.1 C.2.1 dX11_fits_98 rfl (lv_at hl 0 rfl) ?_
                  obtain ⟨hk, h⟩ := ckk_ok h
                  obtain ⟨a27, h_a27, h⟩ := bd_ok h
                  refine gk11_48 C X hJ.1 hk h_a27 dX11_fits_99 ?_
                  obtain ⟨hk, h⟩ := ckk_ok h
                  refine gk11_482 C X hJ.1 hk dX11_fits_102 ?_
                  refine lv_if_lt (tgt := 112) C.1 C.2.1 dX11_fits_105 (by decide) (fun c28 => ?_) (fun c28 => ?_)
                  · have h := if_t h c28
                    refine lv_iconst (v := 0) C.1 C.2.1 dX11_fits_112 (by decide) ?_
                    exact wk_11_fits_113 C X h hJ (lv_sub hl [] rfl)
                  · have h := if_f h c28
                    refine lv_iconst (v := 1) C.1 C.2.1 dX11_fits_108 (by decide) ?_
                    refine lv_goto (tgt := 113) C.1 C.2.1 dX11_fits_109 (by decide) ?_
                    exact wk_11_fits_113 C X h hJ (lv_sub hl [] rfl)
                · have h := if_f h c23
                  by_cases c29 : (kF S a1 0) = (14 : Int32)
                  · have h := if_t h c29
                    refine lv_tableIn (off := 107) (tgt := 114) C.1 C.2.1 dX11_fits_7 (by rw [c29]; decide) (by rw [c29]; decide) (by rw [c29]; rfl) (by decide) ?_
                    refine lv_aload_n C.1 C.2.1 dX11_fits_114 rfl (lv_at hl 0 rfl) ?_
                    obtain ⟨hk, h⟩ := ckk_ok h
                    obtain ⟨a30, h_a30, h⟩ := bd_ok h
                    refine gk11_48 C X hJ.1 hk h_a30 dX11_fits_115 ?_
                    refine lv_aload_n C.1 C.2.1 dX11_fits_118 rfl (lv_at hl 1 rfl) ?_
                    obtain ⟨hk, h⟩ := ckk_ok h
                    obtain ⟨r31, h_r31, h⟩ := bd_ok h
                    refine c_callR (rest := [.ref a30]) C X hJ.1 hl.1 7 (by decide) hk [] (tk_7_redoable l h_r31) cw11_483 ki_7_redoable kl_7_redoable rfl ⟨by decide, by decide⟩ ⟨(by decide), (by decide)⟩ rfl (Nat.le_of_ble_eq_true rfl) dX11_fits_119 ?_
                    refine W.eq (g2 := F0 m 122 ls [.int r31, .ref a30]) rfl ?_
                    obtain ⟨hk, h⟩ := ckk_ok h
                    refine pk11_482 C X hJ hk dX11_fits_122 (fun H locs hJ => ?_)
                    refine lt_ok h (fun S32 e_S32 h => ?_)
                    rw [e_S32] at hJ
                    refine lv_aload_n C.1 C.2.1 dX11_fits_125 rfl (lv_at hl 0 rfl) ?_
                    obtain ⟨hk, h⟩ := ckk_ok h
                    obtain ⟨a33, h_a33, h⟩ := bd_ok h
                    refine gk11_48 C X hJ.1 hk h_a33 dX11_fits_126 ?_
                    obtain ⟨hk, h⟩ := ckk_ok h
                    refine gk11_482 C X hJ.1 hk dX11_fits_129 ?_
                    refine lv_if_lt (tgt := 139) C.1 C.2.1 dX11_fits_132 (by decide) (fun c34 => ?_) (fun c34 => ?_)
                    · have h := if_t h c34
                      refine lv_iconst (v := 0) C.1 C.2.1 dX11_fits_139 (by decide) ?_
                      exact wk_11_fits_140 C X h hJ (lv_sub hl [] rfl)
                    · have h := if_f h c34
                      refine lv_iconst (v := 1) C.1 C.2.1 dX11_fits_135 (by decide) ?_
                      refine lv_goto (tgt := 140) C.1 C.2.1 dX11_fits_136 (by decide) ?_
                      exact wk_11_fits_140 C X h hJ (lv_sub hl [] rfl)
                  · have h := if_f h c29
                    by_cases c35 : (kF S a1 0) = (15 : Int32)
                    · have h := if_t h c35
                      refine lv_tableIn (off := 134) (tgt := 141) C.1 C.2.1 dX11_fits_7 (by rw [c35]; decide) (by rw [c35]; decide) (by rw [c35]; rfl) (by decide) ?_
                      refine lv_aload_n C.1 C.2.1 dX11_fits_141 rfl (lv_at hl 0 rfl) ?_
                      obtain ⟨hk, h⟩ := ckk_ok h
                      obtain ⟨a36, h_a36, h⟩ := bd_ok h
                      refine gk11_48 C X hJ.1 hk h_a36 dX11_fits_142 ?_
                      refine lv_iload_n C.1 C.2.1 dX11_fits_145 rfl (lv_at hl 2 rfl) ?_
                      obtain ⟨hk, h⟩ := ckk_ok h
                      refine pk11_486 C X hJ hk dX11_fits_146 (fun H locs hJ => ?_)
                      refine lt_ok h (fun S37 e_S37 h => ?_)
                      rw [e_S37] at hJ
                      refine lv_aload_n C.1 C.2.1 dX11_fits_149 rfl (lv_at hl 0 rfl) ?_
                      obtain ⟨hk, h⟩ := ckk_ok h
                      obtain ⟨a38, h_a38, h⟩ := bd_ok h
                      refine gk11_48 C X hJ.1 hk h_a38 dX11_fits_150 ?_
                      refine lv_iload_n C.1 C.2.1 dX11_fits_153 rfl (lv_at hl 3 rfl) ?_
                      obtain ⟨hk, h⟩ := ckk_ok h
                      refine pk11_482 C X hJ hk dX11_fits_154 (fun H locs hJ => ?_)
                      refine lt_ok h (fun S39 e_S39 h => ?_)
                      rw [e_S39] at hJ
                      refine lv_iload_n C.1 C.2.1 dX11_fits_157 rfl (lv_at hl 2 rfl) ?_
                      obtain ⟨r40, h_r40, h⟩ := bd_ok h
                      refine c_callS (rest := []) C hl.1 [.int v2] (tk_11_isKey l h_r40) cw11_487 ks_11_isKey rfl ⟨by decide, by decide⟩ ⟨(by decide), (by decide)⟩ rfl (Nat.le_of_ble_eq_true rfl) dX11_fits_158 ?_
                      refine W.eq (g2 := F0 m 161 ls [.int r40]) rfl ?_
                      obtain ⟨hzo, h⟩ := ckz_ok h
                      cases h
                      exact c_retnW C (by rcases hzo with h9 | h9 <;> (rw [h9]; rfl)) hJ dX11_fits_161
                    · have h := if_f h c35
                      by_cases c41 : (kF S a1 0) = (16 : Int32)
                      · have h := if_t h c41
                        refine lv_tableIn (off := 234) (tgt := 241) C.1 C.2.1 dX11_fits_7 (by rw [c41]; decide) (by rw [c41]; decide) (by rw [c41]; rfl) (by decide) ?_
                        exact wk_11_fits_241 C X h hJ (lv_sub hl [0, 1, 2] rfl)
                      · have h := if_f h c41
                        by_cases c42 : (kF S a1 0) = (17 : Int32)
                        · have h := if_t h c42
                          refine lv_tableIn (off := 234) (tgt := 241) C.1 C.2.1 dX11_fits_7 (by rw [c42]; decide) (by rw [c42]; decide) (by rw [c42]; rfl) (by decide) ?_
                          exact wk_11_fits_241 C X h hJ (lv_sub hl [0, 1, 2] rfl)
                        · have h := if_f h c42
                          by_cases c43 : (kF S a1 0) = (18 : Int32)
                          · have h := if_t h c43
                            refine lv_tableIn (off := 203) (tgt := 210) C.1 C.2.1 dX11_fits_7 (by rw [c43]; decide) (by rw [c43]; decide) (by rw [c43]; rfl) (by decide) ?_
                            refine lv_aload_n C.1 C.2.1 dX11_fits_210 rfl (lv_at hl 1 rfl) ?_
                            obtain ⟨hk, h⟩ := ckk_ok h
                            obtain ⟨a44, h_a44, h⟩ := bd_ok h
                            refine gk11_147 C X hJ.1 hk h_a44 dX11_fits_211 ?_
                            refine lv_aload_n C.1 C.2.1 dX11_fits_214 rfl (lv_at hl 0 rfl) ?_
                            obtain ⟨hk, h⟩ := ckk_ok h
                            obtain ⟨a45, h_a45, h⟩ := bd_ok h
                            refine gk11_48 C X hJ.1 hk h_a45 dX11_fits_215 ?_
                            obtain ⟨hk, h⟩ := ckk_ok h
                            refine gk11_150 C X hJ.1 hk dX11_fits_218 ?_
                            refine lv_aload_n C.1 C.2.1 dX11_fits_221 rfl (lv_at hl 1 rfl) ?_
                            obtain ⟨hk, h⟩ := ckk_ok h
                            obtain ⟨r46, h_r46, h⟩ := bd_ok h
                            refine c_callR (rest := [.int (kF S a45 1), .ref a44]) C X hJ.1 hl.1 7 (by decide) hk [] (tk_7_timeNow l h_r46) cw11_310 ki_7_timeNow kl_7_timeNow rfl ⟨by decide, by decide⟩ ⟨(by decide), (by decide)⟩ rfl (Nat.le_of_ble_eq_true rfl) dX11_fits_222 ?_
                            refine W.eq (g2 := F0 m 225 ls [.int r46, .int (kF S a45 1), .ref a44]) rfl ?_
                            obtain ⟨hk, h⟩ := ckk_ok h
                            obtain ⟨r47, h_r47, h⟩ := bd_ok h
                            refine c_callR (rest := []) C X hJ.1 hl.1 10 (by decide) hk [.int (kF S a45 1), .int r46] (tk_10_holderOf l h_r47) cw11_313 ki_10_holderOf kl_10_holderOf rfl ⟨by decide, by decide⟩ ⟨(by decide), (by decide)⟩ rfl (Nat.le_of_ble_eq_true rfl) dX11_fits_225 ?_
                            refine W.eq (g2 := F0 m 228 ls [.int r47]) rfl ?_
                            refine lv_aload_n C.1 C.2.1 dX11_fits_228 rfl (lv_at hl 1 rfl) ?_
                            obtain ⟨hk, h⟩ := ckk_ok h
                            refine gk11_262 C X hJ.1 hk dX11_fits_229 ?_
                            refine lv_icmp_ne (tgt := 239) C.1 C.2.1 dX11_fits_232 (by decide) (fun c48 => ?_) (fun c48 => ?_)
                            · have h := if_f h c48
                              refine lv_iconst (v := 0) C.1 C.2.1 dX11_fits_239 (by decide) ?_
                              exact wk_11_fits_240 C X h hJ (lv_sub hl [] rfl)
                            · have h := if_t h c48
                              refine lv_iconst (v := 1) C.1 C.2.1 dX11_fits_235 (by decide) ?_
                              refine lv_goto (tgt := 240) C.1 C.2.1 dX11_fits_236 (by decide) ?_
                              exact wk_11_fits_240 C X h hJ (lv_sub hl [] rfl)
                          · have h := if_f h c43
                            have n_c2 := lv_neT c2 (a := 6) rfl
                            have n_c13 := lv_neT c13 (a := 7) rfl
                            have n_c14 := lv_neT c14 (a := 8) rfl
                            have n_c15 := lv_neT c15 (a := 9) rfl
                            have n_c18 := lv_neT c18 (a := 10) rfl
                            have n_c21 := lv_neT c21 (a := 11) rfl
                            have n_c22 := lv_neT c22 (a := 12) rfl
                            have n_c23 := lv_neT c23 (a := 13) rfl
                            have n_c29 := lv_neT c29 (a := 14) rfl
                            have n_c35 := lv_neT c35 (a := 15) rfl
                            have n_c41 := lv_neT c41 (a := 16) rfl
                            have n_c42 := lv_neT c42 (a := 17) rfl
                            have n_c43 := lv_neT c43 (a := 18) rfl
                            refine lv_tableOut (tgt := 241) C.1 C.2.1 dX11_fits_7 (by omega) (by decide) ?_
                            exact wk_11_fits_241 C X h hJ (lv_sub hl [0, 1, 2] rfl)
end
theorem dX11_act_0 : decode cX11_act 0 = .ok (.aload_n 0, 1) := by decide +kernel
theorem dX11_act_1 : decode cX11_act 1 = .ok (.iload_n 1, 1) := by decide +kernel
theorem dX11_act_2 : decode cX11_act 2 = .ok (.iload_n 2, 1) := by decide +kernel
theorem dX11_act_3 : decode cX11_act 3 = .ok (.iload_n 3, 1) := by decide +kernel
theorem dX11_act_4 : decode cX11_act 4 = .ok (.iload 4, 2) := by decide +kernel
theorem dX11_act_6 : decode cX11_act 6 = .ok (.iload 5, 2) := by decide +kernel
theorem dX11_act_8 : decode cX11_act 8 = .ok (.invokevirtual 119, 3) := by decide +kernel
theorem dX11_act_11 : decode cX11_act 11 = .ok (.istore 7, 2) := by decide +kernel
theorem dX11_act_13 : decode cX11_act 13 = .ok (.iload 7, 2) := by decide +kernel
theorem dX11_act_15 : decode cX11_act 15 = .ok (.ifCond .eq 6, 3) := by decide +kernel
theorem dX11_act_18 : decode cX11_act 18 = .ok (.iload 7, 2) := by decide +kernel
theorem dX11_act_20 : decode cX11_act 20 = .ok (.ireturn, 1) := by decide +kernel
theorem dX11_act_21 : decode cX11_act 21 = .ok (.aload_n 0, 1) := by decide +kernel
theorem dX11_act_22 : decode cX11_act 22 = .ok (.getfield 25, 3) := by decide +kernel
theorem dX11_act_25 : decode cX11_act 25 = .ok (.iload_n 1, 1) := by decide +kernel
theorem dX11_act_26 : decode cX11_act 26 = .ok (.aaload, 1) := by decide +kernel
theorem dX11_act_27 : decode cX11_act 27 = .ok (.astore 8, 2) := by decide +kernel
theorem dX11_act_29 : decode cX11_act 29 = .ok (.aload_n 0, 1) := by decide +kernel
theorem dX11_act_30 : decode cX11_act 30 = .ok (.getfield 48, 3) := by decide +kernel
theorem dX11_act_33 : decode cX11_act 33 = .ok (.iload_n 2, 1) := by decide +kernel
theorem dX11_act_34 : decode cX11_act 34 = .ok (.aload_n 0, 1) := by decide +kernel
theorem dX11_act_35 : decode cX11_act 35 = .ok (.getfield 19, 3) := by decide +kernel
theorem dX11_act_38 : decode cX11_act 38 = .ok (.iload_n 3, 1) := by decide +kernel
theorem dX11_act_39 : decode cX11_act 39 = .ok (.invokevirtual 123, 3) := by decide +kernel
theorem dX11_act_42 : decode cX11_act 42 = .ok (.iload_n 3, 1) := by decide +kernel
theorem dX11_act_43 : decode cX11_act 43 = .ok (.iload 4, 2) := by decide +kernel
theorem dX11_act_45 : decode cX11_act 45 = .ok (.invokevirtual 126, 3) := by decide +kernel
theorem dX11_act_48 : decode cX11_act 48 = .ok (.aload_n 0, 1) := by decide +kernel
theorem dX11_act_49 : decode cX11_act 49 = .ok (.aload 8, 2) := by decide +kernel
theorem dX11_act_51 : decode cX11_act 51 = .ok (.iload 5, 2) := by decide +kernel
theorem dX11_act_53 : decode cX11_act 53 = .ok (.iload 6, 2) := by decide +kernel
theorem dX11_act_55 : decode cX11_act 55 = .ok (.invokevirtual 130, 3) := by decide +kernel
theorem dX11_act_58 : decode cX11_act 58 = .ok (.ifCond .ne 6, 3) := by decide +kernel
theorem dX11_act_61 : decode cX11_act 61 = .ok (.bipush (-5), 2) := by decide +kernel
theorem dX11_act_63 : decode cX11_act 63 = .ok (.ireturn, 1) := by decide +kernel
theorem dX11_act_64 : decode cX11_act 64 = .ok (.aload 8, 2) := by decide +kernel
theorem dX11_act_66 : decode cX11_act 66 = .ok (.iload_n 2, 1) := by decide +kernel
theorem dX11_act_67 : decode cX11_act 67 = .ok (.iconst 1, 1) := by decide +kernel
theorem dX11_act_68 : decode cX11_act 68 = .ok (.invokevirtual 134, 3) := by decide +kernel
theorem dX11_act_71 : decode cX11_act 71 = .ok (.ifCond .ne 6, 3) := by decide +kernel
theorem dX11_act_74 : decode cX11_act 74 = .ok (.bipush (-4), 2) := by decide +kernel
theorem dX11_act_76 : decode cX11_act 76 = .ok (.ireturn, 1) := by decide +kernel
theorem dX11_act_77 : decode cX11_act 77 = .ok (.aload 8, 2) := by decide +kernel
theorem dX11_act_79 : decode cX11_act 79 = .ok (.aload_n 0, 1) := by decide +kernel
theorem dX11_act_80 : decode cX11_act 80 = .ok (.getfield 48, 3) := by decide +kernel
theorem dX11_act_83 : decode cX11_act 83 = .ok (.invokevirtual 138, 3) := by decide +kernel
theorem dX11_act_86 : decode cX11_act 86 = .ok (.getfield 142, 3) := by decide +kernel
theorem dX11_act_89 : decode cX11_act 89 = .ok (.ireturn, 1) := by decide +kernel
theorem kd_11_act : Cond.code yX11_act cX11_act 9 (some .int) ∈ lw_g := mt_at 427 (by decide +kernel) rfl
theorem ki_11_act : Cond.instanceMethod yX11_act ∈ lw_g := mt_at 425 (by decide +kernel) rfl
theorem kl_11_act : Cond.selects (kRn 11) yX11_act yX11_act ∈ lw_g := mt_at 426 (by decide +kernel) rfl
theorem cw11_119 : cCw RX11 119 yX11_refusalOf cX11_refusalOf 9 (some .int) 5 := ⟨kd_11_refusalOf, mt_at 428 (by decide +kernel) rfl, mt_at 1 (by decide +kernel) rfl, by decide +kernel⟩
theorem cw11_126 : cCw RX11 126 yX1_begin cX1_begin 6 none 4 := ⟨kd_1_begin, mt_at 528 (by decide +kernel) rfl, mt_at 6 (by decide +kernel) rfl, by decide +kernel⟩
theorem cw11_130 : cCw RX11 130 yX11_fits cX11_fits 4 (some .boolean) 3 := ⟨kd_11_fits, mt_at 534 (by decide +kernel) rfl, mt_at 1 (by decide +kernel) rfl, by decide +kernel⟩
theorem cw11_134 : cCw RX11 134 yX7_hasRoomFor cX7_hasRoomFor 3 (some .boolean) 2 := ⟨kd_7_hasRoomFor, mt_at 643 (by decide +kernel) rfl, mt_at 7 (by decide +kernel) rfl, by decide +kernel⟩
theorem cw11_138 : cCw RX11 138 yX7_make cX7_make 6 (some (.object "AccordHouse$Row")) 1 := ⟨kd_7_make, mt_at 651 (by decide +kernel) rfl, mt_at 7 (by decide +kernel) rfl, by decide +kernel⟩
section
variable {p : Program} {l : Launch} {e : Env} {R : Room} {s : State} {m : MethodId} {args : Array Value} {below : List Frame} {meth : Method} {c : Code} {D : cG} {S0 S9 : cSt} {r : Int32}
noncomputable def fk_11_act (S : cSt) (v0 : Nat) (v1 : Int32) (v2 : Int32) (v3 : Int32) (v4 : Int32) (v5 : Int32) (v6 : Int32) : Option (Int32 × cSt) :=
ckk S v0 12 (bd (fk_11_refusalOf S v0 v1 v2 v3 v4 v5) fun r1 =>
if r1 = 0 then (
ckk S v0 12 (bd (kR S v0 2) fun a3 =>
ckk S a3 31 (ck v1 (kL S a3) (lt (kO S a3 (Int32.toNatClampNeg v1)) fun o4 =>
ckk S v0 12 (bd (kR S v0 6) fun a5 =>
ckk S v0 12 (bd (kR S v0 1) fun a6 =>
ckk S a6 1 (bd (fk_0_slotOf S a6 v3) fun r7 =>
ckk S a5 2 (bd (fk_1_begin S a5 v2 r7 v3 v4) fun S8 =>
bd o4 fun a9 =>
ckk S8 v0 12 (bd (fk_11_fits S8 v0 a9 v5 v6) fun q_r11 => lt q_r11.1 fun r11 => lt q_r11.2 fun S10 =>
if r11 = 0 then (
some ((-5 : Int32), S10))
else (
ckk S10 a9 8 (bd (fk_7_hasRoomFor S10 a9 v2 (1 : Int32)) fun r13 =>
if r13 = 0 then (
some ((-4 : Int32), S10))
else (
ckk S10 v0 12 (bd (kR S10 v0 6) fun a15 =>
ckk S10 a9 8 (bd (fk_7_make S10 a9 a15) fun q_o17 => lt q_o17.1 fun o17 => lt q_o17.2 fun S16 =>
bd o17 fun a18 =>
ckk S16 a18 9 (
some (kF S16 a18 11, S16))))))))))))))))
else (
some (r1, S)))
set_option maxRecDepth 100000 in
set_option maxHeartbeats 4000000 in
theorem tk_11_act (l : Launch) {D : cG} {S : cSt} {v0 : Nat} {v1 : Int32} {v2 : Int32} {v3 : Int32} {v4 : Int32} {v5 : Int32} {v6 : Int32} {r : Int32} {S9 : cSt} (h : fk_11_act S v0 v1 v2 v3 v4 v5 v6 = some (r, S9)) : Met l yX11_act (Cond.code yX11_act cX11_act 9 (some .int) :: lw_g) { frames := 6, cells := 2, slots := 18, locals := 149 } (kPi [.ref v0, .int v1, .int v2, .int v3, .int v4, .int v5, .int v6] D S) (kW (some (.int r)) D S S9) 2 18 (cA S) := by
  refine Met.ofW (cc := cX11_act) (maxL := 9) (ret := (some .int)) (by decide) rfl ?_
  intro p e s m args below meth c s₁ B hml hv
  obtain ⟨rfl, hW, X⟩ := hv
  have C : cY p (headSpec (Cond.code yX11_act cX11_act 9 (some .int) :: lw_g) { frames := 6, cells := 2, slots := 18, locals := 149 }).room s m _ meth c RX11 cX11_act 9 6 2 18 149 (some .int) := ⟨B.exec, B.bytes, hml, findClass_of_methodNamed B.named, fun w hw => atoms_spec (ws := Cond.code yX11_act cX11_act 9 (some .int) :: lw_g) B.pre w (List.mem_cons_of_mem _ hw), ⟨Nat.le_refl _, Nat.le_refl _, Nat.le_refl _, Nat.le_refl _⟩, B.returns, B.notSynchronized⟩
  have hl := lv_entry ([.ref v0, .int v1, .int v2, .int v3, .int v4, .int v5, .int v6]) (n := 9) (Nat.le_of_ble_eq_true rfl)
  rw [lg_entry_eq]
  generalize (lg_sl ([.ref v0, .int v1, .int v2, .int v3, .int v4, .int v5, .int v6]) ++ List.replicate (9 - (lg_sl ([.ref v0, .int v1, .int v2, .int v3, .int v4, .int v5, .int v6])).length) Slot.unset).toArray = ls at hl ⊢
  have hl : lv_has ls 9 [(0, .ref v0), (1, .int v1), (2, .int v2), (3, .int v3), (4, .int v4), (5, .int v5), (6, .int v6)] := hl
  have hJ : cJ D S s.heap S s.heap [] := cJ.rf hW
  unfold fk_11_act at h
  refine lv_aload_n C.1 C.2.1 dX11_act_0 rfl (lv_at hl 0 rfl) ?_
  refine lv_iload_n C.1 C.2.1 dX11_act_1 rfl (lv_at hl 1 rfl) ?_
  refine lv_iload_n C.1 C.2.1 dX11_act_2 rfl (lv_at hl 2 rfl) ?_
  refine lv_iload_n C.1 C.2.1 dX11_act_3 rfl (lv_at hl 3 rfl) ?_
  refine lv_iload C.1 C.2.1 dX11_act_4 (lv_at hl 4 rfl) ?_
  refine lv_iload C.1 C.2.1 dX11_act_6 (lv_at hl 5 rfl) ?_
  obtain ⟨hk, h⟩ := ckk_ok h
  obtain ⟨r1, h_r1, h⟩ := bd_ok h
  refine c_callR (rest := []) C X hJ.1 hl.1 11 (by decide) hk [.int v1, .int v2, .int v3, .int v4, .int v5] (tk_11_refusalOf l h_r1) cw11_119 ki_11_refusalOf kl_11_refusalOf rfl ⟨by decide, by decide⟩ ⟨(by decide), (by decide)⟩ rfl (Nat.le_of_ble_eq_true rfl) dX11_act_8 ?_
  refine W.eq (g2 := F0 m 11 ls [.int r1]) rfl ?_
  refine lv_istore (lv' := [(7, .int r1), (0, .ref v0), (1, .int v1), (2, .int v2), (3, .int v3), (4, .int v4), (5, .int v5), (6, .int v6)]) C.1 C.2.1 dX11_act_11 hl (by decide) rfl (fun ls hl => ?_)
  refine lv_iload C.1 C.2.1 dX11_act_13 (lv_at hl 0 rfl) ?_
  refine lv_if_eq (tgt := 21) C.1 C.2.1 dX11_act_15 (by decide) (fun c2 => ?_) (fun c2 => ?_)
  · have h := if_t h c2
    refine lv_aload_n C.1 C.2.1 dX11_act_21 rfl (lv_at hl 1 rfl) ?_
    obtain ⟨hk, h⟩ := ckk_ok h
    obtain ⟨a3, h_a3, h⟩ := bd_ok h
    refine gk11_25 C X hJ.1 hk h_a3 dX11_act_22 ?_
    refine lv_iload_n C.1 C.2.1 dX11_act_25 rfl (lv_at hl 2 rfl) ?_
    obtain ⟨hk, h⟩ := ckk_ok h
    obtain ⟨hin2, h⟩ := ck_ok h
    refine c_aald C 31 (by decide) X.2.2.2.2.2.1 hJ.1 hk hin2 dX11_act_26 ?_
    refine lt_ok h (fun o4 e_o4 h => ?_)
    refine lv_nmq e_o4 ?_
    refine lv_astoreq (o := o4) (lv' := [(8, va_rf o4), (7, .int r1), (0, .ref v0), (1, .int v1), (2, .int v2), (3, .int v3), (4, .int v4), (5, .int v5), (6, .int v6)]) C.1 C.2.1 dX11_act_27 hl (by decide) rfl (fun ls hl => ?_)
    refine lv_aload_n C.1 C.2.1 dX11_act_29 rfl (lv_at hl 2 rfl) ?_
    obtain ⟨hk, h⟩ := ckk_ok h
    obtain ⟨a5, h_a5, h⟩ := bd_ok h
    refine gk11_48 C X hJ.1 hk h_a5 dX11_act_30 ?_
    refine lv_iload_n C.1 C.2.1 dX11_act_33 rfl (lv_at hl 4 rfl) ?_
    refine lv_aload_n C.1 C.2.1 dX11_act_34 rfl (lv_at hl 2 rfl) ?_
    obtain ⟨hk, h⟩ := ckk_ok h
    obtain ⟨a6, h_a6, h⟩ := bd_ok h
    refine gk11_19 C X hJ.1 hk h_a6 dX11_act_35 ?_
    refine lv_iload_n C.1 C.2.1 dX11_act_38 rfl (lv_at hl 5 rfl) ?_
    obtain ⟨hk, h⟩ := ckk_ok h
    obtain ⟨r7, h_r7, h⟩ := bd_ok h
    refine c_callR (rest := [.int v2, .ref a5]) C X hJ.1 hl.1 0 (by decide) hk [.int v3] (tk_0_slotOf l h_r7) cw11_123 ki_0_slotOf kl_0_slotOf rfl ⟨by decide, by decide⟩ ⟨(by decide), (by decide)⟩ rfl (Nat.le_of_ble_eq_true rfl) dX11_act_39 ?_
    refine W.eq (g2 := F0 m 42 ls [.int r7, .int v2, .ref a5]) rfl ?_
    refine lv_iload_n C.1 C.2.1 dX11_act_42 rfl (lv_at hl 5 rfl) ?_
    refine lv_iload C.1 C.2.1 dX11_act_43 (lv_at hl 6 rfl) ?_
    obtain ⟨hk, h⟩ := ckk_ok h
    obtain ⟨S8, h_S8, h⟩ := bd_ok h
    refine c_callW (rest := []) C X hJ hl.1 1 (by decide) hk [.int v2, .int r7, .int v3, .int v4] (tk_1_begin l h_S8) cw11_126 ki_1_begin kl_1_begin rfl ⟨by decide, by decide⟩ ⟨(by decide), (by decide)⟩ rfl (Nat.le_of_ble_eq_true rfl) dX11_act_45 (fun H locs hJ => ?_)
    refine W.eq (g2 := F0 m 48 ls []) rfl ?_
    refine lv_aload_n C.1 C.2.1 dX11_act_48 rfl (lv_at hl 2 rfl) ?_
    refine lv_aloadq (o := o4) C.1 C.2.1 dX11_act_49 (lv_at hl 0 rfl) ?_
    refine lv_iload C.1 C.2.1 dX11_act_51 (lv_at hl 7 rfl) ?_
    refine lv_iload C.1 C.2.1 dX11_act_53 (lv_at hl 8 rfl) ?_
    obtain ⟨a9, e_a9, h⟩ := bd_ok h
    revert h; subst e_a9; intro h
    obtain ⟨hk, h⟩ := ckk_ok h
    obtain ⟨⟨r11, S10⟩, h_S10, h⟩ := bd_ok h
    replace h := lt2_ok h
    refine c_callW (rest := []) C X hJ hl.1 11 (by decide) hk [.ref a9, .int v5, .int v6] (tk_11_fits l h_S10) cw11_130 ki_11_fits kl_11_fits rfl ⟨by decide, by decide⟩ ⟨(by decide), (by decide)⟩ rfl (Nat.le_of_ble_eq_true rfl) dX11_act_55 (fun H locs hJ => ?_)
    refine W.eq (g2 := F0 m 58 ls [.int r11]) rfl ?_
    refine lv_if_ne (tgt := 64) C.1 C.2.1 dX11_act_58 (by decide) (fun c12 => ?_) (fun c12 => ?_)
    · have h := if_f h c12
      refine lv_aload C.1 C.2.1 dX11_act_64 (lv_at hl 0 rfl) ?_
      refine lv_iload_n C.1 C.2.1 dX11_act_66 rfl (lv_at hl 4 rfl) ?_
      refine lv_iconst (v := 1) C.1 C.2.1 dX11_act_67 (by decide) ?_
      obtain ⟨hk, h⟩ := ckk_ok h
      obtain ⟨r13, h_r13, h⟩ := bd_ok h
      refine c_callR (rest := []) C X hJ.1 hl.1 7 (by decide) hk [.int v2, .int (1 : Int32)] (tk_7_hasRoomFor l h_r13) cw11_134 ki_7_hasRoomFor kl_7_hasRoomFor rfl ⟨by decide, by decide⟩ ⟨(by decide), (by decide)⟩ rfl (Nat.le_of_ble_eq_true rfl) dX11_act_68 ?_
      refine W.eq (g2 := F0 m 71 ls [.int r13]) rfl ?_
      refine lv_if_ne (tgt := 77) C.1 C.2.1 dX11_act_71 (by decide) (fun c14 => ?_) (fun c14 => ?_)
      · have h := if_f h c14
        refine lv_aload C.1 C.2.1 dX11_act_77 (lv_at hl 0 rfl) ?_
        refine lv_aload_n C.1 C.2.1 dX11_act_79 rfl (lv_at hl 2 rfl) ?_
        obtain ⟨hk, h⟩ := ckk_ok h
        obtain ⟨a15, h_a15, h⟩ := bd_ok h
        refine gk11_48 C X hJ.1 hk h_a15 dX11_act_80 ?_
        obtain ⟨hk, h⟩ := ckk_ok h
        obtain ⟨⟨o17, S16⟩, h_S16, h⟩ := bd_ok h
        replace h := lt2_ok h
        refine c_callW (rest := []) C X hJ hl.1 7 (by decide) hk [.ref a15] (tk_7_make l h_S16) cw11_138 ki_7_make kl_7_make rfl ⟨by decide, by decide⟩ ⟨(by decide), (by decide)⟩ rfl (Nat.le_of_ble_eq_true rfl) dX11_act_83 (fun H locs hJ => ?_)
        refine W.eq (g2 := F0 m 86 ls [va_rf o17]) rfl ?_
        obtain ⟨a18, e_a18, h⟩ := bd_ok h
        revert h; subst e_a18; intro h
        obtain ⟨hk, h⟩ := ckk_ok h
        refine gk11_142 C X hJ.1 hk dX11_act_86 ?_
        cases h
        exact c_retiW C hJ dX11_act_89
      · have h := if_t h c14
        refine lv_bipush (v := -4) C.1 C.2.1 dX11_act_74 (by decide) ?_
        cases h
        refine W.widen (k := 2) (n := 18) (by decide) (by decide) ?_
        exact c_retiW C hJ dX11_act_76
    · have h := if_t h c12
      refine lv_bipush (v := -5) C.1 C.2.1 dX11_act_61 (by decide) ?_
      cases h
      refine W.widen (k := 2) (n := 18) (by decide) (by decide) ?_
      exact c_retiW C hJ dX11_act_63
  · have h := if_f h c2
    refine lv_iload C.1 C.2.1 dX11_act_18 (lv_at hl 0 rfl) ?_
    cases h
    refine W.widen (k := 2) (n := 18) (by decide) (by decide) ?_
    exact c_retiW C hJ dX11_act_20
end
theorem dX11_carryOver_0 : decode cX11_carryOver 0 = .ok (.iconst 0, 1) := by decide +kernel
theorem dX11_carryOver_1 : decode cX11_carryOver 1 = .ok (.istore_n 3, 1) := by decide +kernel
theorem dX11_carryOver_2 : decode cX11_carryOver 2 = .ok (.iconst 0, 1) := by decide +kernel
theorem dX11_carryOver_3 : decode cX11_carryOver 3 = .ok (.istore 4, 2) := by decide +kernel
theorem dX11_carryOver_5 : decode cX11_carryOver 5 = .ok (.iconst 0, 1) := by decide +kernel
theorem dX11_carryOver_6 : decode cX11_carryOver 6 = .ok (.istore 5, 2) := by decide +kernel
theorem dX11_carryOver_8 : decode cX11_carryOver 8 = .ok (.aload_n 0, 1) := by decide +kernel
theorem dX11_carryOver_9 : decode cX11_carryOver 9 = .ok (.getfield 41, 3) := by decide +kernel
theorem dX11_carryOver_12 : decode cX11_carryOver 12 = .ok (.getfield 165, 3) := by decide +kernel
theorem dX11_carryOver_15 : decode cX11_carryOver 15 = .ok (.iload_n 2, 1) := by decide +kernel
theorem dX11_carryOver_16 : decode cX11_carryOver 16 = .ok (.iadd, 1) := by decide +kernel
theorem dX11_carryOver_17 : decode cX11_carryOver 17 = .ok (.istore 6, 2) := by decide +kernel
theorem dX11_carryOver_19 : decode cX11_carryOver 19 = .ok (.iconst 0, 1) := by decide +kernel
theorem dX11_carryOver_20 : decode cX11_carryOver 20 = .ok (.istore 7, 2) := by decide +kernel
theorem dX11_carryOver_22 : decode cX11_carryOver 22 = .ok (.iload 7, 2) := by decide +kernel
theorem dX11_carryOver_24 : decode cX11_carryOver 24 = .ok (.iload 6, 2) := by decide +kernel
theorem dX11_carryOver_26 : decode cX11_carryOver 26 = .ok (.if_icmp .ge 229, 3) := by decide +kernel
theorem dX11_carryOver_29 : decode cX11_carryOver 29 = .ok (.iload_n 3, 1) := by decide +kernel
theorem dX11_carryOver_30 : decode cX11_carryOver 30 = .ok (.aload_n 0, 1) := by decide +kernel
theorem dX11_carryOver_31 : decode cX11_carryOver 31 = .ok (.getfield 41, 3) := by decide +kernel
theorem dX11_carryOver_34 : decode cX11_carryOver 34 = .ok (.getfield 165, 3) := by decide +kernel
theorem dX11_carryOver_37 : decode cX11_carryOver 37 = .ok (.if_icmp .lt 9, 3) := by decide +kernel
theorem dX11_carryOver_40 : decode cX11_carryOver 40 = .ok (.iload 4, 2) := by decide +kernel
theorem dX11_carryOver_42 : decode cX11_carryOver 42 = .ok (.iload_n 2, 1) := by decide +kernel
theorem dX11_carryOver_43 : decode cX11_carryOver 43 = .ok (.if_icmp .ge 212, 3) := by decide +kernel
theorem dX11_carryOver_46 : decode cX11_carryOver 46 = .ok (.aload_n 0, 1) := by decide +kernel
theorem dX11_carryOver_47 : decode cX11_carryOver 47 = .ok (.getfield 41, 3) := by decide +kernel
theorem dX11_carryOver_50 : decode cX11_carryOver 50 = .ok (.iload_n 3, 1) := by decide +kernel
theorem dX11_carryOver_51 : decode cX11_carryOver 51 = .ok (.iload 4, 2) := by decide +kernel
theorem dX11_carryOver_53 : decode cX11_carryOver 53 = .ok (.invokevirtual 500, 3) := by decide +kernel
theorem dX11_carryOver_56 : decode cX11_carryOver 56 = .ok (.ifCond .eq 55, 3) := by decide +kernel
theorem dX11_carryOver_59 : decode cX11_carryOver 59 = .ok (.aload_n 0, 1) := by decide +kernel
theorem dX11_carryOver_60 : decode cX11_carryOver 60 = .ok (.getfield 41, 3) := by decide +kernel
theorem dX11_carryOver_63 : decode cX11_carryOver 63 = .ok (.iload_n 3, 1) := by decide +kernel
theorem dX11_carryOver_64 : decode cX11_carryOver 64 = .ok (.iload 4, 2) := by decide +kernel
theorem dX11_carryOver_66 : decode cX11_carryOver 66 = .ok (.invokevirtual 168, 3) := by decide +kernel
theorem dX11_carryOver_69 : decode cX11_carryOver 69 = .ok (.iconst 1, 1) := by decide +kernel
theorem dX11_carryOver_70 : decode cX11_carryOver 70 = .ok (.aload_n 0, 1) := by decide +kernel
theorem dX11_carryOver_71 : decode cX11_carryOver 71 = .ok (.getfield 41, 3) := by decide +kernel
theorem dX11_carryOver_74 : decode cX11_carryOver 74 = .ok (.iload_n 3, 1) := by decide +kernel
theorem dX11_carryOver_75 : decode cX11_carryOver 75 = .ok (.iconst 1, 1) := by decide +kernel
theorem dX11_carryOver_76 : decode cX11_carryOver 76 = .ok (.iadd, 1) := by decide +kernel
theorem dX11_carryOver_77 : decode cX11_carryOver 77 = .ok (.iload 4, 2) := by decide +kernel
theorem dX11_carryOver_79 : decode cX11_carryOver 79 = .ok (.iconst 1, 1) := by decide +kernel
theorem dX11_carryOver_80 : decode cX11_carryOver 80 = .ok (.iadd, 1) := by decide +kernel
theorem dX11_carryOver_81 : decode cX11_carryOver 81 = .ok (.invokevirtual 168, 3) := by decide +kernel
theorem dX11_carryOver_84 : decode cX11_carryOver 84 = .ok (.iadd, 1) := by decide +kernel
theorem dX11_carryOver_85 : decode cX11_carryOver 85 = .ok (.if_icmp .ne 26, 3) := by decide +kernel
theorem dX11_carryOver_88 : decode cX11_carryOver 88 = .ok (.aload_n 0, 1) := by decide +kernel
theorem dX11_carryOver_89 : decode cX11_carryOver 89 = .ok (.getfield 41, 3) := by decide +kernel
theorem dX11_carryOver_92 : decode cX11_carryOver 92 = .ok (.getfield 377, 3) := by decide +kernel
theorem dX11_carryOver_95 : decode cX11_carryOver 95 = .ok (.iload_n 3, 1) := by decide +kernel
theorem dX11_carryOver_96 : decode cX11_carryOver 96 = .ok (.aaload, 1) := by decide +kernel
theorem dX11_carryOver_97 : decode cX11_carryOver 97 = .ok (.getfield 142, 3) := by decide +kernel
theorem dX11_carryOver_100 : decode cX11_carryOver 100 = .ok (.istore 5, 2) := by decide +kernel
theorem dX11_carryOver_102 : decode cX11_carryOver 102 = .ok (.iinc 3 1, 3) := by decide +kernel
theorem dX11_carryOver_105 : decode cX11_carryOver 105 = .ok (.iinc 4 1, 3) := by decide +kernel
theorem dX11_carryOver_108 : decode cX11_carryOver 108 = .ok (.goto 141, 3) := by decide +kernel
theorem dX11_carryOver_111 : decode cX11_carryOver 111 = .ok (.iload_n 3, 1) := by decide +kernel
theorem dX11_carryOver_112 : decode cX11_carryOver 112 = .ok (.aload_n 0, 1) := by decide +kernel
theorem dX11_carryOver_113 : decode cX11_carryOver 113 = .ok (.getfield 41, 3) := by decide +kernel
theorem dX11_carryOver_116 : decode cX11_carryOver 116 = .ok (.getfield 165, 3) := by decide +kernel
theorem dX11_carryOver_119 : decode cX11_carryOver 119 = .ok (.if_icmp .ge 79, 3) := by decide +kernel
theorem dX11_carryOver_122 : decode cX11_carryOver 122 = .ok (.aload_n 0, 1) := by decide +kernel
theorem dX11_carryOver_123 : decode cX11_carryOver 123 = .ok (.getfield 41, 3) := by decide +kernel
theorem dX11_carryOver_126 : decode cX11_carryOver 126 = .ok (.iload_n 3, 1) := by decide +kernel
theorem dX11_carryOver_127 : decode cX11_carryOver 127 = .ok (.iload 4, 2) := by decide +kernel
theorem dX11_carryOver_129 : decode cX11_carryOver 129 = .ok (.invokevirtual 168, 3) := by decide +kernel
theorem dX11_carryOver_132 : decode cX11_carryOver 132 = .ok (.aload_n 0, 1) := by decide +kernel
theorem dX11_carryOver_133 : decode cX11_carryOver 133 = .ok (.getfield 41, 3) := by decide +kernel
theorem dX11_carryOver_136 : decode cX11_carryOver 136 = .ok (.iload_n 3, 1) := by decide +kernel
theorem dX11_carryOver_137 : decode cX11_carryOver 137 = .ok (.iconst 1, 1) := by decide +kernel
theorem dX11_carryOver_138 : decode cX11_carryOver 138 = .ok (.iadd, 1) := by decide +kernel
theorem dX11_carryOver_139 : decode cX11_carryOver 139 = .ok (.iload 4, 2) := by decide +kernel
theorem dX11_carryOver_141 : decode cX11_carryOver 141 = .ok (.invokevirtual 168, 3) := by decide +kernel
theorem dX11_carryOver_144 : decode cX11_carryOver 144 = .ok (.if_icmp .ne 54, 3) := by decide +kernel
theorem dX11_carryOver_147 : decode cX11_carryOver 147 = .ok (.aload_n 0, 1) := by decide +kernel
theorem dX11_carryOver_148 : decode cX11_carryOver 148 = .ok (.getfield 48, 3) := by decide +kernel
theorem dX11_carryOver_151 : decode cX11_carryOver 151 = .ok (.bipush 10, 2) := by decide +kernel
theorem dX11_carryOver_153 : decode cX11_carryOver 153 = .ok (.putfield 471, 3) := by decide +kernel
theorem dX11_carryOver_156 : decode cX11_carryOver 156 = .ok (.aload_n 0, 1) := by decide +kernel
theorem dX11_carryOver_157 : decode cX11_carryOver 157 = .ok (.getfield 48, 3) := by decide +kernel
theorem dX11_carryOver_160 : decode cX11_carryOver 160 = .ok (.iconst 0, 1) := by decide +kernel
theorem dX11_carryOver_161 : decode cX11_carryOver 161 = .ok (.putfield 486, 3) := by decide +kernel
theorem dX11_carryOver_164 : decode cX11_carryOver 164 = .ok (.aload_n 0, 1) := by decide +kernel
theorem dX11_carryOver_165 : decode cX11_carryOver 165 = .ok (.getfield 48, 3) := by decide +kernel
theorem dX11_carryOver_168 : decode cX11_carryOver 168 = .ok (.aload_n 0, 1) := by decide +kernel
theorem dX11_carryOver_169 : decode cX11_carryOver 169 = .ok (.getfield 41, 3) := by decide +kernel
theorem dX11_carryOver_172 : decode cX11_carryOver 172 = .ok (.getfield 377, 3) := by decide +kernel
theorem dX11_carryOver_175 : decode cX11_carryOver 175 = .ok (.iload_n 3, 1) := by decide +kernel
theorem dX11_carryOver_176 : decode cX11_carryOver 176 = .ok (.aaload, 1) := by decide +kernel
theorem dX11_carryOver_177 : decode cX11_carryOver 177 = .ok (.getfield 142, 3) := by decide +kernel
theorem dX11_carryOver_180 : decode cX11_carryOver 180 = .ok (.putfield 482, 3) := by decide +kernel
theorem dX11_carryOver_183 : decode cX11_carryOver 183 = .ok (.aload_n 1, 1) := by decide +kernel
theorem dX11_carryOver_184 : decode cX11_carryOver 184 = .ok (.aload_n 0, 1) := by decide +kernel
theorem dX11_carryOver_185 : decode cX11_carryOver 185 = .ok (.getfield 48, 3) := by decide +kernel
theorem dX11_carryOver_188 : decode cX11_carryOver 188 = .ok (.invokevirtual 138, 3) := by decide +kernel
theorem dX11_carryOver_191 : decode cX11_carryOver 191 = .ok (.pop, 1) := by decide +kernel
theorem dX11_carryOver_192 : decode cX11_carryOver 192 = .ok (.iinc 3 1, 3) := by decide +kernel
theorem dX11_carryOver_195 : decode cX11_carryOver 195 = .ok (.goto 54, 3) := by decide +kernel
theorem dX11_carryOver_198 : decode cX11_carryOver 198 = .ok (.aload_n 0, 1) := by decide +kernel
theorem dX11_carryOver_199 : decode cX11_carryOver 199 = .ok (.getfield 48, 3) := by decide +kernel
theorem dX11_carryOver_202 : decode cX11_carryOver 202 = .ok (.bipush 9, 2) := by decide +kernel
theorem dX11_carryOver_204 : decode cX11_carryOver 204 = .ok (.putfield 471, 3) := by decide +kernel
theorem dX11_carryOver_207 : decode cX11_carryOver 207 = .ok (.aload_n 0, 1) := by decide +kernel
theorem dX11_carryOver_208 : decode cX11_carryOver 208 = .ok (.getfield 48, 3) := by decide +kernel
theorem dX11_carryOver_211 : decode cX11_carryOver 211 = .ok (.aload_n 0, 1) := by decide +kernel
theorem dX11_carryOver_212 : decode cX11_carryOver 212 = .ok (.getfield 12, 3) := by decide +kernel
theorem dX11_carryOver_215 : decode cX11_carryOver 215 = .ok (.getfield 157, 3) := by decide +kernel
theorem dX11_carryOver_218 : decode cX11_carryOver 218 = .ok (.iload 4, 2) := by decide +kernel
theorem dX11_carryOver_220 : decode cX11_carryOver 220 = .ok (.caload, 1) := by decide +kernel
theorem dX11_carryOver_221 : decode cX11_carryOver 221 = .ok (.putfield 486, 3) := by decide +kernel
theorem dX11_carryOver_224 : decode cX11_carryOver 224 = .ok (.aload_n 0, 1) := by decide +kernel
theorem dX11_carryOver_225 : decode cX11_carryOver 225 = .ok (.getfield 48, 3) := by decide +kernel
theorem dX11_carryOver_228 : decode cX11_carryOver 228 = .ok (.iload 5, 2) := by decide +kernel
theorem dX11_carryOver_230 : decode cX11_carryOver 230 = .ok (.putfield 482, 3) := by decide +kernel
theorem dX11_carryOver_233 : decode cX11_carryOver 233 = .ok (.aload_n 1, 1) := by decide +kernel
theorem dX11_carryOver_234 : decode cX11_carryOver 234 = .ok (.aload_n 0, 1) := by decide +kernel
theorem dX11_carryOver_235 : decode cX11_carryOver 235 = .ok (.getfield 48, 3) := by decide +kernel
theorem dX11_carryOver_238 : decode cX11_carryOver 238 = .ok (.invokevirtual 138, 3) := by decide +kernel
theorem dX11_carryOver_241 : decode cX11_carryOver 241 = .ok (.getfield 142, 3) := by decide +kernel
theorem dX11_carryOver_244 : decode cX11_carryOver 244 = .ok (.istore 5, 2) := by decide +kernel
theorem dX11_carryOver_246 : decode cX11_carryOver 246 = .ok (.iinc 4 1, 3) := by decide +kernel
theorem dX11_carryOver_249 : decode cX11_carryOver 249 = .ok (.iinc 7 1, 3) := by decide +kernel
theorem dX11_carryOver_252 : decode cX11_carryOver 252 = .ok (.goto (-230), 3) := by decide +kernel
theorem dX11_carryOver_255 : decode cX11_carryOver 255 = .ok (.return_, 1) := by decide +kernel
theorem kd_11_carryOver : Cond.code yX11_carryOver cX11_carryOver 8 none ∈ lw_g := mt_at 1201 (by decide +kernel) rfl
theorem ki_11_carryOver : Cond.instanceMethod yX11_carryOver ∈ lw_g := mt_at 1200 (by decide +kernel) rfl
theorem kl_11_carryOver : Cond.selects (kRn 11) yX11_carryOver yX11_carryOver ∈ lw_g := mt_sel 23 (by decide +kernel) rfl
theorem cw11_168 : cCw RX11 168 yX9_common cX9_common 3 (some .int) 2 := ⟨kd_9_common, mt_at 1197 (by decide +kernel) rfl, mt_at 5 (by decide +kernel) rfl, by decide +kernel⟩
theorem cw11_500 : cCw RX11 500 yX9_isSame cX9_isSame 3 (some .boolean) 2 := ⟨kd_9_isSame, mt_at 1202 (by decide +kernel) rfl, mt_at 5 (by decide +kernel) rfl, by decide +kernel⟩
section
variable {p : Program} {l : Launch} {e : Env} {R : Room} {s : State} {m : MethodId} {args : Array Value} {below : List Frame} {meth : Method} {c : Code} {H : Heap} {locs : List Loc} {cells slots : Nat} {Q : State → Prop}
variable {D : cG} {S S0 : cSt} {cc : ByteArray} {nL : Nat} {pc : Nat} {ls : Array Slot} {rest : List Value} {H0 : Heap} {nF nR nC nS : Nat} {ret : Option FieldType} {a : Nat}
theorem gk11_157 (C : cY p R s m args meth c RX11 cc nL nF nC nS nR ret) (X : cX D s) (hW : cW D S H) (hk : kK S a = 4) {x : Nat} (hx : kR S a 0 = some x) (hdg : decode cc pc = .ok (.getfield 157, 3)) (kk : W p l e R s m args below meth c H locs cells slots Q (F0 m (pc + 3) ls (.ref x :: rest))) : W p l e R s m args below meth c H locs cells slots Q (F0 m pc ls (.ref a :: rest)) := c_get C X hW 3 (by decide) ly_3 hk 0 (by decide) (mt_at 47 (by decide +kernel) (by decide +kernel)) hdg (by rw [cV_R (by decide +kernel) hx]; exact kk)
theorem pk11_471 {x : Int32} (C : cY p R s m args meth c RX11 cc nL nF nC nS nR ret) (X : cX D s) (hJ : cJ D S0 H0 S H locs) (hk : kK S a = 2) (hdg : decode cc pc = .ok (.putfield 471, 3)) (kk : ∀ (H1 : Heap) (locs1 : List Loc), cJ D S0 H0 (cPi S a 0 x) H1 locs1 → W p l e R s m args below meth c H1 locs1 cells slots Q (F0 m (pc + 3) ls (rest))) : W p l e R s m args below meth c H locs cells slots Q (F0 m pc ls (.int x :: .ref a :: rest)) := c_put (S1 := (cPi S a 0 x)) C X hJ 1 (by decide) ly_1 hk 0 (by decide) (by decide +kernel)  rfl rfl (by decide) rfl rfl (fun j _ => c_vI (by decide +kernel)) c_oPi (mt_at 164 (by decide +kernel) (by decide +kernel)) hdg kk
end
section
variable {p : Program} {l : Launch} {e : Env} {R : Room} {s : State} {m : MethodId} {args : Array Value} {below : List Frame} {meth : Method} {c : Code} {D : cG} {S0 S9 : cSt}
noncomputable def fk_11_carryOver_255 (S : cSt) : Option (cSt) :=
some S
set_option maxRecDepth 100000 in
set_option maxHeartbeats 4000000 in
theorem wk_11_carryOver_255 (C : cY p R s m args meth c RX11 cX11_carryOver 8 6 2200 19800 142 none) (X : cX D s) : ∀ {S : cSt} {H : Heap} {locs : List Loc} {ls : Array Slot}, fk_11_carryOver_255 S = some S9 → cJ D S0 s.heap S H locs → lv_has ls 8 [] → W p l e R s m args below meth c H locs 2200 19800 (MQ below (kW none D S0 S9) args s 2200 19800 (cA S0)) (F0 m 255 ls []) := by
  intro S H locs ls h hJ hl
  unfold fk_11_carryOver_255 at h
  cases h
  exact c_retvW C hJ dX11_carryOver_255
noncomputable def fk_11_carryOver_22 : Nat → cSt → Nat → Nat → Int32 → Int32 → Int32 → Int32 → Int32 → Int32 → Option (cSt)
  | 0, _, _, _, _, _, _, _, _, _ => none
  | n + 1, S, v0, v1, v2, v3, v4, v5, v6, v7 =>
    if v6 ≤ v7 then (
    fk_11_carryOver_255 S)
    else (
    ckk S v0 12 (bd (kR S v0 5) fun a2 =>
    ckk S a2 10 (
    if v3 < (kF S a2 1) then (
    ckk S v0 12 (bd (kR S v0 5) fun a4 =>
    ckk S a4 10 (bd (fk_9_isSame S a4 v3 v4) fun r5 =>
    if r5 = 0 then (
    ckk S v0 12 (bd (kR S v0 5) fun a7 =>
    ckk S a7 10 (
    if (kF S a7 1) ≤ v3 then (
    ckk S v0 12 (bd (kR S v0 6) fun a9 =>
    ckk S a9 2 (lt (cPi S a9 0 (9 : Int32)) fun S10 =>
    ckk S10 v0 12 (bd (kR S10 v0 6) fun a11 =>
    ckk S10 v0 12 (bd (kR S10 v0 0) fun a12 =>
    ckk S10 a12 4 (bd (kR S10 a12 0) fun a13 =>
    ckk S10 a13 22 (ck v4 (kL S10 a13) (
    ckk S10 a11 2 (lt (cPi S10 a11 4 (kI S10 a13 (Int32.toNatClampNeg v4))) fun S14 =>
    ckk S14 v0 12 (bd (kR S14 v0 6) fun a15 =>
    ckk S14 a15 2 (lt (cPi S14 a15 5 v5) fun S16 =>
    ckk S16 v0 12 (bd (kR S16 v0 6) fun a17 =>
    ckk S16 v1 8 (bd (fk_7_make S16 v1 a17) fun q_o19 => lt q_o19.1 fun o19 => lt q_o19.2 fun S18 =>
    bd o19 fun a20 =>
    ckk S18 a20 9 (
    lt (kF S18 a20 11) fun x21 =>
    lt (v4 + (1 : Int32)) fun x22 =>
    lt (v7 + (1 : Int32)) fun x23 =>
    fk_11_carryOver_22 n S18 v0 v1 v2 v3 x22 x21 v6 x23))))))))))))))
    else (
    ckk S v0 12 (bd (kR S v0 5) fun a24 =>
    ckk S a24 10 (bd (fk_9_common S a24 v3 v4) fun r25 =>
    ckk S v0 12 (bd (kR S v0 5) fun a26 =>
    ckk S a26 10 (bd (fk_9_common S a26 (v3 + (1 : Int32)) v4) fun r27 =>
    if r25 = r27 then (
    ckk S v0 12 (bd (kR S v0 6) fun a44 =>
    ckk S a44 2 (lt (cPi S a44 0 (10 : Int32)) fun S45 =>
    ckk S45 v0 12 (bd (kR S45 v0 6) fun a46 =>
    ckk S45 a46 2 (lt (cPi S45 a46 4 (0 : Int32)) fun S47 =>
    ckk S47 v0 12 (bd (kR S47 v0 6) fun a48 =>
    ckk S47 v0 12 (bd (kR S47 v0 5) fun a49 =>
    ckk S47 a49 10 (bd (kR S47 a49 0) fun a50 =>
    ckk S47 a50 30 (ck v3 (kL S47 a50) (lt (kO S47 a50 (Int32.toNatClampNeg v3)) fun o51 =>
    bd o51 fun a52 =>
    ckk S47 a52 9 (
    ckk S47 a48 2 (lt (cPi S47 a48 5 (kF S47 a52 11)) fun S53 =>
    ckk S53 v0 12 (bd (kR S53 v0 6) fun a54 =>
    ckk S53 v1 8 (bd (fk_7_make S53 v1 a54) fun q_o56 => lt q_o56.1 fun o56 => lt q_o56.2 fun S55 =>
    lt (v3 + (1 : Int32)) fun x57 =>
    lt (v7 + (1 : Int32)) fun x58 =>
    fk_11_carryOver_22 n S55 v0 v1 v2 x57 v4 v5 v6 x58))))))))))))))
    else (
    ckk S v0 12 (bd (kR S v0 6) fun a29 =>
    ckk S a29 2 (lt (cPi S a29 0 (9 : Int32)) fun S30 =>
    ckk S30 v0 12 (bd (kR S30 v0 6) fun a31 =>
    ckk S30 v0 12 (bd (kR S30 v0 0) fun a32 =>
    ckk S30 a32 4 (bd (kR S30 a32 0) fun a33 =>
    ckk S30 a33 22 (ck v4 (kL S30 a33) (
    ckk S30 a31 2 (lt (cPi S30 a31 4 (kI S30 a33 (Int32.toNatClampNeg v4))) fun S34 =>
    ckk S34 v0 12 (bd (kR S34 v0 6) fun a35 =>
    ckk S34 a35 2 (lt (cPi S34 a35 5 v5) fun S36 =>
    ckk S36 v0 12 (bd (kR S36 v0 6) fun a37 =>
    ckk S36 v1 8 (bd (fk_7_make S36 v1 a37) fun q_o39 => lt q_o39.1 fun o39 => lt q_o39.2 fun S38 =>
    bd o39 fun a40 =>
    ckk S38 a40 9 (
    lt (kF S38 a40 11) fun x41 =>
    lt (v4 + (1 : Int32)) fun x42 =>
    lt (v7 + (1 : Int32)) fun x43 =>
    fk_11_carryOver_22 n S38 v0 v1 v2 v3 x42 x41 v6 x43))))))))))))))))))))))
    else (
    ckk S v0 12 (bd (kR S v0 5) fun a59 =>
    ckk S a59 10 (bd (fk_9_common S a59 v3 v4) fun r60 =>
    ckk S v0 12 (bd (kR S v0 5) fun a61 =>
    ckk S a61 10 (bd (fk_9_common S a61 (v3 + (1 : Int32)) (v4 + (1 : Int32))) fun r62 =>
    if r60 = ((1 : Int32) + r62) then (
    ckk S v0 12 (bd (kR S v0 5) fun a116 =>
    ckk S a116 10 (bd (kR S a116 0) fun a117 =>
    ckk S a117 30 (ck v3 (kL S a117) (lt (kO S a117 (Int32.toNatClampNeg v3)) fun o118 =>
    bd o118 fun a119 =>
    ckk S a119 9 (
    lt (kF S a119 11) fun x120 =>
    lt (v3 + (1 : Int32)) fun x121 =>
    lt (v4 + (1 : Int32)) fun x122 =>
    lt (v7 + (1 : Int32)) fun x123 =>
    fk_11_carryOver_22 n S v0 v1 v2 x121 x122 x120 v6 x123))))))
    else (
    ckk S v0 12 (bd (kR S v0 5) fun a64 =>
    ckk S a64 10 (
    if (kF S a64 1) ≤ v3 then (
    ckk S v0 12 (bd (kR S v0 6) fun a66 =>
    ckk S a66 2 (lt (cPi S a66 0 (9 : Int32)) fun S67 =>
    ckk S67 v0 12 (bd (kR S67 v0 6) fun a68 =>
    ckk S67 v0 12 (bd (kR S67 v0 0) fun a69 =>
    ckk S67 a69 4 (bd (kR S67 a69 0) fun a70 =>
    ckk S67 a70 22 (ck v4 (kL S67 a70) (
    ckk S67 a68 2 (lt (cPi S67 a68 4 (kI S67 a70 (Int32.toNatClampNeg v4))) fun S71 =>
    ckk S71 v0 12 (bd (kR S71 v0 6) fun a72 =>
    ckk S71 a72 2 (lt (cPi S71 a72 5 v5) fun S73 =>
    ckk S73 v0 12 (bd (kR S73 v0 6) fun a74 =>
    ckk S73 v1 8 (bd (fk_7_make S73 v1 a74) fun q_o76 => lt q_o76.1 fun o76 => lt q_o76.2 fun S75 =>
    bd o76 fun a77 =>
    ckk S75 a77 9 (
    lt (kF S75 a77 11) fun x78 =>
    lt (v4 + (1 : Int32)) fun x79 =>
    lt (v7 + (1 : Int32)) fun x80 =>
    fk_11_carryOver_22 n S75 v0 v1 v2 v3 x79 x78 v6 x80))))))))))))))
    else (
    ckk S v0 12 (bd (kR S v0 5) fun a81 =>
    ckk S a81 10 (bd (fk_9_common S a81 v3 v4) fun r82 =>
    ckk S v0 12 (bd (kR S v0 5) fun a83 =>
    ckk S a83 10 (bd (fk_9_common S a83 (v3 + (1 : Int32)) v4) fun r84 =>
    if r82 = r84 then (
    ckk S v0 12 (bd (kR S v0 6) fun a101 =>
    ckk S a101 2 (lt (cPi S a101 0 (10 : Int32)) fun S102 =>
    ckk S102 v0 12 (bd (kR S102 v0 6) fun a103 =>
    ckk S102 a103 2 (lt (cPi S102 a103 4 (0 : Int32)) fun S104 =>
    ckk S104 v0 12 (bd (kR S104 v0 6) fun a105 =>
    ckk S104 v0 12 (bd (kR S104 v0 5) fun a106 =>
    ckk S104 a106 10 (bd (kR S104 a106 0) fun a107 =>
    ckk S104 a107 30 (ck v3 (kL S104 a107) (lt (kO S104 a107 (Int32.toNatClampNeg v3)) fun o108 =>
    bd o108 fun a109 =>
    ckk S104 a109 9 (
    ckk S104 a105 2 (lt (cPi S104 a105 5 (kF S104 a109 11)) fun S110 =>
    ckk S110 v0 12 (bd (kR S110 v0 6) fun a111 =>
    ckk S110 v1 8 (bd (fk_7_make S110 v1 a111) fun q_o113 => lt q_o113.1 fun o113 => lt q_o113.2 fun S112 =>
    lt (v3 + (1 : Int32)) fun x114 =>
    lt (v7 + (1 : Int32)) fun x115 =>
    fk_11_carryOver_22 n S112 v0 v1 v2 x114 v4 v5 v6 x115))))))))))))))
    else (
    ckk S v0 12 (bd (kR S v0 6) fun a86 =>
    ckk S a86 2 (lt (cPi S a86 0 (9 : Int32)) fun S87 =>
    ckk S87 v0 12 (bd (kR S87 v0 6) fun a88 =>
    ckk S87 v0 12 (bd (kR S87 v0 0) fun a89 =>
    ckk S87 a89 4 (bd (kR S87 a89 0) fun a90 =>
    ckk S87 a90 22 (ck v4 (kL S87 a90) (
    ckk S87 a88 2 (lt (cPi S87 a88 4 (kI S87 a90 (Int32.toNatClampNeg v4))) fun S91 =>
    ckk S91 v0 12 (bd (kR S91 v0 6) fun a92 =>
    ckk S91 a92 2 (lt (cPi S91 a92 5 v5) fun S93 =>
    ckk S93 v0 12 (bd (kR S93 v0 6) fun a94 =>
    ckk S93 v1 8 (bd (fk_7_make S93 v1 a94) fun q_o96 => lt q_o96.1 fun o96 => lt q_o96.2 fun S95 =>
    bd o96 fun a97 =>
    ckk S95 a97 9 (
    lt (kF S95 a97 11) fun x98 =>
    lt (v4 + (1 : Int32)) fun x99 =>
    lt (v7 + (1 : Int32)) fun x100 =>
    fk_11_carryOver_22 n S95 v0 v1 v2 v3 x99 x98 v6 x100))))))))))))))))))))))))))))))
    else (
    if v2 ≤ v4 then (
    fk_11_carryOver_255 S)
    else (
    ckk S v0 12 (bd (kR S v0 5) fun a125 =>
    ckk S a125 10 (bd (fk_9_isSame S a125 v3 v4) fun r126 =>
    if r126 = 0 then (
    ckk S v0 12 (bd (kR S v0 5) fun a128 =>
    ckk S a128 10 (
    if (kF S a128 1) ≤ v3 then (
    ckk S v0 12 (bd (kR S v0 6) fun a130 =>
    ckk S a130 2 (lt (cPi S a130 0 (9 : Int32)) fun S131 =>
    ckk S131 v0 12 (bd (kR S131 v0 6) fun a132 =>
    ckk S131 v0 12 (bd (kR S131 v0 0) fun a133 =>
    ckk S131 a133 4 (bd (kR S131 a133 0) fun a134 =>
    ckk S131 a134 22 (ck v4 (kL S131 a134) (
    ckk S131 a132 2 (lt (cPi S131 a132 4 (kI S131 a134 (Int32.toNatClampNeg v4))) fun S135 =>
    ckk S135 v0 12 (bd (kR S135 v0 6) fun a136 =>
    ckk S135 a136 2 (lt (cPi S135 a136 5 v5) fun S137 =>
    ckk S137 v0 12 (bd (kR S137 v0 6) fun a138 =>
    ckk S137 v1 8 (bd (fk_7_make S137 v1 a138) fun q_o140 => lt q_o140.1 fun o140 => lt q_o140.2 fun S139 =>
    bd o140 fun a141 =>
    ckk S139 a141 9 (
    lt (kF S139 a141 11) fun x142 =>
    lt (v4 + (1 : Int32)) fun x143 =>
    lt (v7 + (1 : Int32)) fun x144 =>
    fk_11_carryOver_22 n S139 v0 v1 v2 v3 x143 x142 v6 x144))))))))))))))
    else (
    ckk S v0 12 (bd (kR S v0 5) fun a145 =>
    ckk S a145 10 (bd (fk_9_common S a145 v3 v4) fun r146 =>
    ckk S v0 12 (bd (kR S v0 5) fun a147 =>
    ckk S a147 10 (bd (fk_9_common S a147 (v3 + (1 : Int32)) v4) fun r148 =>
    if r146 = r148 then (
    ckk S v0 12 (bd (kR S v0 6) fun a165 =>
    ckk S a165 2 (lt (cPi S a165 0 (10 : Int32)) fun S166 =>
    ckk S166 v0 12 (bd (kR S166 v0 6) fun a167 =>
    ckk S166 a167 2 (lt (cPi S166 a167 4 (0 : Int32)) fun S168 =>
    ckk S168 v0 12 (bd (kR S168 v0 6) fun a169 =>
    ckk S168 v0 12 (bd (kR S168 v0 5) fun a170 =>
    ckk S168 a170 10 (bd (kR S168 a170 0) fun a171 =>
    ckk S168 a171 30 (ck v3 (kL S168 a171) (lt (kO S168 a171 (Int32.toNatClampNeg v3)) fun o172 =>
    bd o172 fun a173 =>
    ckk S168 a173 9 (
    ckk S168 a169 2 (lt (cPi S168 a169 5 (kF S168 a173 11)) fun S174 =>
    ckk S174 v0 12 (bd (kR S174 v0 6) fun a175 =>
    ckk S174 v1 8 (bd (fk_7_make S174 v1 a175) fun q_o177 => lt q_o177.1 fun o177 => lt q_o177.2 fun S176 =>
    lt (v3 + (1 : Int32)) fun x178 =>
    lt (v7 + (1 : Int32)) fun x179 =>
    fk_11_carryOver_22 n S176 v0 v1 v2 x178 v4 v5 v6 x179))))))))))))))
    else (
    ckk S v0 12 (bd (kR S v0 6) fun a150 =>
    ckk S a150 2 (lt (cPi S a150 0 (9 : Int32)) fun S151 =>
    ckk S151 v0 12 (bd (kR S151 v0 6) fun a152 =>
    ckk S151 v0 12 (bd (kR S151 v0 0) fun a153 =>
    ckk S151 a153 4 (bd (kR S151 a153 0) fun a154 =>
    ckk S151 a154 22 (ck v4 (kL S151 a154) (
    ckk S151 a152 2 (lt (cPi S151 a152 4 (kI S151 a154 (Int32.toNatClampNeg v4))) fun S155 =>
    ckk S155 v0 12 (bd (kR S155 v0 6) fun a156 =>
    ckk S155 a156 2 (lt (cPi S155 a156 5 v5) fun S157 =>
    ckk S157 v0 12 (bd (kR S157 v0 6) fun a158 =>
    ckk S157 v1 8 (bd (fk_7_make S157 v1 a158) fun q_o160 => lt q_o160.1 fun o160 => lt q_o160.2 fun S159 =>
    bd o160 fun a161 =>
    ckk S159 a161 9 (
    lt (kF S159 a161 11) fun x162 =>
    lt (v4 + (1 : Int32)) fun x163 =>
    lt (v7 + (1 : Int32)) fun x164 =>
    fk_11_carryOver_22 n S159 v0 v1 v2 v3 x163 x162 v6 x164))))))))))))))))))))))
    else (
    ckk S v0 12 (bd (kR S v0 5) fun a180 =>
    ckk S a180 10 (bd (fk_9_common S a180 v3 v4) fun r181 =>
    ckk S v0 12 (bd (kR S v0 5) fun a182 =>
    ckk S a182 10 (bd (fk_9_common S a182 (v3 + (1 : Int32)) (v4 + (1 : Int32))) fun r183 =>
    if r181 = ((1 : Int32) + r183) then (
    ckk S v0 12 (bd (kR S v0 5) fun a237 =>
    ckk S a237 10 (bd (kR S a237 0) fun a238 =>
    ckk S a238 30 (ck v3 (kL S a238) (lt (kO S a238 (Int32.toNatClampNeg v3)) fun o239 =>
    bd o239 fun a240 =>
    ckk S a240 9 (
    lt (kF S a240 11) fun x241 =>
    lt (v3 + (1 : Int32)) fun x242 =>
    lt (v4 + (1 : Int32)) fun x243 =>
    lt (v7 + (1 : Int32)) fun x244 =>
    fk_11_carryOver_22 n S v0 v1 v2 x242 x243 x241 v6 x244))))))
    else (
    ckk S v0 12 (bd (kR S v0 5) fun a185 =>
    ckk S a185 10 (
    if (kF S a185 1) ≤ v3 then (
    ckk S v0 12 (bd (kR S v0 6) fun a187 =>
    ckk S a187 2 (lt (cPi S a187 0 (9 : Int32)) fun S188 =>
    ckk S188 v0 12 (bd (kR S188 v0 6) fun a189 =>
    ckk S188 v0 12 (bd (kR S188 v0 0) fun a190 =>
    ckk S188 a190 4 (bd (kR S188 a190 0) fun a191 =>
    ckk S188 a191 22 (ck v4 (kL S188 a191) (
    ckk S188 a189 2 (lt (cPi S188 a189 4 (kI S188 a191 (Int32.toNatClampNeg v4))) fun S192 =>
    ckk S192 v0 12 (bd (kR S192 v0 6) fun a193 =>
    ckk S192 a193 2 (lt (cPi S192 a193 5 v5) fun S194 =>
    ckk S194 v0 12 (bd (kR S194 v0 6) fun a195 =>
    ckk S194 v1 8 (bd (fk_7_make S194 v1 a195) fun q_o197 => lt q_o197.1 fun o197 => lt q_o197.2 fun S196 =>
    bd o197 fun a198 =>
    ckk S196 a198 9 (
    lt (kF S196 a198 11) fun x199 =>
    lt (v4 + (1 : Int32)) fun x200 =>
    lt (v7 + (1 : Int32)) fun x201 =>
    fk_11_carryOver_22 n S196 v0 v1 v2 v3 x200 x199 v6 x201))))))))))))))
    else (
    ckk S v0 12 (bd (kR S v0 5) fun a202 =>
    ckk S a202 10 (bd (fk_9_common S a202 v3 v4) fun r203 =>
    ckk S v0 12 (bd (kR S v0 5) fun a204 =>
    ckk S a204 10 (bd (fk_9_common S a204 (v3 + (1 : Int32)) v4) fun r205 =>
    if r203 = r205 then (
    ckk S v0 12 (bd (kR S v0 6) fun a222 =>
    ckk S a222 2 (lt (cPi S a222 0 (10 : Int32)) fun S223 =>
    ckk S223 v0 12 (bd (kR S223 v0 6) fun a224 =>
    ckk S223 a224 2 (lt (cPi S223 a224 4 (0 : Int32)) fun S225 =>
    ckk S225 v0 12 (bd (kR S225 v0 6) fun a226 =>
    ckk S225 v0 12 (bd (kR S225 v0 5) fun a227 =>
    ckk S225 a227 10 (bd (kR S225 a227 0) fun a228 =>
    ckk S225 a228 30 (ck v3 (kL S225 a228) (lt (kO S225 a228 (Int32.toNatClampNeg v3)) fun o229 =>
    bd o229 fun a230 =>
    ckk S225 a230 9 (
    ckk S225 a226 2 (lt (cPi S225 a226 5 (kF S225 a230 11)) fun S231 =>
    ckk S231 v0 12 (bd (kR S231 v0 6) fun a232 =>
    ckk S231 v1 8 (bd (fk_7_make S231 v1 a232) fun q_o234 => lt q_o234.1 fun o234 => lt q_o234.2 fun S233 =>
    lt (v3 + (1 : Int32)) fun x235 =>
    lt (v7 + (1 : Int32)) fun x236 =>
    fk_11_carryOver_22 n S233 v0 v1 v2 x235 v4 v5 v6 x236))))))))))))))
    else (
    ckk S v0 12 (bd (kR S v0 6) fun a207 =>
    ckk S a207 2 (lt (cPi S a207 0 (9 : Int32)) fun S208 =>
    ckk S208 v0 12 (bd (kR S208 v0 6) fun a209 =>
    ckk S208 v0 12 (bd (kR S208 v0 0) fun a210 =>
    ckk S208 a210 4 (bd (kR S208 a210 0) fun a211 =>
    ckk S208 a211 22 (ck v4 (kL S208 a211) (
    ckk S208 a209 2 (lt (cPi S208 a209 4 (kI S208 a211 (Int32.toNatClampNeg v4))) fun S212 =>
    ckk S212 v0 12 (bd (kR S212 v0 6) fun a213 =>
    ckk S212 a213 2 (lt (cPi S212 a213 5 v5) fun S214 =>
    ckk S214 v0 12 (bd (kR S214 v0 6) fun a215 =>
    ckk S214 v1 8 (bd (fk_7_make S214 v1 a215) fun q_o217 => lt q_o217.1 fun o217 => lt q_o217.2 fun S216 =>
    bd o217 fun a218 =>
    ckk S216 a218 9 (
    lt (kF S216 a218 11) fun x219 =>
    lt (v4 + (1 : Int32)) fun x220 =>
    lt (v7 + (1 : Int32)) fun x221 =>
    fk_11_carryOver_22 n S216 v0 v1 v2 v3 x220 x219 v6 x221))))))))))))))))))))))))))))))))))
set_option maxRecDepth 100000 in
set_option maxHeartbeats 4000000 in
theorem wk_11_carryOver_22 (C : cY p R s m args meth c RX11 cX11_carryOver 8 6 2200 19800 142 none) (X : cX D s) : ∀ (n : Nat), n ≤ 1100 → ∀ {S : cSt} {v0 : Nat} {v1 : Nat} {v2 : Int32} {v3 : Int32} {v4 : Int32} {v5 : Int32} {v6 : Int32} {v7 : Int32} {H : Heap} {locs : List Loc} {ls : Array Slot}, fk_11_carryOver_22 n S v0 v1 v2 v3 v4 v5 v6 v7 = some S9 → cJ D S0 s.heap S H locs → lv_has ls 8 [(0, .ref v0), (1, .ref v1), (2, .int v2), (3, .int v3), (4, .int v4), (5, .int v5), (6, .int v6), (7, .int v7)] → W p l e R s m args below meth c H locs (2200 - 2 * n) (19800 - 18 * n) (MQ below (kW none D S0 S9) args s 2200 19800 (cA S0)) (F0 m 22 ls []) := by
  intro n
  induction n with
  | zero =>
    intro hn S v0 v1 v2 v3 v4 v5 v6 v7 H locs ls h hJ hl
    exact absurd (show (none : Option (cSt)) = _ from h) (fun q => by cases q)
  | succ n ih =>
    intro hn S v0 v1 v2 v3 v4 v5 v6 v7 H locs ls h hJ hl
    rw [fk_11_carryOver_22] at h
    refine lv_iload C.1 C.2.1 dX11_carryOver_22 (lv_at hl 7 rfl) ?_
    refine lv_iload C.1 C.2.1 dX11_carryOver_24 (lv_at hl 6 rfl) ?_
    refine lv_icmp_ge (tgt := 255) C.1 C.2.1 dX11_carryOver_26 (by decide) (fun c1 => ?_) (fun c1 => ?_)
    · have h := if_t h c1
      refine W.widen (k := 2200) (n := 19800) (by omega) (by omega) ?_
      exact wk_11_carryOver_255 C X h hJ (lv_sub hl [] rfl)
    · have h := if_f h c1
      refine lv_iload_n C.1 C.2.1 dX11_carryOver_29 rfl (lv_at hl 3 rfl) ?_
      refine lv_aload_n C.1 C.2.1 dX11_carryOver_30 rfl (lv_at hl 0 rfl) ?_
      obtain ⟨hk, h⟩ := ckk_ok h
      obtain ⟨a2, h_a2, h⟩ := bd_ok h
      refine gk11_41 C X hJ.1 hk h_a2 dX11_carryOver_31 ?_
      obtain ⟨hk, h⟩ := ckk_ok h
      refine gk11_165 C X hJ.1 hk dX11_carryOver_34 ?_
      refine lv_icmp_lt (tgt := 46) C.1 C.2.1 dX11_carryOver_37 (by decide) (fun c3 => ?_) (fun c3 => ?_)
      · have h := if_t h c3
        refine lv_aload_n C.1 C.2.1 dX11_carryOver_46 rfl (lv_at hl 0 rfl) ?_
        obtain ⟨hk, h⟩ := ckk_ok h
        obtain ⟨a4, h_a4, h⟩ := bd_ok h
        refine gk11_41 C X hJ.1 hk h_a4 dX11_carryOver_47 ?_
        refine lv_iload_n C.1 C.2.1 dX11_carryOver_50 rfl (lv_at hl 3 rfl) ?_
        refine lv_iload C.1 C.2.1 dX11_carryOver_51 (lv_at hl 4 rfl) ?_
        obtain ⟨hk, h⟩ := ckk_ok h
        obtain ⟨r5, h_r5, h⟩ := bd_ok h
        refine c_callR (rest := []) C X hJ.1 hl.1 9 (by decide) hk [.int v3, .int v4] (tk_9_isSame l h_r5) cw11_500 ki_9_isSame kl_9_isSame rfl ⟨by decide, by decide⟩ ⟨(by omega), (by omega)⟩ rfl (Nat.le_of_ble_eq_true rfl) dX11_carryOver_53 ?_
        refine W.eq (g2 := F0 m 56 ls [.int r5]) rfl ?_
        refine lv_if_eq (tgt := 111) C.1 C.2.1 dX11_carryOver_56 (by decide) (fun c6 => ?_) (fun c6 => ?_)
        · have h := if_t h c6
          refine lv_iload_n C.1 C.2.1 dX11_carryOver_111 rfl (lv_at hl 3 rfl) ?_
          refine lv_aload_n C.1 C.2.1 dX11_carryOver_112 rfl (lv_at hl 0 rfl) ?_
          obtain ⟨hk, h⟩ := ckk_ok h
          obtain ⟨a7, h_a7, h⟩ := bd_ok h
          refine gk11_41 C X hJ.1 hk h_a7 dX11_carryOver_113 ?_
          obtain ⟨hk, h⟩ := ckk_ok h
          refine gk11_165 C X hJ.1 hk dX11_carryOver_116 ?_
          refine lv_icmp_ge (tgt := 198) C.1 C.2.1 dX11_carryOver_119 (by decide) (fun c8 => ?_) (fun c8 => ?_)
          · have h := if_t h c8
            refine lv_aload_n C.1 C.2.1 dX11_carryOver_198 rfl (lv_at hl 0 rfl) ?_
            obtain ⟨hk, h⟩ := ckk_ok h
            obtain ⟨a9, h_a9, h⟩ := bd_ok h
            refine gk11_48 C X hJ.1 hk h_a9 dX11_carryOver_199 ?_
            refine lv_bipush (v := 9) C.1 C.2.1 dX11_carryOver_202 (by decide) ?_
            obtain ⟨hk, h⟩ := ckk_ok h
            refine pk11_471 C X hJ hk dX11_carryOver_204 (fun H locs hJ => ?_)
            refine lt_ok h (fun S10 e_S10 h => ?_)
            rw [e_S10] at hJ
            refine lv_aload_n C.1 C.2.1 dX11_carryOver_207 rfl (lv_at hl 0 rfl) ?_
            obtain ⟨hk, h⟩ := ckk_ok h
            obtain ⟨a11, h_a11, h⟩ := bd_ok h
            refine gk11_48 C X hJ.1 hk h_a11 dX11_carryOver_208 ?_
            refine lv_aload_n C.1 C.2.1 dX11_carryOver_211 rfl (lv_at hl 0 rfl) ?_
            obtain ⟨hk, h⟩ := ckk_ok h
            obtain ⟨a12, h_a12, h⟩ := bd_ok h
            refine gk11_12 C X hJ.1 hk h_a12 dX11_carryOver_212 ?_
            obtain ⟨hk, h⟩ := ckk_ok h
            obtain ⟨a13, h_a13, h⟩ := bd_ok h
            refine gk11_157 C X hJ.1 hk h_a13 dX11_carryOver_215 ?_
            refine lv_iload C.1 C.2.1 dX11_carryOver_218 (lv_at hl 4 rfl) ?_
            obtain ⟨hk, h⟩ := ckk_ok h
            obtain ⟨hin2, h⟩ := ck_ok h
            refine c_cald C X hJ.1 hk hin2 dX11_carryOver_220 ?_
            obtain ⟨hk, h⟩ := ckk_ok h
            refine pk11_486 C X hJ hk dX11_carryOver_221 (fun H locs hJ => ?_)
            refine lt_ok h (fun S14 e_S14 h => ?_)
            rw [e_S14] at hJ
            refine lv_aload_n C.1 C.2.1 dX11_carryOver_224 rfl (lv_at hl 0 rfl) ?_
            obtain ⟨hk, h⟩ := ckk_ok h
            obtain ⟨a15, h_a15, h⟩ := bd_ok h
            refine gk11_48 C X hJ.1 hk h_a15 dX11_carryOver_225 ?_
            refine lv_iload C.1 C.2.1 dX11_carryOver_228 (lv_at hl 5 rfl) ?_
            obtain ⟨hk, h⟩ := ckk_ok h
            refine pk11_482 C X hJ hk dX11_carryOver_230 (fun H locs hJ => ?_)
            refine lt_ok h (fun S16 e_S16 h => ?_)
            rw [e_S16] at hJ
            refine lv_aload_n C.1 C.2.1 dX11_carryOver_233 rfl (lv_at hl 1 rfl) ?_
            refine lv_aload_n C.1 C.2.1 dX11_carryOver_234 rfl (lv_at hl 0 rfl) ?_
            obtain ⟨hk, h⟩ := ckk_ok h
            obtain ⟨a17, h_a17, h⟩ := bd_ok h
            refine gk11_48 C X hJ.1 hk h_a17 dX11_carryOver_235 ?_
            obtain ⟨hk, h⟩ := ckk_ok h
            obtain ⟨⟨o19, S18⟩, h_S18, h⟩ := bd_ok h
            replace h := lt2_ok h
            refine c_callW (rest := []) C X hJ hl.1 7 (by decide) hk [.ref a17] (tk_7_make l h_S18) cw11_138 ki_7_make kl_7_make rfl ⟨by decide, by decide⟩ ⟨(by omega), (by omega)⟩ rfl (Nat.le_of_ble_eq_true rfl) dX11_carryOver_238 (fun H locs hJ => ?_)
            refine W.eq (g2 := F0 m 241 ls [va_rf o19]) rfl ?_
            obtain ⟨a20, e_a20, h⟩ := bd_ok h
            revert h; subst e_a20; intro h
            obtain ⟨hk, h⟩ := ckk_ok h
            refine gk11_142 C X hJ.1 hk dX11_carryOver_241 ?_
            refine lt_ok h (fun x21 e_x21 h => ?_)
            refine lv_nm e_x21 ?_
            refine lv_istore (lv' := [(5, .int x21), (0, .ref v0), (1, .ref v1), (2, .int v2), (3, .int v3), (4, .int v4), (6, .int v6), (7, .int v7)]) C.1 C.2.1 dX11_carryOver_244 hl (by decide) rfl (fun ls hl => ?_)
            refine lt_ok h (fun x22 e_x22 h => ?_)
            refine lv_iinc (v := x22) (lv' := [(4, .int x22), (5, .int x21), (0, .ref v0), (1, .ref v1), (2, .int v2), (3, .int v3), (6, .int v6), (7, .int v7)]) C.1 C.2.1 dX11_carryOver_246 hl (k := 5) rfl (by rw [← e_x22]; rfl) (by decide) rfl (fun ls hl => ?_)
            refine lt_ok h (fun x23 e_x23 h => ?_)
            refine lv_iinc (v := x23) (lv' := [(7, .int x23), (4, .int x22), (5, .int x21), (0, .ref v0), (1, .ref v1), (2, .int v2), (3, .int v3), (6, .int v6)]) C.1 C.2.1 dX11_carryOver_249 hl (k := 7) rfl (by rw [← e_x23]; rfl) (by decide) rfl (fun ls hl => ?_)
            refine lv_goto (tgt := 22) C.1 C.2.1 dX11_carryOver_252 (by decide) ?_
            refine W.widen (k := 2200 - 2 * n) (n := 19800 - 18 * n) (by omega) (by omega) ?_
            exact ih (by omega) h hJ (lv_sub hl [3, 4, 5, 6, 1, 2, 7, 0] rfl)
          · have h := if_f h c8
            refine lv_aload_n C.1 C.2.1 dX11_carryOver_122 rfl (lv_at hl 0 rfl) ?_
            obtain ⟨hk, h⟩ := ckk_ok h
            obtain ⟨a24, h_a24, h⟩ := bd_ok h
            refine gk11_41 C X hJ.1 hk h_a24 dX11_carryOver_123 ?_
            refine lv_iload_n C.1 C.2.1 dX11_carryOver_126 rfl (lv_at hl 3 rfl) ?_
            refine lv_iload C.1 C.2.1 dX11_carryOver_127 (lv_at hl 4 rfl) ?_
            obtain ⟨hk, h⟩ := ckk_ok h
            obtain ⟨r25, h_r25, h⟩ := bd_ok h
            refine c_callR (rest := []) C X hJ.1 hl.1 9 (by decide) hk [.int v3, .int v4] (tk_9_common l h_r25) cw11_168 ki_9_common kl_9_common rfl ⟨by decide, by decide⟩ ⟨(by omega), (by omega)⟩ rfl (Nat.le_of_ble_eq_true rfl) dX11_carryOver_129 ?_
            refine W.eq (g2 := F0 m 132 ls [.int r25]) rfl ?_
            refine lv_aload_n C.1 C.2.1 dX11_carryOver_132 rfl (lv_at hl 0 rfl) ?_
            obtain ⟨hk, h⟩ := ckk_ok h
            obtain ⟨a26, h_a26, h⟩ := bd_ok h
            refine gk11_41 C X hJ.1 hk h_a26 dX11_carryOver_133 ?_
            refine lv_iload_n C.1 C.2.1 dX11_carryOver_136 rfl (lv_at hl 3 rfl) ?_
            refine lv_iconst (v := 1) C.1 C.2.1 dX11_carryOver_137 (by decide) ?_
            refine lv_iadd C.1 C.2.1 dX11_carryOver_138 ?_
            refine lv_iload C.1 C.2.1 dX11_carryOver_139 (lv_at hl 4 rfl) ?_
            obtain ⟨hk, h⟩ := ckk_ok h
            obtain ⟨r27, h_r27, h⟩ := bd_ok h
            refine c_callR (rest := [.int r25]) C X hJ.1 hl.1 9 (by decide) hk [.int (v3 + (1 : Int32)), .int v4] (tk_9_common l h_r27) cw11_168 ki_9_common kl_9_common rfl ⟨by decide, by decide⟩ ⟨(by omega), (by omega)⟩ rfl (Nat.le_of_ble_eq_true rfl) dX11_carryOver_141 ?_
            refine W.eq (g2 := F0 m 144 ls [.int r27, .int r25]) rfl ?_
            refine lv_icmp_ne (tgt := 198) C.1 C.2.1 dX11_carryOver_144 (by decide) (fun c28 => ?_) (fun c28 => ?_)
            · have h := if_f h c28
              refine lv_aload_n C.1 C.2.1 dX11_carryOver_198 rfl (lv_at hl 0 rfl) ?_
              obtain ⟨hk, h⟩ := ckk_ok h
              obtain ⟨a29, h_a29, h⟩ := bd_ok h
              refine gk11_48 C X hJ.1 hk h_a29 dX11_carryOver_199 ?_
              refine lv_bipush (v := 9) C.1 C.2.1 dX11_carryOver_202 (by decide) ?_
              obtain ⟨hk, h⟩ := ckk_ok h
              refine pk11_471 C X hJ hk dX11_carryOver_204 (fun H locs hJ => ?_)
              refine lt_ok h (fun S30 e_S30 h => ?_)
              rw [e_S30] at hJ
              refine lv_aload_n C.1 C.2.1 dX11_carryOver_207 rfl (lv_at hl 0 rfl) ?_
              obtain ⟨hk, h⟩ := ckk_ok h
              obtain ⟨a31, h_a31, h⟩ := bd_ok h
              refine gk11_48 C X hJ.1 hk h_a31 dX11_carryOver_208 ?_
              refine lv_aload_n C.1 C.2.1 dX11_carryOver_211 rfl (lv_at hl 0 rfl) ?_
              obtain ⟨hk, h⟩ := ckk_ok h
              obtain ⟨a32, h_a32, h⟩ := bd_ok h
              refine gk11_12 C X hJ.1 hk h_a32 dX11_carryOver_212 ?_
              obtain ⟨hk, h⟩ := ckk_ok h
              obtain ⟨a33, h_a33, h⟩ := bd_ok h
              refine gk11_157 C X hJ.1 hk h_a33 dX11_carryOver_215 ?_
              refine lv_iload C.1 C.2.1 dX11_carryOver_218 (lv_at hl 4 rfl) ?_
              obtain ⟨hk, h⟩ := ckk_ok h
              obtain ⟨hin2, h⟩ := ck_ok h
              refine c_cald C X hJ.1 hk hin2 dX11_carryOver_220 ?_
              obtain ⟨hk, h⟩ := ckk_ok h
              refine pk11_486 C X hJ hk dX11_carryOver_221 (fun H locs hJ => ?_)
              refine lt_ok h (fun S34 e_S34 h => ?_)
              rw [e_S34] at hJ
              refine lv_aload_n C.1 C.2.1 dX11_carryOver_224 rfl (lv_at hl 0 rfl) ?_
              obtain ⟨hk, h⟩ := ckk_ok h
              obtain ⟨a35, h_a35, h⟩ := bd_ok h
              refine gk11_48 C X hJ.1 hk h_a35 dX11_carryOver_225 ?_
              refine lv_iload C.1 C.2.1 dX11_carryOver_228 (lv_at hl 5 rfl) ?_
              obtain ⟨hk, h⟩ := ckk_ok h
              refine pk11_482 C X hJ hk dX11_carryOver_230 (fun H locs hJ => ?_)
              refine lt_ok h (fun S36 e_S36 h => ?_)
              rw [e_S36] at hJ
              refine lv_aload_n C.1 C.2.1 dX11_carryOver_233 rfl (lv_at hl 1 rfl) ?_
              refine lv_aload_n C.1 C.2.1 dX11_carryOver_234 rfl (lv_at hl 0 rfl) ?_
              obtain ⟨hk, h⟩ := ckk_ok h
              obtain ⟨a37, h_a37, h⟩ := bd_ok h
              refine gk11_48 C X hJ.1 hk h_a37 dX11_carryOver_235 ?_
              obtain ⟨hk, h⟩ := ckk_ok h
              obtain ⟨⟨o39, S38⟩, h_S38, h⟩ := bd_ok h
              replace h := lt2_ok h
              refine c_callW (rest := []) C X hJ hl.1 7 (by decide) hk [.ref a37] (tk_7_make l h_S38) cw11_138 ki_7_make kl_7_make rfl ⟨by decide, by decide⟩ ⟨(by omega), (by omega)⟩ rfl (Nat.le_of_ble_eq_true rfl) dX11_carryOver_238 (fun H locs hJ => ?_)
              refine W.eq (g2 := F0 m 241 ls [va_rf o39]) rfl ?_
              obtain ⟨a40, e_a40, h⟩ := bd_ok h
              revert h; subst e_a40; intro h
              obtain ⟨hk, h⟩ := ckk_ok h
              refine gk11_142 C X hJ.1 hk dX11_carryOver_241 ?_
              refine lt_ok h (fun x41 e_x41 h => ?_)
              refine lv_nm e_x41 ?_
              refine lv_istore (lv' := [(5, .int x41), (0, .ref v0), (1, .ref v1), (2, .int v2), (3, .int v3), (4, .int v4), (6, .int v6), (7, .int v7)]) C.1 C.2.1 dX11_carryOver_244 hl (by decide) rfl (fun ls hl => ?_)
              refine lt_ok h (fun x42 e_x42 h => ?_)
              refine lv_iinc (v := x42) (lv' := [(4, .int x42), (5, .int x41), (0, .ref v0), (1, .ref v1), (2, .int v2), (3, .int v3), (6, .int v6), (7, .int v7)]) C.1 C.2.1 dX11_carryOver_246 hl (k := 5) rfl (by rw [← e_x42]; rfl) (by decide) rfl (fun ls hl => ?_)
              refine lt_ok h (fun x43 e_x43 h => ?_)
              refine lv_iinc (v := x43) (lv' := [(7, .int x43), (4, .int x42), (5, .int x41), (0, .ref v0), (1, .ref v1), (2, .int v2), (3, .int v3), (6, .int v6)]) C.1 C.2.1 dX11_carryOver_249 hl (k := 7) rfl (by rw [← e_x43]; rfl) (by decide) rfl (fun ls hl => ?_)
              refine lv_goto (tgt := 22) C.1 C.2.1 dX11_carryOver_252 (by decide) ?_
              refine W.widen (k := 2200 - 2 * n) (n := 19800 - 18 * n) (by omega) (by omega) ?_
              exact ih (by omega) h hJ (lv_sub hl [3, 4, 5, 6, 1, 2, 7, 0] rfl)
            · have h := if_t h c28
              refine lv_aload_n C.1 C.2.1 dX11_carryOver_147 rfl (lv_at hl 0 rfl) ?_
              obtain ⟨hk, h⟩ := ckk_ok h
              obtain ⟨a44, h_a44, h⟩ := bd_ok h
              refine gk11_48 C X hJ.1 hk h_a44 dX11_carryOver_148 ?_
              refine lv_bipush (v := 10) C.1 C.2.1 dX11_carryOver_151 (by decide) ?_
              obtain ⟨hk, h⟩ := ckk_ok h
              refine pk11_471 C X hJ hk dX11_carryOver_153 (fun H locs hJ => ?_)
              refine lt_ok h (fun S45 e_S45 h => ?_)
              rw [e_S45] at hJ
              refine lv_aload_n C.1 C.2.1 dX11_carryOver_156 rfl (lv_at hl 0 rfl) ?_
              obtain ⟨hk, h⟩ := ckk_ok h
              obtain ⟨a46, h_a46, h⟩ := bd_ok h
              refine gk11_48 C X hJ.1 hk h_a46 dX11_carryOver_157 ?_
              refine lv_iconst (v := 0) C.1 C.2.1 dX11_carryOver_160 (by decide) ?_
              obtain ⟨hk, h⟩ := ckk_ok h
              refine pk11_486 C X hJ hk dX11_carryOver_161 (fun H locs hJ => ?_)
              refine lt_ok h (fun S47 e_S47 h => ?_)
              rw [e_S47] at hJ
              refine lv_aload_n C.1 C.2.1 dX11_carryOver_164 rfl (lv_at hl 0 rfl) ?_
              obtain ⟨hk, h⟩ := ckk_ok h
              obtain ⟨a48, h_a48, h⟩ := bd_ok h
              refine gk11_48 C X hJ.1 hk h_a48 dX11_carryOver_165 ?_
              refine lv_aload_n C.1 C.2.1 dX11_carryOver_168 rfl (lv_at hl 0 rfl) ?_
              obtain ⟨hk, h⟩ := ckk_ok h
              obtain ⟨a49, h_a49, h⟩ := bd_ok h
              refine gk11_41 C X hJ.1 hk h_a49 dX11_carryOver_169 ?_
              obtain ⟨hk, h⟩ := ckk_ok h
              obtain ⟨a50, h_a50, h⟩ := bd_ok h
              refine gk11_377 C X hJ.1 hk h_a50 dX11_carryOver_172 ?_
              refine lv_iload_n C.1 C.2.1 dX11_carryOver_175 rfl (lv_at hl 3 rfl) ?_
              obtain ⟨hk, h⟩ := ckk_ok h
              obtain ⟨hin2, h⟩ := ck_ok h
              refine c_aald C 30 (by decide) X.2.2.2.2.1 hJ.1 hk hin2 dX11_carryOver_176 ?_
              refine lt_ok h (fun o51 e_o51 h => ?_)
              refine lv_nmq e_o51 ?_
              obtain ⟨a52, e_a52, h⟩ := bd_ok h
              revert h; subst e_a52; intro h
              obtain ⟨hk, h⟩ := ckk_ok h
              refine gk11_142 C X hJ.1 hk dX11_carryOver_177 ?_
              obtain ⟨hk, h⟩ := ckk_ok h
              refine pk11_482 C X hJ hk dX11_carryOver_180 (fun H locs hJ => ?_)
              refine lt_ok h (fun S53 e_S53 h => ?_)
              rw [e_S53] at hJ
              refine lv_aload_n C.1 C.2.1 dX11_carryOver_183 rfl (lv_at hl 1 rfl) ?_
              refine lv_aload_n C.1 C.2.1 dX11_carryOver_184 rfl (lv_at hl 0 rfl) ?_
              obtain ⟨hk, h⟩ := ckk_ok h
              obtain ⟨a54, h_a54, h⟩ := bd_ok h
              refine gk11_48 C X hJ.1 hk h_a54 dX11_carryOver_185 ?_
              obtain ⟨hk, h⟩ := ckk_ok h
              obtain ⟨⟨o56, S55⟩, h_S55, h⟩ := bd_ok h
              replace h := lt2_ok h
              refine c_callW (rest := []) C X hJ hl.1 7 (by decide) hk [.ref a54] (tk_7_make l h_S55) cw11_138 ki_7_make kl_7_make rfl ⟨by decide, by decide⟩ ⟨(by omega), (by omega)⟩ rfl (Nat.le_of_ble_eq_true rfl) dX11_carryOver_188 (fun H locs hJ => ?_)
              refine W.eq (g2 := F0 m 191 ls [va_rf o56]) rfl ?_
              refine lv_pop C.1 C.2.1 dX11_carryOver_191 (kcat _) ?_
              refine lt_ok h (fun x57 e_x57 h => ?_)
              refine lv_iinc (v := x57) (lv' := [(3, .int x57), (0, .ref v0), (1, .ref v1), (2, .int v2), (4, .int v4), (5, .int v5), (6, .int v6), (7, .int v7)]) C.1 C.2.1 dX11_carryOver_192 hl (k := 3) rfl (by rw [← e_x57]; rfl) (by decide) rfl (fun ls hl => ?_)
              refine lv_goto (tgt := 249) C.1 C.2.1 dX11_carryOver_195 (by decide) ?_
              refine lt_ok h (fun x58 e_x58 h => ?_)
              refine lv_iinc (v := x58) (lv' := [(7, .int x58), (3, .int x57), (0, .ref v0), (1, .ref v1), (2, .int v2), (4, .int v4), (5, .int v5), (6, .int v6)]) C.1 C.2.1 dX11_carryOver_249 hl (k := 7) rfl (by rw [← e_x58]; rfl) (by decide) rfl (fun ls hl => ?_)
              refine lv_goto (tgt := 22) C.1 C.2.1 dX11_carryOver_252 (by decide) ?_
              refine W.widen (k := 2200 - 2 * n) (n := 19800 - 18 * n) (by omega) (by omega) ?_
              exact ih (by omega) h hJ (lv_sub hl [2, 3, 4, 1, 5, 6, 7, 0] rfl)
        · have h := if_f h c6
          refine lv_aload_n C.1 C.2.1 dX11_carryOver_59 rfl (lv_at hl 0 rfl) ?_
          obtain ⟨hk, h⟩ := ckk_ok h
          obtain ⟨a59, h_a59, h⟩ := bd_ok h
          refine gk11_41 C X hJ.1 hk h_a59 dX11_carryOver_60 ?_
          refine lv_iload_n C.1 C.2.1 dX11_carryOver_63 rfl (lv_at hl 3 rfl) ?_
          refine lv_iload C.1 C.2.1 dX11_carryOver_64 (lv_at hl 4 rfl) ?_
          obtain ⟨hk, h⟩ := ckk_ok h
          obtain ⟨r60, h_r60, h⟩ := bd_ok h
          refine c_callR (rest := []) C X hJ.1 hl.1 9 (by decide) hk [.int v3, .int v4] (tk_9_common l h_r60) cw11_168 ki_9_common kl_9_common rfl ⟨by decide, by decide⟩ ⟨(by omega), (by omega)⟩ rfl (Nat.le_of_ble_eq_true rfl) dX11_carryOver_66 ?_
          refine W.eq (g2 := F0 m 69 ls [.int r60]) rfl ?_
          refine lv_iconst (v := 1) C.1 C.2.1 dX11_carryOver_69 (by decide) ?_
          refine lv_aload_n C.1 C.2.1 dX11_carryOver_70 rfl (lv_at hl 0 rfl) ?_
          obtain ⟨hk, h⟩ := ckk_ok h
          obtain ⟨a61, h_a61, h⟩ := bd_ok h
          refine gk11_41 C X hJ.1 hk h_a61 dX11_carryOver_71 ?_
          refine lv_iload_n C.1 C.2.1 dX11_carryOver_74 rfl (lv_at hl 3 rfl) ?_
          refine lv_iconst (v := 1) C.1 C.2.1 dX11_carryOver_75 (by decide) ?_
          refine lv_iadd C.1 C.2.1 dX11_carryOver_76 ?_
          refine lv_iload C.1 C.2.1 dX11_carryOver_77 (lv_at hl 4 rfl) ?_
          refine lv_iconst (v := 1) C.1 C.2.1 dX11_carryOver_79 (by decide) ?_
          refine lv_iadd C.1 C.2.1 dX11_carryOver_80 ?_
          obtain ⟨hk, h⟩ := ckk_ok h
          obtain ⟨r62, h_r62, h⟩ := bd_ok h
          refine c_callR (rest := [.int (1 : Int32), .int r60]) C X hJ.1 hl.1 9 (by decide) hk [.int (v3 + (1 : Int32)), .int (v4 + (1 : Int32))] (tk_9_common l h_r62) cw11_168 ki_9_common kl_9_common rfl ⟨by decide, by decide⟩ ⟨(by omega), (by omega)⟩ rfl (Nat.le_of_ble_eq_true rfl) dX11_carryOver_81 ?_
          refine W.eq (g2 := F0 m 84 ls [.int r62, .int (1 : Int32), .int r60]) rfl ?_
          refine lv_iadd C.1 C.2.1 dX11_carryOver_84 ?_
          refine lv_icmp_ne (tgt := 111) C.1 C.2.1 dX11_carryOver_85 (by decide) (fun c63 => ?_) (fun c63 => ?_)
          · have h := if_f h c63
            refine lv_iload_n C.1 C.2.1 dX11_carryOver_111 rfl (lv_at hl 3 rfl) ?_
            refine lv_aload_n C.1 C.2.1 dX11_carryOver_112 rfl (lv_at hl 0 rfl) ?_
            obtain ⟨hk, h⟩ := ckk_ok h
            obtain ⟨a64, h_a64, h⟩ := bd_ok h
            refine gk11_41 C X hJ.1 hk h_a64 dX11_carryOver_113 ?_
            obtain ⟨hk, h⟩ := ckk_ok h
            refine gk11_165 C X hJ.1 hk dX11_carryOver_116 ?_
            refine lv_icmp_ge (tgt := 198) C.1 C.2.1 dX11_carryOver_119 (by decide) (fun c65 => ?_) (fun c65 => ?_)
            · have h := if_t h c65
              refine lv_aload_n C.1 C.2.1 dX11_carryOver_198 rfl (lv_at hl 0 rfl) ?_
              obtain ⟨hk, h⟩ := ckk_ok h
              obtain ⟨a66, h_a66, h⟩ := bd_ok h
              refine gk11_48 C X hJ.1 hk h_a66 dX11_carryOver_199 ?_
              refine lv_bipush (v := 9) C.1 C.2.1 dX11_carryOver_202 (by decide) ?_
              obtain ⟨hk, h⟩ := ckk_ok h
              refine pk11_471 C X hJ hk dX11_carryOver_204 (fun H locs hJ => ?_)
              refine lt_ok h (fun S67 e_S67 h => ?_)
              rw [e_S67] at hJ
              refine lv_aload_n C.1 C.2.1 dX11_carryOver_207 rfl (lv_at hl 0 rfl) ?_
              obtain ⟨hk, h⟩ := ckk_ok h
              obtain ⟨a68, h_a68, h⟩ := bd_ok h
              refine gk11_48 C X hJ.1 hk h_a68 dX11_carryOver_208 ?_
              refine lv_aload_n C.1 C.2.1 dX11_carryOver_211 rfl (lv_at hl 0 rfl) ?_
              obtain ⟨hk, h⟩ := ckk_ok h
              obtain ⟨a69, h_a69, h⟩ := bd_ok h
              refine gk11_12 C X hJ.1 hk h_a69 dX11_carryOver_212 ?_
              obtain ⟨hk, h⟩ := ckk_ok h
              obtain ⟨a70, h_a70, h⟩ := bd_ok h
              refine gk11_157 C X hJ.1 hk h_a70 dX11_carryOver_215 ?_
              refine lv_iload C.1 C.2.1 dX11_carryOver_218 (lv_at hl 4 rfl) ?_
              obtain ⟨hk, h⟩ := ckk_ok h
              obtain ⟨hin2, h⟩ := ck_ok h
              refine c_cald C X hJ.1 hk hin2 dX11_carryOver_220 ?_
              obtain ⟨hk, h⟩ := ckk_ok h
              refine pk11_486 C X hJ hk dX11_carryOver_221 (fun H locs hJ => ?_)
              refine lt_ok h (fun S71 e_S71 h => ?_)
              rw [e_S71] at hJ
              refine lv_aload_n C.1 C.2.1 dX11_carryOver_224 rfl (lv_at hl 0 rfl) ?_
              obtain ⟨hk, h⟩ := ckk_ok h
              obtain ⟨a72, h_a72, h⟩ := bd_ok h
              refine gk11_48 C X hJ.1 hk h_a72 dX11_carryOver_225 ?_
              refine lv_iload C.1 C.2.1 dX11_carryOver_228 (lv_at hl 5 rfl) ?_
              obtain ⟨hk, h⟩ := ckk_ok h
              refine pk11_482 C X hJ hk dX11_carryOver_230 (fun H locs hJ => ?_)
              refine lt_ok h (fun S73 e_S73 h => ?_)
              rw [e_S73] at hJ
              refine lv_aload_n C.1 C.2.1 dX11_carryOver_233 rfl (lv_at hl 1 rfl) ?_
              refine lv_aload_n C.1 C.2.1 dX11_carryOver_234 rfl (lv_at hl 0 rfl) ?_
              obtain ⟨hk, h⟩ := ckk_ok h
              obtain ⟨a74, h_a74, h⟩ := bd_ok h
              refine gk11_48 C X hJ.1 hk h_a74 dX11_carryOver_235 ?_
              obtain ⟨hk, h⟩ := ckk_ok h
              obtain ⟨⟨o76, S75⟩, h_S75, h⟩ := bd_ok h
              replace h := lt2_ok h
              refine c_callW (rest := []) C X hJ hl.1 7 (by decide) hk [.ref a74] (tk_7_make l h_S75) cw11_138 ki_7_make kl_7_make rfl ⟨by decide, by decide⟩ ⟨(by omega), (by omega)⟩ rfl (Nat.le_of_ble_eq_true rfl) dX11_carryOver_238 (fun H locs hJ => ?_)
              refine W.eq (g2 := F0 m 241 ls [va_rf o76]) rfl ?_
              obtain ⟨a77, e_a77, h⟩ := bd_ok h
              revert h; subst e_a77; intro h
              obtain ⟨hk, h⟩ := ckk_ok h
              refine gk11_142 C X hJ.1 hk dX11_carryOver_241 ?_
              refine lt_ok h (fun x78 e_x78 h => ?_)
              refine lv_nm e_x78 ?_
              refine lv_istore (lv' := [(5, .int x78), (0, .ref v0), (1, .ref v1), (2, .int v2), (3, .int v3), (4, .int v4), (6, .int v6), (7, .int v7)]) C.1 C.2.1 dX11_carryOver_244 hl (by decide) rfl (fun ls hl => ?_)
              refine lt_ok h (fun x79 e_x79 h => ?_)
              refine lv_iinc (v := x79) (lv' := [(4, .int x79), (5, .int x78), (0, .ref v0), (1, .ref v1), (2, .int v2), (3, .int v3), (6, .int v6), (7, .int v7)]) C.1 C.2.1 dX11_carryOver_246 hl (k := 5) rfl (by rw [← e_x79]; rfl) (by decide) rfl (fun ls hl => ?_)
              refine lt_ok h (fun x80 e_x80 h => ?_)
              refine lv_iinc (v := x80) (lv' := [(7, .int x80), (4, .int x79), (5, .int x78), (0, .ref v0), (1, .ref v1), (2, .int v2), (3, .int v3), (6, .int v6)]) C.1 C.2.1 dX11_carryOver_249 hl (k := 7) rfl (by rw [← e_x80]; rfl) (by decide) rfl (fun ls hl => ?_)
              refine lv_goto (tgt := 22) C.1 C.2.1 dX11_carryOver_252 (by decide) ?_
              refine W.widen (k := 2200 - 2 * n) (n := 19800 - 18 * n) (by omega) (by omega) ?_
              exact ih (by omega) h hJ (lv_sub hl [3, 4, 5, 6, 1, 2, 7, 0] rfl)
            · have h := if_f h c65
              refine lv_aload_n C.1 C.2.1 dX11_carryOver_122 rfl (lv_at hl 0 rfl) ?_
              obtain ⟨hk, h⟩ := ckk_ok h
              obtain ⟨a81, h_a81, h⟩ := bd_ok h
              refine gk11_41 C X hJ.1 hk h_a81 dX11_carryOver_123 ?_
              refine lv_iload_n C.1 C.2.1 dX11_carryOver_126 rfl (lv_at hl 3 rfl) ?_
              refine lv_iload C.1 C.2.1 dX11_carryOver_127 (lv_at hl 4 rfl) ?_
              obtain ⟨hk, h⟩ := ckk_ok h
              obtain ⟨r82, h_r82, h⟩ := bd_ok h
              refine c_callR (rest := []) C X hJ.1 hl.1 9 (by decide) hk [.int v3, .int v4] (tk_9_common l h_r82) cw11_168 ki_9_common kl_9_common rfl ⟨by decide, by decide⟩ ⟨(by omega), (by omega)⟩ rfl (Nat.le_of_ble_eq_true rfl) dX11_carryOver_129 ?_
              refine W.eq (g2 := F0 m 132 ls [.int r82]) rfl ?_
              refine lv_aload_n C.1 C.2.1 dX11_carryOver_132 rfl (lv_at hl 0 rfl) ?_
              obtain ⟨hk, h⟩ := ckk_ok h
              obtain ⟨a83, h_a83, h⟩ := bd_ok h
              refine gk11_41 C X hJ.1 hk h_a83 dX11_carryOver_133 ?_
              refine lv_iload_n C.1 C.2.1 dX11_carryOver_136 rfl (lv_at hl 3 rfl) ?_
              refine lv_iconst (v := 1) C.1 C.2.1 dX11_carryOver_137 (by decide) ?_
              refine lv_iadd C.1 C.2.1 dX11_carryOver_138 ?_
              refine lv_iload C.1 C.2.1 dX11_carryOver_139 (lv_at hl 4 rfl) ?_
              obtain ⟨hk, h⟩ := ckk_ok h
              obtain ⟨r84, h_r84, h⟩ := bd_ok h
              refine c_callR (rest := [.int r82]) C X hJ.1 hl.1 9 (by decide) hk [.int (v3 + (1 : Int32)), .int v4] (tk_9_common l h_r84) cw11_168 ki_9_common kl_9_common rfl ⟨by decide, by decide⟩ ⟨(by omega), (by omega)⟩ rfl (Nat.le_of_ble_eq_true rfl) dX11_carryOver_141 ?_
              refine W.eq (g2 := F0 m 144 ls [.int r84, .int r82]) rfl ?_
              refine lv_icmp_ne (tgt := 198) C.1 C.2.1 dX11_carryOver_144 (by decide) (fun c85 => ?_) (fun c85 => ?_)
              · have h := if_f h c85
                refine lv_aload_n C.1 C.2.1 dX11_carryOver_198 rfl (lv_at hl 0 rfl) ?_
                obtain ⟨hk, h⟩ := ckk_ok h
                obtain ⟨a86, h_a86, h⟩ := bd_ok h
                refine gk11_48 C X hJ.1 hk h_a86 dX11_carryOver_199 ?_
                refine lv_bipush (v := 9) C.1 C.2.1 dX11_carryOver_202 (by decide) ?_
                obtain ⟨hk, h⟩ := ckk_ok h
                refine pk11_471 C X hJ hk dX11_carryOver_204 (fun H locs hJ => ?_)
                refine lt_ok h (fun S87 e_S87 h => ?_)
                rw [e_S87] at hJ
                refine lv_aload_n C.1 C.2.1 dX11_carryOver_207 rfl (lv_at hl 0 rfl) ?_
                obtain ⟨hk, h⟩ := ckk_ok h
                obtain ⟨a88, h_a88, h⟩ := bd_ok h
                refine gk11_48 C X hJ.1 hk h_a88 dX11_carryOver_208 ?_
                refine lv_aload_n C.1 C.2.1 dX11_carryOver_211 rfl (lv_at hl 0 rfl) ?_
                obtain ⟨hk, h⟩ := ckk_ok h
                obtain ⟨a89, h_a89, h⟩ := bd_ok h
                refine gk11_12 C X hJ.1 hk h_a89 dX11_carryOver_212 ?_
                obtain ⟨hk, h⟩ := ckk_ok h
                obtain ⟨a90, h_a90, h⟩ := bd_ok h
                refine gk11_157 C X hJ.1 hk h_a90 dX11_carryOver_215 ?_
                refine lv_iload C.1 C.2.1 dX11_carryOver_218 (lv_at hl 4 rfl) ?_
                obtain ⟨hk, h⟩ := ckk_ok h
                obtain ⟨hin2, h⟩ := ck_ok h
                refine c_cald C X hJ.1 hk hin2 dX11_carryOver_220 ?_
                obtain ⟨hk, h⟩ := ckk_ok h
                refine pk11_486 C X hJ hk dX11_carryOver_221 (fun H locs hJ => ?_)
                refine lt_ok h (fun S91 e_S91 h => ?_)
                rw [e_S91] at hJ
                refine lv_aload_n C.1 C.2.1 dX11_carryOver_224 rfl (lv_at hl 0 rfl) ?_
                obtain ⟨hk, h⟩ := ckk_ok h
                obtain ⟨a92, h_a92, h⟩ := bd_ok h
                refine gk11_48 C X hJ.1 hk h_a92 dX11_carryOver_225 ?_
                refine lv_iload C.1 C.2.1 dX11_carryOver_228 (lv_at hl 5 rfl) ?_
                obtain ⟨hk, h⟩ := ckk_ok h
                refine pk11_482 C X hJ hk dX11_carryOver_230 (fun H locs hJ => ?_)
                refine lt_ok h (fun S93 e_S93 h => ?_)
                rw [e_S93] at hJ
                refine lv_aload_n C.1 C.2.1 dX11_carryOver_233 rfl (lv_at hl 1 rfl) ?_
                refine lv_aload_n C.1 C.2.1 dX11_carryOver_234 rfl (lv_at hl 0 rfl) ?_
                obtain ⟨hk, h⟩ := ckk_ok h
                obtain ⟨a94, h_a94, h⟩ := bd_ok h
                refine gk11_48 C X hJ.1 hk h_a94 dX11_carryOver_235 ?_
                obtain ⟨hk, h⟩ := ckk_ok h
                obtain ⟨⟨o96, S95⟩, h_S95, h⟩ := bd_ok h
                replace h := lt2_ok h
                refine c_callW (rest := []) C X hJ hl.1 7 (by decide) hk [.ref a94] (tk_7_make l h_S95) cw11_138 ki_7_make kl_7_make rfl ⟨by decide, by decide⟩ ⟨(by omega), (by omega)⟩ rfl (Nat.le_of_ble_eq_true rfl) dX11_carryOver_238 (fun H locs hJ => ?_)
                refine W.eq (g2 := F0 m 241 ls [va_rf o96]) rfl ?_
                obtain ⟨a97, e_a97, h⟩ := bd_ok h
                revert h; subst e_a97; intro h
                obtain ⟨hk, h⟩ := ckk_ok h
                refine gk11_142 C X hJ.1 hk dX11_carryOver_241 ?_
                refine lt_ok h (fun x98 e_x98 h => ?_)
                refine lv_nm e_x98 ?_
                refine lv_istore (lv' := [(5, .int x98), (0, .ref v0), (1, .ref v1), (2, .int v2), (3, .int v3), (4, .int v4), (6, .int v6), (7, .int v7)]) C.1 C.2.1 dX11_carryOver_244 hl (by decide) rfl (fun ls hl => ?_)
                refine lt_ok h (fun x99 e_x99 h => ?_)
                refine lv_iinc (v := x99) (lv' := [(4, .int x99), (5, .int x98), (0, .ref v0), (1, .ref v1), (2, .int v2), (3, .int v3), (6, .int v6), (7, .int v7)]) C.1 C.2.1 dX11_carryOver_246 hl (k := 5) rfl (by rw [← e_x99]; rfl) (by decide) rfl (fun ls hl => ?_)
                refine lt_ok h (fun x100 e_x100 h => ?_)
                refine lv_iinc (v := x100) (lv' := [(7, .int x100), (4, .int x99), (5, .int x98), (0, .ref v0), (1, .ref v1), (2, .int v2), (3, .int v3), (6, .int v6)]) C.1 C.2.1 dX11_carryOver_249 hl (k := 7) rfl (by rw [← e_x100]; rfl) (by decide) rfl (fun ls hl => ?_)
                refine lv_goto (tgt := 22) C.1 C.2.1 dX11_carryOver_252 (by decide) ?_
                refine W.widen (k := 2200 - 2 * n) (n := 19800 - 18 * n) (by omega) (by omega) ?_
                exact ih (by omega) h hJ (lv_sub hl [3, 4, 5, 6, 1, 2, 7, 0] rfl)
              · have h := if_t h c85
                refine lv_aload_n C.1 C.2.1 dX11_carryOver_147 rfl (lv_at hl 0 rfl) ?_
                obtain ⟨hk, h⟩ := ckk_ok h
                obtain ⟨a101, h_a101, h⟩ := bd_ok h
                refine gk11_48 C X hJ.1 hk h_a101 dX11_carryOver_148 ?_
                refine lv_bipush (v := 10) C.1 C.2.1 dX11_carryOver_151 (by decide) ?_
                obtain ⟨hk, h⟩ := ckk_ok h
                refine pk11_471 C X hJ hk dX11_carryOver_153 (fun H locs hJ => ?_)
                refine lt_ok h (fun S102 e_S102 h => ?_)
                rw [e_S102] at hJ
                refine lv_aload_n C.1 C.2.1 dX11_carryOver_156 rfl (lv_at hl 0 rfl) ?_
                obtain ⟨hk, h⟩ := ckk_ok h
                obtain ⟨a103, h_a103, h⟩ := bd_ok h
                refine gk11_48 C X hJ.1 hk h_a103 dX11_carryOver_157 ?_
                refine lv_iconst (v := 0) C.1 C.2.1 dX11_carryOver_160 (by decide) ?_
                obtain ⟨hk, h⟩ := ckk_ok h
                refine pk11_486 C X hJ hk dX11_carryOver_161 (fun H locs hJ => ?_)
                refine lt_ok h (fun S104 e_S104 h => ?_)
                rw [e_S104] at hJ
                refine lv_aload_n C.1 C.2.1 dX11_carryOver_164 rfl (lv_at hl 0 rfl) ?_
                obtain ⟨hk, h⟩ := ckk_ok h
                obtain ⟨a105, h_a105, h⟩ := bd_ok h
                refine gk11_48 C X hJ.1 hk h_a105 dX11_carryOver_165 ?_
                refine lv_aload_n C.1 C.2.1 dX11_carryOver_168 rfl (lv_at hl 0 rfl) ?_
                obtain ⟨hk, h⟩ := ckk_ok h
                obtain ⟨a106, h_a106, h⟩ := bd_ok h
                refine gk11_41 C X hJ.1 hk h_a106 dX11_carryOver_169 ?_
                obtain ⟨hk, h⟩ := ckk_ok h
                obtain ⟨a107, h_a107, h⟩ := bd_ok h
                refine gk11_377 C X hJ.1 hk h_a107 dX11_carryOver_172 ?_
                refine lv_iload_n C.1 C.2.1 dX11_carryOver_175 rfl (lv_at hl 3 rfl) ?_
                obtain ⟨hk, h⟩ := ckk_ok h
                obtain ⟨hin2, h⟩ := ck_ok h
                refine c_aald C 30 (by decide) X.2.2.2.2.1 hJ.1 hk hin2 dX11_carryOver_176 ?_
                refine lt_ok h (fun o108 e_o108 h => ?_)
                refine lv_nmq e_o108 ?_
                obtain ⟨a109, e_a109, h⟩ := bd_ok h
                revert h; subst e_a109; intro h
                obtain ⟨hk, h⟩ := ckk_ok h
                refine gk11_142 C X hJ.1 hk dX11_carryOver_177 ?_
                obtain ⟨hk, h⟩ := ckk_ok h
                refine pk11_482 C X hJ hk dX11_carryOver_180 (fun H locs hJ => ?_)
                refine lt_ok h (fun S110 e_S110 h => ?_)
                rw [e_S110] at hJ
                refine lv_aload_n C.1 C.2.1 dX11_carryOver_183 rfl (lv_at hl 1 rfl) ?_
                refine lv_aload_n C.1 C.2.1 dX11_carryOver_184 rfl (lv_at hl 0 rfl) ?_
                obtain ⟨hk, h⟩ := ckk_ok h
                obtain ⟨a111, h_a111, h⟩ := bd_ok h
                refine gk11_48 C X hJ.1 hk h_a111 dX11_carryOver_185 ?_
                obtain ⟨hk, h⟩ := ckk_ok h
                obtain ⟨⟨o113, S112⟩, h_S112, h⟩ := bd_ok h
                replace h := lt2_ok h
                refine c_callW (rest := []) C X hJ hl.1 7 (by decide) hk [.ref a111] (tk_7_make l h_S112) cw11_138 ki_7_make kl_7_make rfl ⟨by decide, by decide⟩ ⟨(by omega), (by omega)⟩ rfl (Nat.le_of_ble_eq_true rfl) dX11_carryOver_188 (fun H locs hJ => ?_)
                refine W.eq (g2 := F0 m 191 ls [va_rf o113]) rfl ?_
                refine lv_pop C.1 C.2.1 dX11_carryOver_191 (kcat _) ?_
                refine lt_ok h (fun x114 e_x114 h => ?_)
                refine lv_iinc (v := x114) (lv' := [(3, .int x114), (0, .ref v0), (1, .ref v1), (2, .int v2), (4, .int v4), (5, .int v5), (6, .int v6), (7, .int v7)]) C.1 C.2.1 dX11_carryOver_192 hl (k := 3) rfl (by rw [← e_x114]; rfl) (by decide) rfl (fun ls hl => ?_)
                refine lv_goto (tgt := 249) C.1 C.2.1 dX11_carryOver_195 (by decide) ?_
                refine lt_ok h (fun x115 e_x115 h => ?_)
                refine lv_iinc (v := x115) (lv' := [(7, .int x115), (3, .int x114), (0, .ref v0), (1, .ref v1), (2, .int v2), (4, .int v4), (5, .int v5), (6, .int v6)]) C.1 C.2.1 dX11_carryOver_249 hl (k := 7) rfl (by rw [← e_x115]; rfl) (by decide) rfl (fun ls hl => ?_)
                refine lv_goto (tgt := 22) C.1 C.2.1 dX11_carryOver_252 (by decide) ?_
                refine W.widen (k := 2200 - 2 * n) (n := 19800 - 18 * n) (by omega) (by omega) ?_
                exact ih (by omega) h hJ (lv_sub hl [2, 3, 4, 1, 5, 6, 7, 0] rfl)
          · have h := if_t h c63
            refine lv_aload_n C.1 C.2.1 dX11_carryOver_88 rfl (lv_at hl 0 rfl) ?_
            obtain ⟨hk, h⟩ := ckk_ok h
            obtain ⟨a116, h_a116, h⟩ := bd_ok h
            refine gk11_41 C X hJ.1 hk h_a116 dX11_carryOver_89 ?_
            obtain ⟨hk, h⟩ := ckk_ok h
            obtain ⟨a117, h_a117, h⟩ := bd_ok h
            refine gk11_377 C X hJ.1 hk h_a117 dX11_carryOver_92 ?_
            refine lv_iload_n C.1 C.2.1 dX11_carryOver_95 rfl (lv_at hl 3 rfl) ?_
            obtain ⟨hk, h⟩ := ckk_ok h
            obtain ⟨hin2, h⟩ := ck_ok h
            refine c_aald C 30 (by decide) X.2.2.2.2.1 hJ.1 hk hin2 dX11_carryOver_96 ?_
            refine lt_ok h (fun o118 e_o118 h => ?_)
            refine lv_nmq e_o118 ?_
            obtain ⟨a119, e_a119, h⟩ := bd_ok h
            revert h; subst e_a119; intro h
            obtain ⟨hk, h⟩ := ckk_ok h
            refine gk11_142 C X hJ.1 hk dX11_carryOver_97 ?_
            refine lt_ok h (fun x120 e_x120 h => ?_)
            refine lv_nm e_x120 ?_
            refine lv_istore (lv' := [(5, .int x120), (0, .ref v0), (1, .ref v1), (2, .int v2), (3, .int v3), (4, .int v4), (6, .int v6), (7, .int v7)]) C.1 C.2.1 dX11_carryOver_100 hl (by decide) rfl (fun ls hl => ?_)
            refine lt_ok h (fun x121 e_x121 h => ?_)
            refine lv_iinc (v := x121) (lv' := [(3, .int x121), (5, .int x120), (0, .ref v0), (1, .ref v1), (2, .int v2), (4, .int v4), (6, .int v6), (7, .int v7)]) C.1 C.2.1 dX11_carryOver_102 hl (k := 4) rfl (by rw [← e_x121]; rfl) (by decide) rfl (fun ls hl => ?_)
            refine lt_ok h (fun x122 e_x122 h => ?_)
            refine lv_iinc (v := x122) (lv' := [(4, .int x122), (3, .int x121), (5, .int x120), (0, .ref v0), (1, .ref v1), (2, .int v2), (6, .int v6), (7, .int v7)]) C.1 C.2.1 dX11_carryOver_105 hl (k := 5) rfl (by rw [← e_x122]; rfl) (by decide) rfl (fun ls hl => ?_)
            refine lv_goto (tgt := 249) C.1 C.2.1 dX11_carryOver_108 (by decide) ?_
            refine lt_ok h (fun x123 e_x123 h => ?_)
            refine lv_iinc (v := x123) (lv' := [(7, .int x123), (4, .int x122), (3, .int x121), (5, .int x120), (0, .ref v0), (1, .ref v1), (2, .int v2), (6, .int v6)]) C.1 C.2.1 dX11_carryOver_249 hl (k := 7) rfl (by rw [← e_x123]; rfl) (by decide) rfl (fun ls hl => ?_)
            refine lv_goto (tgt := 22) C.1 C.2.1 dX11_carryOver_252 (by decide) ?_
            refine W.widen (k := 2200 - 2 * n) (n := 19800 - 18 * n) (by omega) (by omega) ?_
            exact ih (by omega) h hJ (lv_sub hl [4, 5, 6, 2, 1, 3, 7, 0] rfl)
      · have h := if_f h c3
        refine lv_iload C.1 C.2.1 dX11_carryOver_40 (lv_at hl 4 rfl) ?_
        refine lv_iload_n C.1 C.2.1 dX11_carryOver_42 rfl (lv_at hl 2 rfl) ?_
        refine lv_icmp_ge (tgt := 255) C.1 C.2.1 dX11_carryOver_43 (by decide) (fun c124 => ?_) (fun c124 => ?_)
        · have h := if_t h c124
          refine W.widen (k := 2200) (n := 19800) (by omega) (by omega) ?_
          exact wk_11_carryOver_255 C X h hJ (lv_sub hl [] rfl)
        · have h := if_f h c124
          refine lv_aload_n C.1 C.2.1 dX11_carryOver_46 rfl (lv_at hl 0 rfl) ?_
          obtain ⟨hk, h⟩ := ckk_ok h
          obtain ⟨a125, h_a125, h⟩ := bd_ok h
          refine gk11_41 C X hJ.1 hk h_a125 dX11_carryOver_47 ?_
          refine lv_iload_n C.1 C.2.1 dX11_carryOver_50 rfl (lv_at hl 3 rfl) ?_
          refine lv_iload C.1 C.2.1 dX11_carryOver_51 (lv_at hl 4 rfl) ?_
          obtain ⟨hk, h⟩ := ckk_ok h
          obtain ⟨r126, h_r126, h⟩ := bd_ok h
          refine c_callR (rest := []) C X hJ.1 hl.1 9 (by decide) hk [.int v3, .int v4] (tk_9_isSame l h_r126) cw11_500 ki_9_isSame kl_9_isSame rfl ⟨by decide, by decide⟩ ⟨(by omega), (by omega)⟩ rfl (Nat.le_of_ble_eq_true rfl) dX11_carryOver_53 ?_
          refine W.eq (g2 := F0 m 56 ls [.int r126]) rfl ?_
          refine lv_if_eq (tgt := 111) C.1 C.2.1 dX11_carryOver_56 (by decide) (fun c127 => ?_) (fun c127 => ?_)
          · have h := if_t h c127
            refine lv_iload_n C.1 C.2.1 dX11_carryOver_111 rfl (lv_at hl 3 rfl) ?_
            refine lv_aload_n C.1 C.2.1 dX11_carryOver_112 rfl (lv_at hl 0 rfl) ?_
            obtain ⟨hk, h⟩ := ckk_ok h
            obtain ⟨a128, h_a128, h⟩ := bd_ok h
            refine gk11_41 C X hJ.1 hk h_a128 dX11_carryOver_113 ?_
            obtain ⟨hk, h⟩ := ckk_ok h
            refine gk11_165 C X hJ.1 hk dX11_carryOver_116 ?_
            refine lv_icmp_ge (tgt := 198) C.1 C.2.1 dX11_carryOver_119 (by decide) (fun c129 => ?_) (fun c129 => ?_)
            · have h := if_t h c129
              refine lv_aload_n C.1 C.2.1 dX11_carryOver_198 rfl (lv_at hl 0 rfl) ?_
              obtain ⟨hk, h⟩ := ckk_ok h
              obtain ⟨a130, h_a130, h⟩ := bd_ok h
              refine gk11_48 C X hJ.1 hk h_a130 dX11_carryOver_199 ?_
              refine lv_bipush (v := 9) C.1 C.2.1 dX11_carryOver_202 (by decide) ?_
              obtain ⟨hk, h⟩ := ckk_ok h
              refine pk11_471 C X hJ hk dX11_carryOver_204 (fun H locs hJ => ?_)
              refine lt_ok h (fun S131 e_S131 h => ?_)
              rw [e_S131] at hJ
              refine lv_aload_n C.1 C.2.1 dX11_carryOver_207 rfl (lv_at hl 0 rfl) ?_
              obtain ⟨hk, h⟩ := ckk_ok h
              obtain ⟨a132, h_a132, h⟩ := bd_ok h
              refine gk11_48 C X hJ.1 hk h_a132 dX11_carryOver_208 ?_
              refine lv_aload_n C.1 C.2.1 dX11_carryOver_211 rfl (lv_at hl 0 rfl) ?_
              obtain ⟨hk, h⟩ := ckk_ok h
              obtain ⟨a133, h_a133, h⟩ := bd_ok h
              refine gk11_12 C X hJ.1 hk h_a133 dX11_carryOver_212 ?_
              obtain ⟨hk, h⟩ := ckk_ok h
              obtain ⟨a134, h_a134, h⟩ := bd_ok h
              refine gk11_157 C X hJ.1 hk h_a134 dX11_carryOver_215 ?_
              refine lv_iload C.1 C.2.1 dX11_carryOver_218 (lv_at hl 4 rfl) ?_
              obtain ⟨hk, h⟩ := ckk_ok h
              obtain ⟨hin2, h⟩ := ck_ok h
              refine c_cald C X hJ.1 hk hin2 dX11_carryOver_220 ?_
              obtain ⟨hk, h⟩ := ckk_ok h
              refine pk11_486 C X hJ hk dX11_carryOver_221 (fun H locs hJ => ?_)
              refine lt_ok h (fun S135 e_S135 h => ?_)
              rw [e_S135] at hJ
              refine lv_aload_n C.1 C.2.1 dX11_carryOver_224 rfl (lv_at hl 0 rfl) ?_
              obtain ⟨hk, h⟩ := ckk_ok h
              obtain ⟨a136, h_a136, h⟩ := bd_ok h
              refine gk11_48 C X hJ.1 hk h_a136 dX11_carryOver_225 ?_
              refine lv_iload C.1 C.2.1 dX11_carryOver_228 (lv_at hl 5 rfl) ?_
              obtain ⟨hk, h⟩ := ckk_ok h
              refine pk11_482 C X hJ hk dX11_carryOver_230 (fun H locs hJ => ?_)
              refine lt_ok h (fun S137 e_S137 h => ?_)
              rw [e_S137] at hJ
              refine lv_aload_n C.1 C.2.1 dX11_carryOver_233 rfl (lv_at hl 1 rfl) ?_
              refine lv_aload_n C.1 C.2.1 dX11_carryOver_234 rfl (lv_at hl 0 rfl) ?_
              obtain ⟨hk, h⟩ := ckk_ok h
              obtain ⟨a138, h_a138, h⟩ := bd_ok h
              refine gk11_48 C X hJ.1 hk h_a138 dX11_carryOver_235 ?_
              obtain ⟨hk, h⟩ := ckk_ok h
              obtain ⟨⟨o140, S139⟩, h_S139, h⟩ := bd_ok h
              replace h := lt2_ok h
              refine c_callW (rest := []) C X hJ hl.1 7 (by decide) hk [.ref a138] (tk_7_make l h_S139) cw11_138 ki_7_make kl_7_make rfl ⟨by decide, by decide⟩ ⟨(by omega), (by omega)⟩ rfl (Nat.le_of_ble_eq_true rfl) dX11_carryOver_238 (fun H locs hJ => ?_)
              refine W.eq (g2 := F0 m 241 ls [va_rf o140]) rfl ?_
              obtain ⟨a141, e_a141, h⟩ := bd_ok h
              revert h; subst e_a141; intro h
              obtain ⟨hk, h⟩ := ckk_ok h
              refine gk11_142 C X hJ.1 hk dX11_carryOver_241 ?_
              refine lt_ok h (fun x142 e_x142 h => ?_)
              refine lv_nm e_x142 ?_
              refine lv_istore (lv' := [(5, .int x142), (0, .ref v0), (1, .ref v1), (2, .int v2), (3, .int v3), (4, .int v4), (6, .int v6), (7, .int v7)]) C.1 C.2.1 dX11_carryOver_244 hl (by decide) rfl (fun ls hl => ?_)
              refine lt_ok h (fun x143 e_x143 h => ?_)
              refine lv_iinc (v := x143) (lv' := [(4, .int x143), (5, .int x142), (0, .ref v0), (1, .ref v1), (2, .int v2), (3, .int v3), (6, .int v6), (7, .int v7)]) C.1 C.2.1 dX11_carryOver_246 hl (k := 5) rfl (by rw [← e_x143]; rfl) (by decide) rfl (fun ls hl => ?_)
              refine lt_ok h (fun x144 e_x144 h => ?_)
              refine lv_iinc (v := x144) (lv' := [(7, .int x144), (4, .int x143), (5, .int x142), (0, .ref v0), (1, .ref v1), (2, .int v2), (3, .int v3), (6, .int v6)]) C.1 C.2.1 dX11_carryOver_249 hl (k := 7) rfl (by rw [← e_x144]; rfl) (by decide) rfl (fun ls hl => ?_)
              refine lv_goto (tgt := 22) C.1 C.2.1 dX11_carryOver_252 (by decide) ?_
              refine W.widen (k := 2200 - 2 * n) (n := 19800 - 18 * n) (by omega) (by omega) ?_
              exact ih (by omega) h hJ (lv_sub hl [3, 4, 5, 6, 1, 2, 7, 0] rfl)
            · have h := if_f h c129
              refine lv_aload_n C.1 C.2.1 dX11_carryOver_122 rfl (lv_at hl 0 rfl) ?_
              obtain ⟨hk, h⟩ := ckk_ok h
              obtain ⟨a145, h_a145, h⟩ := bd_ok h
              refine gk11_41 C X hJ.1 hk h_a145 dX11_carryOver_123 ?_
              refine lv_iload_n C.1 C.2.1 dX11_carryOver_126 rfl (lv_at hl 3 rfl) ?_
              refine lv_iload C.1 C.2.1 dX11_carryOver_127 (lv_at hl 4 rfl) ?_
              obtain ⟨hk, h⟩ := ckk_ok h
              obtain ⟨r146, h_r146, h⟩ := bd_ok h
              refine c_callR (rest := []) C X hJ.1 hl.1 9 (by decide) hk [.int v3, .int v4] (tk_9_common l h_r146) cw11_168 ki_9_common kl_9_common rfl ⟨by decide, by decide⟩ ⟨(by omega), (by omega)⟩ rfl (Nat.le_of_ble_eq_true rfl) dX11_carryOver_129 ?_
              refine W.eq (g2 := F0 m 132 ls [.int r146]) rfl ?_
              refine lv_aload_n C.1 C.2.1 dX11_carryOver_132 rfl (lv_at hl 0 rfl) ?_
              obtain ⟨hk, h⟩ := ckk_ok h
              obtain ⟨a147, h_a147, h⟩ := bd_ok h
              refine gk11_41 C X hJ.1 hk h_a147 dX11_carryOver_133 ?_
              refine lv_iload_n C.1 C.2.1 dX11_carryOver_136 rfl (lv_at hl 3 rfl) ?_
              refine lv_iconst (v := 1) C.1 C.2.1 dX11_carryOver_137 (by decide) ?_
              refine lv_iadd C.1 C.2.1 dX11_carryOver_138 ?_
              refine lv_iload C.1 C.2.1 dX11_carryOver_139 (lv_at hl 4 rfl) ?_
              obtain ⟨hk, h⟩ := ckk_ok h
              obtain ⟨r148, h_r148, h⟩ := bd_ok h
              refine c_callR (rest := [.int r146]) C X hJ.1 hl.1 9 (by decide) hk [.int (v3 + (1 : Int32)), .int v4] (tk_9_common l h_r148) cw11_168 ki_9_common kl_9_common rfl ⟨by decide, by decide⟩ ⟨(by omega), (by omega)⟩ rfl (Nat.le_of_ble_eq_true rfl) dX11_carryOver_141 ?_
              refine W.eq (g2 := F0 m 144 ls [.int r148, .int r146]) rfl ?_
              refine lv_icmp_ne (tgt := 198) C.1 C.2.1 dX11_carryOver_144 (by decide) (fun c149 => ?_) (fun c149 => ?_)
              · have h := if_f h c149
                refine lv_aload_n C.1 C.2.1 dX11_carryOver_198 rfl (lv_at hl 0 rfl) ?_
                obtain ⟨hk, h⟩ := ckk_ok h
                obtain ⟨a150, h_a150, h⟩ := bd_ok h
                refine gk11_48 C X hJ.1 hk h_a150 dX11_carryOver_199 ?_
                refine lv_bipush (v := 9) C.1 C.2.1 dX11_carryOver_202 (by decide) ?_
                obtain ⟨hk, h⟩ := ckk_ok h
                refine pk11_471 C X hJ hk dX11_carryOver_204 (fun H locs hJ => ?_)
                refine lt_ok h (fun S151 e_S151 h => ?_)
                rw [e_S151] at hJ
                refine lv_aload_n C.1 C.2.1 dX11_carryOver_207 rfl (lv_at hl 0 rfl) ?_
                obtain ⟨hk, h⟩ := ckk_ok h
                obtain ⟨a152, h_a152, h⟩ := bd_ok h
                refine gk11_48 C X hJ.1 hk h_a152 dX11_carryOver_208 ?_
                refine lv_aload_n C.1 C.2.1 dX11_carryOver_211 rfl (lv_at hl 0 rfl) ?_
                obtain ⟨hk, h⟩ := ckk_ok h
                obtain ⟨a153, h_a153, h⟩ := bd_ok h
                refine gk11_12 C X hJ.1 hk h_a153 dX11_carryOver_212 ?_
                obtain ⟨hk, h⟩ := ckk_ok h
                obtain ⟨a154, h_a154, h⟩ := bd_ok h
                refine gk11_157 C X hJ.1 hk h_a154 dX11_carryOver_215 ?_
                refine lv_iload C.1 C.2.1 dX11_carryOver_218 (lv_at hl 4 rfl) ?_
                obtain ⟨hk, h⟩ := ckk_ok h
                obtain ⟨hin2, h⟩ := ck_ok h
                refine c_cald C X hJ.1 hk hin2 dX11_carryOver_220 ?_
                obtain ⟨hk, h⟩ := ckk_ok h
                refine pk11_486 C X hJ hk dX11_carryOver_221 (fun H locs hJ => ?_)
                refine lt_ok h (fun S155 e_S155 h => ?_)
                rw [e_S155] at hJ
                refine lv_aload_n C.1 C.2.1 dX11_carryOver_224 rfl (lv_at hl 0 rfl) ?_
                obtain ⟨hk, h⟩ := ckk_ok h
                obtain ⟨a156, h_a156, h⟩ := bd_ok h
                refine gk11_48 C X hJ.1 hk h_a156 dX11_carryOver_225 ?_
                refine lv_iload C.1 C.2.1 dX11_carryOver_228 (lv_at hl 5 rfl) ?_
                obtain ⟨hk, h⟩ := ckk_ok h
                refine pk11_482 C X hJ hk dX11_carryOver_230 (fun H locs hJ => ?_)
                refine lt_ok h (fun S157 e_S157 h => ?_)
                rw [e_S157] at hJ
                refine lv_aload_n C.1 C.2.1 dX11_carryOver_233 rfl (lv_at hl 1 rfl) ?_
                refine lv_aload_n C.1 C.2.1 dX11_carryOver_234 rfl (lv_at hl 0 rfl) ?_
                obtain ⟨hk, h⟩ := ckk_ok h
                obtain ⟨a158, h_a158, h⟩ := bd_ok h
                refine gk11_48 C X hJ.1 hk h_a158 dX11_carryOver_235 ?_
                obtain ⟨hk, h⟩ := ckk_ok h
                obtain ⟨⟨o160, S159⟩, h_S159, h⟩ := bd_ok h
                replace h := lt2_ok h
                refine c_callW (rest := []) C X hJ hl.1 7 (by decide) hk [.ref a158] (tk_7_make l h_S159) cw11_138 ki_7_make kl_7_make rfl ⟨by decide, by decide⟩ ⟨(by omega), (by omega)⟩ rfl (Nat.le_of_ble_eq_true rfl) dX11_carryOver_238 (fun H locs hJ => ?_)
                refine W.eq (g2 := F0 m 241 ls [va_rf o160]) rfl ?_
                obtain ⟨a161, e_a161, h⟩ := bd_ok h
                revert h; subst e_a161; intro h
                obtain ⟨hk, h⟩ := ckk_ok h
                refine gk11_142 C X hJ.1 hk dX11_carryOver_241 ?_
                refine lt_ok h (fun x162 e_x162 h => ?_)
                refine lv_nm e_x162 ?_
                refine lv_istore (lv' := [(5, .int x162), (0, .ref v0), (1, .ref v1), (2, .int v2), (3, .int v3), (4, .int v4), (6, .int v6), (7, .int v7)]) C.1 C.2.1 dX11_carryOver_244 hl (by decide) rfl (fun ls hl => ?_)
                refine lt_ok h (fun x163 e_x163 h => ?_)
                refine lv_iinc (v := x163) (lv' := [(4, .int x163), (5, .int x162), (0, .ref v0), (1, .ref v1), (2, .int v2), (3, .int v3), (6, .int v6), (7, .int v7)]) C.1 C.2.1 dX11_carryOver_246 hl (k := 5) rfl (by rw [← e_x163]; rfl) (by decide) rfl (fun ls hl => ?_)
                refine lt_ok h (fun x164 e_x164 h => ?_)
                refine lv_iinc (v := x164) (lv' := [(7, .int x164), (4, .int x163), (5, .int x162), (0, .ref v0), (1, .ref v1), (2, .int v2), (3, .int v3), (6, .int v6)]) C.1 C.2.1 dX11_carryOver_249 hl (k := 7) rfl (by rw [← e_x164]; rfl) (by decide) rfl (fun ls hl => ?_)
                refine lv_goto (tgt := 22) C.1 C.2.1 dX11_carryOver_252 (by decide) ?_
                refine W.widen (k := 2200 - 2 * n) (n := 19800 - 18 * n) (by omega) (by omega) ?_
                exact ih (by omega) h hJ (lv_sub hl [3, 4, 5, 6, 1, 2, 7, 0] rfl)
              · have h := if_t h c149
                refine lv_aload_n C.1 C.2.1 dX11_carryOver_147 rfl (lv_at hl 0 rfl) ?_
                obtain ⟨hk, h⟩ := ckk_ok h
                obtain ⟨a165, h_a165, h⟩ := bd_ok h
                refine gk11_48 C X hJ.1 hk h_a165 dX11_carryOver_148 ?_
                refine lv_bipush (v := 10) C.1 C.2.1 dX11_carryOver_151 (by decide) ?_
                obtain ⟨hk, h⟩ := ckk_ok h
                refine pk11_471 C X hJ hk dX11_carryOver_153 (fun H locs hJ => ?_)
                refine lt_ok h (fun S166 e_S166 h => ?_)
                rw [e_S166] at hJ
                refine lv_aload_n C.1 C.2.1 dX11_carryOver_156 rfl (lv_at hl 0 rfl) ?_
                obtain ⟨hk, h⟩ := ckk_ok h
                obtain ⟨a167, h_a167, h⟩ := bd_ok h
                refine gk11_48 C X hJ.1 hk h_a167 dX11_carryOver_157 ?_
                refine lv_iconst (v := 0) C.1 C.2.1 dX11_carryOver_160 (by decide) ?_
                obtain ⟨hk, h⟩ := ckk_ok h
                refine pk11_486 C X hJ hk dX11_carryOver_161 (fun H locs hJ => ?_)
                refine lt_ok h (fun S168 e_S168 h => ?_)
                rw [e_S168] at hJ
                refine lv_aload_n C.1 C.2.1 dX11_carryOver_164 rfl (lv_at hl 0 rfl) ?_
                obtain ⟨hk, h⟩ := ckk_ok h
                obtain ⟨a169, h_a169, h⟩ := bd_ok h
                refine gk11_48 C X hJ.1 hk h_a169 dX11_carryOver_165 ?_
                refine lv_aload_n C.1 C.2.1 dX11_carryOver_168 rfl (lv_at hl 0 rfl) ?_
                obtain ⟨hk, h⟩ := ckk_ok h
                obtain ⟨a170, h_a170, h⟩ := bd_ok h
                refine gk11_41 C X hJ.1 hk h_a170 dX11_carryOver_169 ?_
                obtain ⟨hk, h⟩ := ckk_ok h
                obtain ⟨a171, h_a171, h⟩ := bd_ok h
                refine gk11_377 C X hJ.1 hk h_a171 dX11_carryOver_172 ?_
                refine lv_iload_n C.1 C.2.1 dX11_carryOver_175 rfl (lv_at hl 3 rfl) ?_
                obtain ⟨hk, h⟩ := ckk_ok h
                obtain ⟨hin2, h⟩ := ck_ok h
                refine c_aald C 30 (by decide) X.2.2.2.2.1 hJ.1 hk hin2 dX11_carryOver_176 ?_
                refine lt_ok h (fun o172 e_o172 h => ?_)
                refine lv_nmq e_o172 ?_
                obtain ⟨a173, e_a173, h⟩ := bd_ok h
                revert h; subst e_a173; intro h
                obtain ⟨hk, h⟩ := ckk_ok h
                refine gk11_142 C X hJ.1 hk dX11_carryOver_177 ?_
                obtain ⟨hk, h⟩ := ckk_ok h
                refine pk11_482 C X hJ hk dX11_carryOver_180 (fun H locs hJ => ?_)
                refine lt_ok h (fun S174 e_S174 h => ?_)
                rw [e_S174] at hJ
                refine lv_aload_n C.1 C.2.1 dX11_carryOver_183 rfl (lv_at hl 1 rfl) ?_
                refine lv_aload_n C.1 C.2.1 dX11_carryOver_184 rfl (lv_at hl 0 rfl) ?_
                obtain ⟨hk, h⟩ := ckk_ok h
                obtain ⟨a175, h_a175, h⟩ := bd_ok h
                refine gk11_48 C X hJ.1 hk h_a175 dX11_carryOver_185 ?_
                obtain ⟨hk, h⟩ := ckk_ok h
                obtain ⟨⟨o177, S176⟩, h_S176, h⟩ := bd_ok h
                replace h := lt2_ok h
                refine c_callW (rest := []) C X hJ hl.1 7 (by decide) hk [.ref a175] (tk_7_make l h_S176) cw11_138 ki_7_make kl_7_make rfl ⟨by decide, by decide⟩ ⟨(by omega), (by omega)⟩ rfl (Nat.le_of_ble_eq_true rfl) dX11_carryOver_188 (fun H locs hJ => ?_)
                refine W.eq (g2 := F0 m 191 ls [va_rf o177]) rfl ?_
                refine lv_pop C.1 C.2.1 dX11_carryOver_191 (kcat _) ?_
                refine lt_ok h (fun x178 e_x178 h => ?_)
                refine lv_iinc (v := x178) (lv' := [(3, .int x178), (0, .ref v0), (1, .ref v1), (2, .int v2), (4, .int v4), (5, .int v5), (6, .int v6), (7, .int v7)]) C.1 C.2.1 dX11_carryOver_192 hl (k := 3) rfl (by rw [← e_x178]; rfl) (by decide) rfl (fun ls hl => ?_)
                refine lv_goto (tgt := 249) C.1 C.2.1 dX11_carryOver_195 (by decide) ?_
                refine lt_ok h (fun x179 e_x179 h => ?_)
                refine lv_iinc (v := x179) (lv' := [(7, .int x179), (3, .int x178), (0, .ref v0), (1, .ref v1), (2, .int v2), (4, .int v4), (5, .int v5), (6, .int v6)]) C.1 C.2.1 dX11_carryOver_249 hl (k := 7) rfl (by rw [← e_x179]; rfl) (by decide) rfl (fun ls hl => ?_)
                refine lv_goto (tgt := 22) C.1 C.2.1 dX11_carryOver_252 (by decide) ?_
                refine W.widen (k := 2200 - 2 * n) (n := 19800 - 18 * n) (by omega) (by omega) ?_
                exact ih (by omega) h hJ (lv_sub hl [2, 3, 4, 1, 5, 6, 7, 0] rfl)
          · have h := if_f h c127
            refine lv_aload_n C.1 C.2.1 dX11_carryOver_59 rfl (lv_at hl 0 rfl) ?_
            obtain ⟨hk, h⟩ := ckk_ok h
            obtain ⟨a180, h_a180, h⟩ := bd_ok h
            refine gk11_41 C X hJ.1 hk h_a180 dX11_carryOver_60 ?_
            refine lv_iload_n C.1 C.2.1 dX11_carryOver_63 rfl (lv_at hl 3 rfl) ?_
            refine lv_iload C.1 C.2.1 dX11_carryOver_64 (lv_at hl 4 rfl) ?_
            obtain ⟨hk, h⟩ := ckk_ok h
            obtain ⟨r181, h_r181, h⟩ := bd_ok h
            refine c_callR (rest := []) C X hJ.1 hl.1 9 (by decide) hk [.int v3, .int v4] (tk_9_common l h_r181) cw11_168 ki_9_common kl_9_common rfl ⟨by decide, by decide⟩ ⟨(by omega), (by omega)⟩ rfl (Nat.le_of_ble_eq_true rfl) dX11_carryOver_66 ?_
            refine W.eq (g2 := F0 m 69 ls [.int r181]) rfl ?_
            refine lv_iconst (v := 1) C.1 C.2.1 dX11_carryOver_69 (by decide) ?_
            refine lv_aload_n C.1 C.2.1 dX11_carryOver_70 rfl (lv_at hl 0 rfl) ?_
            obtain ⟨hk, h⟩ := ckk_ok h
            obtain ⟨a182, h_a182, h⟩ := bd_ok h
            refine gk11_41 C X hJ.1 hk h_a182 dX11_carryOver_71 ?_
            refine lv_iload_n C.1 C.2.1 dX11_carryOver_74 rfl (lv_at hl 3 rfl) ?_
            refine lv_iconst (v := 1) C.1 C.2.1 dX11_carryOver_75 (by decide) ?_
            refine lv_iadd C.1 C.2.1 dX11_carryOver_76 ?_
            refine lv_iload C.1 C.2.1 dX11_carryOver_77 (lv_at hl 4 rfl) ?_
            refine lv_iconst (v := 1) C.1 C.2.1 dX11_carryOver_79 (by decide) ?_
            refine lv_iadd C.1 C.2.1 dX11_carryOver_80 ?_
            obtain ⟨hk, h⟩ := ckk_ok h
            obtain ⟨r183, h_r183, h⟩ := bd_ok h
            refine c_callR (rest := [.int (1 : Int32), .int r181]) C X hJ.1 hl.1 9 (by decide) hk [.int (v3 + (1 : Int32)), .int (v4 + (1 : Int32))] (tk_9_common l h_r183) cw11_168 ki_9_common kl_9_common rfl ⟨by decide, by decide⟩ ⟨(by omega), (by omega)⟩ rfl (Nat.le_of_ble_eq_true rfl) dX11_carryOver_81 ?_
            refine W.eq (g2 := F0 m 84 ls [.int r183, .int (1 : Int32), .int r181]) rfl ?_
            refine lv_iadd C.1 C.2.1 dX11_carryOver_84 ?_
            refine lv_icmp_ne (tgt := 111) C.1 C.2.1 dX11_carryOver_85 (by decide) (fun c184 => ?_) (fun c184 => ?_)
            · have h := if_f h c184
              refine lv_iload_n C.1 C.2.1 dX11_carryOver_111 rfl (lv_at hl 3 rfl) ?_
              refine lv_aload_n C.1 C.2.1 dX11_carryOver_112 rfl (lv_at hl 0 rfl) ?_
              obtain ⟨hk, h⟩ := ckk_ok h
              obtain ⟨a185, h_a185, h⟩ := bd_ok h
              refine gk11_41 C X hJ.1 hk h_a185 dX11_carryOver_113 ?_
              obtain ⟨hk, h⟩ := ckk_ok h
              refine gk11_165 C X hJ.1 hk dX11_carryOver_116 ?_
              refine lv_icmp_ge (tgt := 198) C.1 C.2.1 dX11_carryOver_119 (by decide) (fun c186 => ?_) (fun c186 => ?_)
              · have h := if_t h c186
                refine lv_aload_n C.1 C.2.1 dX11_carryOver_198 rfl (lv_at hl 0 rfl) ?_
                obtain ⟨hk, h⟩ := ckk_ok h
                obtain ⟨a187, h_a187, h⟩ := bd_ok h
                refine gk11_48 C X hJ.1 hk h_a187 dX11_carryOver_199 ?_
                refine lv_bipush (v := 9) C.1 C.2.1 dX11_carryOver_202 (by decide) ?_
                obtain ⟨hk, h⟩ := ckk_ok h
                refine pk11_471 C X hJ hk dX11_carryOver_204 (fun H locs hJ => ?_)
                refine lt_ok h (fun S188 e_S188 h => ?_)
                rw [e_S188] at hJ
                refine lv_aload_n C.1 C.2.1 dX11_carryOver_207 rfl (lv_at hl 0 rfl) ?_
                obtain ⟨hk, h⟩ := ckk_ok h
                obtain ⟨a189, h_a189, h⟩ := bd_ok h
                refine gk11_48 C X hJ.1 hk h_a189 dX11_carryOver_208 ?_
                refine lv_aload_n C.1 C.2.1 dX11_carryOver_211 rfl (lv_at hl 0 rfl) ?_
                obtain ⟨hk, h⟩ := ckk_ok h
                obtain ⟨a190, h_a190, h⟩ := bd_ok h
                refine gk11_12 C X hJ.1 hk h_a190 dX11_carryOver_212 ?_
                obtain ⟨hk, h⟩ := ckk_ok h
                obtain ⟨a191, h_a191, h⟩ := bd_ok h
                refine gk11_157 C X hJ.1 hk h_a191 dX11_carryOver_215 ?_
                refine lv_iload C.1 C.2.1 dX11_carryOver_218 (lv_at hl 4 rfl) ?_
                obtain ⟨hk, h⟩ := ckk_ok h
                obtain ⟨hin2, h⟩ := ck_ok h
                refine c_cald C X hJ.1 hk hin2 dX11_carryOver_220 ?_
                obtain ⟨hk, h⟩ := ckk_ok h
                refine pk11_486 C X hJ hk dX11_carryOver_221 (fun H locs hJ => ?_)
                refine lt_ok h (fun S192 e_S192 h => ?_)
                rw [e_S192] at hJ
                refine lv_aload_n C.1 C.2.1 dX11_carryOver_224 rfl (lv_at hl 0 rfl) ?_
                obtain ⟨hk, h⟩ := ckk_ok h
                obtain ⟨a193, h_a193, h⟩ := bd_ok h
                refine gk11_48 C X hJ.1 hk h_a193 dX11_carryOver_225 ?_
                refine lv_iload C.1 C.2.1 dX11_carryOver_228 (lv_at hl 5 rfl) ?_
                obtain ⟨hk, h⟩ := ckk_ok h
                refine pk11_482 C X hJ hk dX11_carryOver_230 (fun H locs hJ => ?_)
                refine lt_ok h (fun S194 e_S194 h => ?_)
                rw [e_S194] at hJ
                refine lv_aload_n C.1 C.2.1 dX11_carryOver_233 rfl (lv_at hl 1 rfl) ?_
                refine lv_aload_n C.1 C.2.1 dX11_carryOver_234 rfl (lv_at hl 0 rfl) ?_
                obtain ⟨hk, h⟩ := ckk_ok h
                obtain ⟨a195, h_a195, h⟩ := bd_ok h
                refine gk11_48 C X hJ.1 hk h_a195 dX11_carryOver_235 ?_
                obtain ⟨hk, h⟩ := ckk_ok h
                obtain ⟨⟨o197, S196⟩, h_S196, h⟩ := bd_ok h
                replace h := lt2_ok h
                refine c_callW (rest := []) C X hJ hl.1 7 (by decide) hk [.ref a195] (tk_7_make l h_S196) cw11_138 ki_7_make kl_7_make rfl ⟨by decide, by decide⟩ ⟨(by omega), (by omega)⟩ rfl (Nat.le_of_ble_eq_true rfl) dX11_carryOver_238 (fun H locs hJ => ?_)
                refine W.eq (g2 := F0 m 241 ls [va_rf o197]) rfl ?_
                obtain ⟨a198, e_a198, h⟩ := bd_ok h
                revert h; subst e_a198; intro h
                obtain ⟨hk, h⟩ := ckk_ok h
                refine gk11_142 C X hJ.1 hk dX11_carryOver_241 ?_
                refine lt_ok h (fun x199 e_x199 h => ?_)
                refine lv_nm e_x199 ?_
                refine lv_istore (lv' := [(5, .int x199), (0, .ref v0), (1, .ref v1), (2, .int v2), (3, .int v3), (4, .int v4), (6, .int v6), (7, .int v7)]) C.1 C.2.1 dX11_carryOver_244 hl (by decide) rfl (fun ls hl => ?_)
                refine lt_ok h (fun x200 e_x200 h => ?_)
                refine lv_iinc (v := x200) (lv' := [(4, .int x200), (5, .int x199), (0, .ref v0), (1, .ref v1), (2, .int v2), (3, .int v3), (6, .int v6), (7, .int v7)]) C.1 C.2.1 dX11_carryOver_246 hl (k := 5) rfl (by rw [← e_x200]; rfl) (by decide) rfl (fun ls hl => ?_)
                refine lt_ok h (fun x201 e_x201 h => ?_)
                refine lv_iinc (v := x201) (lv' := [(7, .int x201), (4, .int x200), (5, .int x199), (0, .ref v0), (1, .ref v1), (2, .int v2), (3, .int v3), (6, .int v6)]) C.1 C.2.1 dX11_carryOver_249 hl (k := 7) rfl (by rw [← e_x201]; rfl) (by decide) rfl (fun ls hl => ?_)
                refine lv_goto (tgt := 22) C.1 C.2.1 dX11_carryOver_252 (by decide) ?_
                refine W.widen (k := 2200 - 2 * n) (n := 19800 - 18 * n) (by omega) (by omega) ?_
                exact ih (by omega) h hJ (lv_sub hl [3, 4, 5, 6, 1, 2, 7, 0] rfl)
              · have h := if_f h c186
                refine lv_aload_n C.1 C.2.1 dX11_carryOver_122 rfl (lv_at hl 0 rfl) ?_
                obtain ⟨hk, h⟩ := ckk_ok h
                obtain ⟨a202, h_a202, h⟩ := bd_ok h
                refine gk11_41 C X hJ.1 hk h_a202 dX11_carryOver_123 ?_
                refine lv_iload_n C.1 C.2.1 dX11_carryOver_126 rfl (lv_at hl 3 rfl) ?_
                refine lv_iload C.1 C.2.1 dX11_carryOver_127 (lv_at hl 4 rfl) ?_
                obtain ⟨hk, h⟩ := ckk_ok h
                obtain ⟨r203, h_r203, h⟩ := bd_ok h
                refine c_callR (rest := []) C X hJ.1 hl.1 9 (by decide) hk [.int v3, .int v4] (tk_9_common l h_r203) cw11_168 ki_9_common kl_9_common rfl ⟨by decide, by decide⟩ ⟨(by omega), (by omega)⟩ rfl (Nat.le_of_ble_eq_true rfl) dX11_carryOver_129 ?_
                refine W.eq (g2 := F0 m 132 ls [.int r203]) rfl ?_
                refine lv_aload_n C.1 C.2.1 dX11_carryOver_132 rfl (lv_at hl 0 rfl) ?_
                obtain ⟨hk, h⟩ := ckk_ok h
                obtain ⟨a204, h_a204, h⟩ := bd_ok h
                refine gk11_41 C X hJ.1 hk h_a204 dX11_carryOver_133 ?_
                refine lv_iload_n C.1 C.2.1 dX11_carryOver_136 rfl (lv_at hl 3 rfl) ?_
                refine lv_iconst (v := 1) C.1 C.2.1 dX11_carryOver_137 (by decide) ?_
                refine lv_iadd C.1 C.2.1 dX11_carryOver_138 ?_
                refine lv_iload C.1 C.2.1 dX11_carryOver_139 (lv_at hl 4 rfl) ?_
                obtain ⟨hk, h⟩ := ckk_ok h
                obtain ⟨r205, h_r205, h⟩ := bd_ok h
                refine c_callR (rest := [.int r203]) C X hJ.1 hl.1 9 (by decide) hk [.int (v3 + (1 : Int32)), .int v4] (tk_9_common l h_r205) cw11_168 ki_9_common kl_9_common rfl ⟨by decide, by decide⟩ ⟨(by omega), (by omega)⟩ rfl (Nat.le_of_ble_eq_true rfl) dX11_carryOver_141 ?_
                refine W.eq (g2 := F0 m 144 ls [.int r205, .int r203]) rfl ?_
                refine lv_icmp_ne (tgt := 198) C.1 C.2.1 dX11_carryOver_144 (by decide) (fun c206 => ?_) (fun c206 => ?_)
                · have h := if_f h c206
                  refine lv_aload_n C.1 C.2.1 dX11_carryOver_198 rfl (lv_at hl 0 rfl) ?_
                  obtain ⟨hk, h⟩ := ckk_ok h
                  obtain ⟨a207, h_a207, h⟩ := bd_ok h
                  refine gk11_48 C X hJ.1 hk h_a207 dX11_carryOver_199 ?_
                  refine lv_bipush (v := 9) C.1 C.2.1 dX11_carryOver_202 (by decide) ?_
                  obtain ⟨hk, h⟩ := ckk_ok h
                  refine pk11_471 C X hJ hk dX11_carryOver_204 (fun H locs hJ => ?_)
                  refine lt_ok h (fun S208 e_S208 h => ?_)
                  rw [e_S208] at hJ
                  refine lv_aload_n C.1 C.2.1 dX11_carryOver_207 rfl (lv_at hl 0 rfl) ?_
                  obtain ⟨hk, h⟩ := ckk_ok h
                  obtain ⟨a209, h_a209, h⟩ := bd_ok h
                  refine gk11_48 C X hJ.1 hk h_a209 dX11_carryOver_208 ?_
                  refine lv_aload_n C.1 C.2.1 dX11_carryOver_211 rfl (lv_at hl 0 rfl) ?_
                  obtain ⟨hk, h⟩ := ckk_ok h
                  obtain ⟨a210, h_a210, h⟩ := bd_ok h
                  refine gk11_12 C X hJ.1 hk h_a210 dX11_carryOver_212 ?_
                  obtain ⟨hk, h⟩ := ckk_ok h
                  obtain ⟨a211, h_a211, h⟩ := bd_ok h
                  refine gk11_157 C X hJ.1 hk h_a211 dX11_carryOver_215 ?_
                  refine lv_iload C.1 C.2.1 dX11_carryOver_218 (lv_at hl 4 rfl) ?_
                  obtain ⟨hk, h⟩ := ckk_ok h
                  obtain ⟨hin2, h⟩ := ck_ok h
                  refine c_cald C X hJ.1 hk hin2 dX11_carryOver_220 ?_
                  obtain ⟨hk, h⟩ := ckk_ok h
                  refine pk11_486 C X hJ hk dX11_carryOver_221 (fun H locs hJ => ?_)
                  refine lt_ok h (fun S212 e_S212 h => ?_)
                  rw [e_S212] at hJ
                  refine lv_aload_n C.1 C.2.1 dX11_carryOver_224 rfl (lv_at hl 0 rfl) ?_
                  obtain ⟨hk, h⟩ := ckk_ok h
                  obtain ⟨a213, h_a213, h⟩ := bd_ok h
                  refine gk11_48 C X hJ.1 hk h_a213 dX11_carryOver_225 ?_
                  refine lv_iload C.1 C.2.1 dX11_carryOver_228 (lv_at hl 5 rfl) ?_
                  obtain ⟨hk, h⟩ := ckk_ok h
                  refine pk11_482 C X hJ hk dX11_carryOver_230 (fun H locs hJ => ?_)
                  refine lt_ok h (fun S214 e_S214 h => ?_)
                  rw [e_S214] at hJ
                  refine lv_aload_n C.1 C.2.1 dX11_carryOver_233 rfl (lv_at hl 1 rfl) ?_
                  refine lv_aload_n C.1 C.2.1 dX11_carryOver_234 rfl (lv_at hl 0 rfl) ?_
                  obtain ⟨hk, h⟩ := ckk_ok h
                  obtain ⟨a215, h_a215, h⟩ := bd_ok h
                  refine gk11_48 C X hJ.1 hk h_a215 dX11_carryOver_235 ?_
                  obtain ⟨hk, h⟩ := ckk_ok h
                  obtain ⟨⟨o217, S216⟩, h_S216, h⟩ := bd_ok h
                  replace h := lt2_ok h
                  refine c_callW (rest := []) C X hJ hl.1 7 (by decide) hk [.ref a215] (tk_7_make l h_S216) cw11_138 ki_7_make kl_7_make rfl ⟨by decide, by decide⟩ ⟨(by omega), (by omega)⟩ rfl (Nat.le_of_ble_eq_true rfl) dX11_carryOver_238 (fun H locs hJ => ?_)
                  refine W.eq (g2 := F0 m 241 ls [va_rf o217]) rfl ?_
                  obtain ⟨a218, e_a218, h⟩ := bd_ok h
                  revert h; subst e_a218; intro h
                  obtain ⟨hk, h⟩ := ckk_ok h
                  refine gk11_142 C X hJ.1 hk dX11_carryOver_241 ?_
                  refine lt_ok h (fun x219 e_x219 h => ?_)
                  refine lv_nm e_x219 ?_
                  refine lv_istore (lv' := [(5, .int x219), (0, .ref v0), (1, .ref v1), (2, .int v2), (3, .int v3), (4, .int v4), (6, .int v6), (7, .int v7)]) C.1 C.2.1 dX11_carryOver_244 hl (by decide) rfl (fun ls hl => ?_)
                  refine lt_ok h (fun x220 e_x220 h => ?_)
                  refine lv_iinc (v := x220) (lv' := [(4, .int x220), (5, .int x219), (0, .ref v0), (1, .ref v1), (2, .int v2), (3, .int v3), (6, .int v6), (7, .int v7)]) C.1 C.2.1 dX11_carryOver_246 hl (k := 5) rfl (by rw [← e_x220]; rfl) (by decide) rfl (fun ls hl => ?_)
                  refine lt_ok h (fun x221 e_x221 h => ?_)
                  refine lv_iinc (v := x221) (lv' := [(7, .int x221), (4, .int x220), (5, .int x219), (0, .ref v0), (1, .ref v1), (2, .int v2), (3, .int v3), (6, .int v6)]) C.1 C.2.1 dX11_carryOver_249 hl (k := 7) rfl (by rw [← e_x221]; rfl) (by decide) rfl (fun ls hl => ?_)
                  refine lv_goto (tgt := 22) C.1 C.2.1 dX11_carryOver_252 (by decide) ?_
                  refine W.widen (k := 2200 - 2 * n) (n := 19800 - 18 * n) (by omega) (by omega) ?_
                  exact ih (by omega) h hJ (lv_sub hl [3, 4, 5, 6, 1, 2, 7, 0] rfl)
                · have h := if_t h c206
                  refine lv_aload_n C.1 C.2.1 dX11_carryOver_147 rfl (lv_at hl 0 rfl) ?_
                  obtain ⟨hk, h⟩ := ckk_ok h
                  obtain ⟨a222, h_a222, h⟩ := bd_ok h
                  refine gk11_48 C X hJ.1 hk h_a222 dX11_carryOver_148 ?_
                  refine lv_bipush (v := 10) C.1 C.2.1 dX11_carryOver_151 (by decide) ?_
                  obtain ⟨hk, h⟩ := ckk_ok h
                  refine pk11_471 C X hJ hk dX11_carryOver_153 (fun H locs hJ => ?_)
                  refine lt_ok h (fun S223 e_S223 h => ?_)
                  rw [e_S223] at hJ
                  refine lv_aload_n C.1 C.2.1 dX11_carryOver_156 rfl (lv_at hl 0 rfl) ?_
                  obtain ⟨hk, h⟩ := ckk_ok h
                  obtain ⟨a224, h_a224, h⟩ := bd_ok h
                  refine gk11_48 C X hJ.1 hk h_a224 dX11_carryOver_157 ?_
                  refine lv_iconst (v := 0) C.1 C.2.1 dX11_carryOver_160 (by decide) ?_
                  obtain ⟨hk, h⟩ := ckk_ok h
                  refine pk11_486 C X hJ hk dX11_carryOver_161 (fun H locs hJ => ?_)
                  refine lt_ok h (fun S225 e_S225 h => ?_)
                  rw [e_S225] at hJ
                  refine lv_aload_n C.1 C.2.1 dX11_carryOver_164 rfl (lv_at hl 0 rfl) ?_
                  obtain ⟨hk, h⟩ := ckk_ok h
                  obtain ⟨a226, h_a226, h⟩ := bd_ok h
                  refine gk11_48 C X hJ.1 hk h_a226 dX11_carryOver_165 ?_
                  refine lv_aload_n C.1 C.2.1 dX11_carryOver_168 rfl (lv_at hl 0 rfl) ?_
                  obtain ⟨hk, h⟩ := ckk_ok h
                  obtain ⟨a227, h_a227, h⟩ := bd_ok h
                  refine gk11_41 C X hJ.1 hk h_a227 dX11_carryOver_169 ?_
                  obtain ⟨hk, h⟩ := ckk_ok h
                  obtain ⟨a228, h_a228, h⟩ := bd_ok h
                  refine gk11_377 C X hJ.1 hk h_a228 dX11_carryOver_172 ?_
                  refine lv_iload_n C.1 C.2.1 dX11_carryOver_175 rfl (lv_at hl 3 rfl) ?_
                  obtain ⟨hk, h⟩ := ckk_ok h
                  obtain ⟨hin2, h⟩ := ck_ok h
                  refine c_aald C 30 (by decide) X.2.2.2.2.1 hJ.1 hk hin2 dX11_carryOver_176 ?_
                  refine lt_ok h (fun o229 e_o229 h => ?_)
                  refine lv_nmq e_o229 ?_
                  obtain ⟨a230, e_a230, h⟩ := bd_ok h
                  revert h; subst e_a230; intro h
                  obtain ⟨hk, h⟩ := ckk_ok h
                  refine gk11_142 C X hJ.1 hk dX11_carryOver_177 ?_
                  obtain ⟨hk, h⟩ := ckk_ok h
                  refine pk11_482 C X hJ hk dX11_carryOver_180 (fun H locs hJ => ?_)
                  refine lt_ok h (fun S231 e_S231 h => ?_)
                  rw [e_S231] at hJ
                  refine lv_aload_n C.1 C.2.1 dX11_carryOver_183 rfl (lv_at hl 1 rfl) ?_
                  refine lv_aload_n C.1 C.2.1 dX11_carryOver_184 rfl (lv_at hl 0 rfl) ?_
                  obtain ⟨hk, h⟩ := ckk_ok h
                  obtain ⟨a232, h_a232, h⟩ := bd_ok h
                  refine gk11_48 C X hJ.1 hk h_a232 dX11_carryOver_185 ?_
                  obtain ⟨hk, h⟩ := ckk_ok h
                  obtain ⟨⟨o234, S233⟩, h_S233, h⟩ := bd_ok h
                  replace h := lt2_ok h
                  refine c_callW (rest := []) C X hJ hl.1 7 (by decide) hk [.ref a232] (tk_7_make l h_S233) cw11_138 ki_7_make kl_7_make rfl ⟨by decide, by decide⟩ ⟨(by omega), (by omega)⟩ rfl (Nat.le_of_ble_eq_true rfl) dX11_carryOver_188 (fun H locs hJ => ?_)
                  refine W.eq (g2 := F0 m 191 ls [va_rf o234]) rfl ?_
                  refine lv_pop C.1 C.2.1 dX11_carryOver_191 (kcat _) ?_
                  refine lt_ok h (fun x235 e_x235 h => ?_)
                  refine lv_iinc (v := x235) (lv' := [(3, .int x235), (0, .ref v0), (1, .ref v1), (2, .int v2), (4, .int v4), (5, .int v5), (6, .int v6), (7, .int v7)]) C.1 C.2.1 dX11_carryOver_192 hl (k := 3) rfl (by rw [← e_x235]; rfl) (by decide) rfl (fun ls hl => ?_)
                  refine lv_goto (tgt := 249) C.1 C.2.1 dX11_carryOver_195 (by decide) ?_
                  refine lt_ok h (fun x236 e_x236 h => ?_)
                  refine lv_iinc (v := x236) (lv' := [(7, .int x236), (3, .int x235), (0, .ref v0), (1, .ref v1), (2, .int v2), (4, .int v4), (5, .int v5), (6, .int v6)]) C.1 C.2.1 dX11_carryOver_249 hl (k := 7) rfl (by rw [← e_x236]; rfl) (by decide) rfl (fun ls hl => ?_)
                  refine lv_goto (tgt := 22) C.1 C.2.1 dX11_carryOver_252 (by decide) ?_
                  refine W.widen (k := 2200 - 2 * n) (n := 19800 - 18 * n) (by omega) (by omega) ?_
                  exact ih (by omega) h hJ (lv_sub hl [2, 3, 4, 1, 5, 6, 7, 0] rfl)
            · have h := if_t h c184
              refine lv_aload_n C.1 C.2.1 dX11_carryOver_88 rfl (lv_at hl 0 rfl) ?_
              obtain ⟨hk, h⟩ := ckk_ok h
              obtain ⟨a237, h_a237, h⟩ := bd_ok h
              refine gk11_41 C X hJ.1 hk h_a237 dX11_carryOver_89 ?_
              obtain ⟨hk, h⟩ := ckk_ok h
              obtain ⟨a238, h_a238, h⟩ := bd_ok h
              refine gk11_377 C X hJ.1 hk h_a238 dX11_carryOver_92 ?_
              refine lv_iload_n C.1 C.2.1 dX11_carryOver_95 rfl (lv_at hl 3 rfl) ?_
              obtain ⟨hk, h⟩ := ckk_ok h
              obtain ⟨hin2, h⟩ := ck_ok h
              refine c_aald C 30 (by decide) X.2.2.2.2.1 hJ.1 hk hin2 dX11_carryOver_96 ?_
              refine lt_ok h (fun o239 e_o239 h => ?_)
              refine lv_nmq e_o239 ?_
              obtain ⟨a240, e_a240, h⟩ := bd_ok h
              revert h; subst e_a240; intro h
              obtain ⟨hk, h⟩ := ckk_ok h
              refine gk11_142 C X hJ.1 hk dX11_carryOver_97 ?_
              refine lt_ok h (fun x241 e_x241 h => ?_)
              refine lv_nm e_x241 ?_
              refine lv_istore (lv' := [(5, .int x241), (0, .ref v0), (1, .ref v1), (2, .int v2), (3, .int v3), (4, .int v4), (6, .int v6), (7, .int v7)]) C.1 C.2.1 dX11_carryOver_100 hl (by decide) rfl (fun ls hl => ?_)
              refine lt_ok h (fun x242 e_x242 h => ?_)
              refine lv_iinc (v := x242) (lv' := [(3, .int x242), (5, .int x241), (0, .ref v0), (1, .ref v1), (2, .int v2), (4, .int v4), (6, .int v6), (7, .int v7)]) C.1 C.2.1 dX11_carryOver_102 hl (k := 4) rfl (by rw [← e_x242]; rfl) (by decide) rfl (fun ls hl => ?_)
              refine lt_ok h (fun x243 e_x243 h => ?_)
              refine lv_iinc (v := x243) (lv' := [(4, .int x243), (3, .int x242), (5, .int x241), (0, .ref v0), (1, .ref v1), (2, .int v2), (6, .int v6), (7, .int v7)]) C.1 C.2.1 dX11_carryOver_105 hl (k := 5) rfl (by rw [← e_x243]; rfl) (by decide) rfl (fun ls hl => ?_)
              refine lv_goto (tgt := 249) C.1 C.2.1 dX11_carryOver_108 (by decide) ?_
              refine lt_ok h (fun x244 e_x244 h => ?_)
              refine lv_iinc (v := x244) (lv' := [(7, .int x244), (4, .int x243), (3, .int x242), (5, .int x241), (0, .ref v0), (1, .ref v1), (2, .int v2), (6, .int v6)]) C.1 C.2.1 dX11_carryOver_249 hl (k := 7) rfl (by rw [← e_x244]; rfl) (by decide) rfl (fun ls hl => ?_)
              refine lv_goto (tgt := 22) C.1 C.2.1 dX11_carryOver_252 (by decide) ?_
              refine W.widen (k := 2200 - 2 * n) (n := 19800 - 18 * n) (by omega) (by omega) ?_
              exact ih (by omega) h hJ (lv_sub hl [4, 5, 6, 2, 1, 3, 7, 0] rfl)
noncomputable def fk_11_carryOver (S : cSt) (v0 : Nat) (v1 : Nat) (v2 : Int32) : Option (cSt) :=
ckk S v0 12 (bd (kR S v0 5) fun a1 =>
ckk S a1 10 (
lt ((kF S a1 1) + v2) fun x2 =>
fk_11_carryOver_22 1100 S v0 v1 v2 (0 : Int32) (0 : Int32) (0 : Int32) x2 (0 : Int32)))
set_option maxRecDepth 100000 in
set_option maxHeartbeats 4000000 in
theorem tk_11_carryOver (l : Launch) {D : cG} {S : cSt} {v0 : Nat} {v1 : Nat} {v2 : Int32} {S9 : cSt} (h : fk_11_carryOver S v0 v1 v2 = some S9) : Met l yX11_carryOver (Cond.code yX11_carryOver cX11_carryOver 8 none :: lw_g) { frames := 6, cells := 2200, slots := 19800, locals := 142 } (kPi [.ref v0, .ref v1, .int v2] D S) (kW none D S S9) 2200 19800 (cA S) := by
  refine Met.ofW (cc := cX11_carryOver) (maxL := 8) (ret := none) (by decide) rfl ?_
  intro p e s m args below meth c s₁ B hml hv
  obtain ⟨rfl, hW, X⟩ := hv
  have C : cY p (headSpec (Cond.code yX11_carryOver cX11_carryOver 8 none :: lw_g) { frames := 6, cells := 2200, slots := 19800, locals := 142 }).room s m _ meth c RX11 cX11_carryOver 8 6 2200 19800 142 none := ⟨B.exec, B.bytes, hml, findClass_of_methodNamed B.named, fun w hw => atoms_spec (ws := Cond.code yX11_carryOver cX11_carryOver 8 none :: lw_g) B.pre w (List.mem_cons_of_mem _ hw), ⟨Nat.le_refl _, Nat.le_refl _, Nat.le_refl _, Nat.le_refl _⟩, B.returns, B.notSynchronized⟩
  have hl := lv_entry ([.ref v0, .ref v1, .int v2]) (n := 8) (Nat.le_of_ble_eq_true rfl)
  rw [lg_entry_eq]
  generalize (lg_sl ([.ref v0, .ref v1, .int v2]) ++ List.replicate (8 - (lg_sl ([.ref v0, .ref v1, .int v2])).length) Slot.unset).toArray = ls at hl ⊢
  have hl : lv_has ls 8 [(0, .ref v0), (1, .ref v1), (2, .int v2)] := hl
  have hJ : cJ D S s.heap S s.heap [] := cJ.rf hW
  unfold fk_11_carryOver at h
  refine lv_iconst (v := 0) C.1 C.2.1 dX11_carryOver_0 (by decide) ?_
  refine lv_istore_n (lv' := [(3, .int (0 : Int32)), (0, .ref v0), (1, .ref v1), (2, .int v2)]) C.1 C.2.1 dX11_carryOver_1 rfl hl (by decide) rfl (fun ls hl => ?_)
  refine lv_iconst (v := 0) C.1 C.2.1 dX11_carryOver_2 (by decide) ?_
  refine lv_istore (lv' := [(4, .int (0 : Int32)), (3, .int (0 : Int32)), (0, .ref v0), (1, .ref v1), (2, .int v2)]) C.1 C.2.1 dX11_carryOver_3 hl (by decide) rfl (fun ls hl => ?_)
  refine lv_iconst (v := 0) C.1 C.2.1 dX11_carryOver_5 (by decide) ?_
  refine lv_istore (lv' := [(5, .int (0 : Int32)), (4, .int (0 : Int32)), (3, .int (0 : Int32)), (0, .ref v0), (1, .ref v1), (2, .int v2)]) C.1 C.2.1 dX11_carryOver_6 hl (by decide) rfl (fun ls hl => ?_)
  refine lv_aload_n C.1 C.2.1 dX11_carryOver_8 rfl (lv_at hl 3 rfl) ?_
  obtain ⟨hk, h⟩ := ckk_ok h
  obtain ⟨a1, h_a1, h⟩ := bd_ok h
  refine gk11_41 C X hJ.1 hk h_a1 dX11_carryOver_9 ?_
  obtain ⟨hk, h⟩ := ckk_ok h
  refine gk11_165 C X hJ.1 hk dX11_carryOver_12 ?_
  refine lv_iload_n C.1 C.2.1 dX11_carryOver_15 rfl (lv_at hl 5 rfl) ?_
  refine lv_iadd C.1 C.2.1 dX11_carryOver_16 ?_
  refine lt_ok h (fun x2 e_x2 h => ?_)
  refine lv_nm e_x2 ?_
  refine lv_istore (lv' := [(6, .int x2), (5, .int (0 : Int32)), (4, .int (0 : Int32)), (3, .int (0 : Int32)), (0, .ref v0), (1, .ref v1), (2, .int v2)]) C.1 C.2.1 dX11_carryOver_17 hl (by decide) rfl (fun ls hl => ?_)
  refine lv_iconst (v := 0) C.1 C.2.1 dX11_carryOver_19 (by decide) ?_
  refine lv_istore (lv' := [(7, .int (0 : Int32)), (6, .int x2), (5, .int (0 : Int32)), (4, .int (0 : Int32)), (3, .int (0 : Int32)), (0, .ref v0), (1, .ref v1), (2, .int v2)]) C.1 C.2.1 dX11_carryOver_20 hl (by decide) rfl (fun ls hl => ?_)
  refine W.widen (k := 2200 - 2 * 1100) (n := 19800 - 18 * 1100) (by decide) (by decide) ?_
  exact wk_11_carryOver_22 C X 1100 (by decide) h hJ (lv_sub hl [5, 6, 7, 4, 3, 2, 1, 0] rfl)
end
