-- made by wip/whole/gen12.py: 7_redoable, 7_nextFor, 7_load, 7_learnCursor, 7_isReady, 7_await, 7_forgetWaits, 7_firstReady, 7_receive, 7_hasAllOf, 7_joinTo
theorem dX7_redoable_0 : decode cX7_redoable 0 = .ok (.aload_n 0, 1) := by decide +kernel
theorem dX7_redoable_1 : decode cX7_redoable 1 = .ok (.aload_n 0, 1) := by decide +kernel
theorem dX7_redoable_2 : decode cX7_redoable 2 = .ok (.getfield 61, 3) := by decide +kernel
theorem dX7_redoable_5 : decode cX7_redoable 5 = .ok (.invokevirtual 123, 3) := by decide +kernel
theorem dX7_redoable_8 : decode cX7_redoable 8 = .ok (.istore_n 1, 1) := by decide +kernel
theorem dX7_redoable_9 : decode cX7_redoable 9 = .ok (.iload_n 1, 1) := by decide +kernel
theorem dX7_redoable_10 : decode cX7_redoable 10 = .ok (.ifCond .le 72, 3) := by decide +kernel
theorem dX7_redoable_13 : decode cX7_redoable 13 = .ok (.aload_n 0, 1) := by decide +kernel
theorem dX7_redoable_14 : decode cX7_redoable 14 = .ok (.getfield 64, 3) := by decide +kernel
theorem dX7_redoable_17 : decode cX7_redoable 17 = .ok (.sipush 1000, 3) := by decide +kernel
theorem dX7_redoable_20 : decode cX7_redoable 20 = .ok (.aload_n 0, 1) := by decide +kernel
theorem dX7_redoable_21 : decode cX7_redoable 21 = .ok (.getfield 61, 3) := by decide +kernel
theorem dX7_redoable_24 : decode cX7_redoable 24 = .ok (.imul, 1) := by decide +kernel
theorem dX7_redoable_25 : decode cX7_redoable 25 = .ok (.iload_n 1, 1) := by decide +kernel
theorem dX7_redoable_26 : decode cX7_redoable 26 = .ok (.iadd, 1) := by decide +kernel
theorem dX7_redoable_27 : decode cX7_redoable 27 = .ok (.invokevirtual 143, 3) := by decide +kernel
theorem dX7_redoable_30 : decode cX7_redoable 30 = .ok (.astore_n 2, 1) := by decide +kernel
theorem dX7_redoable_31 : decode cX7_redoable 31 = .ok (.aload_n 2, 1) := by decide +kernel
theorem dX7_redoable_32 : decode cX7_redoable 32 = .ok (.ifnull 44, 3) := by decide +kernel
theorem dX7_redoable_35 : decode cX7_redoable 35 = .ok (.aload_n 2, 1) := by decide +kernel
theorem dX7_redoable_36 : decode cX7_redoable 36 = .ok (.getfield 147, 3) := by decide +kernel
theorem dX7_redoable_39 : decode cX7_redoable 39 = .ok (.bipush 13, 2) := by decide +kernel
theorem dX7_redoable_41 : decode cX7_redoable 41 = .ok (.if_icmp .ne 35, 3) := by decide +kernel
theorem dX7_redoable_44 : decode cX7_redoable 44 = .ok (.aload_n 0, 1) := by decide +kernel
theorem dX7_redoable_45 : decode cX7_redoable 45 = .ok (.getfield 64, 3) := by decide +kernel
theorem dX7_redoable_48 : decode cX7_redoable 48 = .ok (.aload_n 2, 1) := by decide +kernel
theorem dX7_redoable_49 : decode cX7_redoable 49 = .ok (.getfield 140, 3) := by decide +kernel
theorem dX7_redoable_52 : decode cX7_redoable 52 = .ok (.invokevirtual 143, 3) := by decide +kernel
theorem dX7_redoable_55 : decode cX7_redoable 55 = .ok (.astore_n 3, 1) := by decide +kernel
theorem dX7_redoable_56 : decode cX7_redoable 56 = .ok (.aload_n 3, 1) := by decide +kernel
theorem dX7_redoable_57 : decode cX7_redoable 57 = .ok (.ifnull 19, 3) := by decide +kernel
theorem dX7_redoable_60 : decode cX7_redoable 60 = .ok (.aload_n 0, 1) := by decide +kernel
theorem dX7_redoable_61 : decode cX7_redoable 61 = .ok (.getfield 85, 3) := by decide +kernel
theorem dX7_redoable_64 : decode cX7_redoable 64 = .ok (.aload_n 3, 1) := by decide +kernel
theorem dX7_redoable_65 : decode cX7_redoable 65 = .ok (.invokevirtual 217, 3) := by decide +kernel
theorem dX7_redoable_68 : decode cX7_redoable 68 = .ok (.ifCond .ne 8, 3) := by decide +kernel
theorem dX7_redoable_71 : decode cX7_redoable 71 = .ok (.aload_n 3, 1) := by decide +kernel
theorem dX7_redoable_72 : decode cX7_redoable 72 = .ok (.getfield 187, 3) := by decide +kernel
theorem dX7_redoable_75 : decode cX7_redoable 75 = .ok (.ireturn, 1) := by decide +kernel
theorem dX7_redoable_76 : decode cX7_redoable 76 = .ok (.iinc 1 (-1), 3) := by decide +kernel
theorem dX7_redoable_79 : decode cX7_redoable 79 = .ok (.goto (-70), 3) := by decide +kernel
theorem dX7_redoable_82 : decode cX7_redoable 82 = .ok (.iconst (-1), 1) := by decide +kernel
theorem dX7_redoable_83 : decode cX7_redoable 83 = .ok (.ireturn, 1) := by decide +kernel
theorem kd_7_redoable : Cond.code yX7_redoable cX7_redoable 4 (some .int) ∈ lw_g := mt_at 588 (by decide +kernel) rfl
theorem ki_7_redoable : Cond.instanceMethod yX7_redoable ∈ lw_g := mt_at 586 (by decide +kernel) rfl
theorem kl_7_redoable : Cond.selects (kRn 7) yX7_redoable yX7_redoable ∈ lw_g := mt_at 587 (by decide +kernel) rfl
section
variable {p : Program} {l : Launch} {e : Env} {R : Room} {s : State} {m : MethodId} {args : Array Value} {below : List Frame} {meth : Method} {c : Code} {D : cG} {S : cSt} {r : Int32}
noncomputable def fk_7_redoable_76 (g_9 : Nat → Int32 → Option (Int32)) (S : cSt) (v0 : Nat) (v1 : Int32) : Option (Int32) :=
lt (v1 + (-1 : Int32)) fun x1 =>
g_9 v0 x1
set_option maxRecDepth 100000 in
set_option maxHeartbeats 4000000 in
theorem wk_7_redoable_76 (C : cY p R s m args meth c RX7 cX7_redoable 4 1 0 0 22 (some .int)) (X : cX D s) (hW : cW D S s.heap) {g_9 : Nat → Int32 → Option (Int32)} (hg_9 : ∀ {v0 : Nat} {v1 : Int32} {ls : Array Slot}, g_9 v0 v1 = some r → lv_has ls 4 [(0, .ref v0), (1, .int v1)] → W p l e R s m args below meth c s.heap [] 0 0 (MQ below (kQ (some (.int r))) args s 0 0 mNo) (F0 m 9 ls [])) : ∀ {v0 : Nat} {v1 : Int32} {ls : Array Slot}, fk_7_redoable_76 g_9 S v0 v1 = some r → lv_has ls 4 [(0, .ref v0), (1, .int v1)] → W p l e R s m args below meth c s.heap [] 0 0 (MQ below (kQ (some (.int r))) args s 0 0 mNo) (F0 m 76 ls []) := by
  intro v0 v1 ls h hl
  unfold fk_7_redoable_76 at h
  refine lt_ok h (fun x1 e_x1 h => ?_)
  refine lv_iinc (v := x1) (lv' := [(1, .int x1), (0, .ref v0)]) C.1 C.2.1 dX7_redoable_76 hl (k := 1) rfl (by rw [← e_x1]; rfl) (by decide) rfl (fun ls hl => ?_)
  refine lv_goto (tgt := 9) C.1 C.2.1 dX7_redoable_79 (by decide) ?_
  exact hg_9 h (lv_sub hl [1, 0] rfl)
noncomputable def fk_7_redoable_9 (S : cSt) : Nat → Nat → Int32 → Option (Int32)
  | 0, _, _ => none
  | n + 1, v0, v1 =>
    if v1 ≤ 0 then (
    some (-1 : Int32))
    else (
    ckk S v0 8 (bd (kR S v0 12) fun a2 =>
    ckk S v0 8 (
    ckk S a2 1 (bd (fk_0_rowNamed S a2 (((1000 : Int32) * (kF S v0 0)) + v1)) fun o3 =>
    cs o3 (
    fk_7_redoable_76 (fk_7_redoable_9 S n) S v0 v1) (fun a4 =>
    ckk S a4 9 (
    if (kF S a4 0) = (13 : Int32) then (
    ckk S v0 8 (bd (kR S v0 12) fun a6 =>
    ckk S a4 9 (
    ckk S a6 1 (bd (fk_0_rowNamed S a6 (kF S a4 5)) fun o7 =>
    cs o7 (
    fk_7_redoable_76 (fk_7_redoable_9 S n) S v0 v1) (fun a8 =>
    ckk S v0 8 (bd (kR S v0 2) fun a9 =>
    ckk S a9 11 (bd (fk_10_isGood S a9 a8) fun r10 =>
    if r10 = 0 then (
    ckk S a8 9 (
    some (kF S a8 11)))
    else (
    fk_7_redoable_76 (fk_7_redoable_9 S n) S v0 v1))))))))
    else (
    fk_7_redoable_76 (fk_7_redoable_9 S n) S v0 v1)))))))
set_option maxRecDepth 100000 in
set_option maxHeartbeats 4000000 in
theorem wk_7_redoable_9 (C : cY p R s m args meth c RX7 cX7_redoable 4 1 0 0 22 (some .int)) (X : cX D s) (hW : cW D S s.heap) : ∀ (n : Nat), ∀ {v0 : Nat} {v1 : Int32} {ls : Array Slot}, fk_7_redoable_9 S n v0 v1 = some r → lv_has ls 4 [(0, .ref v0), (1, .int v1)] → W p l e R s m args below meth c s.heap [] 0 0 (MQ below (kQ (some (.int r))) args s 0 0 mNo) (F0 m 9 ls []) := by
  intro n
  induction n with
  | zero =>
    intro v0 v1 ls h hl
    exact absurd (show (none : Option (Int32)) = _ from h) (fun q => by cases q)
  | succ n ih =>
    intro v0 v1 ls h hl
    rw [fk_7_redoable_9] at h
    refine lv_iload_n C.1 C.2.1 dX7_redoable_9 rfl (lv_at hl 1 rfl) ?_
    refine lv_if_le (tgt := 82) C.1 C.2.1 dX7_redoable_10 (by decide) (fun c1 => ?_) (fun c1 => ?_)
    · have h := if_t h c1
      refine lv_iconst (v := -1) C.1 C.2.1 dX7_redoable_82 (by decide) ?_
      cases h
      exact c_reti C rfl rfl dX7_redoable_83
    · have h := if_f h c1
      refine lv_aload_n C.1 C.2.1 dX7_redoable_13 rfl (lv_at hl 0 rfl) ?_
      obtain ⟨hk, h⟩ := ckk_ok h
      obtain ⟨a2, h_a2, h⟩ := bd_ok h
      refine gk7_64 C X hW hk h_a2 dX7_redoable_14 ?_
      refine lv_sipush (v := 1000) C.1 C.2.1 dX7_redoable_17 (by decide) ?_
      refine lv_aload_n C.1 C.2.1 dX7_redoable_20 rfl (lv_at hl 0 rfl) ?_
      obtain ⟨hk, h⟩ := ckk_ok h
      refine gk7_61 C X hW hk dX7_redoable_21 ?_
      refine lv_imul C.1 C.2.1 dX7_redoable_24 ?_
      refine lv_iload_n C.1 C.2.1 dX7_redoable_25 rfl (lv_at hl 1 rfl) ?_
      refine lv_iadd C.1 C.2.1 dX7_redoable_26 ?_
      obtain ⟨hk, h⟩ := ckk_ok h
      obtain ⟨o3, h_o3, h⟩ := bd_ok h
      refine c_callR (rest := []) C X hW hl.1 0 (by decide) hk [.int (((1000 : Int32) * (kF S v0 0)) + v1)] (tk_0_rowNamed l h_o3) cw7_143 ki_0_rowNamed kl_0_rowNamed rfl ⟨by decide, by decide⟩ ⟨(by decide), (by decide)⟩ rfl (Nat.le_of_ble_eq_true rfl) dX7_redoable_27 ?_
      refine W.eq (g2 := F0 m 30 ls [va_rf o3]) rfl ?_
      refine lv_astore_nq (o := o3) (lv' := [(2, va_rf o3), (0, .ref v0), (1, .int v1)]) C.1 C.2.1 dX7_redoable_30 rfl hl (by decide) rfl (fun ls hl => ?_)
      refine lv_aload_nq (o := o3) C.1 C.2.1 dX7_redoable_31 rfl (lv_at hl 0 rfl) ?_
      rcases o3 with _ | a4
      · replace h := cs_n h
        refine lv_ifnullN (tgt := 76) C.1 C.2.1 dX7_redoable_32 (by decide) ?_
        exact wk_7_redoable_76 C X hW ih h (lv_sub hl [1, 2] rfl)
      · replace h := cs_s h
        refine lv_ifnull C.1 C.2.1 dX7_redoable_32 ?_
        refine lv_aload_n C.1 C.2.1 dX7_redoable_35 rfl (lv_at hl 0 rfl) ?_
        obtain ⟨hk, h⟩ := ckk_ok h
        refine gk7_147 C X hW hk dX7_redoable_36 ?_
        refine lv_bipush (v := 13) C.1 C.2.1 dX7_redoable_39 (by decide) ?_
        refine lv_icmp_ne (tgt := 76) C.1 C.2.1 dX7_redoable_41 (by decide) (fun c5 => ?_) (fun c5 => ?_)
        · have h := if_f h c5
          exact wk_7_redoable_76 C X hW ih h (lv_sub hl [1, 2] rfl)
        · have h := if_t h c5
          refine lv_aload_n C.1 C.2.1 dX7_redoable_44 rfl (lv_at hl 1 rfl) ?_
          obtain ⟨hk, h⟩ := ckk_ok h
          obtain ⟨a6, h_a6, h⟩ := bd_ok h
          refine gk7_64 C X hW hk h_a6 dX7_redoable_45 ?_
          refine lv_aload_n C.1 C.2.1 dX7_redoable_48 rfl (lv_at hl 0 rfl) ?_
          obtain ⟨hk, h⟩ := ckk_ok h
          refine gk7_140 C X hW hk dX7_redoable_49 ?_
          obtain ⟨hk, h⟩ := ckk_ok h
          obtain ⟨o7, h_o7, h⟩ := bd_ok h
          refine c_callR (rest := []) C X hW hl.1 0 (by decide) hk [.int (kF S a4 5)] (tk_0_rowNamed l h_o7) cw7_143 ki_0_rowNamed kl_0_rowNamed rfl ⟨by decide, by decide⟩ ⟨(by decide), (by decide)⟩ rfl (Nat.le_of_ble_eq_true rfl) dX7_redoable_52 ?_
          refine W.eq (g2 := F0 m 55 ls [va_rf o7]) rfl ?_
          refine lv_astore_nq (o := o7) (lv' := [(3, va_rf o7), (2, .ref a4), (0, .ref v0), (1, .int v1)]) C.1 C.2.1 dX7_redoable_55 rfl hl (by decide) rfl (fun ls hl => ?_)
          refine lv_aload_nq (o := o7) C.1 C.2.1 dX7_redoable_56 rfl (lv_at hl 0 rfl) ?_
          rcases o7 with _ | a8
          · replace h := cs_n h
            refine lv_ifnullN (tgt := 76) C.1 C.2.1 dX7_redoable_57 (by decide) ?_
            exact wk_7_redoable_76 C X hW ih h (lv_sub hl [2, 3] rfl)
          · replace h := cs_s h
            refine lv_ifnull C.1 C.2.1 dX7_redoable_57 ?_
            refine lv_aload_n C.1 C.2.1 dX7_redoable_60 rfl (lv_at hl 2 rfl) ?_
            obtain ⟨hk, h⟩ := ckk_ok h
            obtain ⟨a9, h_a9, h⟩ := bd_ok h
            refine gk7_85 C X hW hk h_a9 dX7_redoable_61 ?_
            refine lv_aload_n C.1 C.2.1 dX7_redoable_64 rfl (lv_at hl 0 rfl) ?_
            obtain ⟨hk, h⟩ := ckk_ok h
            obtain ⟨r10, h_r10, h⟩ := bd_ok h
            refine c_callR (rest := []) C X hW hl.1 10 (by decide) hk [.ref a8] (tk_10_isGood l h_r10) cw7_217 ki_10_isGood kl_10_isGood rfl ⟨by decide, by decide⟩ ⟨(by decide), (by decide)⟩ rfl (Nat.le_of_ble_eq_true rfl) dX7_redoable_65 ?_
            refine W.eq (g2 := F0 m 68 ls [.int r10]) rfl ?_
            refine lv_if_ne (tgt := 76) C.1 C.2.1 dX7_redoable_68 (by decide) (fun c11 => ?_) (fun c11 => ?_)
            · have h := if_f h c11
              exact wk_7_redoable_76 C X hW ih h (lv_sub hl [2, 3] rfl)
            · have h := if_t h c11
              refine lv_aload_n C.1 C.2.1 dX7_redoable_71 rfl (lv_at hl 0 rfl) ?_
              obtain ⟨hk, h⟩ := ckk_ok h
              refine gk7_187 C X hW hk dX7_redoable_72 ?_
              cases h
              exact c_reti C rfl rfl dX7_redoable_75
noncomputable def fk_7_redoable (S : cSt) (v0 : Nat) : Option (Int32) :=
ckk S v0 8 (
ckk S v0 8 (bd (fk_7_knownOf S v0 (kF S v0 0)) fun r1 =>
fk_7_redoable_9 S mFU v0 r1))
set_option maxRecDepth 100000 in
set_option maxHeartbeats 4000000 in
theorem tk_7_redoable (l : Launch) {D : cG} {S : cSt} {v0 : Nat} {r : Int32}  (h : fk_7_redoable S v0 = some r) : Met l yX7_redoable (Cond.code yX7_redoable cX7_redoable 4 (some .int) :: lw_g) { frames := 1, cells := 0, slots := 0, locals := 22 } (kPi [.ref v0] D S) (kQ (some (.int r))) 0 0 (mNo) := by
  refine Met.ofW (cc := cX7_redoable) (maxL := 4) (ret := (some .int)) (by decide) rfl ?_
  intro p e s m args below meth c s₁ B hml hv
  obtain ⟨rfl, hW, X⟩ := hv
  have C : cY p (headSpec (Cond.code yX7_redoable cX7_redoable 4 (some .int) :: lw_g) { frames := 1, cells := 0, slots := 0, locals := 22 }).room s m _ meth c RX7 cX7_redoable 4 1 0 0 22 (some .int) := ⟨B.exec, B.bytes, hml, findClass_of_methodNamed B.named, fun w hw => atoms_spec (ws := Cond.code yX7_redoable cX7_redoable 4 (some .int) :: lw_g) B.pre w (List.mem_cons_of_mem _ hw), ⟨Nat.le_refl _, Nat.le_refl _, Nat.le_refl _, Nat.le_refl _⟩, B.returns, B.notSynchronized⟩
  have hl := lv_entry ([.ref v0]) (n := 4) (Nat.le_of_ble_eq_true rfl)
  rw [lg_entry_eq]
  generalize (lg_sl ([.ref v0]) ++ List.replicate (4 - (lg_sl ([.ref v0])).length) Slot.unset).toArray = ls at hl ⊢
  have hl : lv_has ls 4 [(0, .ref v0)] := hl
  unfold fk_7_redoable at h
  refine lv_aload_n C.1 C.2.1 dX7_redoable_0 rfl (lv_at hl 0 rfl) ?_
  refine lv_aload_n C.1 C.2.1 dX7_redoable_1 rfl (lv_at hl 0 rfl) ?_
  obtain ⟨hk, h⟩ := ckk_ok h
  refine gk7_61 C X hW hk dX7_redoable_2 ?_
  obtain ⟨hk, h⟩ := ckk_ok h
  obtain ⟨r1, h_r1, h⟩ := bd_ok h
  refine c_callR (rest := []) C X hW hl.1 7 (by decide) hk [.int (kF S v0 0)] (tk_7_knownOf l h_r1) cw7_123 ki_7_knownOf kl_7_knownOf rfl ⟨by decide, by decide⟩ ⟨(by decide), (by decide)⟩ rfl (Nat.le_of_ble_eq_true rfl) dX7_redoable_5 ?_
  refine W.eq (g2 := F0 m 8 ls [.int r1]) rfl ?_
  refine lv_istore_n (lv' := [(1, .int r1), (0, .ref v0)]) C.1 C.2.1 dX7_redoable_8 rfl hl (by decide) rfl (fun ls hl => ?_)
  exact wk_7_redoable_9 C X hW mFU h (lv_sub hl [1, 0] rfl)
end
theorem dX7_nextFor_0 : decode cX7_nextFor 0 = .ok (.aconst_null, 1) := by decide +kernel
theorem dX7_nextFor_1 : decode cX7_nextFor 1 = .ok (.astore_n 2, 1) := by decide +kernel
theorem dX7_nextFor_2 : decode cX7_nextFor 2 = .ok (.iconst 0, 1) := by decide +kernel
theorem dX7_nextFor_3 : decode cX7_nextFor 3 = .ok (.istore_n 3, 1) := by decide +kernel
theorem dX7_nextFor_4 : decode cX7_nextFor 4 = .ok (.iload_n 3, 1) := by decide +kernel
theorem dX7_nextFor_5 : decode cX7_nextFor 5 = .ok (.iconst 4, 1) := by decide +kernel
theorem dX7_nextFor_6 : decode cX7_nextFor 6 = .ok (.if_icmp .ge 84, 3) := by decide +kernel
theorem dX7_nextFor_9 : decode cX7_nextFor 9 = .ok (.aload_n 0, 1) := by decide +kernel
theorem dX7_nextFor_10 : decode cX7_nextFor 10 = .ok (.getfield 27, 3) := by decide +kernel
theorem dX7_nextFor_13 : decode cX7_nextFor 13 = .ok (.iconst 4, 1) := by decide +kernel
theorem dX7_nextFor_14 : decode cX7_nextFor 14 = .ok (.iload_n 1, 1) := by decide +kernel
theorem dX7_nextFor_15 : decode cX7_nextFor 15 = .ok (.imul, 1) := by decide +kernel
theorem dX7_nextFor_16 : decode cX7_nextFor 16 = .ok (.iload_n 3, 1) := by decide +kernel
theorem dX7_nextFor_17 : decode cX7_nextFor 17 = .ok (.iadd, 1) := by decide +kernel
theorem dX7_nextFor_18 : decode cX7_nextFor 18 = .ok (.iaload, 1) := by decide +kernel
theorem dX7_nextFor_19 : decode cX7_nextFor 19 = .ok (.aload_n 0, 1) := by decide +kernel
theorem dX7_nextFor_20 : decode cX7_nextFor 20 = .ok (.getfield 23, 3) := by decide +kernel
theorem dX7_nextFor_23 : decode cX7_nextFor 23 = .ok (.iconst 4, 1) := by decide +kernel
theorem dX7_nextFor_24 : decode cX7_nextFor 24 = .ok (.iload_n 1, 1) := by decide +kernel
theorem dX7_nextFor_25 : decode cX7_nextFor 25 = .ok (.imul, 1) := by decide +kernel
theorem dX7_nextFor_26 : decode cX7_nextFor 26 = .ok (.iload_n 3, 1) := by decide +kernel
theorem dX7_nextFor_27 : decode cX7_nextFor 27 = .ok (.iadd, 1) := by decide +kernel
theorem dX7_nextFor_28 : decode cX7_nextFor 28 = .ok (.iaload, 1) := by decide +kernel
theorem dX7_nextFor_29 : decode cX7_nextFor 29 = .ok (.invokestatic 89, 3) := by decide +kernel
theorem dX7_nextFor_32 : decode cX7_nextFor 32 = .ok (.istore 4, 2) := by decide +kernel
theorem dX7_nextFor_34 : decode cX7_nextFor 34 = .ok (.iload 4, 2) := by decide +kernel
theorem dX7_nextFor_36 : decode cX7_nextFor 36 = .ok (.aload_n 0, 1) := by decide +kernel
theorem dX7_nextFor_37 : decode cX7_nextFor 37 = .ok (.iload_n 3, 1) := by decide +kernel
theorem dX7_nextFor_38 : decode cX7_nextFor 38 = .ok (.invokevirtual 123, 3) := by decide +kernel
theorem dX7_nextFor_41 : decode cX7_nextFor 41 = .ok (.if_icmp .ge 43, 3) := by decide +kernel
theorem dX7_nextFor_44 : decode cX7_nextFor 44 = .ok (.aload_n 0, 1) := by decide +kernel
theorem dX7_nextFor_45 : decode cX7_nextFor 45 = .ok (.getfield 64, 3) := by decide +kernel
theorem dX7_nextFor_48 : decode cX7_nextFor 48 = .ok (.sipush 1000, 3) := by decide +kernel
theorem dX7_nextFor_51 : decode cX7_nextFor 51 = .ok (.iload_n 3, 1) := by decide +kernel
theorem dX7_nextFor_52 : decode cX7_nextFor 52 = .ok (.imul, 1) := by decide +kernel
theorem dX7_nextFor_53 : decode cX7_nextFor 53 = .ok (.iload 4, 2) := by decide +kernel
theorem dX7_nextFor_55 : decode cX7_nextFor 55 = .ok (.iadd, 1) := by decide +kernel
theorem dX7_nextFor_56 : decode cX7_nextFor 56 = .ok (.iconst 1, 1) := by decide +kernel
theorem dX7_nextFor_57 : decode cX7_nextFor 57 = .ok (.iadd, 1) := by decide +kernel
theorem dX7_nextFor_58 : decode cX7_nextFor 58 = .ok (.invokevirtual 143, 3) := by decide +kernel
theorem dX7_nextFor_61 : decode cX7_nextFor 61 = .ok (.astore 5, 2) := by decide +kernel
theorem dX7_nextFor_63 : decode cX7_nextFor 63 = .ok (.aload 5, 2) := by decide +kernel
theorem dX7_nextFor_65 : decode cX7_nextFor 65 = .ok (.ifnull 19, 3) := by decide +kernel
theorem dX7_nextFor_68 : decode cX7_nextFor 68 = .ok (.aload_n 2, 1) := by decide +kernel
theorem dX7_nextFor_69 : decode cX7_nextFor 69 = .ok (.ifnull 12, 3) := by decide +kernel
theorem dX7_nextFor_72 : decode cX7_nextFor 72 = .ok (.aload 5, 2) := by decide +kernel
theorem dX7_nextFor_74 : decode cX7_nextFor 74 = .ok (.aload_n 2, 1) := by decide +kernel
theorem dX7_nextFor_75 : decode cX7_nextFor 75 = .ok (.invokevirtual 238, 3) := by decide +kernel
theorem dX7_nextFor_78 : decode cX7_nextFor 78 = .ok (.ifCond .eq 6, 3) := by decide +kernel
theorem dX7_nextFor_81 : decode cX7_nextFor 81 = .ok (.aload 5, 2) := by decide +kernel
theorem dX7_nextFor_83 : decode cX7_nextFor 83 = .ok (.astore_n 2, 1) := by decide +kernel
theorem dX7_nextFor_84 : decode cX7_nextFor 84 = .ok (.iinc 3 1, 3) := by decide +kernel
theorem dX7_nextFor_87 : decode cX7_nextFor 87 = .ok (.goto (-83), 3) := by decide +kernel
theorem dX7_nextFor_90 : decode cX7_nextFor 90 = .ok (.aload_n 2, 1) := by decide +kernel
theorem dX7_nextFor_91 : decode cX7_nextFor 91 = .ok (.areturn, 1) := by decide +kernel
theorem kd_7_nextFor : Cond.code yX7_nextFor cX7_nextFor 6 (some (.object "AccordHouse$Row")) ∈ lw_g := mt_at 1329 (by decide +kernel) rfl
theorem ki_7_nextFor : Cond.instanceMethod yX7_nextFor ∈ lw_g := mt_at 1328 (by decide +kernel) rfl
theorem kl_7_nextFor : Cond.selects (kRn 7) yX7_nextFor yX7_nextFor ∈ lw_g := mt_sel 26 (by decide +kernel) rfl
theorem cw7_238 : cCw RX7 238 yX8_isBefore cX8_isBefore 2 (some .boolean) 1 := ⟨kd_8_isBefore, mt_at 1330 (by decide +kernel) rfl, mt_at 29 (by decide +kernel) rfl, by decide +kernel⟩
section
variable {p : Program} {l : Launch} {e : Env} {R : Room} {s : State} {m : MethodId} {args : Array Value} {below : List Frame} {meth : Method} {c : Code} {H : Heap} {locs : List Loc} {cells slots : Nat} {Q : State → Prop}
variable {D : cG} {S S0 : cSt} {cc : ByteArray} {nL : Nat} {pc : Nat} {ls : Array Slot} {rest : List Value} {H0 : Heap} {nF nR nC nS : Nat} {ret : Option FieldType} {a : Nat}
theorem gk7_27 (C : cY p R s m args meth c RX7 cc nL nF nC nS nR ret) (X : cX D s) (hW : cW D S H) (hk : kK S a = 8) {x : Nat} (hx : kR S a 6 = some x) (hdg : decode cc pc = .ok (.getfield 27, 3)) (kk : W p l e R s m args below meth c H locs cells slots Q (F0 m (pc + 3) ls (.ref x :: rest))) : W p l e R s m args below meth c H locs cells slots Q (F0 m pc ls (.ref a :: rest)) := c_get C X hW 7 (by decide) ly_7 hk 6 (by decide) (mt_at 316 (by decide +kernel) (by decide +kernel)) hdg (by rw [cV_R (by decide +kernel) hx]; exact kk)
end
section
variable {p : Program} {l : Launch} {e : Env} {R : Room} {s : State} {m : MethodId} {args : Array Value} {below : List Frame} {meth : Method} {c : Code} {D : cG} {S : cSt} {r : Option Nat}
noncomputable def fk_7_nextFor_84 (g_4 : Nat → Int32 → Option Nat → Int32 → Option (Option Nat)) (S : cSt) (v0 : Nat) (v1 : Int32) (v2 : Option Nat) (v3 : Int32) : Option (Option Nat) :=
lt (v3 + (1 : Int32)) fun x1 =>
g_4 v0 v1 v2 x1
set_option maxRecDepth 100000 in
set_option maxHeartbeats 4000000 in
theorem wk_7_nextFor_84 (C : cY p R s m args meth c RX7 cX7_nextFor 6 2 0 0 60 (some (.object "AccordHouse$Row"))) (X : cX D s) (hW : cW D S s.heap) {g_4 : Nat → Int32 → Option Nat → Int32 → Option (Option Nat)} (hg_4 : ∀ {v0 : Nat} {v1 : Int32} {v2 : Option Nat} {v3 : Int32} {ls : Array Slot}, g_4 v0 v1 v2 v3 = some r → lv_has ls 6 [(0, .ref v0), (1, .int v1), (2, va_rf v2), (3, .int v3)] → W p l e R s m args below meth c s.heap [] 0 0 (MQ below (kQ (some (va_rf r))) args s 0 0 mNo) (F0 m 4 ls [])) : ∀ {v0 : Nat} {v1 : Int32} {v2 : Option Nat} {v3 : Int32} {ls : Array Slot}, fk_7_nextFor_84 g_4 S v0 v1 v2 v3 = some r → lv_has ls 6 [(0, .ref v0), (1, .int v1), (2, va_rf v2), (3, .int v3)] → W p l e R s m args below meth c s.heap [] 0 0 (MQ below (kQ (some (va_rf r))) args s 0 0 mNo) (F0 m 84 ls []) := by
  intro v0 v1 v2 v3 ls h hl
  unfold fk_7_nextFor_84 at h
  refine lt_ok h (fun x1 e_x1 h => ?_)
  refine lv_iinc (v := x1) (lv' := [(3, .int x1), (0, .ref v0), (1, .int v1), (2, va_rf v2)]) C.1 C.2.1 dX7_nextFor_84 hl (k := 3) rfl (by rw [← e_x1]; rfl) (by decide) (by cases v2 <;> rfl) (fun ls hl => ?_)
  refine lv_goto (tgt := 4) C.1 C.2.1 dX7_nextFor_87 (by decide) ?_
  exact hg_4 h (lv_sub hl [1, 2, 3, 0] rfl)
noncomputable def fk_7_nextFor_81 (g_4 : Nat → Int32 → Option Nat → Int32 → Option (Option Nat)) (S : cSt) (v0 : Nat) (v1 : Int32) (v3 : Int32) (v5 : Option Nat) : Option (Option Nat) :=
fk_7_nextFor_84 g_4 S v0 v1 v5 v3
set_option maxRecDepth 100000 in
set_option maxHeartbeats 4000000 in
theorem wk_7_nextFor_81 (C : cY p R s m args meth c RX7 cX7_nextFor 6 2 0 0 60 (some (.object "AccordHouse$Row"))) (X : cX D s) (hW : cW D S s.heap) {g_4 : Nat → Int32 → Option Nat → Int32 → Option (Option Nat)} (hg_4 : ∀ {v0 : Nat} {v1 : Int32} {v2 : Option Nat} {v3 : Int32} {ls : Array Slot}, g_4 v0 v1 v2 v3 = some r → lv_has ls 6 [(0, .ref v0), (1, .int v1), (2, va_rf v2), (3, .int v3)] → W p l e R s m args below meth c s.heap [] 0 0 (MQ below (kQ (some (va_rf r))) args s 0 0 mNo) (F0 m 4 ls [])) : ∀ {v0 : Nat} {v1 : Int32} {v3 : Int32} {v5 : Option Nat} {ls : Array Slot}, fk_7_nextFor_81 g_4 S v0 v1 v3 v5 = some r → lv_has ls 6 [(0, .ref v0), (1, .int v1), (3, .int v3), (5, va_rf v5)] → W p l e R s m args below meth c s.heap [] 0 0 (MQ below (kQ (some (va_rf r))) args s 0 0 mNo) (F0 m 81 ls []) := by
  intro v0 v1 v3 v5 ls h hl
  unfold fk_7_nextFor_81 at h
  refine lv_aloadq (o := v5) C.1 C.2.1 dX7_nextFor_81 (lv_at hl 3 rfl) ?_
  refine lv_astore_nq (o := v5) (lv' := [(2, va_rf v5), (0, .ref v0), (1, .int v1), (3, .int v3), (5, va_rf v5)]) C.1 C.2.1 dX7_nextFor_83 rfl hl (by decide) rfl (fun ls hl => ?_)
  exact wk_7_nextFor_84 C X hW hg_4 h (lv_sub hl [1, 2, 0, 3] rfl)
noncomputable def fk_7_nextFor_4 (S : cSt) : Nat → Nat → Int32 → Option Nat → Int32 → Option (Option Nat)
  | 0, _, _, _, _ => none
  | n + 1, v0, v1, v2, v3 =>
    if (4 : Int32) ≤ v3 then (
    some v2)
    else (
    ckk S v0 8 (bd (kR S v0 6) fun a2 =>
    ckk S a2 20 (ck (((4 : Int32) * v1) + v3) (kL S a2) (
    ckk S v0 8 (bd (kR S v0 5) fun a3 =>
    ckk S a3 20 (ck (((4 : Int32) * v1) + v3) (kL S a3) (
    lt (if (kI S a2 (Int32.toNatClampNeg (((4 : Int32) * v1) + v3))) < (kI S a3 (Int32.toNatClampNeg (((4 : Int32) * v1) + v3))) then (kI S a3 (Int32.toNatClampNeg (((4 : Int32) * v1) + v3))) else (kI S a2 (Int32.toNatClampNeg (((4 : Int32) * v1) + v3)))) fun x4 =>
    ckk S v0 8 (bd (fk_7_knownOf S v0 v3) fun r5 =>
    if r5 ≤ x4 then (
    fk_7_nextFor_84 (fk_7_nextFor_4 S n) S v0 v1 v2 v3)
    else (
    ckk S v0 8 (bd (kR S v0 12) fun a7 =>
    ckk S a7 1 (bd (fk_0_rowNamed S a7 ((((1000 : Int32) * v3) + x4) + (1 : Int32))) fun o8 =>
    cs o8 (
    fk_7_nextFor_84 (fk_7_nextFor_4 S n) S v0 v1 v2 v3) (fun a9 =>
    cs v2 (
    fk_7_nextFor_81 (fk_7_nextFor_4 S n) S v0 v1 v3 (some a9)) (fun a10 =>
    ckk S a9 9 (bd (fk_8_isBefore S a9 a10) fun r11 =>
    if r11 = 0 then (
    fk_7_nextFor_84 (fk_7_nextFor_4 S n) S v0 v1 (some a10) v3)
    else (
    fk_7_nextFor_81 (fk_7_nextFor_4 S n) S v0 v1 v3 (some a9))))))))))))))))
set_option maxRecDepth 100000 in
set_option maxHeartbeats 4000000 in
theorem wk_7_nextFor_4 (C : cY p R s m args meth c RX7 cX7_nextFor 6 2 0 0 60 (some (.object "AccordHouse$Row"))) (X : cX D s) (hW : cW D S s.heap) : ∀ (n : Nat), ∀ {v0 : Nat} {v1 : Int32} {v2 : Option Nat} {v3 : Int32} {ls : Array Slot}, fk_7_nextFor_4 S n v0 v1 v2 v3 = some r → lv_has ls 6 [(0, .ref v0), (1, .int v1), (2, va_rf v2), (3, .int v3)] → W p l e R s m args below meth c s.heap [] 0 0 (MQ below (kQ (some (va_rf r))) args s 0 0 mNo) (F0 m 4 ls []) := by
  intro n
  induction n with
  | zero =>
    intro v0 v1 v2 v3 ls h hl
    exact absurd (show (none : Option (Option Nat)) = _ from h) (fun q => by cases q)
  | succ n ih =>
    intro v0 v1 v2 v3 ls h hl
    rw [fk_7_nextFor_4] at h
    refine lv_iload_n C.1 C.2.1 dX7_nextFor_4 rfl (lv_at hl 3 rfl) ?_
    refine lv_iconst (v := 4) C.1 C.2.1 dX7_nextFor_5 (by decide) ?_
    refine lv_icmp_ge (tgt := 90) C.1 C.2.1 dX7_nextFor_6 (by decide) (fun c1 => ?_) (fun c1 => ?_)
    · have h := if_t h c1
      refine lv_aload_nq (o := v2) C.1 C.2.1 dX7_nextFor_90 rfl (lv_at hl 2 rfl) ?_
      cases h
      exact c_reta C rfl rfl dX7_nextFor_91
    · have h := if_f h c1
      refine lv_aload_n C.1 C.2.1 dX7_nextFor_9 rfl (lv_at hl 0 rfl) ?_
      obtain ⟨hk, h⟩ := ckk_ok h
      obtain ⟨a2, h_a2, h⟩ := bd_ok h
      refine gk7_27 C X hW hk h_a2 dX7_nextFor_10 ?_
      refine lv_iconst (v := 4) C.1 C.2.1 dX7_nextFor_13 (by decide) ?_
      refine lv_iload_n C.1 C.2.1 dX7_nextFor_14 rfl (lv_at hl 1 rfl) ?_
      refine lv_imul C.1 C.2.1 dX7_nextFor_15 ?_
      refine lv_iload_n C.1 C.2.1 dX7_nextFor_16 rfl (lv_at hl 3 rfl) ?_
      refine lv_iadd C.1 C.2.1 dX7_nextFor_17 ?_
      obtain ⟨hk, h⟩ := ckk_ok h
      obtain ⟨hin2, h⟩ := ck_ok h
      refine c_iald C X hW hk hin2 dX7_nextFor_18 ?_
      refine lv_aload_n C.1 C.2.1 dX7_nextFor_19 rfl (lv_at hl 0 rfl) ?_
      obtain ⟨hk, h⟩ := ckk_ok h
      obtain ⟨a3, h_a3, h⟩ := bd_ok h
      refine gk7_23 C X hW hk h_a3 dX7_nextFor_20 ?_
      refine lv_iconst (v := 4) C.1 C.2.1 dX7_nextFor_23 (by decide) ?_
      refine lv_iload_n C.1 C.2.1 dX7_nextFor_24 rfl (lv_at hl 1 rfl) ?_
      refine lv_imul C.1 C.2.1 dX7_nextFor_25 ?_
      refine lv_iload_n C.1 C.2.1 dX7_nextFor_26 rfl (lv_at hl 3 rfl) ?_
      refine lv_iadd C.1 C.2.1 dX7_nextFor_27 ?_
      obtain ⟨hk, h⟩ := ckk_ok h
      obtain ⟨hin2, h⟩ := ck_ok h
      refine c_iald C X hW hk hin2 dX7_nextFor_28 ?_
      refine va_mmax (rest := []) C.1 C.2.1 (C.2.2.1.trans hl.1.symm) (own := RX7) C.2.2.2.1 (C.2.2.2.2.1 _ mm7_89) (C.2.2.2.2.1 _ mmax_s) (C.2.2.2.2.1 _ ma_i) (C.2.2.2.2.1 _ mmax_c) (Nat.le_trans (by decide) C.2.2.2.2.2.1.1) (Nat.le_trans (Nat.le_of_ble_eq_true rfl) C.2.2.2.2.2.1.2.2.2) (Nat.le_trans (by decide) C.2.2.2.2.2.1.2.1) (Nat.le_trans (by decide) C.2.2.2.2.2.1.2.2.1) dX7_nextFor_29 ?_
      refine lt_ok h (fun x4 e_x4 h => ?_)
      refine lv_nm e_x4 ?_
      refine lv_istore (lv' := [(4, .int x4), (0, .ref v0), (1, .int v1), (2, va_rf v2), (3, .int v3)]) C.1 C.2.1 dX7_nextFor_32 hl (by decide) rfl (fun ls hl => ?_)
      refine lv_iload C.1 C.2.1 dX7_nextFor_34 (lv_at hl 0 rfl) ?_
      refine lv_aload_n C.1 C.2.1 dX7_nextFor_36 rfl (lv_at hl 1 rfl) ?_
      refine lv_iload_n C.1 C.2.1 dX7_nextFor_37 rfl (lv_at hl 4 rfl) ?_
      obtain ⟨hk, h⟩ := ckk_ok h
      obtain ⟨r5, h_r5, h⟩ := bd_ok h
      refine c_callR (rest := [.int x4]) C X hW hl.1 7 (by decide) hk [.int v3] (tk_7_knownOf l h_r5) cw7_123 ki_7_knownOf kl_7_knownOf rfl ⟨by decide, by decide⟩ ⟨(by decide), (by decide)⟩ rfl (Nat.le_of_ble_eq_true rfl) dX7_nextFor_38 ?_
      refine W.eq (g2 := F0 m 41 ls [.int r5, .int x4]) rfl ?_
      refine lv_icmp_ge (tgt := 84) C.1 C.2.1 dX7_nextFor_41 (by decide) (fun c6 => ?_) (fun c6 => ?_)
      · have h := if_t h c6
        exact wk_7_nextFor_84 C X hW ih h (lv_sub hl [1, 2, 3, 4] rfl)
      · have h := if_f h c6
        refine lv_aload_n C.1 C.2.1 dX7_nextFor_44 rfl (lv_at hl 1 rfl) ?_
        obtain ⟨hk, h⟩ := ckk_ok h
        obtain ⟨a7, h_a7, h⟩ := bd_ok h
        refine gk7_64 C X hW hk h_a7 dX7_nextFor_45 ?_
        refine lv_sipush (v := 1000) C.1 C.2.1 dX7_nextFor_48 (by decide) ?_
        refine lv_iload_n C.1 C.2.1 dX7_nextFor_51 rfl (lv_at hl 4 rfl) ?_
        refine lv_imul C.1 C.2.1 dX7_nextFor_52 ?_
        refine lv_iload C.1 C.2.1 dX7_nextFor_53 (lv_at hl 0 rfl) ?_
        refine lv_iadd C.1 C.2.1 dX7_nextFor_55 ?_
        refine lv_iconst (v := 1) C.1 C.2.1 dX7_nextFor_56 (by decide) ?_
        refine lv_iadd C.1 C.2.1 dX7_nextFor_57 ?_
        obtain ⟨hk, h⟩ := ckk_ok h
        obtain ⟨o8, h_o8, h⟩ := bd_ok h
        refine c_callR (rest := []) C X hW hl.1 0 (by decide) hk [.int ((((1000 : Int32) * v3) + x4) + (1 : Int32))] (tk_0_rowNamed l h_o8) cw7_143 ki_0_rowNamed kl_0_rowNamed rfl ⟨by decide, by decide⟩ ⟨(by decide), (by decide)⟩ rfl (Nat.le_of_ble_eq_true rfl) dX7_nextFor_58 ?_
        refine W.eq (g2 := F0 m 61 ls [va_rf o8]) rfl ?_
        refine lv_astoreq (o := o8) (lv' := [(5, va_rf o8), (4, .int x4), (0, .ref v0), (1, .int v1), (2, va_rf v2), (3, .int v3)]) C.1 C.2.1 dX7_nextFor_61 hl (by decide) rfl (fun ls hl => ?_)
        refine lv_aloadq (o := o8) C.1 C.2.1 dX7_nextFor_63 (lv_at hl 0 rfl) ?_
        rcases o8 with _ | a9
        · replace h := cs_n h
          refine lv_ifnullN (tgt := 84) C.1 C.2.1 dX7_nextFor_65 (by decide) ?_
          exact wk_7_nextFor_84 C X hW ih h (lv_sub hl [2, 3, 4, 5] rfl)
        · replace h := cs_s h
          refine lv_ifnull C.1 C.2.1 dX7_nextFor_65 ?_
          refine lv_aload_nq (o := v2) C.1 C.2.1 dX7_nextFor_68 rfl (lv_at hl 4 rfl) ?_
          rcases v2 with _ | a10
          · replace h := cs_n h
            refine lv_ifnullN (tgt := 81) C.1 C.2.1 dX7_nextFor_69 (by decide) ?_
            exact wk_7_nextFor_81 C X hW ih h (lv_sub hl [2, 3, 5, 0] rfl)
          · replace h := cs_s h
            refine lv_ifnull C.1 C.2.1 dX7_nextFor_69 ?_
            refine lv_aload C.1 C.2.1 dX7_nextFor_72 (lv_at hl 0 rfl) ?_
            refine lv_aload_n C.1 C.2.1 dX7_nextFor_74 rfl (lv_at hl 4 rfl) ?_
            obtain ⟨hk, h⟩ := ckk_ok h
            obtain ⟨r11, h_r11, h⟩ := bd_ok h
            refine c_callR (rest := []) C X hW hl.1 8 (by decide) hk [.ref a10] (tk_8_isBefore l h_r11) cw7_238 ki_8_isBefore kl_8_isBefore rfl ⟨by decide, by decide⟩ ⟨(by decide), (by decide)⟩ rfl (Nat.le_of_ble_eq_true rfl) dX7_nextFor_75 ?_
            refine W.eq (g2 := F0 m 78 ls [.int r11]) rfl ?_
            refine lv_if_eq (tgt := 84) C.1 C.2.1 dX7_nextFor_78 (by decide) (fun c12 => ?_) (fun c12 => ?_)
            · have h := if_t h c12
              exact wk_7_nextFor_84 C X hW ih h (lv_sub hl [2, 3, 4, 5] rfl)
            · have h := if_f h c12
              exact wk_7_nextFor_81 C X hW ih h (lv_sub hl [2, 3, 5, 0] rfl)
noncomputable def fk_7_nextFor (S : cSt) (v0 : Nat) (v1 : Int32) : Option (Option Nat) :=
fk_7_nextFor_4 S mFU v0 v1 none (0 : Int32)
set_option maxRecDepth 100000 in
set_option maxHeartbeats 4000000 in
theorem tk_7_nextFor (l : Launch) {D : cG} {S : cSt} {v0 : Nat} {v1 : Int32} {r : Option Nat}  (h : fk_7_nextFor S v0 v1 = some r) : Met l yX7_nextFor (Cond.code yX7_nextFor cX7_nextFor 6 (some (.object "AccordHouse$Row")) :: lw_g) { frames := 2, cells := 0, slots := 0, locals := 60 } (kPi [.ref v0, .int v1] D S) (kQ (some (va_rf r))) 0 0 (mNo) := by
  refine Met.ofW (cc := cX7_nextFor) (maxL := 6) (ret := (some (.object "AccordHouse$Row"))) (by decide) rfl ?_
  intro p e s m args below meth c s₁ B hml hv
  obtain ⟨rfl, hW, X⟩ := hv
  have C : cY p (headSpec (Cond.code yX7_nextFor cX7_nextFor 6 (some (.object "AccordHouse$Row")) :: lw_g) { frames := 2, cells := 0, slots := 0, locals := 60 }).room s m _ meth c RX7 cX7_nextFor 6 2 0 0 60 (some (.object "AccordHouse$Row")) := ⟨B.exec, B.bytes, hml, findClass_of_methodNamed B.named, fun w hw => atoms_spec (ws := Cond.code yX7_nextFor cX7_nextFor 6 (some (.object "AccordHouse$Row")) :: lw_g) B.pre w (List.mem_cons_of_mem _ hw), ⟨Nat.le_refl _, Nat.le_refl _, Nat.le_refl _, Nat.le_refl _⟩, B.returns, B.notSynchronized⟩
  have hl := lv_entry ([.ref v0, .int v1]) (n := 6) (Nat.le_of_ble_eq_true rfl)
  rw [lg_entry_eq]
  generalize (lg_sl ([.ref v0, .int v1]) ++ List.replicate (6 - (lg_sl ([.ref v0, .int v1])).length) Slot.unset).toArray = ls at hl ⊢
  have hl : lv_has ls 6 [(0, .ref v0), (1, .int v1)] := hl
  unfold fk_7_nextFor at h
  refine lv_null C.1 C.2.1 dX7_nextFor_0 ?_
  refine lv_astore_nq (o := none) (lv' := [(2, va_rf none), (0, .ref v0), (1, .int v1)]) C.1 C.2.1 dX7_nextFor_1 rfl hl (by decide) rfl (fun ls hl => ?_)
  refine lv_iconst (v := 0) C.1 C.2.1 dX7_nextFor_2 (by decide) ?_
  refine lv_istore_n (lv' := [(3, .int (0 : Int32)), (2, va_rf none), (0, .ref v0), (1, .int v1)]) C.1 C.2.1 dX7_nextFor_3 rfl hl (by decide) rfl (fun ls hl => ?_)
  exact wk_7_nextFor_4 C X hW mFU h (lv_sub hl [2, 3, 1, 0] rfl)
end
theorem dX7_load_0 : decode cX7_load 0 = .ok (.iconst 0, 1) := by decide +kernel
theorem dX7_load_1 : decode cX7_load 1 = .ok (.istore_n 2, 1) := by decide +kernel
theorem dX7_load_2 : decode cX7_load 2 = .ok (.iload_n 2, 1) := by decide +kernel
theorem dX7_load_3 : decode cX7_load 3 = .ok (.bipush 8, 2) := by decide +kernel
theorem dX7_load_5 : decode cX7_load 5 = .ok (.if_icmp .ge 57, 3) := by decide +kernel
theorem dX7_load_8 : decode cX7_load 8 = .ok (.aload_n 0, 1) := by decide +kernel
theorem dX7_load_9 : decode cX7_load 9 = .ok (.aload_n 1, 1) := by decide +kernel
theorem dX7_load_10 : decode cX7_load 10 = .ok (.getfield 224, 3) := by decide +kernel
theorem dX7_load_13 : decode cX7_load 13 = .ok (.invokevirtual 229, 3) := by decide +kernel
theorem dX7_load_16 : decode cX7_load 16 = .ok (.astore_n 3, 1) := by decide +kernel
theorem dX7_load_17 : decode cX7_load 17 = .ok (.aload_n 3, 1) := by decide +kernel
theorem dX7_load_18 : decode cX7_load 18 = .ok (.ifnonnull 4, 3) := by decide +kernel
theorem dX7_load_21 : decode cX7_load 21 = .ok (.return_, 1) := by decide +kernel
theorem dX7_load_22 : decode cX7_load 22 = .ok (.aload_n 1, 1) := by decide +kernel
theorem dX7_load_23 : decode cX7_load 23 = .ok (.getfield 232, 3) := by decide +kernel
theorem dX7_load_26 : decode cX7_load 26 = .ok (.iload_n 2, 1) := by decide +kernel
theorem dX7_load_27 : decode cX7_load 27 = .ok (.aload_n 3, 1) := by decide +kernel
theorem dX7_load_28 : decode cX7_load 28 = .ok (.aastore, 1) := by decide +kernel
theorem dX7_load_29 : decode cX7_load 29 = .ok (.aload_n 1, 1) := by decide +kernel
theorem dX7_load_30 : decode cX7_load 30 = .ok (.iload_n 2, 1) := by decide +kernel
theorem dX7_load_31 : decode cX7_load 31 = .ok (.iconst 1, 1) := by decide +kernel
theorem dX7_load_32 : decode cX7_load 32 = .ok (.iadd, 1) := by decide +kernel
theorem dX7_load_33 : decode cX7_load 33 = .ok (.putfield 235, 3) := by decide +kernel
theorem dX7_load_36 : decode cX7_load 36 = .ok (.aload_n 0, 1) := by decide +kernel
theorem dX7_load_37 : decode cX7_load 37 = .ok (.getfield 27, 3) := by decide +kernel
theorem dX7_load_40 : decode cX7_load 40 = .ok (.iconst 4, 1) := by decide +kernel
theorem dX7_load_41 : decode cX7_load 41 = .ok (.aload_n 1, 1) := by decide +kernel
theorem dX7_load_42 : decode cX7_load 42 = .ok (.getfield 224, 3) := by decide +kernel
theorem dX7_load_45 : decode cX7_load 45 = .ok (.imul, 1) := by decide +kernel
theorem dX7_load_46 : decode cX7_load 46 = .ok (.aload_n 3, 1) := by decide +kernel
theorem dX7_load_47 : decode cX7_load 47 = .ok (.getfield 172, 3) := by decide +kernel
theorem dX7_load_50 : decode cX7_load 50 = .ok (.iadd, 1) := by decide +kernel
theorem dX7_load_51 : decode cX7_load 51 = .ok (.aload_n 3, 1) := by decide +kernel
theorem dX7_load_52 : decode cX7_load 52 = .ok (.getfield 175, 3) := by decide +kernel
theorem dX7_load_55 : decode cX7_load 55 = .ok (.iastore, 1) := by decide +kernel
theorem dX7_load_56 : decode cX7_load 56 = .ok (.iinc 2 1, 3) := by decide +kernel
theorem dX7_load_59 : decode cX7_load 59 = .ok (.goto (-57), 3) := by decide +kernel
theorem dX7_load_62 : decode cX7_load 62 = .ok (.return_, 1) := by decide +kernel
theorem kd_7_load : Cond.code yX7_load cX7_load 4 none ∈ lw_g := mt_at 1325 (by decide +kernel) rfl
theorem ki_7_load : Cond.instanceMethod yX7_load ∈ lw_g := mt_at 1323 (by decide +kernel) rfl
theorem kl_7_load : Cond.selects (kRn 7) yX7_load yX7_load ∈ lw_g := mt_at 1324 (by decide +kernel) rfl
theorem cw7_229 : cCw RX7 229 yX7_nextFor cX7_nextFor 6 (some (.object "AccordHouse$Row")) 1 := ⟨kd_7_nextFor, mt_at 1326 (by decide +kernel) rfl, mt_at 7 (by decide +kernel) rfl, by decide +kernel⟩
section
variable {p : Program} {l : Launch} {e : Env} {R : Room} {s : State} {m : MethodId} {args : Array Value} {below : List Frame} {meth : Method} {c : Code} {H : Heap} {locs : List Loc} {cells slots : Nat} {Q : State → Prop}
variable {D : cG} {S S0 : cSt} {cc : ByteArray} {nL : Nat} {pc : Nat} {ls : Array Slot} {rest : List Value} {H0 : Heap} {nF nR nC nS : Nat} {ret : Option FieldType} {a : Nat}
theorem gk7_224 (C : cY p R s m args meth c RX7 cc nL nF nC nS nR ret) (X : cX D s) (hW : cW D S H) (hk : kK S a = 3) (hdg : decode cc pc = .ok (.getfield 224, 3)) (kk : W p l e R s m args below meth c H locs cells slots Q (F0 m (pc + 3) ls (.int (kF S a 4) :: rest))) : W p l e R s m args below meth c H locs cells slots Q (F0 m pc ls (.ref a :: rest)) := c_get C X hW 2 (by decide) ly_2 hk 4 (by decide) (mt_at 1282 (by decide +kernel) (by decide +kernel)) hdg (by rw [cV_I (by decide +kernel)]; exact kk)
theorem gk7_232 (C : cY p R s m args meth c RX7 cc nL nF nC nS nR ret) (X : cX D s) (hW : cW D S H) (hk : kK S a = 3) {x : Nat} (hx : kR S a 2 = some x) (hdg : decode cc pc = .ok (.getfield 232, 3)) (kk : W p l e R s m args below meth c H locs cells slots Q (F0 m (pc + 3) ls (.ref x :: rest))) : W p l e R s m args below meth c H locs cells slots Q (F0 m pc ls (.ref a :: rest)) := c_get C X hW 2 (by decide) ly_2 hk 2 (by decide) (mt_at 1275 (by decide +kernel) (by decide +kernel)) hdg (by rw [cV_R (by decide +kernel) hx]; exact kk)
theorem pk7_235 {x : Int32} (C : cY p R s m args meth c RX7 cc nL nF nC nS nR ret) (X : cX D s) (hJ : cJ D S0 H0 S H locs) (hk : kK S a = 3) (hdg : decode cc pc = .ok (.putfield 235, 3)) (kk : ∀ (H1 : Heap) (locs1 : List Loc), cJ D S0 H0 (cPi S a 6 x) H1 locs1 → W p l e R s m args below meth c H1 locs1 cells slots Q (F0 m (pc + 3) ls (rest))) : W p l e R s m args below meth c H locs cells slots Q (F0 m pc ls (.int x :: .ref a :: rest)) := c_put (S1 := (cPi S a 6 x)) C X hJ 2 (by decide) ly_2 hk 6 (by decide) (by decide +kernel)  rfl rfl (by decide) rfl rfl (fun j _ => c_vI (by decide +kernel)) c_oPi (mt_at 1286 (by decide +kernel) (by decide +kernel)) hdg kk
end
section
variable {p : Program} {l : Launch} {e : Env} {R : Room} {s : State} {m : MethodId} {args : Array Value} {below : List Frame} {meth : Method} {c : Code} {D : cG} {S0 S9 : cSt}
noncomputable def fk_7_load_2 : Nat → cSt → Nat → Nat → Int32 → Option (cSt)
  | 0, _, _, _, _ => none
  | n + 1, S, v0, v1, v2 =>
    if (8 : Int32) ≤ v2 then (
    some S)
    else (
    ckk S v1 3 (
    ckk S v0 8 (bd (fk_7_nextFor S v0 (kF S v1 4)) fun o2 =>
    cs o2 (
    some S) (fun a3 =>
    ckk S v1 3 (bd (kR S v1 2) fun a4 =>
    ckk S a4 30 (ck v2 (kL S a4) (ckq S (some a3) 9 (lt (cWo S a4 (Int32.toNatClampNeg v2) (some a3)) fun S5 =>
    ckk S5 v1 3 (lt (cPi S5 v1 6 (v2 + (1 : Int32))) fun S6 =>
    ckk S6 v0 8 (bd (kR S6 v0 6) fun a7 =>
    ckk S6 v1 3 (
    ckk S6 a3 9 (
    ckk S6 a3 9 (
    ckk S6 a7 20 (ck (((4 : Int32) * (kF S6 v1 4)) + (kF S6 a3 6)) (kL S6 a7) (lt (cWi S6 a7 (Int32.toNatClampNeg (((4 : Int32) * (kF S6 v1 4)) + (kF S6 a3 6))) (kF S6 a3 7)) fun S8 =>
    lt (v2 + (1 : Int32)) fun x9 =>
    fk_7_load_2 n S8 v0 v1 x9)))))))))))))))
set_option maxRecDepth 100000 in
set_option maxHeartbeats 4000000 in
theorem wk_7_load_2 (C : cY p R s m args meth c RX7 cX7_load 4 3 0 0 85 none) (X : cX D s) : ∀ (n : Nat), ∀ {S : cSt} {v0 : Nat} {v1 : Nat} {v2 : Int32} {H : Heap} {locs : List Loc} {ls : Array Slot}, fk_7_load_2 n S v0 v1 v2 = some S9 → cJ D S0 s.heap S H locs → lv_has ls 4 [(0, .ref v0), (1, .ref v1), (2, .int v2)] → W p l e R s m args below meth c H locs 0 0 (MQ below (kW none D S0 S9) args s 0 0 (cA S0)) (F0 m 2 ls []) := by
  intro n
  induction n with
  | zero =>
    intro S v0 v1 v2 H locs ls h hJ hl
    exact absurd (show (none : Option (cSt)) = _ from h) (fun q => by cases q)
  | succ n ih =>
    intro S v0 v1 v2 H locs ls h hJ hl
    rw [fk_7_load_2] at h
    refine lv_iload_n C.1 C.2.1 dX7_load_2 rfl (lv_at hl 2 rfl) ?_
    refine lv_bipush (v := 8) C.1 C.2.1 dX7_load_3 (by decide) ?_
    refine lv_icmp_ge (tgt := 62) C.1 C.2.1 dX7_load_5 (by decide) (fun c1 => ?_) (fun c1 => ?_)
    · have h := if_t h c1
      cases h
      exact c_retvW C hJ dX7_load_62
    · have h := if_f h c1
      refine lv_aload_n C.1 C.2.1 dX7_load_8 rfl (lv_at hl 0 rfl) ?_
      refine lv_aload_n C.1 C.2.1 dX7_load_9 rfl (lv_at hl 1 rfl) ?_
      obtain ⟨hk, h⟩ := ckk_ok h
      refine gk7_224 C X hJ.1 hk dX7_load_10 ?_
      obtain ⟨hk, h⟩ := ckk_ok h
      obtain ⟨o2, h_o2, h⟩ := bd_ok h
      refine c_callR (rest := []) C X hJ.1 hl.1 7 (by decide) hk [.int (kF S v1 4)] (tk_7_nextFor l h_o2) cw7_229 ki_7_nextFor kl_7_nextFor rfl ⟨by decide, by decide⟩ ⟨(by decide), (by decide)⟩ rfl (Nat.le_of_ble_eq_true rfl) dX7_load_13 ?_
      refine W.eq (g2 := F0 m 16 ls [va_rf o2]) rfl ?_
      refine lv_astore_nq (o := o2) (lv' := [(3, va_rf o2), (0, .ref v0), (1, .ref v1), (2, .int v2)]) C.1 C.2.1 dX7_load_16 rfl hl (by decide) rfl (fun ls hl => ?_)
      refine lv_aload_nq (o := o2) C.1 C.2.1 dX7_load_17 rfl (lv_at hl 0 rfl) ?_
      rcases o2 with _ | a3
      · replace h := cs_n h
        refine lv_ifnonnullN C.1 C.2.1 dX7_load_18 ?_
        cases h
        exact c_retvW C hJ dX7_load_21
      · replace h := cs_s h
        refine lv_ifnonnull (tgt := 22) C.1 C.2.1 dX7_load_18 (by decide) ?_
        refine lv_aload_n C.1 C.2.1 dX7_load_22 rfl (lv_at hl 2 rfl) ?_
        obtain ⟨hk, h⟩ := ckk_ok h
        obtain ⟨a4, h_a4, h⟩ := bd_ok h
        refine gk7_232 C X hJ.1 hk h_a4 dX7_load_23 ?_
        refine lv_iload_n C.1 C.2.1 dX7_load_26 rfl (lv_at hl 3 rfl) ?_
        refine lv_aload_n C.1 C.2.1 dX7_load_27 rfl (lv_at hl 0 rfl) ?_
        obtain ⟨hk, h⟩ := ckk_ok h
        obtain ⟨hin2, h⟩ := ck_ok h
        obtain ⟨hkv, h⟩ := ckq_ok h
        refine c_aastq (o := (some a3)) C X 30 8 (by decide) (by decide) X.2.2.2.2.1 hJ hk hkv hin2 dX7_load_28 (fun H locs hJ => ?_)
        refine lt_ok h (fun S5 e_S5 h => ?_)
        rw [e_S5] at hJ
        refine lv_aload_n C.1 C.2.1 dX7_load_29 rfl (lv_at hl 2 rfl) ?_
        refine lv_iload_n C.1 C.2.1 dX7_load_30 rfl (lv_at hl 3 rfl) ?_
        refine lv_iconst (v := 1) C.1 C.2.1 dX7_load_31 (by decide) ?_
        refine lv_iadd C.1 C.2.1 dX7_load_32 ?_
        obtain ⟨hk, h⟩ := ckk_ok h
        refine pk7_235 C X hJ hk dX7_load_33 (fun H locs hJ => ?_)
        refine lt_ok h (fun S6 e_S6 h => ?_)
        rw [e_S6] at hJ
        refine lv_aload_n C.1 C.2.1 dX7_load_36 rfl (lv_at hl 1 rfl) ?_
        obtain ⟨hk, h⟩ := ckk_ok h
        obtain ⟨a7, h_a7, h⟩ := bd_ok h
        refine gk7_27 C X hJ.1 hk h_a7 dX7_load_37 ?_
        refine lv_iconst (v := 4) C.1 C.2.1 dX7_load_40 (by decide) ?_
        refine lv_aload_n C.1 C.2.1 dX7_load_41 rfl (lv_at hl 2 rfl) ?_
        obtain ⟨hk, h⟩ := ckk_ok h
        refine gk7_224 C X hJ.1 hk dX7_load_42 ?_
        refine lv_imul C.1 C.2.1 dX7_load_45 ?_
        refine lv_aload_n C.1 C.2.1 dX7_load_46 rfl (lv_at hl 0 rfl) ?_
        obtain ⟨hk, h⟩ := ckk_ok h
        refine gk7_172 C X hJ.1 hk dX7_load_47 ?_
        refine lv_iadd C.1 C.2.1 dX7_load_50 ?_
        refine lv_aload_n C.1 C.2.1 dX7_load_51 rfl (lv_at hl 0 rfl) ?_
        obtain ⟨hk, h⟩ := ckk_ok h
        refine gk7_175 C X hJ.1 hk dX7_load_52 ?_
        obtain ⟨hk, h⟩ := ckk_ok h
        obtain ⟨hin2, h⟩ := ck_ok h
        refine c_iast C X hJ hk hin2 dX7_load_55 (fun H locs hJ => ?_)
        refine lt_ok h (fun S8 e_S8 h => ?_)
        rw [e_S8] at hJ
        refine lt_ok h (fun x9 e_x9 h => ?_)
        refine lv_iinc (v := x9) (lv' := [(2, .int x9), (3, .ref a3), (0, .ref v0), (1, .ref v1)]) C.1 C.2.1 dX7_load_56 hl (k := 3) rfl (by rw [← e_x9]; rfl) (by decide) rfl (fun ls hl => ?_)
        refine lv_goto (tgt := 2) C.1 C.2.1 dX7_load_59 (by decide) ?_
        exact ih h hJ (lv_sub hl [2, 3, 0] rfl)
noncomputable def fk_7_load (S : cSt) (v0 : Nat) (v1 : Nat) : Option (cSt) :=
fk_7_load_2 mFU S v0 v1 (0 : Int32)
set_option maxRecDepth 100000 in
set_option maxHeartbeats 4000000 in
theorem tk_7_load (l : Launch) {D : cG} {S : cSt} {v0 : Nat} {v1 : Nat} {S9 : cSt} (h : fk_7_load S v0 v1 = some S9) : Met l yX7_load (Cond.code yX7_load cX7_load 4 none :: lw_g) { frames := 3, cells := 0, slots := 0, locals := 85 } (kPi [.ref v0, .ref v1] D S) (kW none D S S9) 0 0 (cA S) := by
  refine Met.ofW (cc := cX7_load) (maxL := 4) (ret := none) (by decide) rfl ?_
  intro p e s m args below meth c s₁ B hml hv
  obtain ⟨rfl, hW, X⟩ := hv
  have C : cY p (headSpec (Cond.code yX7_load cX7_load 4 none :: lw_g) { frames := 3, cells := 0, slots := 0, locals := 85 }).room s m _ meth c RX7 cX7_load 4 3 0 0 85 none := ⟨B.exec, B.bytes, hml, findClass_of_methodNamed B.named, fun w hw => atoms_spec (ws := Cond.code yX7_load cX7_load 4 none :: lw_g) B.pre w (List.mem_cons_of_mem _ hw), ⟨Nat.le_refl _, Nat.le_refl _, Nat.le_refl _, Nat.le_refl _⟩, B.returns, B.notSynchronized⟩
  have hl := lv_entry ([.ref v0, .ref v1]) (n := 4) (Nat.le_of_ble_eq_true rfl)
  rw [lg_entry_eq]
  generalize (lg_sl ([.ref v0, .ref v1]) ++ List.replicate (4 - (lg_sl ([.ref v0, .ref v1])).length) Slot.unset).toArray = ls at hl ⊢
  have hl : lv_has ls 4 [(0, .ref v0), (1, .ref v1)] := hl
  have hJ : cJ D S s.heap S s.heap [] := cJ.rf hW
  unfold fk_7_load at h
  refine lv_iconst (v := 0) C.1 C.2.1 dX7_load_0 (by decide) ?_
  refine lv_istore_n (lv' := [(2, .int (0 : Int32)), (0, .ref v0), (1, .ref v1)]) C.1 C.2.1 dX7_load_1 rfl hl (by decide) rfl (fun ls hl => ?_)
  exact wk_7_load_2 C X mFU h hJ (lv_sub hl [1, 2, 0] rfl)
end
theorem dX7_learnCursor_0 : decode cX7_learnCursor 0 = .ok (.aload_n 1, 1) := by decide +kernel
theorem dX7_learnCursor_1 : decode cX7_learnCursor 1 = .ok (.getfield 267, 3) := by decide +kernel
theorem dX7_learnCursor_4 : decode cX7_learnCursor 4 = .ok (.iload_n 2, 1) := by decide +kernel
theorem dX7_learnCursor_5 : decode cX7_learnCursor 5 = .ok (.iaload, 1) := by decide +kernel
theorem dX7_learnCursor_6 : decode cX7_learnCursor 6 = .ok (.aload_n 0, 1) := by decide +kernel
theorem dX7_learnCursor_7 : decode cX7_learnCursor 7 = .ok (.getfield 30, 3) := by decide +kernel
theorem dX7_learnCursor_10 : decode cX7_learnCursor 10 = .ok (.iload_n 2, 1) := by decide +kernel
theorem dX7_learnCursor_11 : decode cX7_learnCursor 11 = .ok (.iaload, 1) := by decide +kernel
theorem dX7_learnCursor_12 : decode cX7_learnCursor 12 = .ok (.if_icmp .le 17, 3) := by decide +kernel
theorem dX7_learnCursor_15 : decode cX7_learnCursor 15 = .ok (.aload_n 1, 1) := by decide +kernel
theorem dX7_learnCursor_16 : decode cX7_learnCursor 16 = .ok (.getfield 267, 3) := by decide +kernel
theorem dX7_learnCursor_19 : decode cX7_learnCursor 19 = .ok (.iload_n 2, 1) := by decide +kernel
theorem dX7_learnCursor_20 : decode cX7_learnCursor 20 = .ok (.aload_n 0, 1) := by decide +kernel
theorem dX7_learnCursor_21 : decode cX7_learnCursor 21 = .ok (.getfield 30, 3) := by decide +kernel
theorem dX7_learnCursor_24 : decode cX7_learnCursor 24 = .ok (.iload_n 2, 1) := by decide +kernel
theorem dX7_learnCursor_25 : decode cX7_learnCursor 25 = .ok (.iconst 4, 1) := by decide +kernel
theorem dX7_learnCursor_26 : decode cX7_learnCursor 26 = .ok (.invokestatic 268, 3) := by decide +kernel
theorem dX7_learnCursor_29 : decode cX7_learnCursor 29 = .ok (.return_, 1) := by decide +kernel
theorem kd_7_learnCursor : Cond.code yX7_learnCursor cX7_learnCursor 3 none ∈ lw_g := mt_at 1350 (by decide +kernel) rfl
theorem ki_7_learnCursor : Cond.instanceMethod yX7_learnCursor ∈ lw_g := mt_at 1349 (by decide +kernel) rfl
theorem kl_7_learnCursor : Cond.selects (kRn 7) yX7_learnCursor yX7_learnCursor ∈ lw_g := mt_sel 27 (by decide +kernel) rfl
theorem mm7_268 : Cond.methodLink RX7 268 arraycopyName ∈ lw_g := mt_at 1351 (by decide +kernel) rfl
section
variable {p : Program} {l : Launch} {e : Env} {R : Room} {s : State} {m : MethodId} {args : Array Value} {below : List Frame} {meth : Method} {c : Code} {H : Heap} {locs : List Loc} {cells slots : Nat} {Q : State → Prop}
variable {D : cG} {S S0 : cSt} {cc : ByteArray} {nL : Nat} {pc : Nat} {ls : Array Slot} {rest : List Value} {H0 : Heap} {nF nR nC nS : Nat} {ret : Option FieldType} {a : Nat}
theorem gk7_267 (C : cY p R s m args meth c RX7 cc nL nF nC nS nR ret) (X : cX D s) (hW : cW D S H) (hk : kK S a = 3) {x : Nat} (hx : kR S a 1 = some x) (hdg : decode cc pc = .ok (.getfield 267, 3)) (kk : W p l e R s m args below meth c H locs cells slots Q (F0 m (pc + 3) ls (.ref x :: rest))) : W p l e R s m args below meth c H locs cells slots Q (F0 m pc ls (.ref a :: rest)) := c_get C X hW 2 (by decide) ly_2 hk 1 (by decide) (mt_at 1273 (by decide +kernel) (by decide +kernel)) hdg (by rw [cV_R (by decide +kernel) hx]; exact kk)
end
section
variable {p : Program} {l : Launch} {e : Env} {R : Room} {s : State} {m : MethodId} {args : Array Value} {below : List Frame} {meth : Method} {c : Code} {D : cG} {S0 S9 : cSt}
noncomputable def fk_7_learnCursor_29 (S : cSt) : Option (cSt) :=
some S
set_option maxRecDepth 100000 in
set_option maxHeartbeats 4000000 in
theorem wk_7_learnCursor_29 (C : cY p R s m args meth c RX7 cX7_learnCursor 3 2 0 0 60 none) (X : cX D s) : ∀ {S : cSt} {H : Heap} {locs : List Loc} {ls : Array Slot}, fk_7_learnCursor_29 S = some S9 → cJ D S0 s.heap S H locs → lv_has ls 3 [] → W p l e R s m args below meth c H locs 0 0 (MQ below (kW none D S0 S9) args s 0 0 (cA S0)) (F0 m 29 ls []) := by
  intro S H locs ls h hJ hl
  unfold fk_7_learnCursor_29 at h
  cases h
  exact c_retvW C hJ dX7_learnCursor_29
noncomputable def fk_7_learnCursor (S : cSt) (v0 : Nat) (v1 : Nat) (v2 : Int32) : Option (cSt) :=
ckk S v1 3 (bd (kR S v1 1) fun a1 =>
ckk S a1 20 (ck v2 (kL S a1) (
ckk S v0 8 (bd (kR S v0 7) fun a2 =>
ckk S a2 20 (ck v2 (kL S a2) (
if (kI S a1 (Int32.toNatClampNeg v2)) ≤ (kI S a2 (Int32.toNatClampNeg v2)) then (
fk_7_learnCursor_29 S)
else (
ckk S v1 3 (bd (kR S v1 1) fun a4 =>
ckk S v0 8 (bd (kR S v0 7) fun a5 =>
ckk S a4 20 (ckk S a5 20 (ckp ((¬ v2 < 0 ∧ ¬ v2 < 0 ∧ ¬ (4 : Int32) < 0) ∧ (Int32.toNatClampNeg v2) + (Int32.toNatClampNeg (4 : Int32)) ≤ kL S a4 ∧ (Int32.toNatClampNeg v2) + (Int32.toNatClampNeg (4 : Int32)) ≤ kL S a5) (lt (cCp S a4 (Int32.toNatClampNeg v2) a5 (Int32.toNatClampNeg v2) (Int32.toNatClampNeg (4 : Int32))) fun S6 =>
fk_7_learnCursor_29 S6))))))))))))
set_option maxRecDepth 100000 in
set_option maxHeartbeats 4000000 in
theorem tk_7_learnCursor (l : Launch) {D : cG} {S : cSt} {v0 : Nat} {v1 : Nat} {v2 : Int32} {S9 : cSt} (h : fk_7_learnCursor S v0 v1 v2 = some S9) : Met l yX7_learnCursor (Cond.code yX7_learnCursor cX7_learnCursor 3 none :: lw_g) { frames := 2, cells := 0, slots := 0, locals := 60 } (kPi [.ref v0, .ref v1, .int v2] D S) (kW none D S S9) 0 0 (cA S) := by
  refine Met.ofW (cc := cX7_learnCursor) (maxL := 3) (ret := none) (by decide) rfl ?_
  intro p e s m args below meth c s₁ B hml hv
  obtain ⟨rfl, hW, X⟩ := hv
  have C : cY p (headSpec (Cond.code yX7_learnCursor cX7_learnCursor 3 none :: lw_g) { frames := 2, cells := 0, slots := 0, locals := 60 }).room s m _ meth c RX7 cX7_learnCursor 3 2 0 0 60 none := ⟨B.exec, B.bytes, hml, findClass_of_methodNamed B.named, fun w hw => atoms_spec (ws := Cond.code yX7_learnCursor cX7_learnCursor 3 none :: lw_g) B.pre w (List.mem_cons_of_mem _ hw), ⟨Nat.le_refl _, Nat.le_refl _, Nat.le_refl _, Nat.le_refl _⟩, B.returns, B.notSynchronized⟩
  have hl := lv_entry ([.ref v0, .ref v1, .int v2]) (n := 3) (Nat.le_of_ble_eq_true rfl)
  rw [lg_entry_eq]
  generalize (lg_sl ([.ref v0, .ref v1, .int v2]) ++ List.replicate (3 - (lg_sl ([.ref v0, .ref v1, .int v2])).length) Slot.unset).toArray = ls at hl ⊢
  have hl : lv_has ls 3 [(0, .ref v0), (1, .ref v1), (2, .int v2)] := hl
  have hJ : cJ D S s.heap S s.heap [] := cJ.rf hW
  unfold fk_7_learnCursor at h
  refine lv_aload_n C.1 C.2.1 dX7_learnCursor_0 rfl (lv_at hl 1 rfl) ?_
  obtain ⟨hk, h⟩ := ckk_ok h
  obtain ⟨a1, h_a1, h⟩ := bd_ok h
  refine gk7_267 C X hJ.1 hk h_a1 dX7_learnCursor_1 ?_
  refine lv_iload_n C.1 C.2.1 dX7_learnCursor_4 rfl (lv_at hl 2 rfl) ?_
  obtain ⟨hk, h⟩ := ckk_ok h
  obtain ⟨hin2, h⟩ := ck_ok h
  refine c_iald C X hJ.1 hk hin2 dX7_learnCursor_5 ?_
  refine lv_aload_n C.1 C.2.1 dX7_learnCursor_6 rfl (lv_at hl 0 rfl) ?_
  obtain ⟨hk, h⟩ := ckk_ok h
  obtain ⟨a2, h_a2, h⟩ := bd_ok h
  refine gk7_30 C X hJ.1 hk h_a2 dX7_learnCursor_7 ?_
  refine lv_iload_n C.1 C.2.1 dX7_learnCursor_10 rfl (lv_at hl 2 rfl) ?_
  obtain ⟨hk, h⟩ := ckk_ok h
  obtain ⟨hin2, h⟩ := ck_ok h
  refine c_iald C X hJ.1 hk hin2 dX7_learnCursor_11 ?_
  refine lv_icmp_le (tgt := 29) C.1 C.2.1 dX7_learnCursor_12 (by decide) (fun c3 => ?_) (fun c3 => ?_)
  · have h := if_t h c3
    exact wk_7_learnCursor_29 C X h hJ (lv_sub hl [] rfl)
  · have h := if_f h c3
    refine lv_aload_n C.1 C.2.1 dX7_learnCursor_15 rfl (lv_at hl 1 rfl) ?_
    obtain ⟨hk, h⟩ := ckk_ok h
    obtain ⟨a4, h_a4, h⟩ := bd_ok h
    refine gk7_267 C X hJ.1 hk h_a4 dX7_learnCursor_16 ?_
    refine lv_iload_n C.1 C.2.1 dX7_learnCursor_19 rfl (lv_at hl 2 rfl) ?_
    refine lv_aload_n C.1 C.2.1 dX7_learnCursor_20 rfl (lv_at hl 0 rfl) ?_
    obtain ⟨hk, h⟩ := ckk_ok h
    obtain ⟨a5, h_a5, h⟩ := bd_ok h
    refine gk7_30 C X hJ.1 hk h_a5 dX7_learnCursor_21 ?_
    refine lv_iload_n C.1 C.2.1 dX7_learnCursor_24 rfl (lv_at hl 2 rfl) ?_
    refine lv_iconst (v := 4) C.1 C.2.1 dX7_learnCursor_25 (by decide) ?_
    obtain ⟨hk0, h⟩ := ckk_ok h
    obtain ⟨hk1, h⟩ := ckk_ok h
    obtain ⟨hcp, h⟩ := ckp_ok h
    refine c_copy (rest := []) C hl.1 mm7_268 ac_n ac_s ac_i 20 (by decide) (by decide) X.2.1 rfl hJ hk0 hk1 hcp (fun _ _ => rfl) (by decide) (Nat.le_of_ble_eq_true rfl) dX7_learnCursor_26 (fun H locs hJ => ?_)
    refine lt_ok h (fun S6 e_S6 h => ?_)
    rw [e_S6] at hJ
    exact wk_7_learnCursor_29 C X h hJ (lv_sub hl [] rfl)
end
theorem dX7_isReady_0 : decode cX7_isReady 0 = .ok (.aload_n 1, 1) := by decide +kernel
theorem dX7_isReady_1 : decode cX7_isReady 1 = .ok (.getfield 175, 3) := by decide +kernel
theorem dX7_isReady_4 : decode cX7_isReady 4 = .ok (.aload_n 0, 1) := by decide +kernel
theorem dX7_isReady_5 : decode cX7_isReady 5 = .ok (.aload_n 1, 1) := by decide +kernel
theorem dX7_isReady_6 : decode cX7_isReady 6 = .ok (.getfield 172, 3) := by decide +kernel
theorem dX7_isReady_9 : decode cX7_isReady 9 = .ok (.invokevirtual 123, 3) := by decide +kernel
theorem dX7_isReady_12 : decode cX7_isReady 12 = .ok (.iconst 1, 1) := by decide +kernel
theorem dX7_isReady_13 : decode cX7_isReady 13 = .ok (.iadd, 1) := by decide +kernel
theorem dX7_isReady_14 : decode cX7_isReady 14 = .ok (.if_icmp .eq 5, 3) := by decide +kernel
theorem dX7_isReady_17 : decode cX7_isReady 17 = .ok (.iconst 0, 1) := by decide +kernel
theorem dX7_isReady_18 : decode cX7_isReady 18 = .ok (.ireturn, 1) := by decide +kernel
theorem dX7_isReady_19 : decode cX7_isReady 19 = .ok (.iconst 0, 1) := by decide +kernel
theorem dX7_isReady_20 : decode cX7_isReady 20 = .ok (.istore_n 2, 1) := by decide +kernel
theorem dX7_isReady_21 : decode cX7_isReady 21 = .ok (.iload_n 2, 1) := by decide +kernel
theorem dX7_isReady_22 : decode cX7_isReady 22 = .ok (.iconst 4, 1) := by decide +kernel
theorem dX7_isReady_23 : decode cX7_isReady 23 = .ok (.if_icmp .ge 25, 3) := by decide +kernel
theorem dX7_isReady_26 : decode cX7_isReady 26 = .ok (.aload_n 0, 1) := by decide +kernel
theorem dX7_isReady_27 : decode cX7_isReady 27 = .ok (.iload_n 2, 1) := by decide +kernel
theorem dX7_isReady_28 : decode cX7_isReady 28 = .ok (.invokevirtual 123, 3) := by decide +kernel
theorem dX7_isReady_31 : decode cX7_isReady 31 = .ok (.aload_n 1, 1) := by decide +kernel
theorem dX7_isReady_32 : decode cX7_isReady 32 = .ok (.getfield 274, 3) := by decide +kernel
theorem dX7_isReady_35 : decode cX7_isReady 35 = .ok (.iload_n 2, 1) := by decide +kernel
theorem dX7_isReady_36 : decode cX7_isReady 36 = .ok (.iaload, 1) := by decide +kernel
theorem dX7_isReady_37 : decode cX7_isReady 37 = .ok (.if_icmp .ge 5, 3) := by decide +kernel
theorem dX7_isReady_40 : decode cX7_isReady 40 = .ok (.iconst 0, 1) := by decide +kernel
theorem dX7_isReady_41 : decode cX7_isReady 41 = .ok (.ireturn, 1) := by decide +kernel
theorem dX7_isReady_42 : decode cX7_isReady 42 = .ok (.iinc 2 1, 3) := by decide +kernel
theorem dX7_isReady_45 : decode cX7_isReady 45 = .ok (.goto (-24), 3) := by decide +kernel
theorem dX7_isReady_48 : decode cX7_isReady 48 = .ok (.iconst 1, 1) := by decide +kernel
theorem dX7_isReady_49 : decode cX7_isReady 49 = .ok (.ireturn, 1) := by decide +kernel
theorem kd_7_isReady : Cond.code yX7_isReady cX7_isReady 3 (some .boolean) ∈ lw_g := mt_at 1356 (by decide +kernel) rfl
theorem ki_7_isReady : Cond.instanceMethod yX7_isReady ∈ lw_g := mt_at 1355 (by decide +kernel) rfl
theorem kl_7_isReady : Cond.selects (kRn 7) yX7_isReady yX7_isReady ∈ lw_g := mt_sel 28 (by decide +kernel) rfl
section
variable {p : Program} {l : Launch} {e : Env} {R : Room} {s : State} {m : MethodId} {args : Array Value} {below : List Frame} {meth : Method} {c : Code} {H : Heap} {locs : List Loc} {cells slots : Nat} {Q : State → Prop}
variable {D : cG} {S S0 : cSt} {cc : ByteArray} {nL : Nat} {pc : Nat} {ls : Array Slot} {rest : List Value} {H0 : Heap} {nF nR nC nS : Nat} {ret : Option FieldType} {a : Nat}
theorem gk7_274 (C : cY p R s m args meth c RX7 cc nL nF nC nS nR ret) (X : cX D s) (hW : cW D S H) (hk : kK S a = 9) {x : Nat} (hx : kR S a 10 = some x) (hdg : decode cc pc = .ok (.getfield 274, 3)) (kk : W p l e R s m args below meth c H locs cells slots Q (F0 m (pc + 3) ls (.ref x :: rest))) : W p l e R s m args below meth c H locs cells slots Q (F0 m pc ls (.ref a :: rest)) := c_get C X hW 8 (by decide) ly_8 hk 10 (by decide) (mt_at 1016 (by decide +kernel) (by decide +kernel)) hdg (by rw [cV_R (by decide +kernel) hx]; exact kk)
end
section
variable {p : Program} {l : Launch} {e : Env} {R : Room} {s : State} {m : MethodId} {args : Array Value} {below : List Frame} {meth : Method} {c : Code} {D : cG} {S : cSt} {r : Int32}
noncomputable def fk_7_isReady_21 (S : cSt) : Nat → Nat → Nat → Int32 → Option (Int32)
  | 0, _, _, _ => none
  | n + 1, v0, v1, v2 =>
    if (4 : Int32) ≤ v2 then (
    ckz (1 : Int32) (some (1 : Int32)))
    else (
    ckk S v0 8 (bd (fk_7_knownOf S v0 v2) fun r2 =>
    ckk S v1 9 (bd (kR S v1 10) fun a3 =>
    ckk S a3 20 (ck v2 (kL S a3) (
    if (kI S a3 (Int32.toNatClampNeg v2)) ≤ r2 then (
    lt (v2 + (1 : Int32)) fun x5 =>
    fk_7_isReady_21 S n v0 v1 x5)
    else (
    ckz (0 : Int32) (some (0 : Int32))))))))
set_option maxRecDepth 100000 in
set_option maxHeartbeats 4000000 in
theorem wk_7_isReady_21 (C : cY p R s m args meth c RX7 cX7_isReady 3 1 0 0 21 (some .boolean)) (X : cX D s) (hW : cW D S s.heap) : ∀ (n : Nat), ∀ {v0 : Nat} {v1 : Nat} {v2 : Int32} {ls : Array Slot}, fk_7_isReady_21 S n v0 v1 v2 = some r → lv_has ls 3 [(0, .ref v0), (1, .ref v1), (2, .int v2)] → W p l e R s m args below meth c s.heap [] 0 0 (MQ below (kQ (some (.int r))) args s 0 0 mNo) (F0 m 21 ls []) := by
  intro n
  induction n with
  | zero =>
    intro v0 v1 v2 ls h hl
    exact absurd (show (none : Option (Int32)) = _ from h) (fun q => by cases q)
  | succ n ih =>
    intro v0 v1 v2 ls h hl
    rw [fk_7_isReady_21] at h
    refine lv_iload_n C.1 C.2.1 dX7_isReady_21 rfl (lv_at hl 2 rfl) ?_
    refine lv_iconst (v := 4) C.1 C.2.1 dX7_isReady_22 (by decide) ?_
    refine lv_icmp_ge (tgt := 48) C.1 C.2.1 dX7_isReady_23 (by decide) (fun c1 => ?_) (fun c1 => ?_)
    · have h := if_t h c1
      refine lv_iconst (v := 1) C.1 C.2.1 dX7_isReady_48 (by decide) ?_
      obtain ⟨hzo, h⟩ := ckz_ok h
      cases h
      exact c_retn C (by rcases hzo with h9 | h9 <;> (rw [h9]; rfl)) rfl rfl dX7_isReady_49
    · have h := if_f h c1
      refine lv_aload_n C.1 C.2.1 dX7_isReady_26 rfl (lv_at hl 0 rfl) ?_
      refine lv_iload_n C.1 C.2.1 dX7_isReady_27 rfl (lv_at hl 2 rfl) ?_
      obtain ⟨hk, h⟩ := ckk_ok h
      obtain ⟨r2, h_r2, h⟩ := bd_ok h
      refine c_callR (rest := []) C X hW hl.1 7 (by decide) hk [.int v2] (tk_7_knownOf l h_r2) cw7_123 ki_7_knownOf kl_7_knownOf rfl ⟨by decide, by decide⟩ ⟨(by decide), (by decide)⟩ rfl (Nat.le_of_ble_eq_true rfl) dX7_isReady_28 ?_
      refine W.eq (g2 := F0 m 31 ls [.int r2]) rfl ?_
      refine lv_aload_n C.1 C.2.1 dX7_isReady_31 rfl (lv_at hl 1 rfl) ?_
      obtain ⟨hk, h⟩ := ckk_ok h
      obtain ⟨a3, h_a3, h⟩ := bd_ok h
      refine gk7_274 C X hW hk h_a3 dX7_isReady_32 ?_
      refine lv_iload_n C.1 C.2.1 dX7_isReady_35 rfl (lv_at hl 2 rfl) ?_
      obtain ⟨hk, h⟩ := ckk_ok h
      obtain ⟨hin2, h⟩ := ck_ok h
      refine c_iald C X hW hk hin2 dX7_isReady_36 ?_
      refine lv_icmp_ge (tgt := 42) C.1 C.2.1 dX7_isReady_37 (by decide) (fun c4 => ?_) (fun c4 => ?_)
      · have h := if_t h c4
        refine lt_ok h (fun x5 e_x5 h => ?_)
        refine lv_iinc (v := x5) (lv' := [(2, .int x5), (0, .ref v0), (1, .ref v1)]) C.1 C.2.1 dX7_isReady_42 hl (k := 2) rfl (by rw [← e_x5]; rfl) (by decide) rfl (fun ls hl => ?_)
        refine lv_goto (tgt := 21) C.1 C.2.1 dX7_isReady_45 (by decide) ?_
        exact ih h (lv_sub hl [1, 2, 0] rfl)
      · have h := if_f h c4
        refine lv_iconst (v := 0) C.1 C.2.1 dX7_isReady_40 (by decide) ?_
        obtain ⟨hzo, h⟩ := ckz_ok h
        cases h
        exact c_retn C (by rcases hzo with h9 | h9 <;> (rw [h9]; rfl)) rfl rfl dX7_isReady_41
noncomputable def fk_7_isReady (S : cSt) (v0 : Nat) (v1 : Nat) : Option (Int32) :=
ckk S v1 9 (
ckk S v1 9 (
ckk S v0 8 (bd (fk_7_knownOf S v0 (kF S v1 6)) fun r1 =>
if (kF S v1 7) = (r1 + (1 : Int32)) then (
fk_7_isReady_21 S mFU v0 v1 (0 : Int32))
else (
ckz (0 : Int32) (some (0 : Int32))))))
set_option maxRecDepth 100000 in
set_option maxHeartbeats 4000000 in
theorem tk_7_isReady (l : Launch) {D : cG} {S : cSt} {v0 : Nat} {v1 : Nat} {r : Int32}  (h : fk_7_isReady S v0 v1 = some r) : Met l yX7_isReady (Cond.code yX7_isReady cX7_isReady 3 (some .boolean) :: lw_g) { frames := 1, cells := 0, slots := 0, locals := 21 } (kPi [.ref v0, .ref v1] D S) (kQ (some (.int r))) 0 0 (mNo) := by
  refine Met.ofW (cc := cX7_isReady) (maxL := 3) (ret := (some .boolean)) (by decide) rfl ?_
  intro p e s m args below meth c s₁ B hml hv
  obtain ⟨rfl, hW, X⟩ := hv
  have C : cY p (headSpec (Cond.code yX7_isReady cX7_isReady 3 (some .boolean) :: lw_g) { frames := 1, cells := 0, slots := 0, locals := 21 }).room s m _ meth c RX7 cX7_isReady 3 1 0 0 21 (some .boolean) := ⟨B.exec, B.bytes, hml, findClass_of_methodNamed B.named, fun w hw => atoms_spec (ws := Cond.code yX7_isReady cX7_isReady 3 (some .boolean) :: lw_g) B.pre w (List.mem_cons_of_mem _ hw), ⟨Nat.le_refl _, Nat.le_refl _, Nat.le_refl _, Nat.le_refl _⟩, B.returns, B.notSynchronized⟩
  have hl := lv_entry ([.ref v0, .ref v1]) (n := 3) (Nat.le_of_ble_eq_true rfl)
  rw [lg_entry_eq]
  generalize (lg_sl ([.ref v0, .ref v1]) ++ List.replicate (3 - (lg_sl ([.ref v0, .ref v1])).length) Slot.unset).toArray = ls at hl ⊢
  have hl : lv_has ls 3 [(0, .ref v0), (1, .ref v1)] := hl
  unfold fk_7_isReady at h
  refine lv_aload_n C.1 C.2.1 dX7_isReady_0 rfl (lv_at hl 1 rfl) ?_
  obtain ⟨hk, h⟩ := ckk_ok h
  refine gk7_175 C X hW hk dX7_isReady_1 ?_
  refine lv_aload_n C.1 C.2.1 dX7_isReady_4 rfl (lv_at hl 0 rfl) ?_
  refine lv_aload_n C.1 C.2.1 dX7_isReady_5 rfl (lv_at hl 1 rfl) ?_
  obtain ⟨hk, h⟩ := ckk_ok h
  refine gk7_172 C X hW hk dX7_isReady_6 ?_
  obtain ⟨hk, h⟩ := ckk_ok h
  obtain ⟨r1, h_r1, h⟩ := bd_ok h
  refine c_callR (rest := [.int (kF S v1 7)]) C X hW hl.1 7 (by decide) hk [.int (kF S v1 6)] (tk_7_knownOf l h_r1) cw7_123 ki_7_knownOf kl_7_knownOf rfl ⟨by decide, by decide⟩ ⟨(by decide), (by decide)⟩ rfl (Nat.le_of_ble_eq_true rfl) dX7_isReady_9 ?_
  refine W.eq (g2 := F0 m 12 ls [.int r1, .int (kF S v1 7)]) rfl ?_
  refine lv_iconst (v := 1) C.1 C.2.1 dX7_isReady_12 (by decide) ?_
  refine lv_iadd C.1 C.2.1 dX7_isReady_13 ?_
  refine lv_icmp_eq (tgt := 19) C.1 C.2.1 dX7_isReady_14 (by decide) (fun c2 => ?_) (fun c2 => ?_)
  · have h := if_t h c2
    refine lv_iconst (v := 0) C.1 C.2.1 dX7_isReady_19 (by decide) ?_
    refine lv_istore_n (lv' := [(2, .int (0 : Int32)), (0, .ref v0), (1, .ref v1)]) C.1 C.2.1 dX7_isReady_20 rfl hl (by decide) rfl (fun ls hl => ?_)
    exact wk_7_isReady_21 C X hW mFU h (lv_sub hl [1, 2, 0] rfl)
  · have h := if_f h c2
    refine lv_iconst (v := 0) C.1 C.2.1 dX7_isReady_17 (by decide) ?_
    obtain ⟨hzo, h⟩ := ckz_ok h
    cases h
    exact c_retn C (by rcases hzo with h9 | h9 <;> (rw [h9]; rfl)) rfl rfl dX7_isReady_18
end
theorem dX7_await_0 : decode cX7_await 0 = .ok (.iconst 0, 1) := by decide +kernel
theorem dX7_await_1 : decode cX7_await 1 = .ok (.istore_n 2, 1) := by decide +kernel
theorem dX7_await_2 : decode cX7_await 2 = .ok (.iload_n 2, 1) := by decide +kernel
theorem dX7_await_3 : decode cX7_await 3 = .ok (.aload_n 0, 1) := by decide +kernel
theorem dX7_await_4 : decode cX7_await 4 = .ok (.getfield 43, 3) := by decide +kernel
theorem dX7_await_7 : decode cX7_await 7 = .ok (.if_icmp .ge 20, 3) := by decide +kernel
theorem dX7_await_10 : decode cX7_await 10 = .ok (.aload_n 0, 1) := by decide +kernel
theorem dX7_await_11 : decode cX7_await 11 = .ok (.getfield 48, 3) := by decide +kernel
theorem dX7_await_14 : decode cX7_await 14 = .ok (.iload_n 2, 1) := by decide +kernel
theorem dX7_await_15 : decode cX7_await 15 = .ok (.aaload, 1) := by decide +kernel
theorem dX7_await_16 : decode cX7_await 16 = .ok (.aload_n 1, 1) := by decide +kernel
theorem dX7_await_17 : decode cX7_await 17 = .ok (.if_acmp .ne 4, 3) := by decide +kernel
theorem dX7_await_20 : decode cX7_await 20 = .ok (.return_, 1) := by decide +kernel
theorem dX7_await_21 : decode cX7_await 21 = .ok (.iinc 2 1, 3) := by decide +kernel
theorem dX7_await_24 : decode cX7_await 24 = .ok (.goto (-22), 3) := by decide +kernel
theorem dX7_await_27 : decode cX7_await 27 = .ok (.aload_n 0, 1) := by decide +kernel
theorem dX7_await_28 : decode cX7_await 28 = .ok (.getfield 43, 3) := by decide +kernel
theorem dX7_await_31 : decode cX7_await 31 = .ok (.bipush 30, 2) := by decide +kernel
theorem dX7_await_33 : decode cX7_await 33 = .ok (.if_icmp .ge 23, 3) := by decide +kernel
theorem dX7_await_36 : decode cX7_await 36 = .ok (.aload_n 0, 1) := by decide +kernel
theorem dX7_await_37 : decode cX7_await 37 = .ok (.getfield 48, 3) := by decide +kernel
theorem dX7_await_40 : decode cX7_await 40 = .ok (.aload_n 0, 1) := by decide +kernel
theorem dX7_await_41 : decode cX7_await 41 = .ok (.getfield 43, 3) := by decide +kernel
theorem dX7_await_44 : decode cX7_await 44 = .ok (.aload_n 1, 1) := by decide +kernel
theorem dX7_await_45 : decode cX7_await 45 = .ok (.aastore, 1) := by decide +kernel
theorem dX7_await_46 : decode cX7_await 46 = .ok (.aload_n 0, 1) := by decide +kernel
theorem dX7_await_47 : decode cX7_await 47 = .ok (.dup, 1) := by decide +kernel
theorem dX7_await_48 : decode cX7_await 48 = .ok (.getfield 43, 3) := by decide +kernel
theorem dX7_await_51 : decode cX7_await 51 = .ok (.iconst 1, 1) := by decide +kernel
theorem dX7_await_52 : decode cX7_await 52 = .ok (.iadd, 1) := by decide +kernel
theorem dX7_await_53 : decode cX7_await 53 = .ok (.putfield 43, 3) := by decide +kernel
theorem dX7_await_56 : decode cX7_await 56 = .ok (.return_, 1) := by decide +kernel
theorem kd_7_await : Cond.code yX7_await cX7_await 3 none ∈ lw_g := mt_at 1360 (by decide +kernel) rfl
theorem ki_7_await : Cond.instanceMethod yX7_await ∈ lw_g := mt_at 1359 (by decide +kernel) rfl
theorem kl_7_await : Cond.selects (kRn 7) yX7_await yX7_await ∈ lw_g := mt_sel 29 (by decide +kernel) rfl
section
variable {p : Program} {l : Launch} {e : Env} {R : Room} {s : State} {m : MethodId} {args : Array Value} {below : List Frame} {meth : Method} {c : Code} {H : Heap} {locs : List Loc} {cells slots : Nat} {Q : State → Prop}
variable {D : cG} {S S0 : cSt} {cc : ByteArray} {nL : Nat} {pc : Nat} {ls : Array Slot} {rest : List Value} {H0 : Heap} {nF nR nC nS : Nat} {ret : Option FieldType} {a : Nat}
theorem gk7_43 (C : cY p R s m args meth c RX7 cc nL nF nC nS nR ret) (X : cX D s) (hW : cW D S H) (hk : kK S a = 8) (hdg : decode cc pc = .ok (.getfield 43, 3)) (kk : W p l e R s m args below meth c H locs cells slots Q (F0 m (pc + 3) ls (.int (kF S a 11) :: rest))) : W p l e R s m args below meth c H locs cells slots Q (F0 m pc ls (.ref a :: rest)) := c_get C X hW 7 (by decide) ly_7 hk 11 (by decide) (mt_at 327 (by decide +kernel) (by decide +kernel)) hdg (by rw [cV_I (by decide +kernel)]; exact kk)
theorem gk7_48 (C : cY p R s m args meth c RX7 cc nL nF nC nS nR ret) (X : cX D s) (hW : cW D S H) (hk : kK S a = 8) {x : Nat} (hx : kR S a 13 = some x) (hdg : decode cc pc = .ok (.getfield 48, 3)) (kk : W p l e R s m args below meth c H locs cells slots Q (F0 m (pc + 3) ls (.ref x :: rest))) : W p l e R s m args below meth c H locs cells slots Q (F0 m pc ls (.ref a :: rest)) := c_get C X hW 7 (by decide) ly_7 hk 13 (by decide) (mt_at 330 (by decide +kernel) (by decide +kernel)) hdg (by rw [cV_R (by decide +kernel) hx]; exact kk)
end
section
variable {p : Program} {l : Launch} {e : Env} {R : Room} {s : State} {m : MethodId} {args : Array Value} {below : List Frame} {meth : Method} {c : Code} {D : cG} {S0 S9 : cSt}
noncomputable def fk_7_await_56 (S : cSt) : Option (cSt) :=
some S
set_option maxRecDepth 100000 in
set_option maxHeartbeats 4000000 in
theorem wk_7_await_56 (C : cY p R s m args meth c RX7 cX7_await 3 0 0 0 0 none) (X : cX D s) : ∀ {S : cSt} {H : Heap} {locs : List Loc} {ls : Array Slot}, fk_7_await_56 S = some S9 → cJ D S0 s.heap S H locs → lv_has ls 3 [] → W p l e R s m args below meth c H locs 0 0 (MQ below (kW none D S0 S9) args s 0 0 (cA S0)) (F0 m 56 ls []) := by
  intro S H locs ls h hJ hl
  unfold fk_7_await_56 at h
  cases h
  exact c_retvW C hJ dX7_await_56
noncomputable def fk_7_await_2 : Nat → cSt → Nat → Nat → Int32 → Option (cSt)
  | 0, _, _, _, _ => none
  | n + 1, S, v0, v1, v2 =>
    ckk S v0 8 (
    if (kF S v0 11) ≤ v2 then (
    ckk S v0 8 (
    if (30 : Int32) ≤ (kF S v0 11) then (
    fk_7_await_56 S)
    else (
    ckk S v0 8 (bd (kR S v0 13) fun a3 =>
    ckk S v0 8 (
    ckk S a3 30 (ck (kF S v0 11) (kL S a3) (ckq S (some v1) 9 (lt (cWo S a3 (Int32.toNatClampNeg (kF S v0 11)) (some v1)) fun S4 =>
    ckk S4 v0 8 (
    ckk S4 v0 8 (lt (cPi S4 v0 11 ((kF S4 v0 11) + (1 : Int32))) fun S5 =>
    fk_7_await_56 S5))))))))))
    else (
    ckk S v0 8 (bd (kR S v0 13) fun a6 =>
    ckk S a6 30 (ck v2 (kL S a6) (lt (kO S a6 (Int32.toNatClampNeg v2)) fun o7 =>
    if o7 = (some v1) then (
    some S)
    else (
    lt (v2 + (1 : Int32)) fun x9 =>
    fk_7_await_2 n S v0 v1 x9))))))
set_option maxRecDepth 100000 in
set_option maxHeartbeats 4000000 in
theorem wk_7_await_2 (C : cY p R s m args meth c RX7 cX7_await 3 0 0 0 0 none) (X : cX D s) : ∀ (n : Nat), ∀ {S : cSt} {v0 : Nat} {v1 : Nat} {v2 : Int32} {H : Heap} {locs : List Loc} {ls : Array Slot}, fk_7_await_2 n S v0 v1 v2 = some S9 → cJ D S0 s.heap S H locs → lv_has ls 3 [(0, .ref v0), (1, .ref v1), (2, .int v2)] → W p l e R s m args below meth c H locs 0 0 (MQ below (kW none D S0 S9) args s 0 0 (cA S0)) (F0 m 2 ls []) := by
  intro n
  induction n with
  | zero =>
    intro S v0 v1 v2 H locs ls h hJ hl
    exact absurd (show (none : Option (cSt)) = _ from h) (fun q => by cases q)
  | succ n ih =>
    intro S v0 v1 v2 H locs ls h hJ hl
    rw [fk_7_await_2] at h
    refine lv_iload_n C.1 C.2.1 dX7_await_2 rfl (lv_at hl 2 rfl) ?_
    refine lv_aload_n C.1 C.2.1 dX7_await_3 rfl (lv_at hl 0 rfl) ?_
    obtain ⟨hk, h⟩ := ckk_ok h
    refine gk7_43 C X hJ.1 hk dX7_await_4 ?_
    refine lv_icmp_ge (tgt := 27) C.1 C.2.1 dX7_await_7 (by decide) (fun c1 => ?_) (fun c1 => ?_)
    · have h := if_t h c1
      refine lv_aload_n C.1 C.2.1 dX7_await_27 rfl (lv_at hl 0 rfl) ?_
      obtain ⟨hk, h⟩ := ckk_ok h
      refine gk7_43 C X hJ.1 hk dX7_await_28 ?_
      refine lv_bipush (v := 30) C.1 C.2.1 dX7_await_31 (by decide) ?_
      refine lv_icmp_ge (tgt := 56) C.1 C.2.1 dX7_await_33 (by decide) (fun c2 => ?_) (fun c2 => ?_)
      · have h := if_t h c2
        exact wk_7_await_56 C X h hJ (lv_sub hl [] rfl)
      · have h := if_f h c2
        refine lv_aload_n C.1 C.2.1 dX7_await_36 rfl (lv_at hl 0 rfl) ?_
        obtain ⟨hk, h⟩ := ckk_ok h
        obtain ⟨a3, h_a3, h⟩ := bd_ok h
        refine gk7_48 C X hJ.1 hk h_a3 dX7_await_37 ?_
        refine lv_aload_n C.1 C.2.1 dX7_await_40 rfl (lv_at hl 0 rfl) ?_
        obtain ⟨hk, h⟩ := ckk_ok h
        refine gk7_43 C X hJ.1 hk dX7_await_41 ?_
        refine lv_aload_n C.1 C.2.1 dX7_await_44 rfl (lv_at hl 1 rfl) ?_
        obtain ⟨hk, h⟩ := ckk_ok h
        obtain ⟨hin2, h⟩ := ck_ok h
        obtain ⟨hkv, h⟩ := ckq_ok h
        refine c_aastq (o := (some v1)) C X 30 8 (by decide) (by decide) X.2.2.2.2.1 hJ hk hkv hin2 dX7_await_45 (fun H locs hJ => ?_)
        refine lt_ok h (fun S4 e_S4 h => ?_)
        rw [e_S4] at hJ
        refine lv_aload_n C.1 C.2.1 dX7_await_46 rfl (lv_at hl 0 rfl) ?_
        refine lv_dup C.1 C.2.1 dX7_await_47 rfl ?_
        obtain ⟨hk, h⟩ := ckk_ok h
        refine gk7_43 C X hJ.1 hk dX7_await_48 ?_
        refine lv_iconst (v := 1) C.1 C.2.1 dX7_await_51 (by decide) ?_
        refine lv_iadd C.1 C.2.1 dX7_await_52 ?_
        obtain ⟨hk, h⟩ := ckk_ok h
        refine pk7_43 C X hJ hk dX7_await_53 (fun H locs hJ => ?_)
        refine lt_ok h (fun S5 e_S5 h => ?_)
        rw [e_S5] at hJ
        exact wk_7_await_56 C X h hJ (lv_sub hl [] rfl)
    · have h := if_f h c1
      refine lv_aload_n C.1 C.2.1 dX7_await_10 rfl (lv_at hl 0 rfl) ?_
      obtain ⟨hk, h⟩ := ckk_ok h
      obtain ⟨a6, h_a6, h⟩ := bd_ok h
      refine gk7_48 C X hJ.1 hk h_a6 dX7_await_11 ?_
      refine lv_iload_n C.1 C.2.1 dX7_await_14 rfl (lv_at hl 2 rfl) ?_
      obtain ⟨hk, h⟩ := ckk_ok h
      obtain ⟨hin2, h⟩ := ck_ok h
      refine c_aald C 30 (by decide) X.2.2.2.2.1 hJ.1 hk hin2 dX7_await_15 ?_
      refine lt_ok h (fun o7 e_o7 h => ?_)
      refine lv_nmq e_o7 ?_
      refine lv_aload_n C.1 C.2.1 dX7_await_16 rfl (lv_at hl 1 rfl) ?_
      refine lv_acmp_ne (rx := o7) (ry := (some v1)) (tgt := 21) C.1 C.2.1 dX7_await_17 (by decide) (fun c8 => ?_) (fun c8 => ?_)
      · have h := if_f h c8
        refine lt_ok h (fun x9 e_x9 h => ?_)
        refine lv_iinc (v := x9) (lv' := [(2, .int x9), (0, .ref v0), (1, .ref v1)]) C.1 C.2.1 dX7_await_21 hl (k := 2) rfl (by rw [← e_x9]; rfl) (by decide) rfl (fun ls hl => ?_)
        refine lv_goto (tgt := 2) C.1 C.2.1 dX7_await_24 (by decide) ?_
        exact ih h hJ (lv_sub hl [1, 2, 0] rfl)
      · have h := if_t h c8
        cases h
        exact c_retvW C hJ dX7_await_20
noncomputable def fk_7_await (S : cSt) (v0 : Nat) (v1 : Nat) : Option (cSt) :=
fk_7_await_2 mFU S v0 v1 (0 : Int32)
set_option maxRecDepth 100000 in
set_option maxHeartbeats 4000000 in
theorem tk_7_await (l : Launch) {D : cG} {S : cSt} {v0 : Nat} {v1 : Nat} {S9 : cSt} (h : fk_7_await S v0 v1 = some S9) : Met l yX7_await (Cond.code yX7_await cX7_await 3 none :: lw_g) { frames := 0, cells := 0, slots := 0, locals := 0 } (kPi [.ref v0, .ref v1] D S) (kW none D S S9) 0 0 (cA S) := by
  refine Met.ofW (cc := cX7_await) (maxL := 3) (ret := none) (by decide) rfl ?_
  intro p e s m args below meth c s₁ B hml hv
  obtain ⟨rfl, hW, X⟩ := hv
  have C : cY p (headSpec (Cond.code yX7_await cX7_await 3 none :: lw_g) { frames := 0, cells := 0, slots := 0, locals := 0 }).room s m _ meth c RX7 cX7_await 3 0 0 0 0 none := ⟨B.exec, B.bytes, hml, findClass_of_methodNamed B.named, fun w hw => atoms_spec (ws := Cond.code yX7_await cX7_await 3 none :: lw_g) B.pre w (List.mem_cons_of_mem _ hw), ⟨Nat.le_refl _, Nat.le_refl _, Nat.le_refl _, Nat.le_refl _⟩, B.returns, B.notSynchronized⟩
  have hl := lv_entry ([.ref v0, .ref v1]) (n := 3) (Nat.le_of_ble_eq_true rfl)
  rw [lg_entry_eq]
  generalize (lg_sl ([.ref v0, .ref v1]) ++ List.replicate (3 - (lg_sl ([.ref v0, .ref v1])).length) Slot.unset).toArray = ls at hl ⊢
  have hl : lv_has ls 3 [(0, .ref v0), (1, .ref v1)] := hl
  have hJ : cJ D S s.heap S s.heap [] := cJ.rf hW
  unfold fk_7_await at h
  refine lv_iconst (v := 0) C.1 C.2.1 dX7_await_0 (by decide) ?_
  refine lv_istore_n (lv' := [(2, .int (0 : Int32)), (0, .ref v0), (1, .ref v1)]) C.1 C.2.1 dX7_await_1 rfl hl (by decide) rfl (fun ls hl => ?_)
  exact wk_7_await_2 C X mFU h hJ (lv_sub hl [1, 2, 0] rfl)
end
theorem dX7_forgetWaits_0 : decode cX7_forgetWaits 0 = .ok (.iconst 0, 1) := by decide +kernel
theorem dX7_forgetWaits_1 : decode cX7_forgetWaits 1 = .ok (.istore_n 1, 1) := by decide +kernel
theorem dX7_forgetWaits_2 : decode cX7_forgetWaits 2 = .ok (.iconst 0, 1) := by decide +kernel
theorem dX7_forgetWaits_3 : decode cX7_forgetWaits 3 = .ok (.istore_n 2, 1) := by decide +kernel
theorem dX7_forgetWaits_4 : decode cX7_forgetWaits 4 = .ok (.iload_n 2, 1) := by decide +kernel
theorem dX7_forgetWaits_5 : decode cX7_forgetWaits 5 = .ok (.aload_n 0, 1) := by decide +kernel
theorem dX7_forgetWaits_6 : decode cX7_forgetWaits 6 = .ok (.getfield 43, 3) := by decide +kernel
theorem dX7_forgetWaits_9 : decode cX7_forgetWaits 9 = .ok (.if_icmp .ge 40, 3) := by decide +kernel
theorem dX7_forgetWaits_12 : decode cX7_forgetWaits 12 = .ok (.aload_n 0, 1) := by decide +kernel
theorem dX7_forgetWaits_13 : decode cX7_forgetWaits 13 = .ok (.getfield 73, 3) := by decide +kernel
theorem dX7_forgetWaits_16 : decode cX7_forgetWaits 16 = .ok (.aload_n 0, 1) := by decide +kernel
theorem dX7_forgetWaits_17 : decode cX7_forgetWaits 17 = .ok (.getfield 48, 3) := by decide +kernel
theorem dX7_forgetWaits_20 : decode cX7_forgetWaits 20 = .ok (.iload_n 2, 1) := by decide +kernel
theorem dX7_forgetWaits_21 : decode cX7_forgetWaits 21 = .ok (.aaload, 1) := by decide +kernel
theorem dX7_forgetWaits_22 : decode cX7_forgetWaits 22 = .ok (.invokevirtual 251, 3) := by decide +kernel
theorem dX7_forgetWaits_25 : decode cX7_forgetWaits 25 = .ok (.ifCond .ne 18, 3) := by decide +kernel
theorem dX7_forgetWaits_28 : decode cX7_forgetWaits 28 = .ok (.aload_n 0, 1) := by decide +kernel
theorem dX7_forgetWaits_29 : decode cX7_forgetWaits 29 = .ok (.getfield 48, 3) := by decide +kernel
theorem dX7_forgetWaits_32 : decode cX7_forgetWaits 32 = .ok (.iload_n 1, 1) := by decide +kernel
theorem dX7_forgetWaits_33 : decode cX7_forgetWaits 33 = .ok (.aload_n 0, 1) := by decide +kernel
theorem dX7_forgetWaits_34 : decode cX7_forgetWaits 34 = .ok (.getfield 48, 3) := by decide +kernel
theorem dX7_forgetWaits_37 : decode cX7_forgetWaits 37 = .ok (.iload_n 2, 1) := by decide +kernel
theorem dX7_forgetWaits_38 : decode cX7_forgetWaits 38 = .ok (.aaload, 1) := by decide +kernel
theorem dX7_forgetWaits_39 : decode cX7_forgetWaits 39 = .ok (.aastore, 1) := by decide +kernel
theorem dX7_forgetWaits_40 : decode cX7_forgetWaits 40 = .ok (.iinc 1 1, 3) := by decide +kernel
theorem dX7_forgetWaits_43 : decode cX7_forgetWaits 43 = .ok (.iinc 2 1, 3) := by decide +kernel
theorem dX7_forgetWaits_46 : decode cX7_forgetWaits 46 = .ok (.goto (-42), 3) := by decide +kernel
theorem dX7_forgetWaits_49 : decode cX7_forgetWaits 49 = .ok (.aload_n 0, 1) := by decide +kernel
theorem dX7_forgetWaits_50 : decode cX7_forgetWaits 50 = .ok (.iload_n 1, 1) := by decide +kernel
theorem dX7_forgetWaits_51 : decode cX7_forgetWaits 51 = .ok (.putfield 43, 3) := by decide +kernel
theorem dX7_forgetWaits_54 : decode cX7_forgetWaits 54 = .ok (.return_, 1) := by decide +kernel
theorem kd_7_forgetWaits : Cond.code yX7_forgetWaits cX7_forgetWaits 3 none ∈ lw_g := mt_at 1364 (by decide +kernel) rfl
theorem ki_7_forgetWaits : Cond.instanceMethod yX7_forgetWaits ∈ lw_g := mt_at 1363 (by decide +kernel) rfl
theorem kl_7_forgetWaits : Cond.selects (kRn 7) yX7_forgetWaits yX7_forgetWaits ∈ lw_g := mt_sel 30 (by decide +kernel) rfl
theorem cw7_251 : cCw RX7 251 yX4_has cX4_has 2 (some .boolean) 1 := ⟨kd_4_has, mt_at 1352 (by decide +kernel) rfl, mt_at 9 (by decide +kernel) rfl, by decide +kernel⟩
section
variable {p : Program} {l : Launch} {e : Env} {R : Room} {s : State} {m : MethodId} {args : Array Value} {below : List Frame} {meth : Method} {c : Code} {D : cG} {S0 S9 : cSt}
noncomputable def fk_7_forgetWaits_43 (g_4 : cSt → Nat → Int32 → Int32 → Option (cSt)) (S : cSt) (v0 : Nat) (v1 : Int32) (v2 : Int32) : Option (cSt) :=
lt (v2 + (1 : Int32)) fun x1 =>
g_4 S v0 v1 x1
set_option maxRecDepth 100000 in
set_option maxHeartbeats 4000000 in
theorem wk_7_forgetWaits_43 (C : cY p R s m args meth c RX7 cX7_forgetWaits 3 1 0 0 21 none) (X : cX D s) {g_4 : cSt → Nat → Int32 → Int32 → Option (cSt)} (hg_4 : ∀ {S : cSt} {v0 : Nat} {v1 : Int32} {v2 : Int32} {H : Heap} {locs : List Loc} {ls : Array Slot}, g_4 S v0 v1 v2 = some S9 → cJ D S0 s.heap S H locs → lv_has ls 3 [(0, .ref v0), (1, .int v1), (2, .int v2)] → W p l e R s m args below meth c H locs 0 0 (MQ below (kW none D S0 S9) args s 0 0 (cA S0)) (F0 m 4 ls [])) : ∀ {S : cSt} {v0 : Nat} {v1 : Int32} {v2 : Int32} {H : Heap} {locs : List Loc} {ls : Array Slot}, fk_7_forgetWaits_43 g_4 S v0 v1 v2 = some S9 → cJ D S0 s.heap S H locs → lv_has ls 3 [(0, .ref v0), (1, .int v1), (2, .int v2)] → W p l e R s m args below meth c H locs 0 0 (MQ below (kW none D S0 S9) args s 0 0 (cA S0)) (F0 m 43 ls []) := by
  intro S v0 v1 v2 H locs ls h hJ hl
  unfold fk_7_forgetWaits_43 at h
  refine lt_ok h (fun x1 e_x1 h => ?_)
  refine lv_iinc (v := x1) (lv' := [(2, .int x1), (0, .ref v0), (1, .int v1)]) C.1 C.2.1 dX7_forgetWaits_43 hl (k := 2) rfl (by rw [← e_x1]; rfl) (by decide) rfl (fun ls hl => ?_)
  refine lv_goto (tgt := 4) C.1 C.2.1 dX7_forgetWaits_46 (by decide) ?_
  exact hg_4 h hJ (lv_sub hl [1, 2, 0] rfl)
noncomputable def fk_7_forgetWaits_4 : Nat → cSt → Nat → Int32 → Int32 → Option (cSt)
  | 0, _, _, _, _ => none
  | n + 1, S, v0, v1, v2 =>
    ckk S v0 8 (
    if (kF S v0 11) ≤ v2 then (
    ckk S v0 8 (lt (cPi S v0 11 v1) fun S2 =>
    some S2))
    else (
    ckk S v0 8 (bd (kR S v0 1) fun a3 =>
    ckk S v0 8 (bd (kR S v0 13) fun a4 =>
    ckk S a4 30 (ck v2 (kL S a4) (lt (kO S a4 (Int32.toNatClampNeg v2)) fun o5 =>
    bd o5 fun a6 =>
    ckk S a3 5 (bd (fk_4_has S a3 a6) fun r7 =>
    if r7 = 0 then (
    ckk S v0 8 (bd (kR S v0 13) fun a9 =>
    ckk S v0 8 (bd (kR S v0 13) fun a10 =>
    ckk S a10 30 (ck v2 (kL S a10) (lt (kO S a10 (Int32.toNatClampNeg v2)) fun o11 =>
    ckk S a9 30 (ck v1 (kL S a9) (ckq S o11 9 (lt (cWo S a9 (Int32.toNatClampNeg v1) o11) fun S12 =>
    lt (v1 + (1 : Int32)) fun x13 =>
    fk_7_forgetWaits_43 (fk_7_forgetWaits_4 n) S12 v0 x13 v2))))))))
    else (
    fk_7_forgetWaits_43 (fk_7_forgetWaits_4 n) S v0 v1 v2))))))))
set_option maxRecDepth 100000 in
set_option maxHeartbeats 4000000 in
theorem wk_7_forgetWaits_4 (C : cY p R s m args meth c RX7 cX7_forgetWaits 3 1 0 0 21 none) (X : cX D s) : ∀ (n : Nat), ∀ {S : cSt} {v0 : Nat} {v1 : Int32} {v2 : Int32} {H : Heap} {locs : List Loc} {ls : Array Slot}, fk_7_forgetWaits_4 n S v0 v1 v2 = some S9 → cJ D S0 s.heap S H locs → lv_has ls 3 [(0, .ref v0), (1, .int v1), (2, .int v2)] → W p l e R s m args below meth c H locs 0 0 (MQ below (kW none D S0 S9) args s 0 0 (cA S0)) (F0 m 4 ls []) := by
  intro n
  induction n with
  | zero =>
    intro S v0 v1 v2 H locs ls h hJ hl
    exact absurd (show (none : Option (cSt)) = _ from h) (fun q => by cases q)
  | succ n ih =>
    intro S v0 v1 v2 H locs ls h hJ hl
    rw [fk_7_forgetWaits_4] at h
    refine lv_iload_n C.1 C.2.1 dX7_forgetWaits_4 rfl (lv_at hl 2 rfl) ?_
    refine lv_aload_n C.1 C.2.1 dX7_forgetWaits_5 rfl (lv_at hl 0 rfl) ?_
    obtain ⟨hk, h⟩ := ckk_ok h
    refine gk7_43 C X hJ.1 hk dX7_forgetWaits_6 ?_
    refine lv_icmp_ge (tgt := 49) C.1 C.2.1 dX7_forgetWaits_9 (by decide) (fun c1 => ?_) (fun c1 => ?_)
    · have h := if_t h c1
      refine lv_aload_n C.1 C.2.1 dX7_forgetWaits_49 rfl (lv_at hl 0 rfl) ?_
      refine lv_iload_n C.1 C.2.1 dX7_forgetWaits_50 rfl (lv_at hl 1 rfl) ?_
      obtain ⟨hk, h⟩ := ckk_ok h
      refine pk7_43 C X hJ hk dX7_forgetWaits_51 (fun H locs hJ => ?_)
      refine lt_ok h (fun S2 e_S2 h => ?_)
      rw [e_S2] at hJ
      cases h
      exact c_retvW C hJ dX7_forgetWaits_54
    · have h := if_f h c1
      refine lv_aload_n C.1 C.2.1 dX7_forgetWaits_12 rfl (lv_at hl 0 rfl) ?_
      obtain ⟨hk, h⟩ := ckk_ok h
      obtain ⟨a3, h_a3, h⟩ := bd_ok h
      refine gk7_73 C X hJ.1 hk h_a3 dX7_forgetWaits_13 ?_
      refine lv_aload_n C.1 C.2.1 dX7_forgetWaits_16 rfl (lv_at hl 0 rfl) ?_
      obtain ⟨hk, h⟩ := ckk_ok h
      obtain ⟨a4, h_a4, h⟩ := bd_ok h
      refine gk7_48 C X hJ.1 hk h_a4 dX7_forgetWaits_17 ?_
      refine lv_iload_n C.1 C.2.1 dX7_forgetWaits_20 rfl (lv_at hl 2 rfl) ?_
      obtain ⟨hk, h⟩ := ckk_ok h
      obtain ⟨hin2, h⟩ := ck_ok h
      refine c_aald C 30 (by decide) X.2.2.2.2.1 hJ.1 hk hin2 dX7_forgetWaits_21 ?_
      refine lt_ok h (fun o5 e_o5 h => ?_)
      refine lv_nmq e_o5 ?_
      obtain ⟨a6, e_a6, h⟩ := bd_ok h
      revert h; subst e_a6; intro h
      obtain ⟨hk, h⟩ := ckk_ok h
      obtain ⟨r7, h_r7, h⟩ := bd_ok h
      refine c_callR (rest := []) C X hJ.1 hl.1 4 (by decide) hk [.ref a6] (tk_4_has l h_r7) cw7_251 ki_4_has kl_4_has rfl ⟨by decide, by decide⟩ ⟨(by decide), (by decide)⟩ rfl (Nat.le_of_ble_eq_true rfl) dX7_forgetWaits_22 ?_
      refine W.eq (g2 := F0 m 25 ls [.int r7]) rfl ?_
      refine lv_if_ne (tgt := 43) C.1 C.2.1 dX7_forgetWaits_25 (by decide) (fun c8 => ?_) (fun c8 => ?_)
      · have h := if_f h c8
        exact wk_7_forgetWaits_43 C X ih h hJ (lv_sub hl [0, 1, 2] rfl)
      · have h := if_t h c8
        refine lv_aload_n C.1 C.2.1 dX7_forgetWaits_28 rfl (lv_at hl 0 rfl) ?_
        obtain ⟨hk, h⟩ := ckk_ok h
        obtain ⟨a9, h_a9, h⟩ := bd_ok h
        refine gk7_48 C X hJ.1 hk h_a9 dX7_forgetWaits_29 ?_
        refine lv_iload_n C.1 C.2.1 dX7_forgetWaits_32 rfl (lv_at hl 1 rfl) ?_
        refine lv_aload_n C.1 C.2.1 dX7_forgetWaits_33 rfl (lv_at hl 0 rfl) ?_
        obtain ⟨hk, h⟩ := ckk_ok h
        obtain ⟨a10, h_a10, h⟩ := bd_ok h
        refine gk7_48 C X hJ.1 hk h_a10 dX7_forgetWaits_34 ?_
        refine lv_iload_n C.1 C.2.1 dX7_forgetWaits_37 rfl (lv_at hl 2 rfl) ?_
        obtain ⟨hk, h⟩ := ckk_ok h
        obtain ⟨hin2, h⟩ := ck_ok h
        refine c_aald C 30 (by decide) X.2.2.2.2.1 hJ.1 hk hin2 dX7_forgetWaits_38 ?_
        refine lt_ok h (fun o11 e_o11 h => ?_)
        refine lv_nmq e_o11 ?_
        obtain ⟨hk, h⟩ := ckk_ok h
        obtain ⟨hin2, h⟩ := ck_ok h
        obtain ⟨hkv, h⟩ := ckq_ok h
        refine c_aastq (o := o11) C X 30 8 (by decide) (by decide) X.2.2.2.2.1 hJ hk hkv hin2 dX7_forgetWaits_39 (fun H locs hJ => ?_)
        refine lt_ok h (fun S12 e_S12 h => ?_)
        rw [e_S12] at hJ
        refine lt_ok h (fun x13 e_x13 h => ?_)
        refine lv_iinc (v := x13) (lv' := [(1, .int x13), (0, .ref v0), (2, .int v2)]) C.1 C.2.1 dX7_forgetWaits_40 hl (k := 1) rfl (by rw [← e_x13]; rfl) (by decide) rfl (fun ls hl => ?_)
        exact wk_7_forgetWaits_43 C X ih h hJ (lv_sub hl [1, 0, 2] rfl)
noncomputable def fk_7_forgetWaits (S : cSt) (v0 : Nat) : Option (cSt) :=
fk_7_forgetWaits_4 mFU S v0 (0 : Int32) (0 : Int32)
set_option maxRecDepth 100000 in
set_option maxHeartbeats 4000000 in
theorem tk_7_forgetWaits (l : Launch) {D : cG} {S : cSt} {v0 : Nat} {S9 : cSt} (h : fk_7_forgetWaits S v0 = some S9) : Met l yX7_forgetWaits (Cond.code yX7_forgetWaits cX7_forgetWaits 3 none :: lw_g) { frames := 1, cells := 0, slots := 0, locals := 21 } (kPi [.ref v0] D S) (kW none D S S9) 0 0 (cA S) := by
  refine Met.ofW (cc := cX7_forgetWaits) (maxL := 3) (ret := none) (by decide) rfl ?_
  intro p e s m args below meth c s₁ B hml hv
  obtain ⟨rfl, hW, X⟩ := hv
  have C : cY p (headSpec (Cond.code yX7_forgetWaits cX7_forgetWaits 3 none :: lw_g) { frames := 1, cells := 0, slots := 0, locals := 21 }).room s m _ meth c RX7 cX7_forgetWaits 3 1 0 0 21 none := ⟨B.exec, B.bytes, hml, findClass_of_methodNamed B.named, fun w hw => atoms_spec (ws := Cond.code yX7_forgetWaits cX7_forgetWaits 3 none :: lw_g) B.pre w (List.mem_cons_of_mem _ hw), ⟨Nat.le_refl _, Nat.le_refl _, Nat.le_refl _, Nat.le_refl _⟩, B.returns, B.notSynchronized⟩
  have hl := lv_entry ([.ref v0]) (n := 3) (Nat.le_of_ble_eq_true rfl)
  rw [lg_entry_eq]
  generalize (lg_sl ([.ref v0]) ++ List.replicate (3 - (lg_sl ([.ref v0])).length) Slot.unset).toArray = ls at hl ⊢
  have hl : lv_has ls 3 [(0, .ref v0)] := hl
  have hJ : cJ D S s.heap S s.heap [] := cJ.rf hW
  unfold fk_7_forgetWaits at h
  refine lv_iconst (v := 0) C.1 C.2.1 dX7_forgetWaits_0 (by decide) ?_
  refine lv_istore_n (lv' := [(1, .int (0 : Int32)), (0, .ref v0)]) C.1 C.2.1 dX7_forgetWaits_1 rfl hl (by decide) rfl (fun ls hl => ?_)
  refine lv_iconst (v := 0) C.1 C.2.1 dX7_forgetWaits_2 (by decide) ?_
  refine lv_istore_n (lv' := [(2, .int (0 : Int32)), (1, .int (0 : Int32)), (0, .ref v0)]) C.1 C.2.1 dX7_forgetWaits_3 rfl hl (by decide) rfl (fun ls hl => ?_)
  exact wk_7_forgetWaits_4 C X mFU h hJ (lv_sub hl [2, 1, 0] rfl)
end
theorem dX7_firstReady_0 : decode cX7_firstReady 0 = .ok (.aconst_null, 1) := by decide +kernel
theorem dX7_firstReady_1 : decode cX7_firstReady 1 = .ok (.astore_n 1, 1) := by decide +kernel
theorem dX7_firstReady_2 : decode cX7_firstReady 2 = .ok (.iconst 0, 1) := by decide +kernel
theorem dX7_firstReady_3 : decode cX7_firstReady 3 = .ok (.istore_n 2, 1) := by decide +kernel
theorem dX7_firstReady_4 : decode cX7_firstReady 4 = .ok (.iload_n 2, 1) := by decide +kernel
theorem dX7_firstReady_5 : decode cX7_firstReady 5 = .ok (.aload_n 0, 1) := by decide +kernel
theorem dX7_firstReady_6 : decode cX7_firstReady 6 = .ok (.getfield 43, 3) := by decide +kernel
theorem dX7_firstReady_9 : decode cX7_firstReady 9 = .ok (.if_icmp .ge 46, 3) := by decide +kernel
theorem dX7_firstReady_12 : decode cX7_firstReady 12 = .ok (.aload_n 0, 1) := by decide +kernel
theorem dX7_firstReady_13 : decode cX7_firstReady 13 = .ok (.aload_n 0, 1) := by decide +kernel
theorem dX7_firstReady_14 : decode cX7_firstReady 14 = .ok (.getfield 48, 3) := by decide +kernel
theorem dX7_firstReady_17 : decode cX7_firstReady 17 = .ok (.iload_n 2, 1) := by decide +kernel
theorem dX7_firstReady_18 : decode cX7_firstReady 18 = .ok (.aaload, 1) := by decide +kernel
theorem dX7_firstReady_19 : decode cX7_firstReady 19 = .ok (.invokevirtual 254, 3) := by decide +kernel
theorem dX7_firstReady_22 : decode cX7_firstReady 22 = .ok (.ifCond .eq 27, 3) := by decide +kernel
theorem dX7_firstReady_25 : decode cX7_firstReady 25 = .ok (.aload_n 1, 1) := by decide +kernel
theorem dX7_firstReady_26 : decode cX7_firstReady 26 = .ok (.ifnull 16, 3) := by decide +kernel
theorem dX7_firstReady_29 : decode cX7_firstReady 29 = .ok (.aload_n 0, 1) := by decide +kernel
theorem dX7_firstReady_30 : decode cX7_firstReady 30 = .ok (.getfield 48, 3) := by decide +kernel
theorem dX7_firstReady_33 : decode cX7_firstReady 33 = .ok (.iload_n 2, 1) := by decide +kernel
theorem dX7_firstReady_34 : decode cX7_firstReady 34 = .ok (.aaload, 1) := by decide +kernel
theorem dX7_firstReady_35 : decode cX7_firstReady 35 = .ok (.aload_n 1, 1) := by decide +kernel
theorem dX7_firstReady_36 : decode cX7_firstReady 36 = .ok (.invokevirtual 238, 3) := by decide +kernel
theorem dX7_firstReady_39 : decode cX7_firstReady 39 = .ok (.ifCond .eq 10, 3) := by decide +kernel
theorem dX7_firstReady_42 : decode cX7_firstReady 42 = .ok (.aload_n 0, 1) := by decide +kernel
theorem dX7_firstReady_43 : decode cX7_firstReady 43 = .ok (.getfield 48, 3) := by decide +kernel
theorem dX7_firstReady_46 : decode cX7_firstReady 46 = .ok (.iload_n 2, 1) := by decide +kernel
theorem dX7_firstReady_47 : decode cX7_firstReady 47 = .ok (.aaload, 1) := by decide +kernel
theorem dX7_firstReady_48 : decode cX7_firstReady 48 = .ok (.astore_n 1, 1) := by decide +kernel
theorem dX7_firstReady_49 : decode cX7_firstReady 49 = .ok (.iinc 2 1, 3) := by decide +kernel
theorem dX7_firstReady_52 : decode cX7_firstReady 52 = .ok (.goto (-48), 3) := by decide +kernel
theorem dX7_firstReady_55 : decode cX7_firstReady 55 = .ok (.aload_n 1, 1) := by decide +kernel
theorem dX7_firstReady_56 : decode cX7_firstReady 56 = .ok (.areturn, 1) := by decide +kernel
theorem kd_7_firstReady : Cond.code yX7_firstReady cX7_firstReady 3 (some (.object "AccordHouse$Row")) ∈ lw_g := mt_at 1368 (by decide +kernel) rfl
theorem ki_7_firstReady : Cond.instanceMethod yX7_firstReady ∈ lw_g := mt_at 1367 (by decide +kernel) rfl
theorem kl_7_firstReady : Cond.selects (kRn 7) yX7_firstReady yX7_firstReady ∈ lw_g := mt_sel 31 (by decide +kernel) rfl
theorem cw7_254 : cCw RX7 254 yX7_isReady cX7_isReady 3 (some .boolean) 1 := ⟨kd_7_isReady, mt_at 1353 (by decide +kernel) rfl, mt_at 7 (by decide +kernel) rfl, by decide +kernel⟩
section
variable {p : Program} {l : Launch} {e : Env} {R : Room} {s : State} {m : MethodId} {args : Array Value} {below : List Frame} {meth : Method} {c : Code} {D : cG} {S : cSt} {r : Option Nat}
noncomputable def fk_7_firstReady_49 (g_4 : Nat → Option Nat → Int32 → Option (Option Nat)) (S : cSt) (v0 : Nat) (v1 : Option Nat) (v2 : Int32) : Option (Option Nat) :=
lt (v2 + (1 : Int32)) fun x1 =>
g_4 v0 v1 x1
set_option maxRecDepth 100000 in
set_option maxHeartbeats 4000000 in
theorem wk_7_firstReady_49 (C : cY p R s m args meth c RX7 cX7_firstReady 3 2 0 0 43 (some (.object "AccordHouse$Row"))) (X : cX D s) (hW : cW D S s.heap) {g_4 : Nat → Option Nat → Int32 → Option (Option Nat)} (hg_4 : ∀ {v0 : Nat} {v1 : Option Nat} {v2 : Int32} {ls : Array Slot}, g_4 v0 v1 v2 = some r → lv_has ls 3 [(0, .ref v0), (1, va_rf v1), (2, .int v2)] → W p l e R s m args below meth c s.heap [] 0 0 (MQ below (kQ (some (va_rf r))) args s 0 0 mNo) (F0 m 4 ls [])) : ∀ {v0 : Nat} {v1 : Option Nat} {v2 : Int32} {ls : Array Slot}, fk_7_firstReady_49 g_4 S v0 v1 v2 = some r → lv_has ls 3 [(0, .ref v0), (1, va_rf v1), (2, .int v2)] → W p l e R s m args below meth c s.heap [] 0 0 (MQ below (kQ (some (va_rf r))) args s 0 0 mNo) (F0 m 49 ls []) := by
  intro v0 v1 v2 ls h hl
  unfold fk_7_firstReady_49 at h
  refine lt_ok h (fun x1 e_x1 h => ?_)
  refine lv_iinc (v := x1) (lv' := [(2, .int x1), (0, .ref v0), (1, va_rf v1)]) C.1 C.2.1 dX7_firstReady_49 hl (k := 2) rfl (by rw [← e_x1]; rfl) (by decide) (by cases v1 <;> rfl) (fun ls hl => ?_)
  refine lv_goto (tgt := 4) C.1 C.2.1 dX7_firstReady_52 (by decide) ?_
  exact hg_4 h (lv_sub hl [1, 2, 0] rfl)
noncomputable def fk_7_firstReady_42 (g_4 : Nat → Option Nat → Int32 → Option (Option Nat)) (S : cSt) (v0 : Nat) (v2 : Int32) : Option (Option Nat) :=
ckk S v0 8 (bd (kR S v0 13) fun a1 =>
ckk S a1 30 (ck v2 (kL S a1) (lt (kO S a1 (Int32.toNatClampNeg v2)) fun o2 =>
fk_7_firstReady_49 g_4 S v0 o2 v2)))
set_option maxRecDepth 100000 in
set_option maxHeartbeats 4000000 in
theorem wk_7_firstReady_42 (C : cY p R s m args meth c RX7 cX7_firstReady 3 2 0 0 43 (some (.object "AccordHouse$Row"))) (X : cX D s) (hW : cW D S s.heap) {g_4 : Nat → Option Nat → Int32 → Option (Option Nat)} (hg_4 : ∀ {v0 : Nat} {v1 : Option Nat} {v2 : Int32} {ls : Array Slot}, g_4 v0 v1 v2 = some r → lv_has ls 3 [(0, .ref v0), (1, va_rf v1), (2, .int v2)] → W p l e R s m args below meth c s.heap [] 0 0 (MQ below (kQ (some (va_rf r))) args s 0 0 mNo) (F0 m 4 ls [])) : ∀ {v0 : Nat} {v2 : Int32} {ls : Array Slot}, fk_7_firstReady_42 g_4 S v0 v2 = some r → lv_has ls 3 [(0, .ref v0), (2, .int v2)] → W p l e R s m args below meth c s.heap [] 0 0 (MQ below (kQ (some (va_rf r))) args s 0 0 mNo) (F0 m 42 ls []) := by
  intro v0 v2 ls h hl
  unfold fk_7_firstReady_42 at h
  refine lv_aload_n C.1 C.2.1 dX7_firstReady_42 rfl (lv_at hl 0 rfl) ?_
  obtain ⟨hk, h⟩ := ckk_ok h
  obtain ⟨a1, h_a1, h⟩ := bd_ok h
  refine gk7_48 C X hW hk h_a1 dX7_firstReady_43 ?_
  refine lv_iload_n C.1 C.2.1 dX7_firstReady_46 rfl (lv_at hl 1 rfl) ?_
  obtain ⟨hk, h⟩ := ckk_ok h
  obtain ⟨hin2, h⟩ := ck_ok h
  refine c_aald C 30 (by decide) X.2.2.2.2.1 hW hk hin2 dX7_firstReady_47 ?_
  refine lt_ok h (fun o2 e_o2 h => ?_)
  refine lv_nmq e_o2 ?_
  refine lv_astore_nq (o := o2) (lv' := [(1, va_rf o2), (0, .ref v0), (2, .int v2)]) C.1 C.2.1 dX7_firstReady_48 rfl hl (by decide) rfl (fun ls hl => ?_)
  exact wk_7_firstReady_49 C X hW hg_4 h (lv_sub hl [1, 0, 2] rfl)
noncomputable def fk_7_firstReady_4 (S : cSt) : Nat → Nat → Option Nat → Int32 → Option (Option Nat)
  | 0, _, _, _ => none
  | n + 1, v0, v1, v2 =>
    ckk S v0 8 (
    if (kF S v0 11) ≤ v2 then (
    some v1)
    else (
    ckk S v0 8 (bd (kR S v0 13) fun a2 =>
    ckk S a2 30 (ck v2 (kL S a2) (lt (kO S a2 (Int32.toNatClampNeg v2)) fun o3 =>
    bd o3 fun a4 =>
    ckk S v0 8 (bd (fk_7_isReady S v0 a4) fun r5 =>
    if r5 = 0 then (
    fk_7_firstReady_49 (fk_7_firstReady_4 S n) S v0 v1 v2)
    else (
    cs v1 (
    fk_7_firstReady_42 (fk_7_firstReady_4 S n) S v0 v2) (fun a7 =>
    ckk S v0 8 (bd (kR S v0 13) fun a8 =>
    ckk S a8 30 (ck v2 (kL S a8) (lt (kO S a8 (Int32.toNatClampNeg v2)) fun o9 =>
    bd o9 fun a10 =>
    ckk S a10 9 (bd (fk_8_isBefore S a10 a7) fun r11 =>
    if r11 = 0 then (
    fk_7_firstReady_49 (fk_7_firstReady_4 S n) S v0 (some a7) v2)
    else (
    fk_7_firstReady_42 (fk_7_firstReady_4 S n) S v0 v2)))))))))))))
set_option maxRecDepth 100000 in
set_option maxHeartbeats 4000000 in
theorem wk_7_firstReady_4 (C : cY p R s m args meth c RX7 cX7_firstReady 3 2 0 0 43 (some (.object "AccordHouse$Row"))) (X : cX D s) (hW : cW D S s.heap) : ∀ (n : Nat), ∀ {v0 : Nat} {v1 : Option Nat} {v2 : Int32} {ls : Array Slot}, fk_7_firstReady_4 S n v0 v1 v2 = some r → lv_has ls 3 [(0, .ref v0), (1, va_rf v1), (2, .int v2)] → W p l e R s m args below meth c s.heap [] 0 0 (MQ below (kQ (some (va_rf r))) args s 0 0 mNo) (F0 m 4 ls []) := by
  intro n
  induction n with
  | zero =>
    intro v0 v1 v2 ls h hl
    exact absurd (show (none : Option (Option Nat)) = _ from h) (fun q => by cases q)
  | succ n ih =>
    intro v0 v1 v2 ls h hl
    rw [fk_7_firstReady_4] at h
    refine lv_iload_n C.1 C.2.1 dX7_firstReady_4 rfl (lv_at hl 2 rfl) ?_
    refine lv_aload_n C.1 C.2.1 dX7_firstReady_5 rfl (lv_at hl 0 rfl) ?_
    obtain ⟨hk, h⟩ := ckk_ok h
    refine gk7_43 C X hW hk dX7_firstReady_6 ?_
    refine lv_icmp_ge (tgt := 55) C.1 C.2.1 dX7_firstReady_9 (by decide) (fun c1 => ?_) (fun c1 => ?_)
    · have h := if_t h c1
      refine lv_aload_nq (o := v1) C.1 C.2.1 dX7_firstReady_55 rfl (lv_at hl 1 rfl) ?_
      cases h
      exact c_reta C rfl rfl dX7_firstReady_56
    · have h := if_f h c1
      refine lv_aload_n C.1 C.2.1 dX7_firstReady_12 rfl (lv_at hl 0 rfl) ?_
      refine lv_aload_n C.1 C.2.1 dX7_firstReady_13 rfl (lv_at hl 0 rfl) ?_
      obtain ⟨hk, h⟩ := ckk_ok h
      obtain ⟨a2, h_a2, h⟩ := bd_ok h
      refine gk7_48 C X hW hk h_a2 dX7_firstReady_14 ?_
      refine lv_iload_n C.1 C.2.1 dX7_firstReady_17 rfl (lv_at hl 2 rfl) ?_
      obtain ⟨hk, h⟩ := ckk_ok h
      obtain ⟨hin2, h⟩ := ck_ok h
      refine c_aald C 30 (by decide) X.2.2.2.2.1 hW hk hin2 dX7_firstReady_18 ?_
      refine lt_ok h (fun o3 e_o3 h => ?_)
      refine lv_nmq e_o3 ?_
      obtain ⟨a4, e_a4, h⟩ := bd_ok h
      revert h; subst e_a4; intro h
      obtain ⟨hk, h⟩ := ckk_ok h
      obtain ⟨r5, h_r5, h⟩ := bd_ok h
      refine c_callR (rest := []) C X hW hl.1 7 (by decide) hk [.ref a4] (tk_7_isReady l h_r5) cw7_254 ki_7_isReady kl_7_isReady rfl ⟨by decide, by decide⟩ ⟨(by decide), (by decide)⟩ rfl (Nat.le_of_ble_eq_true rfl) dX7_firstReady_19 ?_
      refine W.eq (g2 := F0 m 22 ls [.int r5]) rfl ?_
      refine lv_if_eq (tgt := 49) C.1 C.2.1 dX7_firstReady_22 (by decide) (fun c6 => ?_) (fun c6 => ?_)
      · have h := if_t h c6
        exact wk_7_firstReady_49 C X hW ih h (lv_sub hl [0, 1, 2] rfl)
      · have h := if_f h c6
        refine lv_aload_nq (o := v1) C.1 C.2.1 dX7_firstReady_25 rfl (lv_at hl 1 rfl) ?_
        rcases v1 with _ | a7
        · replace h := cs_n h
          refine lv_ifnullN (tgt := 42) C.1 C.2.1 dX7_firstReady_26 (by decide) ?_
          exact wk_7_firstReady_42 C X hW ih h (lv_sub hl [0, 2] rfl)
        · replace h := cs_s h
          refine lv_ifnull C.1 C.2.1 dX7_firstReady_26 ?_
          refine lv_aload_n C.1 C.2.1 dX7_firstReady_29 rfl (lv_at hl 0 rfl) ?_
          obtain ⟨hk, h⟩ := ckk_ok h
          obtain ⟨a8, h_a8, h⟩ := bd_ok h
          refine gk7_48 C X hW hk h_a8 dX7_firstReady_30 ?_
          refine lv_iload_n C.1 C.2.1 dX7_firstReady_33 rfl (lv_at hl 2 rfl) ?_
          obtain ⟨hk, h⟩ := ckk_ok h
          obtain ⟨hin2, h⟩ := ck_ok h
          refine c_aald C 30 (by decide) X.2.2.2.2.1 hW hk hin2 dX7_firstReady_34 ?_
          refine lt_ok h (fun o9 e_o9 h => ?_)
          refine lv_nmq e_o9 ?_
          refine lv_aload_n C.1 C.2.1 dX7_firstReady_35 rfl (lv_at hl 1 rfl) ?_
          obtain ⟨a10, e_a10, h⟩ := bd_ok h
          revert h; subst e_a10; intro h
          obtain ⟨hk, h⟩ := ckk_ok h
          obtain ⟨r11, h_r11, h⟩ := bd_ok h
          refine c_callR (rest := []) C X hW hl.1 8 (by decide) hk [.ref a7] (tk_8_isBefore l h_r11) cw7_238 ki_8_isBefore kl_8_isBefore rfl ⟨by decide, by decide⟩ ⟨(by decide), (by decide)⟩ rfl (Nat.le_of_ble_eq_true rfl) dX7_firstReady_36 ?_
          refine W.eq (g2 := F0 m 39 ls [.int r11]) rfl ?_
          refine lv_if_eq (tgt := 49) C.1 C.2.1 dX7_firstReady_39 (by decide) (fun c12 => ?_) (fun c12 => ?_)
          · have h := if_t h c12
            exact wk_7_firstReady_49 C X hW ih h (lv_sub hl [0, 1, 2] rfl)
          · have h := if_f h c12
            exact wk_7_firstReady_42 C X hW ih h (lv_sub hl [0, 2] rfl)
noncomputable def fk_7_firstReady (S : cSt) (v0 : Nat) : Option (Option Nat) :=
fk_7_firstReady_4 S mFU v0 none (0 : Int32)
set_option maxRecDepth 100000 in
set_option maxHeartbeats 4000000 in
theorem tk_7_firstReady (l : Launch) {D : cG} {S : cSt} {v0 : Nat} {r : Option Nat}  (h : fk_7_firstReady S v0 = some r) : Met l yX7_firstReady (Cond.code yX7_firstReady cX7_firstReady 3 (some (.object "AccordHouse$Row")) :: lw_g) { frames := 2, cells := 0, slots := 0, locals := 43 } (kPi [.ref v0] D S) (kQ (some (va_rf r))) 0 0 (mNo) := by
  refine Met.ofW (cc := cX7_firstReady) (maxL := 3) (ret := (some (.object "AccordHouse$Row"))) (by decide) rfl ?_
  intro p e s m args below meth c s₁ B hml hv
  obtain ⟨rfl, hW, X⟩ := hv
  have C : cY p (headSpec (Cond.code yX7_firstReady cX7_firstReady 3 (some (.object "AccordHouse$Row")) :: lw_g) { frames := 2, cells := 0, slots := 0, locals := 43 }).room s m _ meth c RX7 cX7_firstReady 3 2 0 0 43 (some (.object "AccordHouse$Row")) := ⟨B.exec, B.bytes, hml, findClass_of_methodNamed B.named, fun w hw => atoms_spec (ws := Cond.code yX7_firstReady cX7_firstReady 3 (some (.object "AccordHouse$Row")) :: lw_g) B.pre w (List.mem_cons_of_mem _ hw), ⟨Nat.le_refl _, Nat.le_refl _, Nat.le_refl _, Nat.le_refl _⟩, B.returns, B.notSynchronized⟩
  have hl := lv_entry ([.ref v0]) (n := 3) (Nat.le_of_ble_eq_true rfl)
  rw [lg_entry_eq]
  generalize (lg_sl ([.ref v0]) ++ List.replicate (3 - (lg_sl ([.ref v0])).length) Slot.unset).toArray = ls at hl ⊢
  have hl : lv_has ls 3 [(0, .ref v0)] := hl
  unfold fk_7_firstReady at h
  refine lv_null C.1 C.2.1 dX7_firstReady_0 ?_
  refine lv_astore_nq (o := none) (lv' := [(1, va_rf none), (0, .ref v0)]) C.1 C.2.1 dX7_firstReady_1 rfl hl (by decide) rfl (fun ls hl => ?_)
  refine lv_iconst (v := 0) C.1 C.2.1 dX7_firstReady_2 (by decide) ?_
  refine lv_istore_n (lv' := [(2, .int (0 : Int32)), (1, va_rf none), (0, .ref v0)]) C.1 C.2.1 dX7_firstReady_3 rfl hl (by decide) rfl (fun ls hl => ?_)
  exact wk_7_firstReady_4 C X hW mFU h (lv_sub hl [2, 1, 0] rfl)
end
theorem dX7_receive_0 : decode cX7_receive 0 = .ok (.iconst 0, 1) := by decide +kernel
theorem dX7_receive_1 : decode cX7_receive 1 = .ok (.istore_n 2, 1) := by decide +kernel
theorem dX7_receive_2 : decode cX7_receive 2 = .ok (.iload_n 2, 1) := by decide +kernel
theorem dX7_receive_3 : decode cX7_receive 3 = .ok (.iconst 4, 1) := by decide +kernel
theorem dX7_receive_4 : decode cX7_receive 4 = .ok (.if_icmp .ge 47, 3) := by decide +kernel
theorem dX7_receive_7 : decode cX7_receive 7 = .ok (.iconst 4, 1) := by decide +kernel
theorem dX7_receive_8 : decode cX7_receive 8 = .ok (.aload_n 1, 1) := by decide +kernel
theorem dX7_receive_9 : decode cX7_receive 9 = .ok (.getfield 241, 3) := by decide +kernel
theorem dX7_receive_12 : decode cX7_receive 12 = .ok (.imul, 1) := by decide +kernel
theorem dX7_receive_13 : decode cX7_receive 13 = .ok (.iload_n 2, 1) := by decide +kernel
theorem dX7_receive_14 : decode cX7_receive 14 = .ok (.iadd, 1) := by decide +kernel
theorem dX7_receive_15 : decode cX7_receive 15 = .ok (.istore_n 3, 1) := by decide +kernel
theorem dX7_receive_16 : decode cX7_receive 16 = .ok (.aload_n 0, 1) := by decide +kernel
theorem dX7_receive_17 : decode cX7_receive 17 = .ok (.getfield 23, 3) := by decide +kernel
theorem dX7_receive_20 : decode cX7_receive 20 = .ok (.iload_n 3, 1) := by decide +kernel
theorem dX7_receive_21 : decode cX7_receive 21 = .ok (.aload_n 0, 1) := by decide +kernel
theorem dX7_receive_22 : decode cX7_receive 22 = .ok (.getfield 23, 3) := by decide +kernel
theorem dX7_receive_25 : decode cX7_receive 25 = .ok (.iload_n 3, 1) := by decide +kernel
theorem dX7_receive_26 : decode cX7_receive 26 = .ok (.iaload, 1) := by decide +kernel
theorem dX7_receive_27 : decode cX7_receive 27 = .ok (.aload_n 1, 1) := by decide +kernel
theorem dX7_receive_28 : decode cX7_receive 28 = .ok (.getfield 244, 3) := by decide +kernel
theorem dX7_receive_31 : decode cX7_receive 31 = .ok (.iload_n 2, 1) := by decide +kernel
theorem dX7_receive_32 : decode cX7_receive 32 = .ok (.iaload, 1) := by decide +kernel
theorem dX7_receive_33 : decode cX7_receive 33 = .ok (.invokestatic 89, 3) := by decide +kernel
theorem dX7_receive_36 : decode cX7_receive 36 = .ok (.iastore, 1) := by decide +kernel
theorem dX7_receive_37 : decode cX7_receive 37 = .ok (.aload_n 0, 1) := by decide +kernel
theorem dX7_receive_38 : decode cX7_receive 38 = .ok (.aload_n 1, 1) := by decide +kernel
theorem dX7_receive_39 : decode cX7_receive 39 = .ok (.iconst 4, 1) := by decide +kernel
theorem dX7_receive_40 : decode cX7_receive 40 = .ok (.iload_n 2, 1) := by decide +kernel
theorem dX7_receive_41 : decode cX7_receive 41 = .ok (.imul, 1) := by decide +kernel
theorem dX7_receive_42 : decode cX7_receive 42 = .ok (.invokevirtual 247, 3) := by decide +kernel
theorem dX7_receive_45 : decode cX7_receive 45 = .ok (.iinc 2 1, 3) := by decide +kernel
theorem dX7_receive_48 : decode cX7_receive 48 = .ok (.goto (-46), 3) := by decide +kernel
theorem dX7_receive_51 : decode cX7_receive 51 = .ok (.iconst 0, 1) := by decide +kernel
theorem dX7_receive_52 : decode cX7_receive 52 = .ok (.istore_n 2, 1) := by decide +kernel
theorem dX7_receive_53 : decode cX7_receive 53 = .ok (.iconst 0, 1) := by decide +kernel
theorem dX7_receive_54 : decode cX7_receive 54 = .ok (.istore_n 3, 1) := by decide +kernel
theorem dX7_receive_55 : decode cX7_receive 55 = .ok (.iload_n 3, 1) := by decide +kernel
theorem dX7_receive_56 : decode cX7_receive 56 = .ok (.aload_n 1, 1) := by decide +kernel
theorem dX7_receive_57 : decode cX7_receive 57 = .ok (.getfield 235, 3) := by decide +kernel
theorem dX7_receive_60 : decode cX7_receive 60 = .ok (.if_icmp .ge 90, 3) := by decide +kernel
theorem dX7_receive_63 : decode cX7_receive 63 = .ok (.aload_n 1, 1) := by decide +kernel
theorem dX7_receive_64 : decode cX7_receive 64 = .ok (.getfield 232, 3) := by decide +kernel
theorem dX7_receive_67 : decode cX7_receive 67 = .ok (.iload_n 3, 1) := by decide +kernel
theorem dX7_receive_68 : decode cX7_receive 68 = .ok (.aaload, 1) := by decide +kernel
theorem dX7_receive_69 : decode cX7_receive 69 = .ok (.astore 4, 2) := by decide +kernel
theorem dX7_receive_71 : decode cX7_receive 71 = .ok (.aload_n 0, 1) := by decide +kernel
theorem dX7_receive_72 : decode cX7_receive 72 = .ok (.getfield 73, 3) := by decide +kernel
theorem dX7_receive_75 : decode cX7_receive 75 = .ok (.aload 4, 2) := by decide +kernel
theorem dX7_receive_77 : decode cX7_receive 77 = .ok (.invokevirtual 251, 3) := by decide +kernel
theorem dX7_receive_80 : decode cX7_receive 80 = .ok (.ifCond .eq 6, 3) := by decide +kernel
theorem dX7_receive_83 : decode cX7_receive 83 = .ok (.goto 61, 3) := by decide +kernel
theorem dX7_receive_86 : decode cX7_receive 86 = .ok (.aload_n 0, 1) := by decide +kernel
theorem dX7_receive_87 : decode cX7_receive 87 = .ok (.aload 4, 2) := by decide +kernel
theorem dX7_receive_89 : decode cX7_receive 89 = .ok (.invokevirtual 254, 3) := by decide +kernel
theorem dX7_receive_92 : decode cX7_receive 92 = .ok (.ifCond .ne 12, 3) := by decide +kernel
theorem dX7_receive_95 : decode cX7_receive 95 = .ok (.aload_n 0, 1) := by decide +kernel
theorem dX7_receive_96 : decode cX7_receive 96 = .ok (.aload 4, 2) := by decide +kernel
theorem dX7_receive_98 : decode cX7_receive 98 = .ok (.invokevirtual 257, 3) := by decide +kernel
theorem dX7_receive_101 : decode cX7_receive 101 = .ok (.goto 43, 3) := by decide +kernel
theorem dX7_receive_104 : decode cX7_receive 104 = .ok (.iconst 0, 1) := by decide +kernel
theorem dX7_receive_105 : decode cX7_receive 105 = .ok (.istore 5, 2) := by decide +kernel
theorem dX7_receive_107 : decode cX7_receive 107 = .ok (.iload 5, 2) := by decide +kernel
theorem dX7_receive_109 : decode cX7_receive 109 = .ok (.bipush 30, 2) := by decide +kernel
theorem dX7_receive_111 : decode cX7_receive 111 = .ok (.if_icmp .gt 33, 3) := by decide +kernel
theorem dX7_receive_114 : decode cX7_receive 114 = .ok (.aload 4, 2) := by decide +kernel
theorem dX7_receive_116 : decode cX7_receive 116 = .ok (.ifnull 28, 3) := by decide +kernel
theorem dX7_receive_119 : decode cX7_receive 119 = .ok (.aload_n 0, 1) := by decide +kernel
theorem dX7_receive_120 : decode cX7_receive 120 = .ok (.aload 4, 2) := by decide +kernel
theorem dX7_receive_122 : decode cX7_receive 122 = .ok (.invokevirtual 133, 3) := by decide +kernel
theorem dX7_receive_125 : decode cX7_receive 125 = .ok (.iinc 2 1, 3) := by decide +kernel
theorem dX7_receive_128 : decode cX7_receive 128 = .ok (.aload_n 0, 1) := by decide +kernel
theorem dX7_receive_129 : decode cX7_receive 129 = .ok (.invokevirtual 260, 3) := by decide +kernel
theorem dX7_receive_132 : decode cX7_receive 132 = .ok (.aload_n 0, 1) := by decide +kernel
theorem dX7_receive_133 : decode cX7_receive 133 = .ok (.invokevirtual 263, 3) := by decide +kernel
theorem dX7_receive_136 : decode cX7_receive 136 = .ok (.astore 4, 2) := by decide +kernel
theorem dX7_receive_138 : decode cX7_receive 138 = .ok (.iinc 5 1, 3) := by decide +kernel
theorem dX7_receive_141 : decode cX7_receive 141 = .ok (.goto (-34), 3) := by decide +kernel
theorem dX7_receive_144 : decode cX7_receive 144 = .ok (.iinc 3 1, 3) := by decide +kernel
theorem dX7_receive_147 : decode cX7_receive 147 = .ok (.goto (-92), 3) := by decide +kernel
theorem dX7_receive_150 : decode cX7_receive 150 = .ok (.iload_n 2, 1) := by decide +kernel
theorem dX7_receive_151 : decode cX7_receive 151 = .ok (.ireturn, 1) := by decide +kernel
theorem kd_7_receive : Cond.code yX7_receive cX7_receive 6 (some .int) ∈ lw_g := mt_at 1346 (by decide +kernel) rfl
theorem ki_7_receive : Cond.instanceMethod yX7_receive ∈ lw_g := mt_at 1344 (by decide +kernel) rfl
theorem kl_7_receive : Cond.selects (kRn 7) yX7_receive yX7_receive ∈ lw_g := mt_at 1345 (by decide +kernel) rfl
theorem cw7_247 : cCw RX7 247 yX7_learnCursor cX7_learnCursor 3 none 2 := ⟨kd_7_learnCursor, mt_at 1347 (by decide +kernel) rfl, mt_at 7 (by decide +kernel) rfl, by decide +kernel⟩
theorem cw7_257 : cCw RX7 257 yX7_await cX7_await 3 none 1 := ⟨kd_7_await, mt_at 1357 (by decide +kernel) rfl, mt_at 7 (by decide +kernel) rfl, by decide +kernel⟩
theorem cw7_260 : cCw RX7 260 yX7_forgetWaits cX7_forgetWaits 3 none 0 := ⟨kd_7_forgetWaits, mt_at 1361 (by decide +kernel) rfl, mt_at 7 (by decide +kernel) rfl, by decide +kernel⟩
theorem cw7_263 : cCw RX7 263 yX7_firstReady cX7_firstReady 3 (some (.object "AccordHouse$Row")) 0 := ⟨kd_7_firstReady, mt_at 1365 (by decide +kernel) rfl, mt_at 7 (by decide +kernel) rfl, by decide +kernel⟩
section
variable {p : Program} {l : Launch} {e : Env} {R : Room} {s : State} {m : MethodId} {args : Array Value} {below : List Frame} {meth : Method} {c : Code} {H : Heap} {locs : List Loc} {cells slots : Nat} {Q : State → Prop}
variable {D : cG} {S S0 : cSt} {cc : ByteArray} {nL : Nat} {pc : Nat} {ls : Array Slot} {rest : List Value} {H0 : Heap} {nF nR nC nS : Nat} {ret : Option FieldType} {a : Nat}
theorem gk7_235 (C : cY p R s m args meth c RX7 cc nL nF nC nS nR ret) (X : cX D s) (hW : cW D S H) (hk : kK S a = 3) (hdg : decode cc pc = .ok (.getfield 235, 3)) (kk : W p l e R s m args below meth c H locs cells slots Q (F0 m (pc + 3) ls (.int (kF S a 6) :: rest))) : W p l e R s m args below meth c H locs cells slots Q (F0 m pc ls (.ref a :: rest)) := c_get C X hW 2 (by decide) ly_2 hk 6 (by decide) (mt_at 1286 (by decide +kernel) (by decide +kernel)) hdg (by rw [cV_I (by decide +kernel)]; exact kk)
theorem gk7_241 (C : cY p R s m args meth c RX7 cc nL nF nC nS nR ret) (X : cX D s) (hW : cW D S H) (hk : kK S a = 3) (hdg : decode cc pc = .ok (.getfield 241, 3)) (kk : W p l e R s m args below meth c H locs cells slots Q (F0 m (pc + 3) ls (.int (kF S a 3) :: rest))) : W p l e R s m args below meth c H locs cells slots Q (F0 m pc ls (.ref a :: rest)) := c_get C X hW 2 (by decide) ly_2 hk 3 (by decide) (mt_at 1279 (by decide +kernel) (by decide +kernel)) hdg (by rw [cV_I (by decide +kernel)]; exact kk)
theorem gk7_244 (C : cY p R s m args meth c RX7 cc nL nF nC nS nR ret) (X : cX D s) (hW : cW D S H) (hk : kK S a = 3) {x : Nat} (hx : kR S a 0 = some x) (hdg : decode cc pc = .ok (.getfield 244, 3)) (kk : W p l e R s m args below meth c H locs cells slots Q (F0 m (pc + 3) ls (.ref x :: rest))) : W p l e R s m args below meth c H locs cells slots Q (F0 m pc ls (.ref a :: rest)) := c_get C X hW 2 (by decide) ly_2 hk 0 (by decide) (mt_at 1271 (by decide +kernel) (by decide +kernel)) hdg (by rw [cV_R (by decide +kernel) hx]; exact kk)
end
section
variable {p : Program} {l : Launch} {e : Env} {R : Room} {s : State} {m : MethodId} {args : Array Value} {below : List Frame} {meth : Method} {c : Code} {D : cG} {S0 S9 : cSt} {r : Int32}
noncomputable def fk_7_receive_144 (g_55 : cSt → Nat → Nat → Int32 → Int32 → Option (Int32 × cSt)) (S : cSt) (v0 : Nat) (v1 : Nat) (v2 : Int32) (v3 : Int32) : Option (Int32 × cSt) :=
lt (v3 + (1 : Int32)) fun x1 =>
g_55 S v0 v1 v2 x1
set_option maxRecDepth 100000 in
set_option maxHeartbeats 4000000 in
theorem wk_7_receive_144 (C : cY p R s m args meth c RX7 cX7_receive 6 5 0 0 117 (some .int)) (X : cX D s) {g_55 : cSt → Nat → Nat → Int32 → Int32 → Option (Int32 × cSt)} (hg_55 : ∀ {S : cSt} {v0 : Nat} {v1 : Nat} {v2 : Int32} {v3 : Int32} {H : Heap} {locs : List Loc} {ls : Array Slot}, g_55 S v0 v1 v2 v3 = some (r, S9) → cJ D S0 s.heap S H locs → lv_has ls 6 [(0, .ref v0), (1, .ref v1), (2, .int v2), (3, .int v3)] → W p l e R s m args below meth c H locs 0 0 (MQ below (kW (some (.int r)) D S0 S9) args s 0 0 (cA S0)) (F0 m 55 ls [])) : ∀ {S : cSt} {v0 : Nat} {v1 : Nat} {v2 : Int32} {v3 : Int32} {H : Heap} {locs : List Loc} {ls : Array Slot}, fk_7_receive_144 g_55 S v0 v1 v2 v3 = some (r, S9) → cJ D S0 s.heap S H locs → lv_has ls 6 [(0, .ref v0), (1, .ref v1), (2, .int v2), (3, .int v3)] → W p l e R s m args below meth c H locs 0 0 (MQ below (kW (some (.int r)) D S0 S9) args s 0 0 (cA S0)) (F0 m 144 ls []) := by
  intro S v0 v1 v2 v3 H locs ls h hJ hl
  unfold fk_7_receive_144 at h
  refine lt_ok h (fun x1 e_x1 h => ?_)
  refine lv_iinc (v := x1) (lv' := [(3, .int x1), (0, .ref v0), (1, .ref v1), (2, .int v2)]) C.1 C.2.1 dX7_receive_144 hl (k := 3) rfl (by rw [← e_x1]; rfl) (by decide) rfl (fun ls hl => ?_)
  refine lv_goto (tgt := 55) C.1 C.2.1 dX7_receive_147 (by decide) ?_
  exact hg_55 h hJ (lv_sub hl [1, 2, 3, 0] rfl)
noncomputable def fk_7_receive_107 (g_55 : cSt → Nat → Nat → Int32 → Int32 → Option (Int32 × cSt)) : Nat → cSt → Nat → Nat → Int32 → Int32 → Option Nat → Int32 → Option (Int32 × cSt)
  | 0, _, _, _, _, _, _, _ => none
  | n + 1, S, v0, v1, v2, v3, v4, v5 =>
    if (30 : Int32) < v5 then (
    fk_7_receive_144 g_55 S v0 v1 v2 v3)
    else (
    cs v4 (
    fk_7_receive_144 g_55 S v0 v1 v2 v3) (fun a2 =>
    ckk S v0 8 (bd (fk_7_apply S v0 a2) fun S3 =>
    lt (v2 + (1 : Int32)) fun x4 =>
    ckk S3 v0 8 (bd (fk_7_forgetWaits S3 v0) fun S5 =>
    ckk S5 v0 8 (bd (fk_7_firstReady S5 v0) fun o6 =>
    lt (v5 + (1 : Int32)) fun x7 =>
    fk_7_receive_107 g_55 n S5 v0 v1 x4 v3 o6 x7)))))
set_option maxRecDepth 100000 in
set_option maxHeartbeats 4000000 in
theorem wk_7_receive_107 (C : cY p R s m args meth c RX7 cX7_receive 6 5 0 0 117 (some .int)) (X : cX D s) {g_55 : cSt → Nat → Nat → Int32 → Int32 → Option (Int32 × cSt)} (hg_55 : ∀ {S : cSt} {v0 : Nat} {v1 : Nat} {v2 : Int32} {v3 : Int32} {H : Heap} {locs : List Loc} {ls : Array Slot}, g_55 S v0 v1 v2 v3 = some (r, S9) → cJ D S0 s.heap S H locs → lv_has ls 6 [(0, .ref v0), (1, .ref v1), (2, .int v2), (3, .int v3)] → W p l e R s m args below meth c H locs 0 0 (MQ below (kW (some (.int r)) D S0 S9) args s 0 0 (cA S0)) (F0 m 55 ls [])) : ∀ (n : Nat), ∀ {S : cSt} {v0 : Nat} {v1 : Nat} {v2 : Int32} {v3 : Int32} {v4 : Option Nat} {v5 : Int32} {H : Heap} {locs : List Loc} {ls : Array Slot}, fk_7_receive_107 g_55 n S v0 v1 v2 v3 v4 v5 = some (r, S9) → cJ D S0 s.heap S H locs → lv_has ls 6 [(0, .ref v0), (1, .ref v1), (2, .int v2), (3, .int v3), (4, va_rf v4), (5, .int v5)] → W p l e R s m args below meth c H locs 0 0 (MQ below (kW (some (.int r)) D S0 S9) args s 0 0 (cA S0)) (F0 m 107 ls []) := by
  intro n
  induction n with
  | zero =>
    intro S v0 v1 v2 v3 v4 v5 H locs ls h hJ hl
    exact absurd (show (none : Option (Int32 × cSt)) = _ from h) (fun q => by cases q)
  | succ n ih =>
    intro S v0 v1 v2 v3 v4 v5 H locs ls h hJ hl
    rw [fk_7_receive_107] at h
    refine lv_iload C.1 C.2.1 dX7_receive_107 (lv_at hl 5 rfl) ?_
    refine lv_bipush (v := 30) C.1 C.2.1 dX7_receive_109 (by decide) ?_
    refine lv_icmp_gt (tgt := 144) C.1 C.2.1 dX7_receive_111 (by decide) (fun c1 => ?_) (fun c1 => ?_)
    · have h := if_t h c1
      exact wk_7_receive_144 C X hg_55 h hJ (lv_sub hl [0, 1, 2, 3] rfl)
    · have h := if_f h c1
      refine lv_aloadq (o := v4) C.1 C.2.1 dX7_receive_114 (lv_at hl 4 rfl) ?_
      rcases v4 with _ | a2
      · replace h := cs_n h
        refine lv_ifnullN (tgt := 144) C.1 C.2.1 dX7_receive_116 (by decide) ?_
        exact wk_7_receive_144 C X hg_55 h hJ (lv_sub hl [0, 1, 2, 3] rfl)
      · replace h := cs_s h
        refine lv_ifnull C.1 C.2.1 dX7_receive_116 ?_
        refine lv_aload_n C.1 C.2.1 dX7_receive_119 rfl (lv_at hl 0 rfl) ?_
        refine lv_aload C.1 C.2.1 dX7_receive_120 (lv_at hl 4 rfl) ?_
        obtain ⟨hk, h⟩ := ckk_ok h
        obtain ⟨S3, h_S3, h⟩ := bd_ok h
        refine c_callW (rest := []) C X hJ hl.1 7 (by decide) hk [.ref a2] (tk_7_apply l h_S3) cw7_133 ki_7_apply kl_7_apply rfl ⟨by decide, by decide⟩ ⟨(by decide), (by decide)⟩ rfl (Nat.le_of_ble_eq_true rfl) dX7_receive_122 (fun H locs hJ => ?_)
        refine W.eq (g2 := F0 m 125 ls []) rfl ?_
        refine lt_ok h (fun x4 e_x4 h => ?_)
        refine lv_iinc (v := x4) (lv' := [(2, .int x4), (0, .ref v0), (1, .ref v1), (3, .int v3), (4, .ref a2), (5, .int v5)]) C.1 C.2.1 dX7_receive_125 hl (k := 2) rfl (by rw [← e_x4]; rfl) (by decide) rfl (fun ls hl => ?_)
        refine lv_aload_n C.1 C.2.1 dX7_receive_128 rfl (lv_at hl 1 rfl) ?_
        obtain ⟨hk, h⟩ := ckk_ok h
        obtain ⟨S5, h_S5, h⟩ := bd_ok h
        refine c_callW (rest := []) C X hJ hl.1 7 (by decide) hk [] (tk_7_forgetWaits l h_S5) cw7_260 ki_7_forgetWaits kl_7_forgetWaits rfl ⟨by decide, by decide⟩ ⟨(by decide), (by decide)⟩ rfl (Nat.le_of_ble_eq_true rfl) dX7_receive_129 (fun H locs hJ => ?_)
        refine W.eq (g2 := F0 m 132 ls []) rfl ?_
        refine lv_aload_n C.1 C.2.1 dX7_receive_132 rfl (lv_at hl 1 rfl) ?_
        obtain ⟨hk, h⟩ := ckk_ok h
        obtain ⟨o6, h_o6, h⟩ := bd_ok h
        refine c_callR (rest := []) C X hJ.1 hl.1 7 (by decide) hk [] (tk_7_firstReady l h_o6) cw7_263 ki_7_firstReady kl_7_firstReady rfl ⟨by decide, by decide⟩ ⟨(by decide), (by decide)⟩ rfl (Nat.le_of_ble_eq_true rfl) dX7_receive_133 ?_
        refine W.eq (g2 := F0 m 136 ls [va_rf o6]) rfl ?_
        refine lv_astoreq (o := o6) (lv' := [(4, va_rf o6), (2, .int x4), (0, .ref v0), (1, .ref v1), (3, .int v3), (5, .int v5)]) C.1 C.2.1 dX7_receive_136 hl (by decide) rfl (fun ls hl => ?_)
        refine lt_ok h (fun x7 e_x7 h => ?_)
        refine lv_iinc (v := x7) (lv' := [(5, .int x7), (4, va_rf o6), (2, .int x4), (0, .ref v0), (1, .ref v1), (3, .int v3)]) C.1 C.2.1 dX7_receive_138 hl (k := 5) rfl (by rw [← e_x7]; rfl) (by decide) (by cases o6 <;> rfl) (fun ls hl => ?_)
        refine lv_goto (tgt := 107) C.1 C.2.1 dX7_receive_141 (by decide) ?_
        exact ih h hJ (lv_sub hl [3, 4, 2, 5, 1, 0] rfl)
noncomputable def fk_7_receive_55 : Nat → cSt → Nat → Nat → Int32 → Int32 → Option (Int32 × cSt)
  | 0, _, _, _, _, _ => none
  | n + 1, S, v0, v1, v2, v3 =>
    ckk S v1 3 (
    if (kF S v1 6) ≤ v3 then (
    some (v2, S))
    else (
    ckk S v1 3 (bd (kR S v1 2) fun a2 =>
    ckk S a2 30 (ck v3 (kL S a2) (lt (kO S a2 (Int32.toNatClampNeg v3)) fun o3 =>
    ckk S v0 8 (bd (kR S v0 1) fun a4 =>
    bd o3 fun a5 =>
    ckk S a4 5 (bd (fk_4_has S a4 a5) fun r6 =>
    if r6 = 0 then (
    ckk S v0 8 (bd (fk_7_isReady S v0 a5) fun r8 =>
    if r8 = 0 then (
    ckk S v0 8 (bd (fk_7_await S v0 a5) fun S10 =>
    fk_7_receive_144 (fk_7_receive_55 n) S10 v0 v1 v2 v3))
    else (
    fk_7_receive_107 (fk_7_receive_55 n) mFU S v0 v1 v2 v3 (some a5) (0 : Int32))))
    else (
    fk_7_receive_144 (fk_7_receive_55 n) S v0 v1 v2 v3))))))))
set_option maxRecDepth 100000 in
set_option maxHeartbeats 4000000 in
theorem wk_7_receive_55 (C : cY p R s m args meth c RX7 cX7_receive 6 5 0 0 117 (some .int)) (X : cX D s) : ∀ (n : Nat), ∀ {S : cSt} {v0 : Nat} {v1 : Nat} {v2 : Int32} {v3 : Int32} {H : Heap} {locs : List Loc} {ls : Array Slot}, fk_7_receive_55 n S v0 v1 v2 v3 = some (r, S9) → cJ D S0 s.heap S H locs → lv_has ls 6 [(0, .ref v0), (1, .ref v1), (2, .int v2), (3, .int v3)] → W p l e R s m args below meth c H locs 0 0 (MQ below (kW (some (.int r)) D S0 S9) args s 0 0 (cA S0)) (F0 m 55 ls []) := by
  intro n
  induction n with
  | zero =>
    intro S v0 v1 v2 v3 H locs ls h hJ hl
    exact absurd (show (none : Option (Int32 × cSt)) = _ from h) (fun q => by cases q)
  | succ n ih =>
    intro S v0 v1 v2 v3 H locs ls h hJ hl
    rw [fk_7_receive_55] at h
    refine lv_iload_n C.1 C.2.1 dX7_receive_55 rfl (lv_at hl 3 rfl) ?_
    refine lv_aload_n C.1 C.2.1 dX7_receive_56 rfl (lv_at hl 1 rfl) ?_
    obtain ⟨hk, h⟩ := ckk_ok h
    refine gk7_235 C X hJ.1 hk dX7_receive_57 ?_
    refine lv_icmp_ge (tgt := 150) C.1 C.2.1 dX7_receive_60 (by decide) (fun c1 => ?_) (fun c1 => ?_)
    · have h := if_t h c1
      refine lv_iload_n C.1 C.2.1 dX7_receive_150 rfl (lv_at hl 2 rfl) ?_
      cases h
      exact c_retiW C hJ dX7_receive_151
    · have h := if_f h c1
      refine lv_aload_n C.1 C.2.1 dX7_receive_63 rfl (lv_at hl 1 rfl) ?_
      obtain ⟨hk, h⟩ := ckk_ok h
      obtain ⟨a2, h_a2, h⟩ := bd_ok h
      refine gk7_232 C X hJ.1 hk h_a2 dX7_receive_64 ?_
      refine lv_iload_n C.1 C.2.1 dX7_receive_67 rfl (lv_at hl 3 rfl) ?_
      obtain ⟨hk, h⟩ := ckk_ok h
      obtain ⟨hin2, h⟩ := ck_ok h
      refine c_aald C 30 (by decide) X.2.2.2.2.1 hJ.1 hk hin2 dX7_receive_68 ?_
      refine lt_ok h (fun o3 e_o3 h => ?_)
      refine lv_nmq e_o3 ?_
      refine lv_astoreq (o := o3) (lv' := [(4, va_rf o3), (0, .ref v0), (1, .ref v1), (2, .int v2), (3, .int v3)]) C.1 C.2.1 dX7_receive_69 hl (by decide) rfl (fun ls hl => ?_)
      refine lv_aload_n C.1 C.2.1 dX7_receive_71 rfl (lv_at hl 1 rfl) ?_
      obtain ⟨hk, h⟩ := ckk_ok h
      obtain ⟨a4, h_a4, h⟩ := bd_ok h
      refine gk7_73 C X hJ.1 hk h_a4 dX7_receive_72 ?_
      refine lv_aloadq (o := o3) C.1 C.2.1 dX7_receive_75 (lv_at hl 0 rfl) ?_
      obtain ⟨a5, e_a5, h⟩ := bd_ok h
      revert h; subst e_a5; intro h
      obtain ⟨hk, h⟩ := ckk_ok h
      obtain ⟨r6, h_r6, h⟩ := bd_ok h
      refine c_callR (rest := []) C X hJ.1 hl.1 4 (by decide) hk [.ref a5] (tk_4_has l h_r6) cw7_251 ki_4_has kl_4_has rfl ⟨by decide, by decide⟩ ⟨(by decide), (by decide)⟩ rfl (Nat.le_of_ble_eq_true rfl) dX7_receive_77 ?_
      refine W.eq (g2 := F0 m 80 ls [.int r6]) rfl ?_
      refine lv_if_eq (tgt := 86) C.1 C.2.1 dX7_receive_80 (by decide) (fun c7 => ?_) (fun c7 => ?_)
      · have h := if_t h c7
        refine lv_aload_n C.1 C.2.1 dX7_receive_86 rfl (lv_at hl 1 rfl) ?_
        refine lv_aload C.1 C.2.1 dX7_receive_87 (lv_at hl 0 rfl) ?_
        obtain ⟨hk, h⟩ := ckk_ok h
        obtain ⟨r8, h_r8, h⟩ := bd_ok h
        refine c_callR (rest := []) C X hJ.1 hl.1 7 (by decide) hk [.ref a5] (tk_7_isReady l h_r8) cw7_254 ki_7_isReady kl_7_isReady rfl ⟨by decide, by decide⟩ ⟨(by decide), (by decide)⟩ rfl (Nat.le_of_ble_eq_true rfl) dX7_receive_89 ?_
        refine W.eq (g2 := F0 m 92 ls [.int r8]) rfl ?_
        refine lv_if_ne (tgt := 104) C.1 C.2.1 dX7_receive_92 (by decide) (fun c9 => ?_) (fun c9 => ?_)
        · have h := if_f h c9
          refine lv_iconst (v := 0) C.1 C.2.1 dX7_receive_104 (by decide) ?_
          refine lv_istore (lv' := [(5, .int (0 : Int32)), (4, .ref a5), (0, .ref v0), (1, .ref v1), (2, .int v2), (3, .int v3)]) C.1 C.2.1 dX7_receive_105 hl (by decide) rfl (fun ls hl => ?_)
          exact wk_7_receive_107 C X ih mFU h hJ (lv_sub hl [2, 3, 4, 5, 1, 0] rfl)
        · have h := if_t h c9
          refine lv_aload_n C.1 C.2.1 dX7_receive_95 rfl (lv_at hl 1 rfl) ?_
          refine lv_aload C.1 C.2.1 dX7_receive_96 (lv_at hl 0 rfl) ?_
          obtain ⟨hk, h⟩ := ckk_ok h
          obtain ⟨S10, h_S10, h⟩ := bd_ok h
          refine c_callW (rest := []) C X hJ hl.1 7 (by decide) hk [.ref a5] (tk_7_await l h_S10) cw7_257 ki_7_await kl_7_await rfl ⟨by decide, by decide⟩ ⟨(by decide), (by decide)⟩ rfl (Nat.le_of_ble_eq_true rfl) dX7_receive_98 (fun H locs hJ => ?_)
          refine W.eq (g2 := F0 m 101 ls []) rfl ?_
          refine lv_goto (tgt := 144) C.1 C.2.1 dX7_receive_101 (by decide) ?_
          exact wk_7_receive_144 C X ih h hJ (lv_sub hl [1, 2, 3, 4] rfl)
      · have h := if_f h c7
        refine lv_goto (tgt := 144) C.1 C.2.1 dX7_receive_83 (by decide) ?_
        exact wk_7_receive_144 C X ih h hJ (lv_sub hl [1, 2, 3, 4] rfl)
noncomputable def fk_7_receive_2 : Nat → cSt → Nat → Nat → Int32 → Option (Int32 × cSt)
  | 0, _, _, _, _ => none
  | n + 1, S, v0, v1, v2 =>
    if (4 : Int32) ≤ v2 then (
    fk_7_receive_55 mFU S v0 v1 (0 : Int32) (0 : Int32))
    else (
    ckk S v1 3 (
    lt (((4 : Int32) * (kF S v1 3)) + v2) fun x2 =>
    ckk S v0 8 (bd (kR S v0 5) fun a3 =>
    ckk S v0 8 (bd (kR S v0 5) fun a4 =>
    ckk S a4 20 (ck x2 (kL S a4) (
    ckk S v1 3 (bd (kR S v1 0) fun a5 =>
    ckk S a5 20 (ck v2 (kL S a5) (
    ckk S a3 20 (ck x2 (kL S a3) (lt (cWi S a3 (Int32.toNatClampNeg x2) (if (kI S a4 (Int32.toNatClampNeg x2)) < (kI S a5 (Int32.toNatClampNeg v2)) then (kI S a5 (Int32.toNatClampNeg v2)) else (kI S a4 (Int32.toNatClampNeg x2)))) fun S6 =>
    ckk S6 v0 8 (bd (fk_7_learnCursor S6 v0 v1 ((4 : Int32) * v2)) fun S7 =>
    lt (v2 + (1 : Int32)) fun x8 =>
    fk_7_receive_2 n S7 v0 v1 x8))))))))))))
set_option maxRecDepth 100000 in
set_option maxHeartbeats 4000000 in
theorem wk_7_receive_2 (C : cY p R s m args meth c RX7 cX7_receive 6 5 0 0 117 (some .int)) (X : cX D s) : ∀ (n : Nat), ∀ {S : cSt} {v0 : Nat} {v1 : Nat} {v2 : Int32} {H : Heap} {locs : List Loc} {ls : Array Slot}, fk_7_receive_2 n S v0 v1 v2 = some (r, S9) → cJ D S0 s.heap S H locs → lv_has ls 6 [(0, .ref v0), (1, .ref v1), (2, .int v2)] → W p l e R s m args below meth c H locs 0 0 (MQ below (kW (some (.int r)) D S0 S9) args s 0 0 (cA S0)) (F0 m 2 ls []) := by
  intro n
  induction n with
  | zero =>
    intro S v0 v1 v2 H locs ls h hJ hl
    exact absurd (show (none : Option (Int32 × cSt)) = _ from h) (fun q => by cases q)
  | succ n ih =>
    intro S v0 v1 v2 H locs ls h hJ hl
    rw [fk_7_receive_2] at h
    refine lv_iload_n C.1 C.2.1 dX7_receive_2 rfl (lv_at hl 2 rfl) ?_
    refine lv_iconst (v := 4) C.1 C.2.1 dX7_receive_3 (by decide) ?_
    refine lv_icmp_ge (tgt := 51) C.1 C.2.1 dX7_receive_4 (by decide) (fun c1 => ?_) (fun c1 => ?_)
    · have h := if_t h c1
      refine lv_iconst (v := 0) C.1 C.2.1 dX7_receive_51 (by decide) ?_
      refine lv_istore_n (lv' := [(2, .int (0 : Int32)), (0, .ref v0), (1, .ref v1)]) C.1 C.2.1 dX7_receive_52 rfl hl (by decide) rfl (fun ls hl => ?_)
      refine lv_iconst (v := 0) C.1 C.2.1 dX7_receive_53 (by decide) ?_
      refine lv_istore_n (lv' := [(3, .int (0 : Int32)), (2, .int (0 : Int32)), (0, .ref v0), (1, .ref v1)]) C.1 C.2.1 dX7_receive_54 rfl hl (by decide) rfl (fun ls hl => ?_)
      exact wk_7_receive_55 C X mFU h hJ (lv_sub hl [2, 3, 1, 0] rfl)
    · have h := if_f h c1
      refine lv_iconst (v := 4) C.1 C.2.1 dX7_receive_7 (by decide) ?_
      refine lv_aload_n C.1 C.2.1 dX7_receive_8 rfl (lv_at hl 1 rfl) ?_
      obtain ⟨hk, h⟩ := ckk_ok h
      refine gk7_241 C X hJ.1 hk dX7_receive_9 ?_
      refine lv_imul C.1 C.2.1 dX7_receive_12 ?_
      refine lv_iload_n C.1 C.2.1 dX7_receive_13 rfl (lv_at hl 2 rfl) ?_
      refine lv_iadd C.1 C.2.1 dX7_receive_14 ?_
      refine lt_ok h (fun x2 e_x2 h => ?_)
      refine lv_nm e_x2 ?_
      refine lv_istore_n (lv' := [(3, .int x2), (0, .ref v0), (1, .ref v1), (2, .int v2)]) C.1 C.2.1 dX7_receive_15 rfl hl (by decide) rfl (fun ls hl => ?_)
      refine lv_aload_n C.1 C.2.1 dX7_receive_16 rfl (lv_at hl 1 rfl) ?_
      obtain ⟨hk, h⟩ := ckk_ok h
      obtain ⟨a3, h_a3, h⟩ := bd_ok h
      refine gk7_23 C X hJ.1 hk h_a3 dX7_receive_17 ?_
      refine lv_iload_n C.1 C.2.1 dX7_receive_20 rfl (lv_at hl 0 rfl) ?_
      refine lv_aload_n C.1 C.2.1 dX7_receive_21 rfl (lv_at hl 1 rfl) ?_
      obtain ⟨hk, h⟩ := ckk_ok h
      obtain ⟨a4, h_a4, h⟩ := bd_ok h
      refine gk7_23 C X hJ.1 hk h_a4 dX7_receive_22 ?_
      refine lv_iload_n C.1 C.2.1 dX7_receive_25 rfl (lv_at hl 0 rfl) ?_
      obtain ⟨hk, h⟩ := ckk_ok h
      obtain ⟨hin2, h⟩ := ck_ok h
      refine c_iald C X hJ.1 hk hin2 dX7_receive_26 ?_
      refine lv_aload_n C.1 C.2.1 dX7_receive_27 rfl (lv_at hl 2 rfl) ?_
      obtain ⟨hk, h⟩ := ckk_ok h
      obtain ⟨a5, h_a5, h⟩ := bd_ok h
      refine gk7_244 C X hJ.1 hk h_a5 dX7_receive_28 ?_
      refine lv_iload_n C.1 C.2.1 dX7_receive_31 rfl (lv_at hl 3 rfl) ?_
      obtain ⟨hk, h⟩ := ckk_ok h
      obtain ⟨hin2, h⟩ := ck_ok h
      refine c_iald C X hJ.1 hk hin2 dX7_receive_32 ?_
      refine va_mmax (rest := [.int x2, .ref a3]) C.1 C.2.1 (C.2.2.1.trans hl.1.symm) (own := RX7) C.2.2.2.1 (C.2.2.2.2.1 _ mm7_89) (C.2.2.2.2.1 _ mmax_s) (C.2.2.2.2.1 _ ma_i) (C.2.2.2.2.1 _ mmax_c) (Nat.le_trans (by decide) C.2.2.2.2.2.1.1) (Nat.le_trans (Nat.le_of_ble_eq_true rfl) C.2.2.2.2.2.1.2.2.2) (Nat.le_trans (by decide) C.2.2.2.2.2.1.2.1) (Nat.le_trans (by decide) C.2.2.2.2.2.1.2.2.1) dX7_receive_33 ?_
      obtain ⟨hk, h⟩ := ckk_ok h
      obtain ⟨hin2, h⟩ := ck_ok h
      refine c_iast C X hJ hk hin2 dX7_receive_36 (fun H locs hJ => ?_)
      refine lt_ok h (fun S6 e_S6 h => ?_)
      rw [e_S6] at hJ
      refine lv_aload_n C.1 C.2.1 dX7_receive_37 rfl (lv_at hl 1 rfl) ?_
      refine lv_aload_n C.1 C.2.1 dX7_receive_38 rfl (lv_at hl 2 rfl) ?_
      refine lv_iconst (v := 4) C.1 C.2.1 dX7_receive_39 (by decide) ?_
      refine lv_iload_n C.1 C.2.1 dX7_receive_40 rfl (lv_at hl 3 rfl) ?_
      refine lv_imul C.1 C.2.1 dX7_receive_41 ?_
      obtain ⟨hk, h⟩ := ckk_ok h
      obtain ⟨S7, h_S7, h⟩ := bd_ok h
      refine c_callW (rest := []) C X hJ hl.1 7 (by decide) hk [.ref v1, .int ((4 : Int32) * v2)] (tk_7_learnCursor l h_S7) cw7_247 ki_7_learnCursor kl_7_learnCursor rfl ⟨by decide, by decide⟩ ⟨(by decide), (by decide)⟩ rfl (Nat.le_of_ble_eq_true rfl) dX7_receive_42 (fun H locs hJ => ?_)
      refine W.eq (g2 := F0 m 45 ls []) rfl ?_
      refine lt_ok h (fun x8 e_x8 h => ?_)
      refine lv_iinc (v := x8) (lv' := [(2, .int x8), (3, .int x2), (0, .ref v0), (1, .ref v1)]) C.1 C.2.1 dX7_receive_45 hl (k := 3) rfl (by rw [← e_x8]; rfl) (by decide) rfl (fun ls hl => ?_)
      refine lv_goto (tgt := 2) C.1 C.2.1 dX7_receive_48 (by decide) ?_
      exact ih h hJ (lv_sub hl [2, 3, 0] rfl)
noncomputable def fk_7_receive (S : cSt) (v0 : Nat) (v1 : Nat) : Option (Int32 × cSt) :=
fk_7_receive_2 mFU S v0 v1 (0 : Int32)
set_option maxRecDepth 100000 in
set_option maxHeartbeats 4000000 in
theorem tk_7_receive (l : Launch) {D : cG} {S : cSt} {v0 : Nat} {v1 : Nat} {r : Int32} {S9 : cSt} (h : fk_7_receive S v0 v1 = some (r, S9)) : Met l yX7_receive (Cond.code yX7_receive cX7_receive 6 (some .int) :: lw_g) { frames := 5, cells := 0, slots := 0, locals := 117 } (kPi [.ref v0, .ref v1] D S) (kW (some (.int r)) D S S9) 0 0 (cA S) := by
  refine Met.ofW (cc := cX7_receive) (maxL := 6) (ret := (some .int)) (by decide) rfl ?_
  intro p e s m args below meth c s₁ B hml hv
  obtain ⟨rfl, hW, X⟩ := hv
  have C : cY p (headSpec (Cond.code yX7_receive cX7_receive 6 (some .int) :: lw_g) { frames := 5, cells := 0, slots := 0, locals := 117 }).room s m _ meth c RX7 cX7_receive 6 5 0 0 117 (some .int) := ⟨B.exec, B.bytes, hml, findClass_of_methodNamed B.named, fun w hw => atoms_spec (ws := Cond.code yX7_receive cX7_receive 6 (some .int) :: lw_g) B.pre w (List.mem_cons_of_mem _ hw), ⟨Nat.le_refl _, Nat.le_refl _, Nat.le_refl _, Nat.le_refl _⟩, B.returns, B.notSynchronized⟩
  have hl := lv_entry ([.ref v0, .ref v1]) (n := 6) (Nat.le_of_ble_eq_true rfl)
  rw [lg_entry_eq]
  generalize (lg_sl ([.ref v0, .ref v1]) ++ List.replicate (6 - (lg_sl ([.ref v0, .ref v1])).length) Slot.unset).toArray = ls at hl ⊢
  have hl : lv_has ls 6 [(0, .ref v0), (1, .ref v1)] := hl
  have hJ : cJ D S s.heap S s.heap [] := cJ.rf hW
  unfold fk_7_receive at h
  refine lv_iconst (v := 0) C.1 C.2.1 dX7_receive_0 (by decide) ?_
  refine lv_istore_n (lv' := [(2, .int (0 : Int32)), (0, .ref v0), (1, .ref v1)]) C.1 C.2.1 dX7_receive_1 rfl hl (by decide) rfl (fun ls hl => ?_)
  exact wk_7_receive_2 C X mFU h hJ (lv_sub hl [1, 2, 0] rfl)
end
theorem dX7_hasAllOf_0 : decode cX7_hasAllOf 0 = .ok (.iconst 0, 1) := by decide +kernel
theorem dX7_hasAllOf_1 : decode cX7_hasAllOf 1 = .ok (.istore_n 2, 1) := by decide +kernel
theorem dX7_hasAllOf_2 : decode cX7_hasAllOf 2 = .ok (.iload_n 2, 1) := by decide +kernel
theorem dX7_hasAllOf_3 : decode cX7_hasAllOf 3 = .ok (.iconst 4, 1) := by decide +kernel
theorem dX7_hasAllOf_4 : decode cX7_hasAllOf 4 = .ok (.if_icmp .ge 24, 3) := by decide +kernel
theorem dX7_hasAllOf_7 : decode cX7_hasAllOf 7 = .ok (.aload_n 0, 1) := by decide +kernel
theorem dX7_hasAllOf_8 : decode cX7_hasAllOf 8 = .ok (.iload_n 2, 1) := by decide +kernel
theorem dX7_hasAllOf_9 : decode cX7_hasAllOf 9 = .ok (.invokevirtual 123, 3) := by decide +kernel
theorem dX7_hasAllOf_12 : decode cX7_hasAllOf 12 = .ok (.aload_n 1, 1) := by decide +kernel
theorem dX7_hasAllOf_13 : decode cX7_hasAllOf 13 = .ok (.iload_n 2, 1) := by decide +kernel
theorem dX7_hasAllOf_14 : decode cX7_hasAllOf 14 = .ok (.invokevirtual 123, 3) := by decide +kernel
theorem dX7_hasAllOf_17 : decode cX7_hasAllOf 17 = .ok (.if_icmp .ge 5, 3) := by decide +kernel
theorem dX7_hasAllOf_20 : decode cX7_hasAllOf 20 = .ok (.iconst 0, 1) := by decide +kernel
theorem dX7_hasAllOf_21 : decode cX7_hasAllOf 21 = .ok (.ireturn, 1) := by decide +kernel
theorem dX7_hasAllOf_22 : decode cX7_hasAllOf 22 = .ok (.iinc 2 1, 3) := by decide +kernel
theorem dX7_hasAllOf_25 : decode cX7_hasAllOf 25 = .ok (.goto (-23), 3) := by decide +kernel
theorem dX7_hasAllOf_28 : decode cX7_hasAllOf 28 = .ok (.iconst 1, 1) := by decide +kernel
theorem dX7_hasAllOf_29 : decode cX7_hasAllOf 29 = .ok (.ireturn, 1) := by decide +kernel
theorem kd_7_hasAllOf : Cond.code yX7_hasAllOf cX7_hasAllOf 3 (some .boolean) ∈ lw_g := mt_at 1435 (by decide +kernel) rfl
theorem ki_7_hasAllOf : Cond.instanceMethod yX7_hasAllOf ∈ lw_g := mt_at 1433 (by decide +kernel) rfl
theorem kl_7_hasAllOf : Cond.selects (kRn 7) yX7_hasAllOf yX7_hasAllOf ∈ lw_g := mt_at 1434 (by decide +kernel) rfl
section
variable {p : Program} {l : Launch} {e : Env} {R : Room} {s : State} {m : MethodId} {args : Array Value} {below : List Frame} {meth : Method} {c : Code} {D : cG} {S : cSt} {r : Int32}
noncomputable def fk_7_hasAllOf_2 (S : cSt) : Nat → Nat → Nat → Int32 → Option (Int32)
  | 0, _, _, _ => none
  | n + 1, v0, v1, v2 =>
    if (4 : Int32) ≤ v2 then (
    ckz (1 : Int32) (some (1 : Int32)))
    else (
    ckk S v0 8 (bd (fk_7_knownOf S v0 v2) fun r2 =>
    ckk S v1 8 (bd (fk_7_knownOf S v1 v2) fun r3 =>
    if r3 ≤ r2 then (
    lt (v2 + (1 : Int32)) fun x5 =>
    fk_7_hasAllOf_2 S n v0 v1 x5)
    else (
    ckz (0 : Int32) (some (0 : Int32))))))
set_option maxRecDepth 100000 in
set_option maxHeartbeats 4000000 in
theorem wk_7_hasAllOf_2 (C : cY p R s m args meth c RX7 cX7_hasAllOf 3 1 0 0 21 (some .boolean)) (X : cX D s) (hW : cW D S s.heap) : ∀ (n : Nat), ∀ {v0 : Nat} {v1 : Nat} {v2 : Int32} {ls : Array Slot}, fk_7_hasAllOf_2 S n v0 v1 v2 = some r → lv_has ls 3 [(0, .ref v0), (1, .ref v1), (2, .int v2)] → W p l e R s m args below meth c s.heap [] 0 0 (MQ below (kQ (some (.int r))) args s 0 0 mNo) (F0 m 2 ls []) := by
  intro n
  induction n with
  | zero =>
    intro v0 v1 v2 ls h hl
    exact absurd (show (none : Option (Int32)) = _ from h) (fun q => by cases q)
  | succ n ih =>
    intro v0 v1 v2 ls h hl
    rw [fk_7_hasAllOf_2] at h
    refine lv_iload_n C.1 C.2.1 dX7_hasAllOf_2 rfl (lv_at hl 2 rfl) ?_
    refine lv_iconst (v := 4) C.1 C.2.1 dX7_hasAllOf_3 (by decide) ?_
    refine lv_icmp_ge (tgt := 28) C.1 C.2.1 dX7_hasAllOf_4 (by decide) (fun c1 => ?_) (fun c1 => ?_)
    · have h := if_t h c1
      refine lv_iconst (v := 1) C.1 C.2.1 dX7_hasAllOf_28 (by decide) ?_
      obtain ⟨hzo, h⟩ := ckz_ok h
      cases h
      exact c_retn C (by rcases hzo with h9 | h9 <;> (rw [h9]; rfl)) rfl rfl dX7_hasAllOf_29
    · have h := if_f h c1
      refine lv_aload_n C.1 C.2.1 dX7_hasAllOf_7 rfl (lv_at hl 0 rfl) ?_
      refine lv_iload_n C.1 C.2.1 dX7_hasAllOf_8 rfl (lv_at hl 2 rfl) ?_
      obtain ⟨hk, h⟩ := ckk_ok h
      obtain ⟨r2, h_r2, h⟩ := bd_ok h
      refine c_callR (rest := []) C X hW hl.1 7 (by decide) hk [.int v2] (tk_7_knownOf l h_r2) cw7_123 ki_7_knownOf kl_7_knownOf rfl ⟨by decide, by decide⟩ ⟨(by decide), (by decide)⟩ rfl (Nat.le_of_ble_eq_true rfl) dX7_hasAllOf_9 ?_
      refine W.eq (g2 := F0 m 12 ls [.int r2]) rfl ?_
      refine lv_aload_n C.1 C.2.1 dX7_hasAllOf_12 rfl (lv_at hl 1 rfl) ?_
      refine lv_iload_n C.1 C.2.1 dX7_hasAllOf_13 rfl (lv_at hl 2 rfl) ?_
      obtain ⟨hk, h⟩ := ckk_ok h
      obtain ⟨r3, h_r3, h⟩ := bd_ok h
      refine c_callR (rest := [.int r2]) C X hW hl.1 7 (by decide) hk [.int v2] (tk_7_knownOf l h_r3) cw7_123 ki_7_knownOf kl_7_knownOf rfl ⟨by decide, by decide⟩ ⟨(by decide), (by decide)⟩ rfl (Nat.le_of_ble_eq_true rfl) dX7_hasAllOf_14 ?_
      refine W.eq (g2 := F0 m 17 ls [.int r3, .int r2]) rfl ?_
      refine lv_icmp_ge (tgt := 22) C.1 C.2.1 dX7_hasAllOf_17 (by decide) (fun c4 => ?_) (fun c4 => ?_)
      · have h := if_t h c4
        refine lt_ok h (fun x5 e_x5 h => ?_)
        refine lv_iinc (v := x5) (lv' := [(2, .int x5), (0, .ref v0), (1, .ref v1)]) C.1 C.2.1 dX7_hasAllOf_22 hl (k := 2) rfl (by rw [← e_x5]; rfl) (by decide) rfl (fun ls hl => ?_)
        refine lv_goto (tgt := 2) C.1 C.2.1 dX7_hasAllOf_25 (by decide) ?_
        exact ih h (lv_sub hl [1, 2, 0] rfl)
      · have h := if_f h c4
        refine lv_iconst (v := 0) C.1 C.2.1 dX7_hasAllOf_20 (by decide) ?_
        obtain ⟨hzo, h⟩ := ckz_ok h
        cases h
        exact c_retn C (by rcases hzo with h9 | h9 <;> (rw [h9]; rfl)) rfl rfl dX7_hasAllOf_21
noncomputable def fk_7_hasAllOf (S : cSt) (v0 : Nat) (v1 : Nat) : Option (Int32) :=
fk_7_hasAllOf_2 S mFU v0 v1 (0 : Int32)
set_option maxRecDepth 100000 in
set_option maxHeartbeats 4000000 in
theorem tk_7_hasAllOf (l : Launch) {D : cG} {S : cSt} {v0 : Nat} {v1 : Nat} {r : Int32}  (h : fk_7_hasAllOf S v0 v1 = some r) : Met l yX7_hasAllOf (Cond.code yX7_hasAllOf cX7_hasAllOf 3 (some .boolean) :: lw_g) { frames := 1, cells := 0, slots := 0, locals := 21 } (kPi [.ref v0, .ref v1] D S) (kQ (some (.int r))) 0 0 (mNo) := by
  refine Met.ofW (cc := cX7_hasAllOf) (maxL := 3) (ret := (some .boolean)) (by decide) rfl ?_
  intro p e s m args below meth c s₁ B hml hv
  obtain ⟨rfl, hW, X⟩ := hv
  have C : cY p (headSpec (Cond.code yX7_hasAllOf cX7_hasAllOf 3 (some .boolean) :: lw_g) { frames := 1, cells := 0, slots := 0, locals := 21 }).room s m _ meth c RX7 cX7_hasAllOf 3 1 0 0 21 (some .boolean) := ⟨B.exec, B.bytes, hml, findClass_of_methodNamed B.named, fun w hw => atoms_spec (ws := Cond.code yX7_hasAllOf cX7_hasAllOf 3 (some .boolean) :: lw_g) B.pre w (List.mem_cons_of_mem _ hw), ⟨Nat.le_refl _, Nat.le_refl _, Nat.le_refl _, Nat.le_refl _⟩, B.returns, B.notSynchronized⟩
  have hl := lv_entry ([.ref v0, .ref v1]) (n := 3) (Nat.le_of_ble_eq_true rfl)
  rw [lg_entry_eq]
  generalize (lg_sl ([.ref v0, .ref v1]) ++ List.replicate (3 - (lg_sl ([.ref v0, .ref v1])).length) Slot.unset).toArray = ls at hl ⊢
  have hl : lv_has ls 3 [(0, .ref v0), (1, .ref v1)] := hl
  unfold fk_7_hasAllOf at h
  refine lv_iconst (v := 0) C.1 C.2.1 dX7_hasAllOf_0 (by decide) ?_
  refine lv_istore_n (lv' := [(2, .int (0 : Int32)), (0, .ref v0), (1, .ref v1)]) C.1 C.2.1 dX7_hasAllOf_1 rfl hl (by decide) rfl (fun ls hl => ?_)
  exact wk_7_hasAllOf_2 C X hW mFU h (lv_sub hl [1, 2, 0] rfl)
end
theorem dX7_joinTo_0 : decode cX7_joinTo 0 = .ok (.aload_n 0, 1) := by decide +kernel
theorem dX7_joinTo_1 : decode cX7_joinTo 1 = .ok (.getfield 73, 3) := by decide +kernel
theorem dX7_joinTo_4 : decode cX7_joinTo 4 = .ok (.aload_n 1, 1) := by decide +kernel
theorem dX7_joinTo_5 : decode cX7_joinTo 5 = .ok (.getfield 73, 3) := by decide +kernel
theorem dX7_joinTo_8 : decode cX7_joinTo 8 = .ok (.invokevirtual 275, 3) := by decide +kernel
theorem dX7_joinTo_11 : decode cX7_joinTo 11 = .ok (.iconst 0, 1) := by decide +kernel
theorem dX7_joinTo_12 : decode cX7_joinTo 12 = .ok (.istore_n 2, 1) := by decide +kernel
theorem dX7_joinTo_13 : decode cX7_joinTo 13 = .ok (.iload_n 2, 1) := by decide +kernel
theorem dX7_joinTo_14 : decode cX7_joinTo 14 = .ok (.bipush 16, 2) := by decide +kernel
theorem dX7_joinTo_16 : decode cX7_joinTo 16 = .ok (.if_icmp .ge 40, 3) := by decide +kernel
theorem dX7_joinTo_19 : decode cX7_joinTo 19 = .ok (.iload_n 2, 1) := by decide +kernel
theorem dX7_joinTo_20 : decode cX7_joinTo 20 = .ok (.iconst 4, 1) := by decide +kernel
theorem dX7_joinTo_21 : decode cX7_joinTo 21 = .ok (.idiv, 1) := by decide +kernel
theorem dX7_joinTo_22 : decode cX7_joinTo 22 = .ok (.aload_n 0, 1) := by decide +kernel
theorem dX7_joinTo_23 : decode cX7_joinTo 23 = .ok (.getfield 61, 3) := by decide +kernel
theorem dX7_joinTo_26 : decode cX7_joinTo 26 = .ok (.if_icmp .eq 24, 3) := by decide +kernel
theorem dX7_joinTo_29 : decode cX7_joinTo 29 = .ok (.aload_n 0, 1) := by decide +kernel
theorem dX7_joinTo_30 : decode cX7_joinTo 30 = .ok (.getfield 23, 3) := by decide +kernel
theorem dX7_joinTo_33 : decode cX7_joinTo 33 = .ok (.iload_n 2, 1) := by decide +kernel
theorem dX7_joinTo_34 : decode cX7_joinTo 34 = .ok (.aload_n 0, 1) := by decide +kernel
theorem dX7_joinTo_35 : decode cX7_joinTo 35 = .ok (.getfield 23, 3) := by decide +kernel
theorem dX7_joinTo_38 : decode cX7_joinTo 38 = .ok (.iload_n 2, 1) := by decide +kernel
theorem dX7_joinTo_39 : decode cX7_joinTo 39 = .ok (.iaload, 1) := by decide +kernel
theorem dX7_joinTo_40 : decode cX7_joinTo 40 = .ok (.aload_n 1, 1) := by decide +kernel
theorem dX7_joinTo_41 : decode cX7_joinTo 41 = .ok (.getfield 23, 3) := by decide +kernel
theorem dX7_joinTo_44 : decode cX7_joinTo 44 = .ok (.iload_n 2, 1) := by decide +kernel
theorem dX7_joinTo_45 : decode cX7_joinTo 45 = .ok (.iaload, 1) := by decide +kernel
theorem dX7_joinTo_46 : decode cX7_joinTo 46 = .ok (.invokestatic 89, 3) := by decide +kernel
theorem dX7_joinTo_49 : decode cX7_joinTo 49 = .ok (.iastore, 1) := by decide +kernel
theorem dX7_joinTo_50 : decode cX7_joinTo 50 = .ok (.iinc 2 1, 3) := by decide +kernel
theorem dX7_joinTo_53 : decode cX7_joinTo 53 = .ok (.goto (-40), 3) := by decide +kernel
theorem dX7_joinTo_56 : decode cX7_joinTo 56 = .ok (.aload_n 1, 1) := by decide +kernel
theorem dX7_joinTo_57 : decode cX7_joinTo 57 = .ok (.getfield 23, 3) := by decide +kernel
theorem dX7_joinTo_60 : decode cX7_joinTo 60 = .ok (.iconst 4, 1) := by decide +kernel
theorem dX7_joinTo_61 : decode cX7_joinTo 61 = .ok (.aload_n 1, 1) := by decide +kernel
theorem dX7_joinTo_62 : decode cX7_joinTo 62 = .ok (.getfield 61, 3) := by decide +kernel
theorem dX7_joinTo_65 : decode cX7_joinTo 65 = .ok (.imul, 1) := by decide +kernel
theorem dX7_joinTo_66 : decode cX7_joinTo 66 = .ok (.aload_n 0, 1) := by decide +kernel
theorem dX7_joinTo_67 : decode cX7_joinTo 67 = .ok (.getfield 23, 3) := by decide +kernel
theorem dX7_joinTo_70 : decode cX7_joinTo 70 = .ok (.iconst 4, 1) := by decide +kernel
theorem dX7_joinTo_71 : decode cX7_joinTo 71 = .ok (.aload_n 0, 1) := by decide +kernel
theorem dX7_joinTo_72 : decode cX7_joinTo 72 = .ok (.getfield 61, 3) := by decide +kernel
theorem dX7_joinTo_75 : decode cX7_joinTo 75 = .ok (.imul, 1) := by decide +kernel
theorem dX7_joinTo_76 : decode cX7_joinTo 76 = .ok (.iconst 4, 1) := by decide +kernel
theorem dX7_joinTo_77 : decode cX7_joinTo 77 = .ok (.invokestatic 268, 3) := by decide +kernel
theorem dX7_joinTo_80 : decode cX7_joinTo 80 = .ok (.aload_n 0, 1) := by decide +kernel
theorem dX7_joinTo_81 : decode cX7_joinTo 81 = .ok (.aload_n 1, 1) := by decide +kernel
theorem dX7_joinTo_82 : decode cX7_joinTo 82 = .ok (.getfield 37, 3) := by decide +kernel
theorem dX7_joinTo_85 : decode cX7_joinTo 85 = .ok (.aload_n 1, 1) := by decide +kernel
theorem dX7_joinTo_86 : decode cX7_joinTo 86 = .ok (.getfield 40, 3) := by decide +kernel
theorem dX7_joinTo_89 : decode cX7_joinTo 89 = .ok (.invokevirtual 184, 3) := by decide +kernel
theorem dX7_joinTo_92 : decode cX7_joinTo 92 = .ok (.aload_n 0, 1) := by decide +kernel
theorem dX7_joinTo_93 : decode cX7_joinTo 93 = .ok (.invokevirtual 260, 3) := by decide +kernel
theorem dX7_joinTo_96 : decode cX7_joinTo 96 = .ok (.return_, 1) := by decide +kernel
theorem kd_7_joinTo : Cond.code yX7_joinTo cX7_joinTo 3 none ∈ lw_g := mt_at 1439 (by decide +kernel) rfl
theorem ki_7_joinTo : Cond.instanceMethod yX7_joinTo ∈ lw_g := mt_at 1437 (by decide +kernel) rfl
theorem kl_7_joinTo : Cond.selects (kRn 7) yX7_joinTo yX7_joinTo ∈ lw_g := mt_at 1438 (by decide +kernel) rfl
theorem cw7_275 : cCw RX7 275 yX4_copyFrom cX4_copyFrom 3 none 1 := ⟨kd_4_copyFrom, mt_at 1440 (by decide +kernel) rfl, mt_at 9 (by decide +kernel) rfl, by decide +kernel⟩
section
variable {p : Program} {l : Launch} {e : Env} {R : Room} {s : State} {m : MethodId} {args : Array Value} {below : List Frame} {meth : Method} {c : Code} {D : cG} {S0 S9 : cSt}
noncomputable def fk_7_joinTo_50 (g_13 : cSt → Nat → Nat → Int32 → Option (cSt)) (S : cSt) (v0 : Nat) (v1 : Nat) (v2 : Int32) : Option (cSt) :=
lt (v2 + (1 : Int32)) fun x1 =>
g_13 S v0 v1 x1
set_option maxRecDepth 100000 in
set_option maxHeartbeats 4000000 in
theorem wk_7_joinTo_50 (C : cY p R s m args meth c RX7 cX7_joinTo 3 3 0 0 82 none) (X : cX D s) {g_13 : cSt → Nat → Nat → Int32 → Option (cSt)} (hg_13 : ∀ {S : cSt} {v0 : Nat} {v1 : Nat} {v2 : Int32} {H : Heap} {locs : List Loc} {ls : Array Slot}, g_13 S v0 v1 v2 = some S9 → cJ D S0 s.heap S H locs → lv_has ls 3 [(0, .ref v0), (1, .ref v1), (2, .int v2)] → W p l e R s m args below meth c H locs 0 0 (MQ below (kW none D S0 S9) args s 0 0 (cA S0)) (F0 m 13 ls [])) : ∀ {S : cSt} {v0 : Nat} {v1 : Nat} {v2 : Int32} {H : Heap} {locs : List Loc} {ls : Array Slot}, fk_7_joinTo_50 g_13 S v0 v1 v2 = some S9 → cJ D S0 s.heap S H locs → lv_has ls 3 [(0, .ref v0), (1, .ref v1), (2, .int v2)] → W p l e R s m args below meth c H locs 0 0 (MQ below (kW none D S0 S9) args s 0 0 (cA S0)) (F0 m 50 ls []) := by
  intro S v0 v1 v2 H locs ls h hJ hl
  unfold fk_7_joinTo_50 at h
  refine lt_ok h (fun x1 e_x1 h => ?_)
  refine lv_iinc (v := x1) (lv' := [(2, .int x1), (0, .ref v0), (1, .ref v1)]) C.1 C.2.1 dX7_joinTo_50 hl (k := 2) rfl (by rw [← e_x1]; rfl) (by decide) rfl (fun ls hl => ?_)
  refine lv_goto (tgt := 13) C.1 C.2.1 dX7_joinTo_53 (by decide) ?_
  exact hg_13 h hJ (lv_sub hl [1, 2, 0] rfl)
noncomputable def fk_7_joinTo_13 : Nat → cSt → Nat → Nat → Int32 → Option (cSt)
  | 0, _, _, _, _ => none
  | n + 1, S, v0, v1, v2 =>
    if (16 : Int32) ≤ v2 then (
    ckk S v1 8 (bd (kR S v1 5) fun a2 =>
    ckk S v1 8 (
    ckk S v0 8 (bd (kR S v0 5) fun a3 =>
    ckk S v0 8 (
    ckk S a2 20 (ckk S a3 20 (ckp ((¬ ((4 : Int32) * (kF S v1 0)) < 0 ∧ ¬ ((4 : Int32) * (kF S v0 0)) < 0 ∧ ¬ (4 : Int32) < 0) ∧ (Int32.toNatClampNeg ((4 : Int32) * (kF S v1 0))) + (Int32.toNatClampNeg (4 : Int32)) ≤ kL S a2 ∧ (Int32.toNatClampNeg ((4 : Int32) * (kF S v0 0))) + (Int32.toNatClampNeg (4 : Int32)) ≤ kL S a3) (lt (cCp S a2 (Int32.toNatClampNeg ((4 : Int32) * (kF S v1 0))) a3 (Int32.toNatClampNeg ((4 : Int32) * (kF S v0 0))) (Int32.toNatClampNeg (4 : Int32))) fun S4 =>
    ckk S4 v1 8 (
    ckk S4 v1 8 (
    ckk S4 v0 8 (bd (fk_7_raiseLast S4 v0 (kF S4 v1 9) (kF S4 v1 10)) fun S5 =>
    ckk S5 v0 8 (bd (fk_7_forgetWaits S5 v0) fun S6 =>
    some S6))))))))))))
    else (
    ckk S v0 8 (
    if (v2 / (4 : Int32)) = (kF S v0 0) then (
    fk_7_joinTo_50 (fk_7_joinTo_13 n) S v0 v1 v2)
    else (
    ckk S v0 8 (bd (kR S v0 5) fun a8 =>
    ckk S v0 8 (bd (kR S v0 5) fun a9 =>
    ckk S a9 20 (ck v2 (kL S a9) (
    ckk S v1 8 (bd (kR S v1 5) fun a10 =>
    ckk S a10 20 (ck v2 (kL S a10) (
    ckk S a8 20 (ck v2 (kL S a8) (lt (cWi S a8 (Int32.toNatClampNeg v2) (if (kI S a9 (Int32.toNatClampNeg v2)) < (kI S a10 (Int32.toNatClampNeg v2)) then (kI S a10 (Int32.toNatClampNeg v2)) else (kI S a9 (Int32.toNatClampNeg v2)))) fun S11 =>
    fk_7_joinTo_50 (fk_7_joinTo_13 n) S11 v0 v1 v2))))))))))))
set_option maxRecDepth 100000 in
set_option maxHeartbeats 4000000 in
theorem wk_7_joinTo_13 (C : cY p R s m args meth c RX7 cX7_joinTo 3 3 0 0 82 none) (X : cX D s) : ∀ (n : Nat), ∀ {S : cSt} {v0 : Nat} {v1 : Nat} {v2 : Int32} {H : Heap} {locs : List Loc} {ls : Array Slot}, fk_7_joinTo_13 n S v0 v1 v2 = some S9 → cJ D S0 s.heap S H locs → lv_has ls 3 [(0, .ref v0), (1, .ref v1), (2, .int v2)] → W p l e R s m args below meth c H locs 0 0 (MQ below (kW none D S0 S9) args s 0 0 (cA S0)) (F0 m 13 ls []) := by
  intro n
  induction n with
  | zero =>
    intro S v0 v1 v2 H locs ls h hJ hl
    exact absurd (show (none : Option (cSt)) = _ from h) (fun q => by cases q)
  | succ n ih =>
    intro S v0 v1 v2 H locs ls h hJ hl
    rw [fk_7_joinTo_13] at h
    refine lv_iload_n C.1 C.2.1 dX7_joinTo_13 rfl (lv_at hl 2 rfl) ?_
    refine lv_bipush (v := 16) C.1 C.2.1 dX7_joinTo_14 (by decide) ?_
    refine lv_icmp_ge (tgt := 56) C.1 C.2.1 dX7_joinTo_16 (by decide) (fun c1 => ?_) (fun c1 => ?_)
    · have h := if_t h c1
      refine lv_aload_n C.1 C.2.1 dX7_joinTo_56 rfl (lv_at hl 1 rfl) ?_
      obtain ⟨hk, h⟩ := ckk_ok h
      obtain ⟨a2, h_a2, h⟩ := bd_ok h
      refine gk7_23 C X hJ.1 hk h_a2 dX7_joinTo_57 ?_
      refine lv_iconst (v := 4) C.1 C.2.1 dX7_joinTo_60 (by decide) ?_
      refine lv_aload_n C.1 C.2.1 dX7_joinTo_61 rfl (lv_at hl 1 rfl) ?_
      obtain ⟨hk, h⟩ := ckk_ok h
      refine gk7_61 C X hJ.1 hk dX7_joinTo_62 ?_
      refine lv_imul C.1 C.2.1 dX7_joinTo_65 ?_
      refine lv_aload_n C.1 C.2.1 dX7_joinTo_66 rfl (lv_at hl 0 rfl) ?_
      obtain ⟨hk, h⟩ := ckk_ok h
      obtain ⟨a3, h_a3, h⟩ := bd_ok h
      refine gk7_23 C X hJ.1 hk h_a3 dX7_joinTo_67 ?_
      refine lv_iconst (v := 4) C.1 C.2.1 dX7_joinTo_70 (by decide) ?_
      refine lv_aload_n C.1 C.2.1 dX7_joinTo_71 rfl (lv_at hl 0 rfl) ?_
      obtain ⟨hk, h⟩ := ckk_ok h
      refine gk7_61 C X hJ.1 hk dX7_joinTo_72 ?_
      refine lv_imul C.1 C.2.1 dX7_joinTo_75 ?_
      refine lv_iconst (v := 4) C.1 C.2.1 dX7_joinTo_76 (by decide) ?_
      obtain ⟨hk0, h⟩ := ckk_ok h
      obtain ⟨hk1, h⟩ := ckk_ok h
      obtain ⟨hcp, h⟩ := ckp_ok h
      refine c_copy (rest := []) C hl.1 mm7_268 ac_n ac_s ac_i 20 (by decide) (by decide) X.2.1 rfl hJ hk0 hk1 hcp (fun _ _ => rfl) (by decide) (Nat.le_of_ble_eq_true rfl) dX7_joinTo_77 (fun H locs hJ => ?_)
      refine lt_ok h (fun S4 e_S4 h => ?_)
      rw [e_S4] at hJ
      refine lv_aload_n C.1 C.2.1 dX7_joinTo_80 rfl (lv_at hl 0 rfl) ?_
      refine lv_aload_n C.1 C.2.1 dX7_joinTo_81 rfl (lv_at hl 1 rfl) ?_
      obtain ⟨hk, h⟩ := ckk_ok h
      refine gk7_37 C X hJ.1 hk dX7_joinTo_82 ?_
      refine lv_aload_n C.1 C.2.1 dX7_joinTo_85 rfl (lv_at hl 1 rfl) ?_
      obtain ⟨hk, h⟩ := ckk_ok h
      refine gk7_40 C X hJ.1 hk dX7_joinTo_86 ?_
      obtain ⟨hk, h⟩ := ckk_ok h
      obtain ⟨S5, h_S5, h⟩ := bd_ok h
      refine c_callW (rest := []) C X hJ hl.1 7 (by decide) hk [.int (kF S4 v1 9), .int (kF S4 v1 10)] (tk_7_raiseLast l h_S5) cw7_184 ki_7_raiseLast kl_7_raiseLast rfl ⟨by decide, by decide⟩ ⟨(by decide), (by decide)⟩ rfl (Nat.le_of_ble_eq_true rfl) dX7_joinTo_89 (fun H locs hJ => ?_)
      refine W.eq (g2 := F0 m 92 ls []) rfl ?_
      refine lv_aload_n C.1 C.2.1 dX7_joinTo_92 rfl (lv_at hl 0 rfl) ?_
      obtain ⟨hk, h⟩ := ckk_ok h
      obtain ⟨S6, h_S6, h⟩ := bd_ok h
      refine c_callW (rest := []) C X hJ hl.1 7 (by decide) hk [] (tk_7_forgetWaits l h_S6) cw7_260 ki_7_forgetWaits kl_7_forgetWaits rfl ⟨by decide, by decide⟩ ⟨(by decide), (by decide)⟩ rfl (Nat.le_of_ble_eq_true rfl) dX7_joinTo_93 (fun H locs hJ => ?_)
      refine W.eq (g2 := F0 m 96 ls []) rfl ?_
      cases h
      exact c_retvW C hJ dX7_joinTo_96
    · have h := if_f h c1
      refine lv_iload_n C.1 C.2.1 dX7_joinTo_19 rfl (lv_at hl 2 rfl) ?_
      refine lv_iconst (v := 4) C.1 C.2.1 dX7_joinTo_20 (by decide) ?_
      refine lv_idiv C.1 C.2.1 dX7_joinTo_21 (by decide) ?_
      refine lv_aload_n C.1 C.2.1 dX7_joinTo_22 rfl (lv_at hl 0 rfl) ?_
      obtain ⟨hk, h⟩ := ckk_ok h
      refine gk7_61 C X hJ.1 hk dX7_joinTo_23 ?_
      refine lv_icmp_eq (tgt := 50) C.1 C.2.1 dX7_joinTo_26 (by decide) (fun c7 => ?_) (fun c7 => ?_)
      · have h := if_t h c7
        exact wk_7_joinTo_50 C X ih h hJ (lv_sub hl [0, 1, 2] rfl)
      · have h := if_f h c7
        refine lv_aload_n C.1 C.2.1 dX7_joinTo_29 rfl (lv_at hl 0 rfl) ?_
        obtain ⟨hk, h⟩ := ckk_ok h
        obtain ⟨a8, h_a8, h⟩ := bd_ok h
        refine gk7_23 C X hJ.1 hk h_a8 dX7_joinTo_30 ?_
        refine lv_iload_n C.1 C.2.1 dX7_joinTo_33 rfl (lv_at hl 2 rfl) ?_
        refine lv_aload_n C.1 C.2.1 dX7_joinTo_34 rfl (lv_at hl 0 rfl) ?_
        obtain ⟨hk, h⟩ := ckk_ok h
        obtain ⟨a9, h_a9, h⟩ := bd_ok h
        refine gk7_23 C X hJ.1 hk h_a9 dX7_joinTo_35 ?_
        refine lv_iload_n C.1 C.2.1 dX7_joinTo_38 rfl (lv_at hl 2 rfl) ?_
        obtain ⟨hk, h⟩ := ckk_ok h
        obtain ⟨hin2, h⟩ := ck_ok h
        refine c_iald C X hJ.1 hk hin2 dX7_joinTo_39 ?_
        refine lv_aload_n C.1 C.2.1 dX7_joinTo_40 rfl (lv_at hl 1 rfl) ?_
        obtain ⟨hk, h⟩ := ckk_ok h
        obtain ⟨a10, h_a10, h⟩ := bd_ok h
        refine gk7_23 C X hJ.1 hk h_a10 dX7_joinTo_41 ?_
        refine lv_iload_n C.1 C.2.1 dX7_joinTo_44 rfl (lv_at hl 2 rfl) ?_
        obtain ⟨hk, h⟩ := ckk_ok h
        obtain ⟨hin2, h⟩ := ck_ok h
        refine c_iald C X hJ.1 hk hin2 dX7_joinTo_45 ?_
        refine va_mmax (rest := [.int v2, .ref a8]) C.1 C.2.1 (C.2.2.1.trans hl.1.symm) (own := RX7) C.2.2.2.1 (C.2.2.2.2.1 _ mm7_89) (C.2.2.2.2.1 _ mmax_s) (C.2.2.2.2.1 _ ma_i) (C.2.2.2.2.1 _ mmax_c) (Nat.le_trans (by decide) C.2.2.2.2.2.1.1) (Nat.le_trans (Nat.le_of_ble_eq_true rfl) C.2.2.2.2.2.1.2.2.2) (Nat.le_trans (by decide) C.2.2.2.2.2.1.2.1) (Nat.le_trans (by decide) C.2.2.2.2.2.1.2.2.1) dX7_joinTo_46 ?_
        obtain ⟨hk, h⟩ := ckk_ok h
        obtain ⟨hin2, h⟩ := ck_ok h
        refine c_iast C X hJ hk hin2 dX7_joinTo_49 (fun H locs hJ => ?_)
        refine lt_ok h (fun S11 e_S11 h => ?_)
        rw [e_S11] at hJ
        exact wk_7_joinTo_50 C X ih h hJ (lv_sub hl [0, 1, 2] rfl)
noncomputable def fk_7_joinTo (S : cSt) (v0 : Nat) (v1 : Nat) : Option (cSt) :=
ckk S v0 8 (bd (kR S v0 1) fun a1 =>
ckk S v1 8 (bd (kR S v1 1) fun a2 =>
ckk S a1 5 (bd (fk_4_copyFrom S a1 a2) fun S3 =>
fk_7_joinTo_13 mFU S3 v0 v1 (0 : Int32))))
set_option maxRecDepth 100000 in
set_option maxHeartbeats 4000000 in
theorem tk_7_joinTo (l : Launch) {D : cG} {S : cSt} {v0 : Nat} {v1 : Nat} {S9 : cSt} (h : fk_7_joinTo S v0 v1 = some S9) : Met l yX7_joinTo (Cond.code yX7_joinTo cX7_joinTo 3 none :: lw_g) { frames := 3, cells := 0, slots := 0, locals := 82 } (kPi [.ref v0, .ref v1] D S) (kW none D S S9) 0 0 (cA S) := by
  refine Met.ofW (cc := cX7_joinTo) (maxL := 3) (ret := none) (by decide) rfl ?_
  intro p e s m args below meth c s₁ B hml hv
  obtain ⟨rfl, hW, X⟩ := hv
  have C : cY p (headSpec (Cond.code yX7_joinTo cX7_joinTo 3 none :: lw_g) { frames := 3, cells := 0, slots := 0, locals := 82 }).room s m _ meth c RX7 cX7_joinTo 3 3 0 0 82 none := ⟨B.exec, B.bytes, hml, findClass_of_methodNamed B.named, fun w hw => atoms_spec (ws := Cond.code yX7_joinTo cX7_joinTo 3 none :: lw_g) B.pre w (List.mem_cons_of_mem _ hw), ⟨Nat.le_refl _, Nat.le_refl _, Nat.le_refl _, Nat.le_refl _⟩, B.returns, B.notSynchronized⟩
  have hl := lv_entry ([.ref v0, .ref v1]) (n := 3) (Nat.le_of_ble_eq_true rfl)
  rw [lg_entry_eq]
  generalize (lg_sl ([.ref v0, .ref v1]) ++ List.replicate (3 - (lg_sl ([.ref v0, .ref v1])).length) Slot.unset).toArray = ls at hl ⊢
  have hl : lv_has ls 3 [(0, .ref v0), (1, .ref v1)] := hl
  have hJ : cJ D S s.heap S s.heap [] := cJ.rf hW
  unfold fk_7_joinTo at h
  refine lv_aload_n C.1 C.2.1 dX7_joinTo_0 rfl (lv_at hl 0 rfl) ?_
  obtain ⟨hk, h⟩ := ckk_ok h
  obtain ⟨a1, h_a1, h⟩ := bd_ok h
  refine gk7_73 C X hJ.1 hk h_a1 dX7_joinTo_1 ?_
  refine lv_aload_n C.1 C.2.1 dX7_joinTo_4 rfl (lv_at hl 1 rfl) ?_
  obtain ⟨hk, h⟩ := ckk_ok h
  obtain ⟨a2, h_a2, h⟩ := bd_ok h
  refine gk7_73 C X hJ.1 hk h_a2 dX7_joinTo_5 ?_
  obtain ⟨hk, h⟩ := ckk_ok h
  obtain ⟨S3, h_S3, h⟩ := bd_ok h
  refine c_callW (rest := []) C X hJ hl.1 4 (by decide) hk [.ref a2] (tk_4_copyFrom l h_S3) cw7_275 ki_4_copyFrom kl_4_copyFrom rfl ⟨by decide, by decide⟩ ⟨(by decide), (by decide)⟩ rfl (Nat.le_of_ble_eq_true rfl) dX7_joinTo_8 (fun H locs hJ => ?_)
  refine W.eq (g2 := F0 m 11 ls []) rfl ?_
  refine lv_iconst (v := 0) C.1 C.2.1 dX7_joinTo_11 (by decide) ?_
  refine lv_istore_n (lv' := [(2, .int (0 : Int32)), (0, .ref v0), (1, .ref v1)]) C.1 C.2.1 dX7_joinTo_12 rfl hl (by decide) rfl (fun ls hl => ?_)
  exact wk_7_joinTo_13 C X mFU h hJ (lv_sub hl [1, 2, 0] rfl)
end
