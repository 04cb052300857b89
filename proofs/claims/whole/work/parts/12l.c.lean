-- made by wip/whole/gen12.py: 11_object, 11_findValues, 11_size, 11_sourceAt, 11_by, 11_list, 11_count, 11_rankIn, 11_ranked, 11_was
theorem dX11_object_0 : decode cX11_object 0 = .ok (.aload_n 0, 1) := by decide +kernel
theorem dX11_object_1 : decode cX11_object 1 = .ok (.iload_n 1, 1) := by decide +kernel
theorem dX11_object_2 : decode cX11_object 2 = .ok (.iload_n 2, 1) := by decide +kernel
theorem dX11_object_3 : decode cX11_object 3 = .ok (.invokevirtual 295, 3) := by decide +kernel
theorem dX11_object_6 : decode cX11_object 6 = .ok (.istore 4, 2) := by decide +kernel
theorem dX11_object_8 : decode cX11_object 8 = .ok (.iload 4, 2) := by decide +kernel
theorem dX11_object_10 : decode cX11_object 10 = .ok (.ifCond .ge 5, 3) := by decide +kernel
theorem dX11_object_13 : decode cX11_object 13 = .ok (.iconst (-1), 1) := by decide +kernel
theorem dX11_object_14 : decode cX11_object 14 = .ok (.ireturn, 1) := by decide +kernel
theorem dX11_object_15 : decode cX11_object 15 = .ok (.aload_n 0, 1) := by decide +kernel
theorem dX11_object_16 : decode cX11_object 16 = .ok (.getfield 25, 3) := by decide +kernel
theorem dX11_object_19 : decode cX11_object 19 = .ok (.iload_n 1, 1) := by decide +kernel
theorem dX11_object_20 : decode cX11_object 20 = .ok (.aaload, 1) := by decide +kernel
theorem dX11_object_21 : decode cX11_object 21 = .ok (.astore 5, 2) := by decide +kernel
theorem dX11_object_23 : decode cX11_object 23 = .ok (.iload_n 3, 1) := by decide +kernel
theorem dX11_object_24 : decode cX11_object 24 = .ok (.tableswitch 99 0 4 #[36, 55, 65, 74, 83], 36) := by decide +kernel
theorem dX11_object_60 : decode cX11_object 60 = .ok (.aload 5, 2) := by decide +kernel
theorem dX11_object_62 : decode cX11_object 62 = .ok (.getfield 147, 3) := by decide +kernel
theorem dX11_object_65 : decode cX11_object 65 = .ok (.iload 4, 2) := by decide +kernel
theorem dX11_object_67 : decode cX11_object 67 = .ok (.invokevirtual 298, 3) := by decide +kernel
theorem dX11_object_70 : decode cX11_object 70 = .ok (.ifCond .eq 7, 3) := by decide +kernel
theorem dX11_object_73 : decode cX11_object 73 = .ok (.iconst 1, 1) := by decide +kernel
theorem dX11_object_74 : decode cX11_object 74 = .ok (.goto 4, 3) := by decide +kernel
theorem dX11_object_77 : decode cX11_object 77 = .ok (.iconst 0, 1) := by decide +kernel
theorem dX11_object_78 : decode cX11_object 78 = .ok (.ireturn, 1) := by decide +kernel
theorem dX11_object_79 : decode cX11_object 79 = .ok (.aload_n 0, 1) := by decide +kernel
theorem dX11_object_80 : decode cX11_object 80 = .ok (.getfield 19, 3) := by decide +kernel
theorem dX11_object_83 : decode cX11_object 83 = .ok (.iload 4, 2) := by decide +kernel
theorem dX11_object_85 : decode cX11_object 85 = .ok (.invokevirtual 301, 3) := by decide +kernel
theorem dX11_object_88 : decode cX11_object 88 = .ok (.ireturn, 1) := by decide +kernel
theorem dX11_object_89 : decode cX11_object 89 = .ok (.aload_n 0, 1) := by decide +kernel
theorem dX11_object_90 : decode cX11_object 90 = .ok (.aload 5, 2) := by decide +kernel
theorem dX11_object_92 : decode cX11_object 92 = .ok (.iload 4, 2) := by decide +kernel
theorem dX11_object_94 : decode cX11_object 94 = .ok (.invokevirtual 304, 3) := by decide +kernel
theorem dX11_object_97 : decode cX11_object 97 = .ok (.ireturn, 1) := by decide +kernel
theorem dX11_object_98 : decode cX11_object 98 = .ok (.aload_n 0, 1) := by decide +kernel
theorem dX11_object_99 : decode cX11_object 99 = .ok (.aload 5, 2) := by decide +kernel
theorem dX11_object_101 : decode cX11_object 101 = .ok (.iload 4, 2) := by decide +kernel
theorem dX11_object_103 : decode cX11_object 103 = .ok (.invokevirtual 307, 3) := by decide +kernel
theorem dX11_object_106 : decode cX11_object 106 = .ok (.ireturn, 1) := by decide +kernel
theorem dX11_object_107 : decode cX11_object 107 = .ok (.aload 5, 2) := by decide +kernel
theorem dX11_object_109 : decode cX11_object 109 = .ok (.getfield 147, 3) := by decide +kernel
theorem dX11_object_112 : decode cX11_object 112 = .ok (.iload 4, 2) := by decide +kernel
theorem dX11_object_114 : decode cX11_object 114 = .ok (.aload 5, 2) := by decide +kernel
theorem dX11_object_116 : decode cX11_object 116 = .ok (.invokevirtual 310, 3) := by decide +kernel
theorem dX11_object_119 : decode cX11_object 119 = .ok (.invokevirtual 313, 3) := by decide +kernel
theorem dX11_object_122 : decode cX11_object 122 = .ok (.ireturn, 1) := by decide +kernel
theorem dX11_object_123 : decode cX11_object 123 = .ok (.iconst (-1), 1) := by decide +kernel
theorem dX11_object_124 : decode cX11_object 124 = .ok (.ireturn, 1) := by decide +kernel
theorem kd_11_object : Cond.code yX11_object cX11_object 6 (some .int) ∈ lw_g := mt_at 1448 (by decide +kernel) rfl
theorem ki_11_object : Cond.instanceMethod yX11_object ∈ lw_g := mt_at 1446 (by decide +kernel) rfl
theorem kl_11_object : Cond.selects (kRn 11) yX11_object yX11_object ∈ lw_g := mt_at 1447 (by decide +kernel) rfl
theorem cw11_295 : cCw RX11 295 yX11_madeSlot cX11_madeSlot 4 (some .int) 2 := ⟨kd_11_madeSlot, mt_at 436 (by decide +kernel) rfl, mt_at 1 (by decide +kernel) rfl, by decide +kernel⟩
theorem cw11_304 : cCw RX11 304 yX11_parentOf cX11_parentOf 4 (some .int) 2 := ⟨kd_11_parentOf, mt_at 1449 (by decide +kernel) rfl, mt_at 1 (by decide +kernel) rfl, by decide +kernel⟩
theorem cw11_307 : cCw RX11 307 yX11_childrenOf cX11_childrenOf 5 (some .int) 2 := ⟨kd_11_childrenOf, mt_at 1454 (by decide +kernel) rfl, mt_at 1 (by decide +kernel) rfl, by decide +kernel⟩
section
variable {p : Program} {l : Launch} {e : Env} {R : Room} {s : State} {m : MethodId} {args : Array Value} {below : List Frame} {meth : Method} {c : Code} {D : cG} {S0 S9 : cSt} {r : Int32}
noncomputable def fk_11_object_78 (S : cSt) (s0 : Int32) : Option (Int32 × cSt) :=
some (s0, S)
set_option maxRecDepth 100000 in
set_option maxHeartbeats 4000000 in
theorem wk_11_object_78 (C : cY p R s m args meth c RX11 cX11_object 6 4 0 0 91 (some .int)) (X : cX D s) : ∀ {S : cSt} {s0 : Int32} {H : Heap} {locs : List Loc} {ls : Array Slot}, fk_11_object_78 S s0 = some (r, S9) → cJ D S0 s.heap S H locs → lv_has ls 6 [] → W p l e R s m args below meth c H locs 0 0 (MQ below (kW (some (.int r)) D S0 S9) args s 0 0 (cA S0)) (F0 m 78 ls [.int s0]) := by
  intro S s0 H locs ls h hJ hl
  unfold fk_11_object_78 at h
  cases h
  exact c_retiW C hJ dX11_object_78
noncomputable def fk_11_object (S : cSt) (v0 : Nat) (v1 : Int32) (v2 : Int32) (v3 : Int32) : Option (Int32 × cSt) :=
ckk S v0 12 (bd (fk_11_madeSlot S v0 v1 v2) fun r1 =>
if 0 ≤ r1 then (
ckk S v0 12 (bd (kR S v0 2) fun a3 =>
ckk S a3 31 (ck v1 (kL S a3) (lt (kO S a3 (Int32.toNatClampNeg v1)) fun o4 =>
if v3 = (0 : Int32) then (
bd o4 fun a6 =>
ckk S a6 8 (bd (kR S a6 2) fun a7 =>
ckk S a7 11 (bd (fk_10_isThere S a7 r1) fun r8 =>
if r8 = 0 then (
fk_11_object_78 S (0 : Int32))
else (
fk_11_object_78 S (1 : Int32)))))
else if v3 = (1 : Int32) then (
ckk S v0 12 (bd (kR S v0 1) fun a11 =>
ckk S a11 1 (bd (fk_0_kindOf S a11 r1) fun r12 =>
some (r12, S))))
else if v3 = (2 : Int32) then (
bd o4 fun a14 =>
ckk S v0 12 (bd (fk_11_parentOf S v0 a14 r1) fun q_r16 => lt q_r16.1 fun r16 => lt q_r16.2 fun S15 =>
some (r16, S15)))
else if v3 = (3 : Int32) then (
bd o4 fun a18 =>
ckk S v0 12 (bd (fk_11_childrenOf S v0 a18 r1) fun q_r20 => lt q_r20.1 fun r20 => lt q_r20.2 fun S19 =>
some (r20, S19)))
else if v3 = (4 : Int32) then (
bd o4 fun a22 =>
ckk S a22 8 (bd (kR S a22 2) fun a23 =>
ckk S a22 8 (bd (fk_7_timeNow S a22) fun r24 =>
ckk S a23 11 (bd (fk_10_holderOf S a23 r1 r24) fun r25 =>
some (r25, S)))))
else (
some ((-1 : Int32), S))))))
else (
some ((-1 : Int32), S)))
set_option maxRecDepth 100000 in
set_option maxHeartbeats 4000000 in
theorem tk_11_object (l : Launch) {D : cG} {S : cSt} {v0 : Nat} {v1 : Int32} {v2 : Int32} {v3 : Int32} {r : Int32} {S9 : cSt} (h : fk_11_object S v0 v1 v2 v3 = some (r, S9)) : Met l yX11_object (Cond.code yX11_object cX11_object 6 (some .int) :: lw_g) { frames := 4, cells := 0, slots := 0, locals := 91 } (kPi [.ref v0, .int v1, .int v2, .int v3] D S) (kW (some (.int r)) D S S9) 0 0 (cA S) := by
  refine Met.ofW (cc := cX11_object) (maxL := 6) (ret := (some .int)) (by decide) rfl ?_
  intro p e s m args below meth c s₁ B hml hv
  obtain ⟨rfl, hW, X⟩ := hv
  have C : cY p (headSpec (Cond.code yX11_object cX11_object 6 (some .int) :: lw_g) { frames := 4, cells := 0, slots := 0, locals := 91 }).room s m _ meth c RX11 cX11_object 6 4 0 0 91 (some .int) := ⟨B.exec, B.bytes, hml, findClass_of_methodNamed B.named, fun w hw => atoms_spec (ws := Cond.code yX11_object cX11_object 6 (some .int) :: lw_g) B.pre w (List.mem_cons_of_mem _ hw), ⟨Nat.le_refl _, Nat.le_refl _, Nat.le_refl _, Nat.le_refl _⟩, B.returns, B.notSynchronized⟩
  have hl := lv_entry ([.ref v0, .int v1, .int v2, .int v3]) (n := 6) (Nat.le_of_ble_eq_true rfl)
  rw [lg_entry_eq]
  generalize (lg_sl ([.ref v0, .int v1, .int v2, .int v3]) ++ List.replicate (6 - (lg_sl ([.ref v0, .int v1, .int v2, .int v3])).length) Slot.unset).toArray = ls at hl ⊢
  have hl : lv_has ls 6 [(0, .ref v0), (1, .int v1), (2, .int v2), (3, .int v3)] := hl
  have hJ : cJ D S s.heap S s.heap [] := cJ.rf hW
  unfold fk_11_object at h
  refine lv_aload_n C.1 C.2.1 dX11_object_0 rfl (lv_at hl 0 rfl) ?_
  refine lv_iload_n C.1 C.2.1 dX11_object_1 rfl (lv_at hl 1 rfl) ?_
  refine lv_iload_n C.1 C.2.1 dX11_object_2 rfl (lv_at hl 2 rfl) ?_
  obtain ⟨hk, h⟩ := ckk_ok h
  obtain ⟨r1, h_r1, h⟩ := bd_ok h
  refine c_callR (rest := []) C X hJ.1 hl.1 11 (by decide) hk [.int v1, .int v2] (tk_11_madeSlot l h_r1) cw11_295 ki_11_madeSlot kl_11_madeSlot rfl ⟨by decide, by decide⟩ ⟨(by decide), (by decide)⟩ rfl (Nat.le_of_ble_eq_true rfl) dX11_object_3 ?_
  refine W.eq (g2 := F0 m 6 ls [.int r1]) rfl ?_
  refine lv_istore (lv' := [(4, .int r1), (0, .ref v0), (1, .int v1), (2, .int v2), (3, .int v3)]) C.1 C.2.1 dX11_object_6 hl (by decide) rfl (fun ls hl => ?_)
  refine lv_iload C.1 C.2.1 dX11_object_8 (lv_at hl 0 rfl) ?_
  refine lv_if_ge (tgt := 15) C.1 C.2.1 dX11_object_10 (by decide) (fun c2 => ?_) (fun c2 => ?_)
  · have h := if_t h c2
    refine lv_aload_n C.1 C.2.1 dX11_object_15 rfl (lv_at hl 1 rfl) ?_
    obtain ⟨hk, h⟩ := ckk_ok h
    obtain ⟨a3, h_a3, h⟩ := bd_ok h
    refine gk11_25 C X hJ.1 hk h_a3 dX11_object_16 ?_
    refine lv_iload_n C.1 C.2.1 dX11_object_19 rfl (lv_at hl 2 rfl) ?_
    obtain ⟨hk, h⟩ := ckk_ok h
    obtain ⟨hin2, h⟩ := ck_ok h
    refine c_aald C 31 (by decide) X.2.2.2.2.2.1 hJ.1 hk hin2 dX11_object_20 ?_
    refine lt_ok h (fun o4 e_o4 h => ?_)
    refine lv_nmq e_o4 ?_
    refine lv_astoreq (o := o4) (lv' := [(5, va_rf o4), (4, .int r1), (0, .ref v0), (1, .int v1), (2, .int v2), (3, .int v3)]) C.1 C.2.1 dX11_object_21 hl (by decide) rfl (fun ls hl => ?_)
    refine lv_iload_n C.1 C.2.1 dX11_object_23 rfl (lv_at hl 5 rfl) ?_
    by_cases c5 : v3 = (0 : Int32)
    · have h := if_t h c5
      refine lv_tableIn (off := 36) (tgt := 60) C.1 C.2.1 dX11_object_24 (by rw [c5]; decide) (by rw [c5]; decide) (by rw [c5]; rfl) (by decide) ?_
      refine lv_aloadq (o := o4) C.1 C.2.1 dX11_object_60 (lv_at hl 0 rfl) ?_
      obtain ⟨a6, e_a6, h⟩ := bd_ok h
      subst e_a6
      obtain ⟨hk, h⟩ := ckk_ok h
      obtain ⟨a7, h_a7, h⟩ := bd_ok h
      refine gk11_147 C X hJ.1 hk h_a7 dX11_object_62 ?_
      refine lv_iload C.1 C.2.1 dX11_object_65 (lv_at hl 1 rfl) ?_
      obtain ⟨hk, h⟩ := ckk_ok h
      obtain ⟨r8, h_r8, h⟩ := bd_ok h
      refine c_callR (rest := []) C X hJ.1 hl.1 10 (by decide) hk [.int r1] (tk_10_isThere l h_r8) cw11_298 ki_10_isThere kl_10_isThere rfl ⟨by decide, by decide⟩ ⟨(by decide), (by decide)⟩ rfl (Nat.le_of_ble_eq_true rfl) dX11_object_67 ?_
      refine W.eq (g2 := F0 m 70 ls [.int r8]) rfl ?_
      refine lv_if_eq (tgt := 77) C.1 C.2.1 dX11_object_70 (by decide) (fun c9 => ?_) (fun c9 => ?_)
      · have h := if_t h c9
        refine lv_iconst (v := 0) C.1 C.2.1 dX11_object_77 (by decide) ?_
        exact wk_11_object_78 C X h hJ (lv_sub hl [] rfl)
      · have h := if_f h c9
        refine lv_iconst (v := 1) C.1 C.2.1 dX11_object_73 (by decide) ?_
        refine lv_goto (tgt := 78) C.1 C.2.1 dX11_object_74 (by decide) ?_
        exact wk_11_object_78 C X h hJ (lv_sub hl [] rfl)
    · have h := if_f h c5
      by_cases c10 : v3 = (1 : Int32)
      · have h := if_t h c10
        refine lv_tableIn (off := 55) (tgt := 79) C.1 C.2.1 dX11_object_24 (by rw [c10]; decide) (by rw [c10]; decide) (by rw [c10]; rfl) (by decide) ?_
        refine lv_aload_n C.1 C.2.1 dX11_object_79 rfl (lv_at hl 2 rfl) ?_
        obtain ⟨hk, h⟩ := ckk_ok h
        obtain ⟨a11, h_a11, h⟩ := bd_ok h
        refine gk11_19 C X hJ.1 hk h_a11 dX11_object_80 ?_
        refine lv_iload C.1 C.2.1 dX11_object_83 (lv_at hl 1 rfl) ?_
        obtain ⟨hk, h⟩ := ckk_ok h
        obtain ⟨r12, h_r12, h⟩ := bd_ok h
        refine c_callR (rest := []) C X hJ.1 hl.1 0 (by decide) hk [.int r1] (tk_0_kindOf l h_r12) cw11_301 ki_0_kindOf kl_0_kindOf rfl ⟨by decide, by decide⟩ ⟨(by decide), (by decide)⟩ rfl (Nat.le_of_ble_eq_true rfl) dX11_object_85 ?_
        refine W.eq (g2 := F0 m 88 ls [.int r12]) rfl ?_
        cases h
        exact c_retiW C hJ dX11_object_88
      · have h := if_f h c10
        by_cases c13 : v3 = (2 : Int32)
        · have h := if_t h c13
          refine lv_tableIn (off := 65) (tgt := 89) C.1 C.2.1 dX11_object_24 (by rw [c13]; decide) (by rw [c13]; decide) (by rw [c13]; rfl) (by decide) ?_
          refine lv_aload_n C.1 C.2.1 dX11_object_89 rfl (lv_at hl 2 rfl) ?_
          refine lv_aloadq (o := o4) C.1 C.2.1 dX11_object_90 (lv_at hl 0 rfl) ?_
          refine lv_iload C.1 C.2.1 dX11_object_92 (lv_at hl 1 rfl) ?_
          obtain ⟨a14, e_a14, h⟩ := bd_ok h
          subst e_a14
          obtain ⟨hk, h⟩ := ckk_ok h
          obtain ⟨⟨r16, S15⟩, h_S15, h⟩ := bd_ok h
          replace h := lt2_ok h
          refine c_callW (rest := []) C X hJ hl.1 11 (by decide) hk [.ref a14, .int r1] (tk_11_parentOf l h_S15) cw11_304 ki_11_parentOf kl_11_parentOf rfl ⟨by decide, by decide⟩ ⟨(by decide), (by decide)⟩ rfl (Nat.le_of_ble_eq_true rfl) dX11_object_94 (fun H locs hJ => ?_)
          refine W.eq (g2 := F0 m 97 ls [.int r16]) rfl ?_
          cases h
          exact c_retiW C hJ dX11_object_97
        · have h := if_f h c13
          by_cases c17 : v3 = (3 : Int32)
          · have h := if_t h c17
            refine lv_tableIn (off := 74) (tgt := 98) C.1 C.2.1 dX11_object_24 (by rw [c17]; decide) (by rw [c17]; decide) (by rw [c17]; rfl) (by decide) ?_
            refine lv_aload_n C.1 C.2.1 dX11_object_98 rfl (lv_at hl 2 rfl) ?_
            refine lv_aloadq (o := o4) C.1 C.2.1 dX11_object_99 (lv_at hl 0 rfl) ?_
            refine lv_iload C.1 C.2.1 dX11_object_101 (lv_at hl 1 rfl) ?_
            obtain ⟨a18, e_a18, h⟩ := bd_ok h
            subst e_a18
            obtain ⟨hk, h⟩ := ckk_ok h
            obtain ⟨⟨r20, S19⟩, h_S19, h⟩ := bd_ok h
            replace h := lt2_ok h
            refine c_callW (rest := []) C X hJ hl.1 11 (by decide) hk [.ref a18, .int r1] (tk_11_childrenOf l h_S19) cw11_307 ki_11_childrenOf kl_11_childrenOf rfl ⟨by decide, by decide⟩ ⟨(by decide), (by decide)⟩ rfl (Nat.le_of_ble_eq_true rfl) dX11_object_103 (fun H locs hJ => ?_)
            refine W.eq (g2 := F0 m 106 ls [.int r20]) rfl ?_
            cases h
            exact c_retiW C hJ dX11_object_106
          · have h := if_f h c17
            by_cases c21 : v3 = (4 : Int32)
            · have h := if_t h c21
              refine lv_tableIn (off := 83) (tgt := 107) C.1 C.2.1 dX11_object_24 (by rw [c21]; decide) (by rw [c21]; decide) (by rw [c21]; rfl) (by decide) ?_
              refine lv_aloadq (o := o4) C.1 C.2.1 dX11_object_107 (lv_at hl 0 rfl) ?_
              obtain ⟨a22, e_a22, h⟩ := bd_ok h
              subst e_a22
              obtain ⟨hk, h⟩ := ckk_ok h
              obtain ⟨a23, h_a23, h⟩ := bd_ok h
              refine gk11_147 C X hJ.1 hk h_a23 dX11_object_109 ?_
              refine lv_iload C.1 C.2.1 dX11_object_112 (lv_at hl 1 rfl) ?_
              refine lv_aload C.1 C.2.1 dX11_object_114 (lv_at hl 0 rfl) ?_
              obtain ⟨hk, h⟩ := ckk_ok h
              obtain ⟨r24, h_r24, h⟩ := bd_ok h
              refine c_callR (rest := [.int r1, .ref a23]) C X hJ.1 hl.1 7 (by decide) hk [] (tk_7_timeNow l h_r24) cw11_310 ki_7_timeNow kl_7_timeNow rfl ⟨by decide, by decide⟩ ⟨(by decide), (by decide)⟩ rfl (Nat.le_of_ble_eq_true rfl) dX11_object_116 ?_
              refine W.eq (g2 := F0 m 119 ls [.int r24, .int r1, .ref a23]) rfl ?_
              obtain ⟨hk, h⟩ := ckk_ok h
              obtain ⟨r25, h_r25, h⟩ := bd_ok h
              refine c_callR (rest := []) C X hJ.1 hl.1 10 (by decide) hk [.int r1, .int r24] (tk_10_holderOf l h_r25) cw11_313 ki_10_holderOf kl_10_holderOf rfl ⟨by decide, by decide⟩ ⟨(by decide), (by decide)⟩ rfl (Nat.le_of_ble_eq_true rfl) dX11_object_119 ?_
              refine W.eq (g2 := F0 m 122 ls [.int r25]) rfl ?_
              cases h
              exact c_retiW C hJ dX11_object_122
            · have h := if_f h c21
              have n_c5 := lv_neT c5 (a := 0) rfl
              have n_c10 := lv_neT c10 (a := 1) rfl
              have n_c13 := lv_neT c13 (a := 2) rfl
              have n_c17 := lv_neT c17 (a := 3) rfl
              have n_c21 := lv_neT c21 (a := 4) rfl
              refine lv_tableOut (tgt := 123) C.1 C.2.1 dX11_object_24 (by omega) (by decide) ?_
              refine lv_iconst (v := -1) C.1 C.2.1 dX11_object_123 (by decide) ?_
              cases h
              exact c_retiW C hJ dX11_object_124
  · have h := if_f h c2
    refine lv_iconst (v := -1) C.1 C.2.1 dX11_object_13 (by decide) ?_
    cases h
    exact c_retiW C hJ dX11_object_14
end
theorem dX11_findValues_0 : decode cX11_findValues 0 = .ok (.iload_n 3, 1) := by decide +kernel
theorem dX11_findValues_1 : decode cX11_findValues 1 = .ok (.bipush 83, 2) := by decide +kernel
theorem dX11_findValues_3 : decode cX11_findValues 3 = .ok (.if_icmp .ne 9, 3) := by decide +kernel
theorem dX11_findValues_6 : decode cX11_findValues 6 = .ok (.aload_n 1, 1) := by decide +kernel
theorem dX11_findValues_7 : decode cX11_findValues 7 = .ok (.iload_n 2, 1) := by decide +kernel
theorem dX11_findValues_8 : decode cX11_findValues 8 = .ok (.invokevirtual 520, 3) := by decide +kernel
theorem dX11_findValues_11 : decode cX11_findValues 11 = .ok (.ireturn, 1) := by decide +kernel
theorem dX11_findValues_12 : decode cX11_findValues 12 = .ok (.iload_n 3, 1) := by decide +kernel
theorem dX11_findValues_13 : decode cX11_findValues 13 = .ok (.bipush 66, 2) := by decide +kernel
theorem dX11_findValues_15 : decode cX11_findValues 15 = .ok (.if_icmp .ne 5, 3) := by decide +kernel
theorem dX11_findValues_18 : decode cX11_findValues 18 = .ok (.iconst 5, 1) := by decide +kernel
theorem dX11_findValues_19 : decode cX11_findValues 19 = .ok (.ireturn, 1) := by decide +kernel
theorem dX11_findValues_20 : decode cX11_findValues 20 = .ok (.iload_n 3, 1) := by decide +kernel
theorem dX11_findValues_21 : decode cX11_findValues 21 = .ok (.bipush 65, 2) := by decide +kernel
theorem dX11_findValues_23 : decode cX11_findValues 23 = .ok (.if_icmp .eq 9, 3) := by decide +kernel
theorem dX11_findValues_26 : decode cX11_findValues 26 = .ok (.iload_n 3, 1) := by decide +kernel
theorem dX11_findValues_27 : decode cX11_findValues 27 = .ok (.bipush 77, 2) := by decide +kernel
theorem dX11_findValues_29 : decode cX11_findValues 29 = .ok (.if_icmp .ne 10, 3) := by decide +kernel
theorem dX11_findValues_32 : decode cX11_findValues 32 = .ok (.aload_n 1, 1) := by decide +kernel
theorem dX11_findValues_33 : decode cX11_findValues 33 = .ok (.iload_n 2, 1) := by decide +kernel
theorem dX11_findValues_34 : decode cX11_findValues 34 = .ok (.iload_n 3, 1) := by decide +kernel
theorem dX11_findValues_35 : decode cX11_findValues 35 = .ok (.invokevirtual 523, 3) := by decide +kernel
theorem dX11_findValues_38 : decode cX11_findValues 38 = .ok (.ireturn, 1) := by decide +kernel
theorem dX11_findValues_39 : decode cX11_findValues 39 = .ok (.iload_n 3, 1) := by decide +kernel
theorem dX11_findValues_40 : decode cX11_findValues 40 = .ok (.bipush 84, 2) := by decide +kernel
theorem dX11_findValues_42 : decode cX11_findValues 42 = .ok (.if_icmp .ne 20, 3) := by decide +kernel
theorem dX11_findValues_45 : decode cX11_findValues 45 = .ok (.aload_n 0, 1) := by decide +kernel
theorem dX11_findValues_46 : decode cX11_findValues 46 = .ok (.getfield 41, 3) := by decide +kernel
theorem dX11_findValues_49 : decode cX11_findValues 49 = .ok (.aload_n 1, 1) := by decide +kernel
theorem dX11_findValues_50 : decode cX11_findValues 50 = .ok (.iload_n 2, 1) := by decide +kernel
theorem dX11_findValues_51 : decode cX11_findValues 51 = .ok (.invokevirtual 153, 3) := by decide +kernel
theorem dX11_findValues_54 : decode cX11_findValues 54 = .ok (.aload_n 0, 1) := by decide +kernel
theorem dX11_findValues_55 : decode cX11_findValues 55 = .ok (.getfield 41, 3) := by decide +kernel
theorem dX11_findValues_58 : decode cX11_findValues 58 = .ok (.getfield 165, 3) := by decide +kernel
theorem dX11_findValues_61 : decode cX11_findValues 61 = .ok (.ireturn, 1) := by decide +kernel
theorem dX11_findValues_62 : decode cX11_findValues 62 = .ok (.iconst 1, 1) := by decide +kernel
theorem dX11_findValues_63 : decode cX11_findValues 63 = .ok (.ireturn, 1) := by decide +kernel
theorem kd_11_findValues : Cond.code yX11_findValues cX11_findValues 4 (some .int) ∈ lw_g := mt_at 1465 (by decide +kernel) rfl
theorem ki_11_findValues : Cond.instanceMethod yX11_findValues ∈ lw_g := mt_at 1464 (by decide +kernel) rfl
theorem kl_11_findValues : Cond.selects (kRn 11) yX11_findValues yX11_findValues ∈ lw_g := mt_sel 39 (by decide +kernel) rfl
theorem cw11_520 : cCw RX11 520 yX10_findSeveral cX10_findSeveral 4 (some .int) 1 := ⟨kd_10_findSeveral, mt_at 1466 (by decide +kernel) rfl, mt_at 10 (by decide +kernel) rfl, by decide +kernel⟩
theorem cw11_523 : cCw RX11 523 yX10_findKeys cX10_findKeys 5 (some .int) 2 := ⟨kd_10_findKeys, mt_at 1467 (by decide +kernel) rfl, mt_at 10 (by decide +kernel) rfl, by decide +kernel⟩
section
variable {p : Program} {l : Launch} {e : Env} {R : Room} {s : State} {m : MethodId} {args : Array Value} {below : List Frame} {meth : Method} {c : Code} {D : cG} {S0 S9 : cSt} {r : Int32}
noncomputable def fk_11_findValues_32 (S : cSt) (v1 : Nat) (v2 : Int32) (v3 : Int32) : Option (Int32 × cSt) :=
ckk S v1 11 (bd (fk_10_findKeys S v1 v2 v3) fun q_r2 => lt q_r2.1 fun r2 => lt q_r2.2 fun S1 =>
some (r2, S1))
set_option maxRecDepth 100000 in
set_option maxHeartbeats 4000000 in
theorem wk_11_findValues_32 (C : cY p R s m args meth c RX11 cX11_findValues 4 5 0 0 129 (some .int)) (X : cX D s) : ∀ {S : cSt} {v1 : Nat} {v2 : Int32} {v3 : Int32} {H : Heap} {locs : List Loc} {ls : Array Slot}, fk_11_findValues_32 S v1 v2 v3 = some (r, S9) → cJ D S0 s.heap S H locs → lv_has ls 4 [(1, .ref v1), (2, .int v2), (3, .int v3)] → W p l e R s m args below meth c H locs 0 0 (MQ below (kW (some (.int r)) D S0 S9) args s 0 0 (cA S0)) (F0 m 32 ls []) := by
  intro S v1 v2 v3 H locs ls h hJ hl
  unfold fk_11_findValues_32 at h
  refine lv_aload_n C.1 C.2.1 dX11_findValues_32 rfl (lv_at hl 0 rfl) ?_
  refine lv_iload_n C.1 C.2.1 dX11_findValues_33 rfl (lv_at hl 1 rfl) ?_
  refine lv_iload_n C.1 C.2.1 dX11_findValues_34 rfl (lv_at hl 2 rfl) ?_
  obtain ⟨hk, h⟩ := ckk_ok h
  obtain ⟨⟨r2, S1⟩, h_S1, h⟩ := bd_ok h
  replace h := lt2_ok h
  refine c_callW (rest := []) C X hJ hl.1 10 (by decide) hk [.int v2, .int v3] (tk_10_findKeys l h_S1) cw11_523 ki_10_findKeys kl_10_findKeys rfl ⟨by decide, by decide⟩ ⟨(by decide), (by decide)⟩ rfl (Nat.le_of_ble_eq_true rfl) dX11_findValues_35 (fun H locs hJ => ?_)
  refine W.eq (g2 := F0 m 38 ls [.int r2]) rfl ?_
  cases h
  exact c_retiW C hJ dX11_findValues_38
noncomputable def fk_11_findValues (S : cSt) (v0 : Nat) (v1 : Nat) (v2 : Int32) (v3 : Int32) : Option (Int32 × cSt) :=
if v3 = (83 : Int32) then (
ckk S v1 11 (bd (fk_10_findSeveral S v1 v2) fun q_r11 => lt q_r11.1 fun r11 => lt q_r11.2 fun S10 =>
some (r11, S10)))
else (
if v3 = (66 : Int32) then (
some ((5 : Int32), S))
else (
if v3 = (65 : Int32) then (
fk_11_findValues_32 S v1 v2 v3)
else (
if v3 = (77 : Int32) then (
fk_11_findValues_32 S v1 v2 v3)
else (
if v3 = (84 : Int32) then (
ckk S v0 12 (bd (kR S v0 5) fun a6 =>
ckk S a6 10 (bd (fk_9_read S a6 v1 v2) fun S7 =>
ckk S7 v0 12 (bd (kR S7 v0 5) fun a8 =>
ckk S7 a8 10 (
some (kF S7 a8 1, S7))))))
else (
some ((1 : Int32), S))))))
set_option maxRecDepth 100000 in
set_option maxHeartbeats 4000000 in
theorem tk_11_findValues (l : Launch) {D : cG} {S : cSt} {v0 : Nat} {v1 : Nat} {v2 : Int32} {v3 : Int32} {r : Int32} {S9 : cSt} (h : fk_11_findValues S v0 v1 v2 v3 = some (r, S9)) : Met l yX11_findValues (Cond.code yX11_findValues cX11_findValues 4 (some .int) :: lw_g) { frames := 5, cells := 0, slots := 0, locals := 129 } (kPi [.ref v0, .ref v1, .int v2, .int v3] D S) (kW (some (.int r)) D S S9) 0 0 (cA S) := by
  refine Met.ofW (cc := cX11_findValues) (maxL := 4) (ret := (some .int)) (by decide) rfl ?_
  intro p e s m args below meth c s₁ B hml hv
  obtain ⟨rfl, hW, X⟩ := hv
  have C : cY p (headSpec (Cond.code yX11_findValues cX11_findValues 4 (some .int) :: lw_g) { frames := 5, cells := 0, slots := 0, locals := 129 }).room s m _ meth c RX11 cX11_findValues 4 5 0 0 129 (some .int) := ⟨B.exec, B.bytes, hml, findClass_of_methodNamed B.named, fun w hw => atoms_spec (ws := Cond.code yX11_findValues cX11_findValues 4 (some .int) :: lw_g) B.pre w (List.mem_cons_of_mem _ hw), ⟨Nat.le_refl _, Nat.le_refl _, Nat.le_refl _, Nat.le_refl _⟩, B.returns, B.notSynchronized⟩
  have hl := lv_entry ([.ref v0, .ref v1, .int v2, .int v3]) (n := 4) (Nat.le_of_ble_eq_true rfl)
  rw [lg_entry_eq]
  generalize (lg_sl ([.ref v0, .ref v1, .int v2, .int v3]) ++ List.replicate (4 - (lg_sl ([.ref v0, .ref v1, .int v2, .int v3])).length) Slot.unset).toArray = ls at hl ⊢
  have hl : lv_has ls 4 [(0, .ref v0), (1, .ref v1), (2, .int v2), (3, .int v3)] := hl
  have hJ : cJ D S s.heap S s.heap [] := cJ.rf hW
  unfold fk_11_findValues at h
  refine lv_iload_n C.1 C.2.1 dX11_findValues_0 rfl (lv_at hl 3 rfl) ?_
  refine lv_bipush (v := 83) C.1 C.2.1 dX11_findValues_1 (by decide) ?_
  refine lv_icmp_ne (tgt := 12) C.1 C.2.1 dX11_findValues_3 (by decide) (fun c1 => ?_) (fun c1 => ?_)
  · have h := if_f h c1
    refine lv_iload_n C.1 C.2.1 dX11_findValues_12 rfl (lv_at hl 3 rfl) ?_
    refine lv_bipush (v := 66) C.1 C.2.1 dX11_findValues_13 (by decide) ?_
    refine lv_icmp_ne (tgt := 20) C.1 C.2.1 dX11_findValues_15 (by decide) (fun c2 => ?_) (fun c2 => ?_)
    · have h := if_f h c2
      refine lv_iload_n C.1 C.2.1 dX11_findValues_20 rfl (lv_at hl 3 rfl) ?_
      refine lv_bipush (v := 65) C.1 C.2.1 dX11_findValues_21 (by decide) ?_
      refine lv_icmp_eq (tgt := 32) C.1 C.2.1 dX11_findValues_23 (by decide) (fun c3 => ?_) (fun c3 => ?_)
      · have h := if_t h c3
        exact wk_11_findValues_32 C X h hJ (lv_sub hl [1, 2, 3] rfl)
      · have h := if_f h c3
        refine lv_iload_n C.1 C.2.1 dX11_findValues_26 rfl (lv_at hl 3 rfl) ?_
        refine lv_bipush (v := 77) C.1 C.2.1 dX11_findValues_27 (by decide) ?_
        refine lv_icmp_ne (tgt := 39) C.1 C.2.1 dX11_findValues_29 (by decide) (fun c4 => ?_) (fun c4 => ?_)
        · have h := if_f h c4
          refine lv_iload_n C.1 C.2.1 dX11_findValues_39 rfl (lv_at hl 3 rfl) ?_
          refine lv_bipush (v := 84) C.1 C.2.1 dX11_findValues_40 (by decide) ?_
          refine lv_icmp_ne (tgt := 62) C.1 C.2.1 dX11_findValues_42 (by decide) (fun c5 => ?_) (fun c5 => ?_)
          · have h := if_f h c5
            refine lv_iconst (v := 1) C.1 C.2.1 dX11_findValues_62 (by decide) ?_
            cases h
            exact c_retiW C hJ dX11_findValues_63
          · have h := if_t h c5
            refine lv_aload_n C.1 C.2.1 dX11_findValues_45 rfl (lv_at hl 0 rfl) ?_
            obtain ⟨hk, h⟩ := ckk_ok h
            obtain ⟨a6, h_a6, h⟩ := bd_ok h
            refine gk11_41 C X hJ.1 hk h_a6 dX11_findValues_46 ?_
            refine lv_aload_n C.1 C.2.1 dX11_findValues_49 rfl (lv_at hl 1 rfl) ?_
            refine lv_iload_n C.1 C.2.1 dX11_findValues_50 rfl (lv_at hl 2 rfl) ?_
            obtain ⟨hk, h⟩ := ckk_ok h
            obtain ⟨S7, h_S7, h⟩ := bd_ok h
            refine c_callW (rest := []) C X hJ hl.1 9 (by decide) hk [.ref v1, .int v2] (tk_9_read l h_S7) cw11_153 ki_9_read kl_9_read rfl ⟨by decide, by decide⟩ ⟨(by decide), (by decide)⟩ rfl (Nat.le_of_ble_eq_true rfl) dX11_findValues_51 (fun H locs hJ => ?_)
            refine W.eq (g2 := F0 m 54 ls []) rfl ?_
            refine lv_aload_n C.1 C.2.1 dX11_findValues_54 rfl (lv_at hl 0 rfl) ?_
            obtain ⟨hk, h⟩ := ckk_ok h
            obtain ⟨a8, h_a8, h⟩ := bd_ok h
            refine gk11_41 C X hJ.1 hk h_a8 dX11_findValues_55 ?_
            obtain ⟨hk, h⟩ := ckk_ok h
            refine gk11_165 C X hJ.1 hk dX11_findValues_58 ?_
            cases h
            exact c_retiW C hJ dX11_findValues_61
        · have h := if_t h c4
          exact wk_11_findValues_32 C X h hJ (lv_sub hl [1, 2, 3] rfl)
    · have h := if_t h c2
      refine lv_iconst (v := 5) C.1 C.2.1 dX11_findValues_18 (by decide) ?_
      cases h
      exact c_retiW C hJ dX11_findValues_19
  · have h := if_t h c1
    refine lv_aload_n C.1 C.2.1 dX11_findValues_6 rfl (lv_at hl 1 rfl) ?_
    refine lv_iload_n C.1 C.2.1 dX11_findValues_7 rfl (lv_at hl 2 rfl) ?_
    obtain ⟨hk, h⟩ := ckk_ok h
    obtain ⟨⟨r11, S10⟩, h_S10, h⟩ := bd_ok h
    replace h := lt2_ok h
    refine c_callW (rest := []) C X hJ hl.1 10 (by decide) hk [.int v2] (tk_10_findSeveral l h_S10) cw11_520 ki_10_findSeveral kl_10_findSeveral rfl ⟨by decide, by decide⟩ ⟨(by decide), (by decide)⟩ rfl (Nat.le_of_ble_eq_true rfl) dX11_findValues_8 (fun H locs hJ => ?_)
    refine W.eq (g2 := F0 m 11 ls [.int r11]) rfl ?_
    cases h
    exact c_retiW C hJ dX11_findValues_11
end
theorem dX11_size_0 : decode cX11_size 0 = .ok (.aload_n 0, 1) := by decide +kernel
theorem dX11_size_1 : decode cX11_size 1 = .ok (.iload_n 1, 1) := by decide +kernel
theorem dX11_size_2 : decode cX11_size 2 = .ok (.iload_n 2, 1) := by decide +kernel
theorem dX11_size_3 : decode cX11_size 3 = .ok (.invokevirtual 295, 3) := by decide +kernel
theorem dX11_size_6 : decode cX11_size 6 = .ok (.istore 4, 2) := by decide +kernel
theorem dX11_size_8 : decode cX11_size 8 = .ok (.aload_n 0, 1) := by decide +kernel
theorem dX11_size_9 : decode cX11_size 9 = .ok (.iload 4, 2) := by decide +kernel
theorem dX11_size_11 : decode cX11_size 11 = .ok (.iload_n 3, 1) := by decide +kernel
theorem dX11_size_12 : decode cX11_size 12 = .ok (.invokevirtual 316, 3) := by decide +kernel
theorem dX11_size_15 : decode cX11_size 15 = .ok (.istore 5, 2) := by decide +kernel
theorem dX11_size_17 : decode cX11_size 17 = .ok (.iload 5, 2) := by decide +kernel
theorem dX11_size_19 : decode cX11_size 19 = .ok (.bipush 32, 2) := by decide +kernel
theorem dX11_size_21 : decode cX11_size 21 = .ok (.if_icmp .ne 7, 3) := by decide +kernel
theorem dX11_size_24 : decode cX11_size 24 = .ok (.iconst (-1), 1) := by decide +kernel
theorem dX11_size_25 : decode cX11_size 25 = .ok (.goto 25, 3) := by decide +kernel
theorem dX11_size_28 : decode cX11_size 28 = .ok (.aload_n 0, 1) := by decide +kernel
theorem dX11_size_29 : decode cX11_size 29 = .ok (.aload_n 0, 1) := by decide +kernel
theorem dX11_size_30 : decode cX11_size 30 = .ok (.getfield 25, 3) := by decide +kernel
theorem dX11_size_33 : decode cX11_size 33 = .ok (.iload_n 1, 1) := by decide +kernel
theorem dX11_size_34 : decode cX11_size 34 = .ok (.aaload, 1) := by decide +kernel
theorem dX11_size_35 : decode cX11_size 35 = .ok (.getfield 147, 3) := by decide +kernel
theorem dX11_size_38 : decode cX11_size 38 = .ok (.iload 4, 2) := by decide +kernel
theorem dX11_size_40 : decode cX11_size 40 = .ok (.bipush 8, 2) := by decide +kernel
theorem dX11_size_42 : decode cX11_size 42 = .ok (.imul, 1) := by decide +kernel
theorem dX11_size_43 : decode cX11_size 43 = .ok (.iload_n 3, 1) := by decide +kernel
theorem dX11_size_44 : decode cX11_size 44 = .ok (.iadd, 1) := by decide +kernel
theorem dX11_size_45 : decode cX11_size 45 = .ok (.iload 5, 2) := by decide +kernel
theorem dX11_size_47 : decode cX11_size 47 = .ok (.invokevirtual 319, 3) := by decide +kernel
theorem dX11_size_50 : decode cX11_size 50 = .ok (.ireturn, 1) := by decide +kernel
theorem kd_11_size : Cond.code yX11_size cX11_size 6 (some .int) ∈ lw_g := mt_at 1461 (by decide +kernel) rfl
theorem ki_11_size : Cond.instanceMethod yX11_size ∈ lw_g := mt_at 1459 (by decide +kernel) rfl
theorem kl_11_size : Cond.selects (kRn 11) yX11_size yX11_size ∈ lw_g := mt_at 1460 (by decide +kernel) rfl
theorem cw11_316 : cCw RX11 316 yX11_ruleAt cX11_ruleAt 3 (some .char) 2 := ⟨kd_11_ruleAt, mt_at 501 (by decide +kernel) rfl, mt_at 1 (by decide +kernel) rfl, by decide +kernel⟩
theorem cw11_319 : cCw RX11 319 yX11_findValues cX11_findValues 4 (some .int) 3 := ⟨kd_11_findValues, mt_at 1462 (by decide +kernel) rfl, mt_at 1 (by decide +kernel) rfl, by decide +kernel⟩
section
variable {p : Program} {l : Launch} {e : Env} {R : Room} {s : State} {m : MethodId} {args : Array Value} {below : List Frame} {meth : Method} {c : Code} {D : cG} {S0 S9 : cSt} {r : Int32}
noncomputable def fk_11_size_50 (S : cSt) (s0 : Int32) : Option (Int32 × cSt) :=
some (s0, S)
set_option maxRecDepth 100000 in
set_option maxHeartbeats 4000000 in
theorem wk_11_size_50 (C : cY p R s m args meth c RX11 cX11_size 6 6 0 0 152 (some .int)) (X : cX D s) : ∀ {S : cSt} {s0 : Int32} {H : Heap} {locs : List Loc} {ls : Array Slot}, fk_11_size_50 S s0 = some (r, S9) → cJ D S0 s.heap S H locs → lv_has ls 6 [] → W p l e R s m args below meth c H locs 0 0 (MQ below (kW (some (.int r)) D S0 S9) args s 0 0 (cA S0)) (F0 m 50 ls [.int s0]) := by
  intro S s0 H locs ls h hJ hl
  unfold fk_11_size_50 at h
  cases h
  exact c_retiW C hJ dX11_size_50
noncomputable def fk_11_size (S : cSt) (v0 : Nat) (v1 : Int32) (v2 : Int32) (v3 : Int32) : Option (Int32 × cSt) :=
ckk S v0 12 (bd (fk_11_madeSlot S v0 v1 v2) fun r1 =>
ckk S v0 12 (bd (fk_11_ruleAt S v0 r1 v3) fun r2 =>
if r2 = (32 : Int32) then (
fk_11_size_50 S (-1 : Int32))
else (
ckk S v0 12 (bd (kR S v0 2) fun a4 =>
ckk S a4 31 (ck v1 (kL S a4) (lt (kO S a4 (Int32.toNatClampNeg v1)) fun o5 =>
bd o5 fun a6 =>
ckk S a6 8 (bd (kR S a6 2) fun a7 =>
ckk S v0 12 (bd (fk_11_findValues S v0 a7 ((r1 * (8 : Int32)) + v3) r2) fun q_r9 => lt q_r9.1 fun r9 => lt q_r9.2 fun S8 =>
fk_11_size_50 S8 r9))))))))
set_option maxRecDepth 100000 in
set_option maxHeartbeats 4000000 in
theorem tk_11_size (l : Launch) {D : cG} {S : cSt} {v0 : Nat} {v1 : Int32} {v2 : Int32} {v3 : Int32} {r : Int32} {S9 : cSt} (h : fk_11_size S v0 v1 v2 v3 = some (r, S9)) : Met l yX11_size (Cond.code yX11_size cX11_size 6 (some .int) :: lw_g) { frames := 6, cells := 0, slots := 0, locals := 152 } (kPi [.ref v0, .int v1, .int v2, .int v3] D S) (kW (some (.int r)) D S S9) 0 0 (cA S) := by
  refine Met.ofW (cc := cX11_size) (maxL := 6) (ret := (some .int)) (by decide) rfl ?_
  intro p e s m args below meth c s₁ B hml hv
  obtain ⟨rfl, hW, X⟩ := hv
  have C : cY p (headSpec (Cond.code yX11_size cX11_size 6 (some .int) :: lw_g) { frames := 6, cells := 0, slots := 0, locals := 152 }).room s m _ meth c RX11 cX11_size 6 6 0 0 152 (some .int) := ⟨B.exec, B.bytes, hml, findClass_of_methodNamed B.named, fun w hw => atoms_spec (ws := Cond.code yX11_size cX11_size 6 (some .int) :: lw_g) B.pre w (List.mem_cons_of_mem _ hw), ⟨Nat.le_refl _, Nat.le_refl _, Nat.le_refl _, Nat.le_refl _⟩, B.returns, B.notSynchronized⟩
  have hl := lv_entry ([.ref v0, .int v1, .int v2, .int v3]) (n := 6) (Nat.le_of_ble_eq_true rfl)
  rw [lg_entry_eq]
  generalize (lg_sl ([.ref v0, .int v1, .int v2, .int v3]) ++ List.replicate (6 - (lg_sl ([.ref v0, .int v1, .int v2, .int v3])).length) Slot.unset).toArray = ls at hl ⊢
  have hl : lv_has ls 6 [(0, .ref v0), (1, .int v1), (2, .int v2), (3, .int v3)] := hl
  have hJ : cJ D S s.heap S s.heap [] := cJ.rf hW
  unfold fk_11_size at h
  refine lv_aload_n C.1 C.2.1 dX11_size_0 rfl (lv_at hl 0 rfl) ?_
  refine lv_iload_n C.1 C.2.1 dX11_size_1 rfl (lv_at hl 1 rfl) ?_
  refine lv_iload_n C.1 C.2.1 dX11_size_2 rfl (lv_at hl 2 rfl) ?_
  obtain ⟨hk, h⟩ := ckk_ok h
  obtain ⟨r1, h_r1, h⟩ := bd_ok h
  refine c_callR (rest := []) C X hJ.1 hl.1 11 (by decide) hk [.int v1, .int v2] (tk_11_madeSlot l h_r1) cw11_295 ki_11_madeSlot kl_11_madeSlot rfl ⟨by decide, by decide⟩ ⟨(by decide), (by decide)⟩ rfl (Nat.le_of_ble_eq_true rfl) dX11_size_3 ?_
  refine W.eq (g2 := F0 m 6 ls [.int r1]) rfl ?_
  refine lv_istore (lv' := [(4, .int r1), (0, .ref v0), (1, .int v1), (2, .int v2), (3, .int v3)]) C.1 C.2.1 dX11_size_6 hl (by decide) rfl (fun ls hl => ?_)
  refine lv_aload_n C.1 C.2.1 dX11_size_8 rfl (lv_at hl 1 rfl) ?_
  refine lv_iload C.1 C.2.1 dX11_size_9 (lv_at hl 0 rfl) ?_
  refine lv_iload_n C.1 C.2.1 dX11_size_11 rfl (lv_at hl 4 rfl) ?_
  obtain ⟨hk, h⟩ := ckk_ok h
  obtain ⟨r2, h_r2, h⟩ := bd_ok h
  refine c_callR (rest := []) C X hJ.1 hl.1 11 (by decide) hk [.int r1, .int v3] (tk_11_ruleAt l h_r2) cw11_316 ki_11_ruleAt kl_11_ruleAt rfl ⟨by decide, by decide⟩ ⟨(by decide), (by decide)⟩ rfl (Nat.le_of_ble_eq_true rfl) dX11_size_12 ?_
  refine W.eq (g2 := F0 m 15 ls [.int r2]) rfl ?_
  refine lv_istore (lv' := [(5, .int r2), (4, .int r1), (0, .ref v0), (1, .int v1), (2, .int v2), (3, .int v3)]) C.1 C.2.1 dX11_size_15 hl (by decide) rfl (fun ls hl => ?_)
  refine lv_iload C.1 C.2.1 dX11_size_17 (lv_at hl 0 rfl) ?_
  refine lv_bipush (v := 32) C.1 C.2.1 dX11_size_19 (by decide) ?_
  refine lv_icmp_ne (tgt := 28) C.1 C.2.1 dX11_size_21 (by decide) (fun c3 => ?_) (fun c3 => ?_)
  · have h := if_f h c3
    refine lv_aload_n C.1 C.2.1 dX11_size_28 rfl (lv_at hl 2 rfl) ?_
    refine lv_aload_n C.1 C.2.1 dX11_size_29 rfl (lv_at hl 2 rfl) ?_
    obtain ⟨hk, h⟩ := ckk_ok h
    obtain ⟨a4, h_a4, h⟩ := bd_ok h
    refine gk11_25 C X hJ.1 hk h_a4 dX11_size_30 ?_
    refine lv_iload_n C.1 C.2.1 dX11_size_33 rfl (lv_at hl 3 rfl) ?_
    obtain ⟨hk, h⟩ := ckk_ok h
    obtain ⟨hin2, h⟩ := ck_ok h
    refine c_aald C 31 (by decide) X.2.2.2.2.2.1 hJ.1 hk hin2 dX11_size_34 ?_
    refine lt_ok h (fun o5 e_o5 h => ?_)
    refine lv_nmq e_o5 ?_
    obtain ⟨a6, e_a6, h⟩ := bd_ok h
    subst e_a6
    obtain ⟨hk, h⟩ := ckk_ok h
    obtain ⟨a7, h_a7, h⟩ := bd_ok h
    refine gk11_147 C X hJ.1 hk h_a7 dX11_size_35 ?_
    refine lv_iload C.1 C.2.1 dX11_size_38 (lv_at hl 1 rfl) ?_
    refine lv_bipush (v := 8) C.1 C.2.1 dX11_size_40 (by decide) ?_
    refine lv_imul C.1 C.2.1 dX11_size_42 ?_
    refine lv_iload_n C.1 C.2.1 dX11_size_43 rfl (lv_at hl 5 rfl) ?_
    refine lv_iadd C.1 C.2.1 dX11_size_44 ?_
    refine lv_iload C.1 C.2.1 dX11_size_45 (lv_at hl 0 rfl) ?_
    obtain ⟨hk, h⟩ := ckk_ok h
    obtain ⟨⟨r9, S8⟩, h_S8, h⟩ := bd_ok h
    replace h := lt2_ok h
    refine c_callW (rest := []) C X hJ hl.1 11 (by decide) hk [.ref a7, .int ((r1 * (8 : Int32)) + v3), .int r2] (tk_11_findValues l h_S8) cw11_319 ki_11_findValues kl_11_findValues rfl ⟨by decide, by decide⟩ ⟨(by decide), (by decide)⟩ rfl (Nat.le_of_ble_eq_true rfl) dX11_size_47 (fun H locs hJ => ?_)
    refine W.eq (g2 := F0 m 50 ls [.int r9]) rfl ?_
    exact wk_11_size_50 C X h hJ (lv_sub hl [] rfl)
  · have h := if_t h c3
    refine lv_iconst (v := -1) C.1 C.2.1 dX11_size_24 (by decide) ?_
    refine lv_goto (tgt := 50) C.1 C.2.1 dX11_size_25 (by decide) ?_
    exact wk_11_size_50 C X h hJ (lv_sub hl [] rfl)
end
theorem dX11_sourceAt_0 : decode cX11_sourceAt 0 = .ok (.iload_n 3, 1) := by decide +kernel
theorem dX11_sourceAt_1 : decode cX11_sourceAt 1 = .ok (.bipush 83, 2) := by decide +kernel
theorem dX11_sourceAt_3 : decode cX11_sourceAt 3 = .ok (.if_icmp .ne 11, 3) := by decide +kernel
theorem dX11_sourceAt_6 : decode cX11_sourceAt 6 = .ok (.aload_n 1, 1) := by decide +kernel
theorem dX11_sourceAt_7 : decode cX11_sourceAt 7 = .ok (.getfield 527, 3) := by decide +kernel
theorem dX11_sourceAt_10 : decode cX11_sourceAt 10 = .ok (.iload 4, 2) := by decide +kernel
theorem dX11_sourceAt_12 : decode cX11_sourceAt 12 = .ok (.aaload, 1) := by decide +kernel
theorem dX11_sourceAt_13 : decode cX11_sourceAt 13 = .ok (.areturn, 1) := by decide +kernel
theorem dX11_sourceAt_14 : decode cX11_sourceAt 14 = .ok (.iload_n 3, 1) := by decide +kernel
theorem dX11_sourceAt_15 : decode cX11_sourceAt 15 = .ok (.bipush 65, 2) := by decide +kernel
theorem dX11_sourceAt_17 : decode cX11_sourceAt 17 = .ok (.if_icmp .eq 9, 3) := by decide +kernel
theorem dX11_sourceAt_20 : decode cX11_sourceAt 20 = .ok (.iload_n 3, 1) := by decide +kernel
theorem dX11_sourceAt_21 : decode cX11_sourceAt 21 = .ok (.bipush 77, 2) := by decide +kernel
theorem dX11_sourceAt_23 : decode cX11_sourceAt 23 = .ok (.if_icmp .ne 10, 3) := by decide +kernel
theorem dX11_sourceAt_26 : decode cX11_sourceAt 26 = .ok (.aload_n 1, 1) := by decide +kernel
theorem dX11_sourceAt_27 : decode cX11_sourceAt 27 = .ok (.iload 4, 2) := by decide +kernel
theorem dX11_sourceAt_29 : decode cX11_sourceAt 29 = .ok (.invokevirtual 530, 3) := by decide +kernel
theorem dX11_sourceAt_32 : decode cX11_sourceAt 32 = .ok (.areturn, 1) := by decide +kernel
theorem dX11_sourceAt_33 : decode cX11_sourceAt 33 = .ok (.iload_n 3, 1) := by decide +kernel
theorem dX11_sourceAt_34 : decode cX11_sourceAt 34 = .ok (.bipush 84, 2) := by decide +kernel
theorem dX11_sourceAt_36 : decode cX11_sourceAt 36 = .ok (.if_icmp .ne 16, 3) := by decide +kernel
theorem dX11_sourceAt_39 : decode cX11_sourceAt 39 = .ok (.aload_n 0, 1) := by decide +kernel
theorem dX11_sourceAt_40 : decode cX11_sourceAt 40 = .ok (.getfield 41, 3) := by decide +kernel
theorem dX11_sourceAt_43 : decode cX11_sourceAt 43 = .ok (.getfield 377, 3) := by decide +kernel
theorem dX11_sourceAt_46 : decode cX11_sourceAt 46 = .ok (.iload 4, 2) := by decide +kernel
theorem dX11_sourceAt_48 : decode cX11_sourceAt 48 = .ok (.aaload, 1) := by decide +kernel
theorem dX11_sourceAt_49 : decode cX11_sourceAt 49 = .ok (.goto 8, 3) := by decide +kernel
theorem dX11_sourceAt_52 : decode cX11_sourceAt 52 = .ok (.aload_n 1, 1) := by decide +kernel
theorem dX11_sourceAt_53 : decode cX11_sourceAt 53 = .ok (.iload_n 2, 1) := by decide +kernel
theorem dX11_sourceAt_54 : decode cX11_sourceAt 54 = .ok (.invokevirtual 533, 3) := by decide +kernel
theorem dX11_sourceAt_57 : decode cX11_sourceAt 57 = .ok (.areturn, 1) := by decide +kernel
theorem kd_11_sourceAt : Cond.code yX11_sourceAt cX11_sourceAt 5 (some (.object "AccordHouse$Row")) ∈ lw_g := mt_at 1482 (by decide +kernel) rfl
theorem ki_11_sourceAt : Cond.instanceMethod yX11_sourceAt ∈ lw_g := mt_at 1481 (by decide +kernel) rfl
theorem kl_11_sourceAt : Cond.selects (kRn 11) yX11_sourceAt yX11_sourceAt ∈ lw_g := mt_sel 41 (by decide +kernel) rfl
theorem cw11_530 : cCw RX11 530 yX10_keyAt cX10_keyAt 4 (some (.object "AccordHouse$Row")) 1 := ⟨kd_10_keyAt, mt_at 1483 (by decide +kernel) rfl, mt_at 10 (by decide +kernel) rfl, by decide +kernel⟩
theorem cw11_533 : cCw RX11 533 yX10_lastGood cX10_lastGood 3 (some (.object "AccordHouse$Row")) 1 := ⟨kd_10_lastGood, mt_at 1487 (by decide +kernel) rfl, mt_at 10 (by decide +kernel) rfl, by decide +kernel⟩
section
variable {p : Program} {l : Launch} {e : Env} {R : Room} {s : State} {m : MethodId} {args : Array Value} {below : List Frame} {meth : Method} {c : Code} {H : Heap} {locs : List Loc} {cells slots : Nat} {Q : State → Prop}
variable {D : cG} {S S0 : cSt} {cc : ByteArray} {nL : Nat} {pc : Nat} {ls : Array Slot} {rest : List Value} {H0 : Heap} {nF nR nC nS : Nat} {ret : Option FieldType} {a : Nat}
theorem gk11_527 (C : cY p R s m args meth c RX11 cc nL nF nC nS nR ret) (X : cX D s) (hW : cW D S H) (hk : kK S a = 11) {x : Nat} (hx : kR S a 0 = some x) (hdg : decode cc pc = .ok (.getfield 527, 3)) (kk : W p l e R s m args below meth c H locs cells slots Q (F0 m (pc + 3) ls (.ref x :: rest))) : W p l e R s m args below meth c H locs cells slots Q (F0 m pc ls (.ref a :: rest)) := c_get C X hW 10 (by decide) ly_10 hk 0 (by decide) (mt_at 273 (by decide +kernel) (by decide +kernel)) hdg (by rw [cV_R (by decide +kernel) hx]; exact kk)
end
section
variable {p : Program} {l : Launch} {e : Env} {R : Room} {s : State} {m : MethodId} {args : Array Value} {below : List Frame} {meth : Method} {c : Code} {D : cG} {S : cSt} {r : Option Nat}
noncomputable def fk_11_sourceAt_26 (S : cSt) (v1 : Nat) (v4 : Int32) : Option (Option Nat) :=
ckk S v1 11 (bd (fk_10_keyAt S v1 v4) fun o1 =>
some o1)
set_option maxRecDepth 100000 in
set_option maxHeartbeats 4000000 in
theorem wk_11_sourceAt_26 (C : cY p R s m args meth c RX11 cX11_sourceAt 5 2 0 0 44 (some (.object "AccordHouse$Row"))) (X : cX D s) (hW : cW D S s.heap) : ∀ {v1 : Nat} {v4 : Int32} {ls : Array Slot}, fk_11_sourceAt_26 S v1 v4 = some r → lv_has ls 5 [(1, .ref v1), (4, .int v4)] → W p l e R s m args below meth c s.heap [] 0 0 (MQ below (kQ (some (va_rf r))) args s 0 0 mNo) (F0 m 26 ls []) := by
  intro v1 v4 ls h hl
  unfold fk_11_sourceAt_26 at h
  refine lv_aload_n C.1 C.2.1 dX11_sourceAt_26 rfl (lv_at hl 0 rfl) ?_
  refine lv_iload C.1 C.2.1 dX11_sourceAt_27 (lv_at hl 1 rfl) ?_
  obtain ⟨hk, h⟩ := ckk_ok h
  obtain ⟨o1, h_o1, h⟩ := bd_ok h
  refine c_callR (rest := []) C X hW hl.1 10 (by decide) hk [.int v4] (tk_10_keyAt l h_o1) cw11_530 ki_10_keyAt kl_10_keyAt rfl ⟨by decide, by decide⟩ ⟨(by decide), (by decide)⟩ rfl (Nat.le_of_ble_eq_true rfl) dX11_sourceAt_29 ?_
  refine W.eq (g2 := F0 m 32 ls [va_rf o1]) rfl ?_
  cases h
  exact c_reta C rfl rfl dX11_sourceAt_32
noncomputable def fk_11_sourceAt_57 (S : cSt) (s0 : Option Nat) : Option (Option Nat) :=
some s0
set_option maxRecDepth 100000 in
set_option maxHeartbeats 4000000 in
theorem wk_11_sourceAt_57 (C : cY p R s m args meth c RX11 cX11_sourceAt 5 2 0 0 44 (some (.object "AccordHouse$Row"))) (X : cX D s) (hW : cW D S s.heap) : ∀ {s0 : Option Nat} {ls : Array Slot}, fk_11_sourceAt_57 S s0 = some r → lv_has ls 5 [] → W p l e R s m args below meth c s.heap [] 0 0 (MQ below (kQ (some (va_rf r))) args s 0 0 mNo) (F0 m 57 ls [va_rf s0]) := by
  intro s0 ls h hl
  unfold fk_11_sourceAt_57 at h
  cases h
  exact c_reta C rfl rfl dX11_sourceAt_57
noncomputable def fk_11_sourceAt (S : cSt) (v0 : Nat) (v1 : Nat) (v2 : Int32) (v3 : Int32) (v4 : Int32) : Option (Option Nat) :=
if v3 = (83 : Int32) then (
ckk S v1 11 (bd (kR S v1 0) fun a9 =>
ckk S a9 30 (ck v4 (kL S a9) (lt (kO S a9 (Int32.toNatClampNeg v4)) fun o10 =>
some o10))))
else (
if v3 = (65 : Int32) then (
fk_11_sourceAt_26 S v1 v4)
else (
if v3 = (77 : Int32) then (
fk_11_sourceAt_26 S v1 v4)
else (
if v3 = (84 : Int32) then (
ckk S v0 12 (bd (kR S v0 5) fun a6 =>
ckk S a6 10 (bd (kR S a6 0) fun a7 =>
ckk S a7 30 (ck v4 (kL S a7) (lt (kO S a7 (Int32.toNatClampNeg v4)) fun o8 =>
fk_11_sourceAt_57 S o8)))))
else (
ckk S v1 11 (bd (fk_10_lastGood S v1 v2) fun o5 =>
fk_11_sourceAt_57 S o5)))))
set_option maxRecDepth 100000 in
set_option maxHeartbeats 4000000 in
theorem tk_11_sourceAt (l : Launch) {D : cG} {S : cSt} {v0 : Nat} {v1 : Nat} {v2 : Int32} {v3 : Int32} {v4 : Int32} {r : Option Nat}  (h : fk_11_sourceAt S v0 v1 v2 v3 v4 = some r) : Met l yX11_sourceAt (Cond.code yX11_sourceAt cX11_sourceAt 5 (some (.object "AccordHouse$Row")) :: lw_g) { frames := 2, cells := 0, slots := 0, locals := 44 } (kPi [.ref v0, .ref v1, .int v2, .int v3, .int v4] D S) (kQ (some (va_rf r))) 0 0 (mNo) := by
  refine Met.ofW (cc := cX11_sourceAt) (maxL := 5) (ret := (some (.object "AccordHouse$Row"))) (by decide) rfl ?_
  intro p e s m args below meth c s₁ B hml hv
  obtain ⟨rfl, hW, X⟩ := hv
  have C : cY p (headSpec (Cond.code yX11_sourceAt cX11_sourceAt 5 (some (.object "AccordHouse$Row")) :: lw_g) { frames := 2, cells := 0, slots := 0, locals := 44 }).room s m _ meth c RX11 cX11_sourceAt 5 2 0 0 44 (some (.object "AccordHouse$Row")) := ⟨B.exec, B.bytes, hml, findClass_of_methodNamed B.named, fun w hw => atoms_spec (ws := Cond.code yX11_sourceAt cX11_sourceAt 5 (some (.object "AccordHouse$Row")) :: lw_g) B.pre w (List.mem_cons_of_mem _ hw), ⟨Nat.le_refl _, Nat.le_refl _, Nat.le_refl _, Nat.le_refl _⟩, B.returns, B.notSynchronized⟩
  have hl := lv_entry ([.ref v0, .ref v1, .int v2, .int v3, .int v4]) (n := 5) (Nat.le_of_ble_eq_true rfl)
  rw [lg_entry_eq]
  generalize (lg_sl ([.ref v0, .ref v1, .int v2, .int v3, .int v4]) ++ List.replicate (5 - (lg_sl ([.ref v0, .ref v1, .int v2, .int v3, .int v4])).length) Slot.unset).toArray = ls at hl ⊢
  have hl : lv_has ls 5 [(0, .ref v0), (1, .ref v1), (2, .int v2), (3, .int v3), (4, .int v4)] := hl
  unfold fk_11_sourceAt at h
  refine lv_iload_n C.1 C.2.1 dX11_sourceAt_0 rfl (lv_at hl 3 rfl) ?_
  refine lv_bipush (v := 83) C.1 C.2.1 dX11_sourceAt_1 (by decide) ?_
  refine lv_icmp_ne (tgt := 14) C.1 C.2.1 dX11_sourceAt_3 (by decide) (fun c1 => ?_) (fun c1 => ?_)
  · have h := if_f h c1
    refine lv_iload_n C.1 C.2.1 dX11_sourceAt_14 rfl (lv_at hl 3 rfl) ?_
    refine lv_bipush (v := 65) C.1 C.2.1 dX11_sourceAt_15 (by decide) ?_
    refine lv_icmp_eq (tgt := 26) C.1 C.2.1 dX11_sourceAt_17 (by decide) (fun c2 => ?_) (fun c2 => ?_)
    · have h := if_t h c2
      exact wk_11_sourceAt_26 C X hW h (lv_sub hl [1, 4] rfl)
    · have h := if_f h c2
      refine lv_iload_n C.1 C.2.1 dX11_sourceAt_20 rfl (lv_at hl 3 rfl) ?_
      refine lv_bipush (v := 77) C.1 C.2.1 dX11_sourceAt_21 (by decide) ?_
      refine lv_icmp_ne (tgt := 33) C.1 C.2.1 dX11_sourceAt_23 (by decide) (fun c3 => ?_) (fun c3 => ?_)
      · have h := if_f h c3
        refine lv_iload_n C.1 C.2.1 dX11_sourceAt_33 rfl (lv_at hl 3 rfl) ?_
        refine lv_bipush (v := 84) C.1 C.2.1 dX11_sourceAt_34 (by decide) ?_
        refine lv_icmp_ne (tgt := 52) C.1 C.2.1 dX11_sourceAt_36 (by decide) (fun c4 => ?_) (fun c4 => ?_)
        · have h := if_f h c4
          refine lv_aload_n C.1 C.2.1 dX11_sourceAt_52 rfl (lv_at hl 1 rfl) ?_
          refine lv_iload_n C.1 C.2.1 dX11_sourceAt_53 rfl (lv_at hl 2 rfl) ?_
          obtain ⟨hk, h⟩ := ckk_ok h
          obtain ⟨o5, h_o5, h⟩ := bd_ok h
          refine c_callR (rest := []) C X hW hl.1 10 (by decide) hk [.int v2] (tk_10_lastGood l h_o5) cw11_533 ki_10_lastGood kl_10_lastGood rfl ⟨by decide, by decide⟩ ⟨(by decide), (by decide)⟩ rfl (Nat.le_of_ble_eq_true rfl) dX11_sourceAt_54 ?_
          refine W.eq (g2 := F0 m 57 ls [va_rf o5]) rfl ?_
          exact wk_11_sourceAt_57 C X hW h (lv_sub hl [] rfl)
        · have h := if_t h c4
          refine lv_aload_n C.1 C.2.1 dX11_sourceAt_39 rfl (lv_at hl 0 rfl) ?_
          obtain ⟨hk, h⟩ := ckk_ok h
          obtain ⟨a6, h_a6, h⟩ := bd_ok h
          refine gk11_41 C X hW hk h_a6 dX11_sourceAt_40 ?_
          obtain ⟨hk, h⟩ := ckk_ok h
          obtain ⟨a7, h_a7, h⟩ := bd_ok h
          refine gk11_377 C X hW hk h_a7 dX11_sourceAt_43 ?_
          refine lv_iload C.1 C.2.1 dX11_sourceAt_46 (lv_at hl 4 rfl) ?_
          obtain ⟨hk, h⟩ := ckk_ok h
          obtain ⟨hin2, h⟩ := ck_ok h
          refine c_aald C 30 (by decide) X.2.2.2.2.1 hW hk hin2 dX11_sourceAt_48 ?_
          refine lt_ok h (fun o8 e_o8 h => ?_)
          refine lv_nmq e_o8 ?_
          refine lv_goto (tgt := 57) C.1 C.2.1 dX11_sourceAt_49 (by decide) ?_
          exact wk_11_sourceAt_57 C X hW h (lv_sub hl [] rfl)
      · have h := if_t h c3
        exact wk_11_sourceAt_26 C X hW h (lv_sub hl [1, 4] rfl)
  · have h := if_t h c1
    refine lv_aload_n C.1 C.2.1 dX11_sourceAt_6 rfl (lv_at hl 1 rfl) ?_
    obtain ⟨hk, h⟩ := ckk_ok h
    obtain ⟨a9, h_a9, h⟩ := bd_ok h
    refine gk11_527 C X hW hk h_a9 dX11_sourceAt_7 ?_
    refine lv_iload C.1 C.2.1 dX11_sourceAt_10 (lv_at hl 4 rfl) ?_
    obtain ⟨hk, h⟩ := ckk_ok h
    obtain ⟨hin2, h⟩ := ck_ok h
    refine c_aald C 30 (by decide) X.2.2.2.2.1 hW hk hin2 dX11_sourceAt_12 ?_
    refine lt_ok h (fun o10 e_o10 h => ?_)
    refine lv_nmq e_o10 ?_
    cases h
    exact c_reta C rfl rfl dX11_sourceAt_13
end
theorem dX11_by_0 : decode cX11_by 0 = .ok (.aload_n 0, 1) := by decide +kernel
theorem dX11_by_1 : decode cX11_by 1 = .ok (.iload_n 1, 1) := by decide +kernel
theorem dX11_by_2 : decode cX11_by 2 = .ok (.iload_n 2, 1) := by decide +kernel
theorem dX11_by_3 : decode cX11_by 3 = .ok (.invokevirtual 295, 3) := by decide +kernel
theorem dX11_by_6 : decode cX11_by 6 = .ok (.istore 5, 2) := by decide +kernel
theorem dX11_by_8 : decode cX11_by 8 = .ok (.aload_n 0, 1) := by decide +kernel
theorem dX11_by_9 : decode cX11_by 9 = .ok (.iload 5, 2) := by decide +kernel
theorem dX11_by_11 : decode cX11_by 11 = .ok (.iload_n 3, 1) := by decide +kernel
theorem dX11_by_12 : decode cX11_by 12 = .ok (.invokevirtual 316, 3) := by decide +kernel
theorem dX11_by_15 : decode cX11_by 15 = .ok (.istore 6, 2) := by decide +kernel
theorem dX11_by_17 : decode cX11_by 17 = .ok (.iload 6, 2) := by decide +kernel
theorem dX11_by_19 : decode cX11_by 19 = .ok (.bipush 32, 2) := by decide +kernel
theorem dX11_by_21 : decode cX11_by 21 = .ok (.if_icmp .eq 17, 3) := by decide +kernel
theorem dX11_by_24 : decode cX11_by 24 = .ok (.iload 6, 2) := by decide +kernel
theorem dX11_by_26 : decode cX11_by 26 = .ok (.bipush 67, 2) := by decide +kernel
theorem dX11_by_28 : decode cX11_by 28 = .ok (.if_icmp .eq 10, 3) := by decide +kernel
theorem dX11_by_31 : decode cX11_by 31 = .ok (.iload 6, 2) := by decide +kernel
theorem dX11_by_33 : decode cX11_by 33 = .ok (.bipush 66, 2) := by decide +kernel
theorem dX11_by_35 : decode cX11_by 35 = .ok (.if_icmp .ne 5, 3) := by decide +kernel
theorem dX11_by_38 : decode cX11_by 38 = .ok (.iconst (-1), 1) := by decide +kernel
theorem dX11_by_39 : decode cX11_by 39 = .ok (.ireturn, 1) := by decide +kernel
theorem dX11_by_40 : decode cX11_by 40 = .ok (.aload_n 0, 1) := by decide +kernel
theorem dX11_by_41 : decode cX11_by 41 = .ok (.getfield 25, 3) := by decide +kernel
theorem dX11_by_44 : decode cX11_by 44 = .ok (.iload_n 1, 1) := by decide +kernel
theorem dX11_by_45 : decode cX11_by 45 = .ok (.aaload, 1) := by decide +kernel
theorem dX11_by_46 : decode cX11_by 46 = .ok (.getfield 147, 3) := by decide +kernel
theorem dX11_by_49 : decode cX11_by 49 = .ok (.astore 7, 2) := by decide +kernel
theorem dX11_by_51 : decode cX11_by 51 = .ok (.iload 5, 2) := by decide +kernel
theorem dX11_by_53 : decode cX11_by 53 = .ok (.bipush 8, 2) := by decide +kernel
theorem dX11_by_55 : decode cX11_by 55 = .ok (.imul, 1) := by decide +kernel
theorem dX11_by_56 : decode cX11_by 56 = .ok (.iload_n 3, 1) := by decide +kernel
theorem dX11_by_57 : decode cX11_by 57 = .ok (.iadd, 1) := by decide +kernel
theorem dX11_by_58 : decode cX11_by 58 = .ok (.istore 8, 2) := by decide +kernel
theorem dX11_by_60 : decode cX11_by 60 = .ok (.iload 4, 2) := by decide +kernel
theorem dX11_by_62 : decode cX11_by 62 = .ok (.ifCond .lt 18, 3) := by decide +kernel
theorem dX11_by_65 : decode cX11_by 65 = .ok (.iload 4, 2) := by decide +kernel
theorem dX11_by_67 : decode cX11_by 67 = .ok (.aload_n 0, 1) := by decide +kernel
theorem dX11_by_68 : decode cX11_by 68 = .ok (.aload 7, 2) := by decide +kernel
theorem dX11_by_70 : decode cX11_by 70 = .ok (.iload 8, 2) := by decide +kernel
theorem dX11_by_72 : decode cX11_by 72 = .ok (.iload 6, 2) := by decide +kernel
theorem dX11_by_74 : decode cX11_by 74 = .ok (.invokevirtual 319, 3) := by decide +kernel
theorem dX11_by_77 : decode cX11_by 77 = .ok (.if_icmp .lt 5, 3) := by decide +kernel
theorem dX11_by_80 : decode cX11_by 80 = .ok (.iconst (-1), 1) := by decide +kernel
theorem dX11_by_81 : decode cX11_by 81 = .ok (.ireturn, 1) := by decide +kernel
theorem dX11_by_82 : decode cX11_by 82 = .ok (.aload_n 0, 1) := by decide +kernel
theorem dX11_by_83 : decode cX11_by 83 = .ok (.aload 7, 2) := by decide +kernel
theorem dX11_by_85 : decode cX11_by 85 = .ok (.iload 8, 2) := by decide +kernel
theorem dX11_by_87 : decode cX11_by 87 = .ok (.iload 6, 2) := by decide +kernel
theorem dX11_by_89 : decode cX11_by 89 = .ok (.iload 4, 2) := by decide +kernel
theorem dX11_by_91 : decode cX11_by 91 = .ok (.invokevirtual 336, 3) := by decide +kernel
theorem dX11_by_94 : decode cX11_by 94 = .ok (.astore 9, 2) := by decide +kernel
theorem dX11_by_96 : decode cX11_by 96 = .ok (.aload 9, 2) := by decide +kernel
theorem dX11_by_98 : decode cX11_by 98 = .ok (.ifnonnull 7, 3) := by decide +kernel
theorem dX11_by_101 : decode cX11_by 101 = .ok (.iconst 0, 1) := by decide +kernel
theorem dX11_by_102 : decode cX11_by 102 = .ok (.goto 8, 3) := by decide +kernel
theorem dX11_by_105 : decode cX11_by 105 = .ok (.aload 9, 2) := by decide +kernel
theorem dX11_by_107 : decode cX11_by 107 = .ok (.getfield 142, 3) := by decide +kernel
theorem dX11_by_110 : decode cX11_by 110 = .ok (.ireturn, 1) := by decide +kernel
theorem kd_11_by : Cond.code yX11_by cX11_by 10 (some .int) ∈ lw_g := mt_at 1478 (by decide +kernel) rfl
theorem ki_11_by : Cond.instanceMethod yX11_by ∈ lw_g := mt_at 1476 (by decide +kernel) rfl
theorem kl_11_by : Cond.selects (kRn 11) yX11_by yX11_by ∈ lw_g := mt_at 1477 (by decide +kernel) rfl
theorem cw11_336 : cCw RX11 336 yX11_sourceAt cX11_sourceAt 5 (some (.object "AccordHouse$Row")) 4 := ⟨kd_11_sourceAt, mt_at 1479 (by decide +kernel) rfl, mt_at 1 (by decide +kernel) rfl, by decide +kernel⟩
section
variable {p : Program} {l : Launch} {e : Env} {R : Room} {s : State} {m : MethodId} {args : Array Value} {below : List Frame} {meth : Method} {c : Code} {D : cG} {S0 S9 : cSt} {r : Int32}
noncomputable def fk_11_by_38 (S : cSt) : Option (Int32 × cSt) :=
some ((-1 : Int32), S)
set_option maxRecDepth 100000 in
set_option maxHeartbeats 4000000 in
theorem wk_11_by_38 (C : cY p R s m args meth c RX11 cX11_by 10 6 0 0 152 (some .int)) (X : cX D s) : ∀ {S : cSt} {H : Heap} {locs : List Loc} {ls : Array Slot}, fk_11_by_38 S = some (r, S9) → cJ D S0 s.heap S H locs → lv_has ls 10 [] → W p l e R s m args below meth c H locs 0 0 (MQ below (kW (some (.int r)) D S0 S9) args s 0 0 (cA S0)) (F0 m 38 ls []) := by
  intro S H locs ls h hJ hl
  unfold fk_11_by_38 at h
  refine lv_iconst (v := -1) C.1 C.2.1 dX11_by_38 (by decide) ?_
  cases h
  exact c_retiW C hJ dX11_by_39
noncomputable def fk_11_by_80 (S : cSt) : Option (Int32 × cSt) :=
some ((-1 : Int32), S)
set_option maxRecDepth 100000 in
set_option maxHeartbeats 4000000 in
theorem wk_11_by_80 (C : cY p R s m args meth c RX11 cX11_by 10 6 0 0 152 (some .int)) (X : cX D s) : ∀ {S : cSt} {H : Heap} {locs : List Loc} {ls : Array Slot}, fk_11_by_80 S = some (r, S9) → cJ D S0 s.heap S H locs → lv_has ls 10 [] → W p l e R s m args below meth c H locs 0 0 (MQ below (kW (some (.int r)) D S0 S9) args s 0 0 (cA S0)) (F0 m 80 ls []) := by
  intro S H locs ls h hJ hl
  unfold fk_11_by_80 at h
  refine lv_iconst (v := -1) C.1 C.2.1 dX11_by_80 (by decide) ?_
  cases h
  exact c_retiW C hJ dX11_by_81
noncomputable def fk_11_by_110 (S : cSt) (s0 : Int32) : Option (Int32 × cSt) :=
some (s0, S)
set_option maxRecDepth 100000 in
set_option maxHeartbeats 4000000 in
theorem wk_11_by_110 (C : cY p R s m args meth c RX11 cX11_by 10 6 0 0 152 (some .int)) (X : cX D s) : ∀ {S : cSt} {s0 : Int32} {H : Heap} {locs : List Loc} {ls : Array Slot}, fk_11_by_110 S s0 = some (r, S9) → cJ D S0 s.heap S H locs → lv_has ls 10 [] → W p l e R s m args below meth c H locs 0 0 (MQ below (kW (some (.int r)) D S0 S9) args s 0 0 (cA S0)) (F0 m 110 ls [.int s0]) := by
  intro S s0 H locs ls h hJ hl
  unfold fk_11_by_110 at h
  cases h
  exact c_retiW C hJ dX11_by_110
noncomputable def fk_11_by (S : cSt) (v0 : Nat) (v1 : Int32) (v2 : Int32) (v3 : Int32) (v4 : Int32) : Option (Int32 × cSt) :=
ckk S v0 12 (bd (fk_11_madeSlot S v0 v1 v2) fun r1 =>
ckk S v0 12 (bd (fk_11_ruleAt S v0 r1 v3) fun r2 =>
if r2 = (32 : Int32) then (
fk_11_by_38 S)
else (
if r2 = (67 : Int32) then (
fk_11_by_38 S)
else (
if r2 = (66 : Int32) then (
fk_11_by_38 S)
else (
ckk S v0 12 (bd (kR S v0 2) fun a6 =>
ckk S a6 31 (ck v1 (kL S a6) (lt (kO S a6 (Int32.toNatClampNeg v1)) fun o7 =>
bd o7 fun a8 =>
ckk S a8 8 (bd (kR S a8 2) fun a9 =>
lt ((r1 * (8 : Int32)) + v3) fun x10 =>
if v4 < 0 then (
fk_11_by_80 S)
else (
ckk S v0 12 (bd (fk_11_findValues S v0 a9 x10 r2) fun q_r13 => lt q_r13.1 fun r13 => lt q_r13.2 fun S12 =>
if v4 < r13 then (
ckk S12 v0 12 (bd (fk_11_sourceAt S12 v0 a9 x10 r2 v4) fun o15 =>
cs o15 (
fk_11_by_110 S12 (0 : Int32)) (fun a16 =>
ckk S12 a16 9 (
fk_11_by_110 S12 (kF S12 a16 11)))))
else (
fk_11_by_80 S12))))))))))))
set_option maxRecDepth 100000 in
set_option maxHeartbeats 4000000 in
theorem tk_11_by (l : Launch) {D : cG} {S : cSt} {v0 : Nat} {v1 : Int32} {v2 : Int32} {v3 : Int32} {v4 : Int32} {r : Int32} {S9 : cSt} (h : fk_11_by S v0 v1 v2 v3 v4 = some (r, S9)) : Met l yX11_by (Cond.code yX11_by cX11_by 10 (some .int) :: lw_g) { frames := 6, cells := 0, slots := 0, locals := 152 } (kPi [.ref v0, .int v1, .int v2, .int v3, .int v4] D S) (kW (some (.int r)) D S S9) 0 0 (cA S) := by
  refine Met.ofW (cc := cX11_by) (maxL := 10) (ret := (some .int)) (by decide) rfl ?_
  intro p e s m args below meth c s₁ B hml hv
  obtain ⟨rfl, hW, X⟩ := hv
  have C : cY p (headSpec (Cond.code yX11_by cX11_by 10 (some .int) :: lw_g) { frames := 6, cells := 0, slots := 0, locals := 152 }).room s m _ meth c RX11 cX11_by 10 6 0 0 152 (some .int) := ⟨B.exec, B.bytes, hml, findClass_of_methodNamed B.named, fun w hw => atoms_spec (ws := Cond.code yX11_by cX11_by 10 (some .int) :: lw_g) B.pre w (List.mem_cons_of_mem _ hw), ⟨Nat.le_refl _, Nat.le_refl _, Nat.le_refl _, Nat.le_refl _⟩, B.returns, B.notSynchronized⟩
  have hl := lv_entry ([.ref v0, .int v1, .int v2, .int v3, .int v4]) (n := 10) (Nat.le_of_ble_eq_true rfl)
  rw [lg_entry_eq]
  generalize (lg_sl ([.ref v0, .int v1, .int v2, .int v3, .int v4]) ++ List.replicate (10 - (lg_sl ([.ref v0, .int v1, .int v2, .int v3, .int v4])).length) Slot.unset).toArray = ls at hl ⊢
  have hl : lv_has ls 10 [(0, .ref v0), (1, .int v1), (2, .int v2), (3, .int v3), (4, .int v4)] := hl
  have hJ : cJ D S s.heap S s.heap [] := cJ.rf hW
  unfold fk_11_by at h
  refine lv_aload_n C.1 C.2.1 dX11_by_0 rfl (lv_at hl 0 rfl) ?_
  refine lv_iload_n C.1 C.2.1 dX11_by_1 rfl (lv_at hl 1 rfl) ?_
  refine lv_iload_n C.1 C.2.1 dX11_by_2 rfl (lv_at hl 2 rfl) ?_
  obtain ⟨hk, h⟩ := ckk_ok h
  obtain ⟨r1, h_r1, h⟩ := bd_ok h
  refine c_callR (rest := []) C X hJ.1 hl.1 11 (by decide) hk [.int v1, .int v2] (tk_11_madeSlot l h_r1) cw11_295 ki_11_madeSlot kl_11_madeSlot rfl ⟨by decide, by decide⟩ ⟨(by decide), (by decide)⟩ rfl (Nat.le_of_ble_eq_true rfl) dX11_by_3 ?_
  refine W.eq (g2 := F0 m 6 ls [.int r1]) rfl ?_
  refine lv_istore (lv' := [(5, .int r1), (0, .ref v0), (1, .int v1), (2, .int v2), (3, .int v3), (4, .int v4)]) C.1 C.2.1 dX11_by_6 hl (by decide) rfl (fun ls hl => ?_)
  refine lv_aload_n C.1 C.2.1 dX11_by_8 rfl (lv_at hl 1 rfl) ?_
  refine lv_iload C.1 C.2.1 dX11_by_9 (lv_at hl 0 rfl) ?_
  refine lv_iload_n C.1 C.2.1 dX11_by_11 rfl (lv_at hl 4 rfl) ?_
  obtain ⟨hk, h⟩ := ckk_ok h
  obtain ⟨r2, h_r2, h⟩ := bd_ok h
  refine c_callR (rest := []) C X hJ.1 hl.1 11 (by decide) hk [.int r1, .int v3] (tk_11_ruleAt l h_r2) cw11_316 ki_11_ruleAt kl_11_ruleAt rfl ⟨by decide, by decide⟩ ⟨(by decide), (by decide)⟩ rfl (Nat.le_of_ble_eq_true rfl) dX11_by_12 ?_
  refine W.eq (g2 := F0 m 15 ls [.int r2]) rfl ?_
  refine lv_istore (lv' := [(6, .int r2), (5, .int r1), (0, .ref v0), (1, .int v1), (2, .int v2), (3, .int v3), (4, .int v4)]) C.1 C.2.1 dX11_by_15 hl (by decide) rfl (fun ls hl => ?_)
  refine lv_iload C.1 C.2.1 dX11_by_17 (lv_at hl 0 rfl) ?_
  refine lv_bipush (v := 32) C.1 C.2.1 dX11_by_19 (by decide) ?_
  refine lv_icmp_eq (tgt := 38) C.1 C.2.1 dX11_by_21 (by decide) (fun c3 => ?_) (fun c3 => ?_)
  · have h := if_t h c3
    exact wk_11_by_38 C X h hJ (lv_sub hl [] rfl)
  · have h := if_f h c3
    refine lv_iload C.1 C.2.1 dX11_by_24 (lv_at hl 0 rfl) ?_
    refine lv_bipush (v := 67) C.1 C.2.1 dX11_by_26 (by decide) ?_
    refine lv_icmp_eq (tgt := 38) C.1 C.2.1 dX11_by_28 (by decide) (fun c4 => ?_) (fun c4 => ?_)
    · have h := if_t h c4
      exact wk_11_by_38 C X h hJ (lv_sub hl [] rfl)
    · have h := if_f h c4
      refine lv_iload C.1 C.2.1 dX11_by_31 (lv_at hl 0 rfl) ?_
      refine lv_bipush (v := 66) C.1 C.2.1 dX11_by_33 (by decide) ?_
      refine lv_icmp_ne (tgt := 40) C.1 C.2.1 dX11_by_35 (by decide) (fun c5 => ?_) (fun c5 => ?_)
      · have h := if_f h c5
        refine lv_aload_n C.1 C.2.1 dX11_by_40 rfl (lv_at hl 2 rfl) ?_
        obtain ⟨hk, h⟩ := ckk_ok h
        obtain ⟨a6, h_a6, h⟩ := bd_ok h
        refine gk11_25 C X hJ.1 hk h_a6 dX11_by_41 ?_
        refine lv_iload_n C.1 C.2.1 dX11_by_44 rfl (lv_at hl 3 rfl) ?_
        obtain ⟨hk, h⟩ := ckk_ok h
        obtain ⟨hin2, h⟩ := ck_ok h
        refine c_aald C 31 (by decide) X.2.2.2.2.2.1 hJ.1 hk hin2 dX11_by_45 ?_
        refine lt_ok h (fun o7 e_o7 h => ?_)
        refine lv_nmq e_o7 ?_
        obtain ⟨a8, e_a8, h⟩ := bd_ok h
        subst e_a8
        obtain ⟨hk, h⟩ := ckk_ok h
        obtain ⟨a9, h_a9, h⟩ := bd_ok h
        refine gk11_147 C X hJ.1 hk h_a9 dX11_by_46 ?_
        refine lv_astore (lv' := [(7, .ref a9), (6, .int r2), (5, .int r1), (0, .ref v0), (1, .int v1), (2, .int v2), (3, .int v3), (4, .int v4)]) C.1 C.2.1 dX11_by_49 hl (by decide) rfl (fun ls hl => ?_)
        refine lv_iload C.1 C.2.1 dX11_by_51 (lv_at hl 2 rfl) ?_
        refine lv_bipush (v := 8) C.1 C.2.1 dX11_by_53 (by decide) ?_
        refine lv_imul C.1 C.2.1 dX11_by_55 ?_
        refine lv_iload_n C.1 C.2.1 dX11_by_56 rfl (lv_at hl 6 rfl) ?_
        refine lv_iadd C.1 C.2.1 dX11_by_57 ?_
        refine lt_ok h (fun x10 e_x10 h => ?_)
        refine lv_nm e_x10 ?_
        refine lv_istore (lv' := [(8, .int x10), (7, .ref a9), (6, .int r2), (5, .int r1), (0, .ref v0), (1, .int v1), (2, .int v2), (3, .int v3), (4, .int v4)]) C.1 C.2.1 dX11_by_58 hl (by decide) rfl (fun ls hl => ?_)
        refine lv_iload C.1 C.2.1 dX11_by_60 (lv_at hl 8 rfl) ?_
        refine lv_if_lt (tgt := 80) C.1 C.2.1 dX11_by_62 (by decide) (fun c11 => ?_) (fun c11 => ?_)
        · have h := if_t h c11
          exact wk_11_by_80 C X h hJ (lv_sub hl [] rfl)
        · have h := if_f h c11
          refine lv_iload C.1 C.2.1 dX11_by_65 (lv_at hl 8 rfl) ?_
          refine lv_aload_n C.1 C.2.1 dX11_by_67 rfl (lv_at hl 4 rfl) ?_
          refine lv_aload C.1 C.2.1 dX11_by_68 (lv_at hl 1 rfl) ?_
          refine lv_iload C.1 C.2.1 dX11_by_70 (lv_at hl 0 rfl) ?_
          refine lv_iload C.1 C.2.1 dX11_by_72 (lv_at hl 2 rfl) ?_
          obtain ⟨hk, h⟩ := ckk_ok h
          obtain ⟨⟨r13, S12⟩, h_S12, h⟩ := bd_ok h
          replace h := lt2_ok h
          refine c_callW (rest := [.int v4]) C X hJ hl.1 11 (by decide) hk [.ref a9, .int x10, .int r2] (tk_11_findValues l h_S12) cw11_319 ki_11_findValues kl_11_findValues rfl ⟨by decide, by decide⟩ ⟨(by decide), (by decide)⟩ rfl (Nat.le_of_ble_eq_true rfl) dX11_by_74 (fun H locs hJ => ?_)
          refine W.eq (g2 := F0 m 77 ls [.int r13, .int v4]) rfl ?_
          refine lv_icmp_lt (tgt := 82) C.1 C.2.1 dX11_by_77 (by decide) (fun c14 => ?_) (fun c14 => ?_)
          · have h := if_t h c14
            refine lv_aload_n C.1 C.2.1 dX11_by_82 rfl (lv_at hl 4 rfl) ?_
            refine lv_aload C.1 C.2.1 dX11_by_83 (lv_at hl 1 rfl) ?_
            refine lv_iload C.1 C.2.1 dX11_by_85 (lv_at hl 0 rfl) ?_
            refine lv_iload C.1 C.2.1 dX11_by_87 (lv_at hl 2 rfl) ?_
            refine lv_iload C.1 C.2.1 dX11_by_89 (lv_at hl 8 rfl) ?_
            obtain ⟨hk, h⟩ := ckk_ok h
            obtain ⟨o15, h_o15, h⟩ := bd_ok h
            refine c_callR (rest := []) C X hJ.1 hl.1 11 (by decide) hk [.ref a9, .int x10, .int r2, .int v4] (tk_11_sourceAt l h_o15) cw11_336 ki_11_sourceAt kl_11_sourceAt rfl ⟨by decide, by decide⟩ ⟨(by decide), (by decide)⟩ rfl (Nat.le_of_ble_eq_true rfl) dX11_by_91 ?_
            refine W.eq (g2 := F0 m 94 ls [va_rf o15]) rfl ?_
            refine lv_astoreq (o := o15) (lv' := [(9, va_rf o15), (8, .int x10), (7, .ref a9), (6, .int r2), (5, .int r1), (0, .ref v0), (1, .int v1), (2, .int v2), (3, .int v3), (4, .int v4)]) C.1 C.2.1 dX11_by_94 hl (by decide) rfl (fun ls hl => ?_)
            refine lv_aloadq (o := o15) C.1 C.2.1 dX11_by_96 (lv_at hl 0 rfl) ?_
            rcases o15 with _ | a16
            · replace h := cs_n h
              refine lv_ifnonnullN C.1 C.2.1 dX11_by_98 ?_
              refine lv_iconst (v := 0) C.1 C.2.1 dX11_by_101 (by decide) ?_
              refine lv_goto (tgt := 110) C.1 C.2.1 dX11_by_102 (by decide) ?_
              exact wk_11_by_110 C X h hJ (lv_sub hl [] rfl)
            · replace h := cs_s h
              refine lv_ifnonnull (tgt := 105) C.1 C.2.1 dX11_by_98 (by decide) ?_
              refine lv_aload C.1 C.2.1 dX11_by_105 (lv_at hl 0 rfl) ?_
              obtain ⟨hk, h⟩ := ckk_ok h
              refine gk11_142 C X hJ.1 hk dX11_by_107 ?_
              exact wk_11_by_110 C X h hJ (lv_sub hl [] rfl)
          · have h := if_f h c14
            exact wk_11_by_80 C X h hJ (lv_sub hl [] rfl)
      · have h := if_t h c5
        exact wk_11_by_38 C X h hJ (lv_sub hl [] rfl)
end
theorem dX11_list_0 : decode cX11_list 0 = .ok (.iload_n 1, 1) := by decide +kernel
theorem dX11_list_1 : decode cX11_list 1 = .ok (.invokestatic 112, 3) := by decide +kernel
theorem dX11_list_4 : decode cX11_list 4 = .ok (.ifCond .eq 7, 3) := by decide +kernel
theorem dX11_list_7 : decode cX11_list 7 = .ok (.iload_n 2, 1) := by decide +kernel
theorem dX11_list_8 : decode cX11_list 8 = .ok (.ifCond .ge 5, 3) := by decide +kernel
theorem dX11_list_11 : decode cX11_list 11 = .ok (.iconst (-1), 1) := by decide +kernel
theorem dX11_list_12 : decode cX11_list 12 = .ok (.ireturn, 1) := by decide +kernel
theorem dX11_list_13 : decode cX11_list 13 = .ok (.iconst 0, 1) := by decide +kernel
theorem dX11_list_14 : decode cX11_list 14 = .ok (.istore_n 3, 1) := by decide +kernel
theorem dX11_list_15 : decode cX11_list 15 = .ok (.iconst 0, 1) := by decide +kernel
theorem dX11_list_16 : decode cX11_list 16 = .ok (.istore 4, 2) := by decide +kernel
theorem dX11_list_18 : decode cX11_list 18 = .ok (.iload 4, 2) := by decide +kernel
theorem dX11_list_20 : decode cX11_list 20 = .ok (.bipush 48, 2) := by decide +kernel
theorem dX11_list_22 : decode cX11_list 22 = .ok (.if_icmp .ge 44, 3) := by decide +kernel
theorem dX11_list_25 : decode cX11_list 25 = .ok (.aload_n 0, 1) := by decide +kernel
theorem dX11_list_26 : decode cX11_list 26 = .ok (.getfield 25, 3) := by decide +kernel
theorem dX11_list_29 : decode cX11_list 29 = .ok (.iload_n 1, 1) := by decide +kernel
theorem dX11_list_30 : decode cX11_list 30 = .ok (.aaload, 1) := by decide +kernel
theorem dX11_list_31 : decode cX11_list 31 = .ok (.getfield 147, 3) := by decide +kernel
theorem dX11_list_34 : decode cX11_list 34 = .ok (.iload 4, 2) := by decide +kernel
theorem dX11_list_36 : decode cX11_list 36 = .ok (.invokevirtual 298, 3) := by decide +kernel
theorem dX11_list_39 : decode cX11_list 39 = .ok (.ifCond .eq 21, 3) := by decide +kernel
theorem dX11_list_42 : decode cX11_list 42 = .ok (.iload_n 3, 1) := by decide +kernel
theorem dX11_list_43 : decode cX11_list 43 = .ok (.iload_n 2, 1) := by decide +kernel
theorem dX11_list_44 : decode cX11_list 44 = .ok (.if_icmp .ne 13, 3) := by decide +kernel
theorem dX11_list_47 : decode cX11_list 47 = .ok (.aload_n 0, 1) := by decide +kernel
theorem dX11_list_48 : decode cX11_list 48 = .ok (.getfield 19, 3) := by decide +kernel
theorem dX11_list_51 : decode cX11_list 51 = .ok (.iload 4, 2) := by decide +kernel
theorem dX11_list_53 : decode cX11_list 53 = .ok (.invokevirtual 201, 3) := by decide +kernel
theorem dX11_list_56 : decode cX11_list 56 = .ok (.ireturn, 1) := by decide +kernel
theorem dX11_list_57 : decode cX11_list 57 = .ok (.iinc 3 1, 3) := by decide +kernel
theorem dX11_list_60 : decode cX11_list 60 = .ok (.iinc 4 1, 3) := by decide +kernel
theorem dX11_list_63 : decode cX11_list 63 = .ok (.goto (-45), 3) := by decide +kernel
theorem dX11_list_66 : decode cX11_list 66 = .ok (.iconst (-1), 1) := by decide +kernel
theorem dX11_list_67 : decode cX11_list 67 = .ok (.ireturn, 1) := by decide +kernel
theorem kd_11_list : Cond.code yX11_list cX11_list 5 (some .int) ∈ lw_g := mt_at 1491 (by decide +kernel) rfl
theorem ki_11_list : Cond.instanceMethod yX11_list ∈ lw_g := mt_at 1489 (by decide +kernel) rfl
theorem kl_11_list : Cond.selects (kRn 11) yX11_list yX11_list ∈ lw_g := mt_at 1490 (by decide +kernel) rfl
section
variable {p : Program} {l : Launch} {e : Env} {R : Room} {s : State} {m : MethodId} {args : Array Value} {below : List Frame} {meth : Method} {c : Code} {D : cG} {S : cSt} {r : Int32}
noncomputable def fk_11_list_11 (S : cSt) : Option (Int32) :=
some (-1 : Int32)
set_option maxRecDepth 100000 in
set_option maxHeartbeats 4000000 in
theorem wk_11_list_11 (C : cY p R s m args meth c RX11 cX11_list 5 3 0 0 65 (some .int)) (X : cX D s) (hW : cW D S s.heap) : ∀ {ls : Array Slot}, fk_11_list_11 S = some r → lv_has ls 5 [] → W p l e R s m args below meth c s.heap [] 0 0 (MQ below (kQ (some (.int r))) args s 0 0 mNo) (F0 m 11 ls []) := by
  intro ls h hl
  unfold fk_11_list_11 at h
  refine lv_iconst (v := -1) C.1 C.2.1 dX11_list_11 (by decide) ?_
  cases h
  exact c_reti C rfl rfl dX11_list_12
noncomputable def fk_11_list_60 (g_18 : Nat → Int32 → Int32 → Int32 → Int32 → Option (Int32)) (S : cSt) (v0 : Nat) (v1 : Int32) (v2 : Int32) (v3 : Int32) (v4 : Int32) : Option (Int32) :=
lt (v4 + (1 : Int32)) fun x1 =>
g_18 v0 v1 v2 v3 x1
set_option maxRecDepth 100000 in
set_option maxHeartbeats 4000000 in
theorem wk_11_list_60 (C : cY p R s m args meth c RX11 cX11_list 5 3 0 0 65 (some .int)) (X : cX D s) (hW : cW D S s.heap) {g_18 : Nat → Int32 → Int32 → Int32 → Int32 → Option (Int32)} (hg_18 : ∀ {v0 : Nat} {v1 : Int32} {v2 : Int32} {v3 : Int32} {v4 : Int32} {ls : Array Slot}, g_18 v0 v1 v2 v3 v4 = some r → lv_has ls 5 [(0, .ref v0), (1, .int v1), (2, .int v2), (3, .int v3), (4, .int v4)] → W p l e R s m args below meth c s.heap [] 0 0 (MQ below (kQ (some (.int r))) args s 0 0 mNo) (F0 m 18 ls [])) : ∀ {v0 : Nat} {v1 : Int32} {v2 : Int32} {v3 : Int32} {v4 : Int32} {ls : Array Slot}, fk_11_list_60 g_18 S v0 v1 v2 v3 v4 = some r → lv_has ls 5 [(0, .ref v0), (1, .int v1), (2, .int v2), (3, .int v3), (4, .int v4)] → W p l e R s m args below meth c s.heap [] 0 0 (MQ below (kQ (some (.int r))) args s 0 0 mNo) (F0 m 60 ls []) := by
  intro v0 v1 v2 v3 v4 ls h hl
  unfold fk_11_list_60 at h
  refine lt_ok h (fun x1 e_x1 h => ?_)
  refine lv_iinc (v := x1) (lv' := [(4, .int x1), (0, .ref v0), (1, .int v1), (2, .int v2), (3, .int v3)]) C.1 C.2.1 dX11_list_60 hl (k := 4) rfl (by rw [← e_x1]; rfl) (by decide) rfl (fun ls hl => ?_)
  refine lv_goto (tgt := 18) C.1 C.2.1 dX11_list_63 (by decide) ?_
  exact hg_18 h (lv_sub hl [1, 2, 3, 4, 0] rfl)
noncomputable def fk_11_list_18 (S : cSt) : Nat → Nat → Int32 → Int32 → Int32 → Int32 → Option (Int32)
  | 0, _, _, _, _, _ => none
  | n + 1, v0, v1, v2, v3, v4 =>
    if (48 : Int32) ≤ v4 then (
    some (-1 : Int32))
    else (
    ckk S v0 12 (bd (kR S v0 2) fun a2 =>
    ckk S a2 31 (ck v1 (kL S a2) (lt (kO S a2 (Int32.toNatClampNeg v1)) fun o3 =>
    bd o3 fun a4 =>
    ckk S a4 8 (bd (kR S a4 2) fun a5 =>
    ckk S a5 11 (bd (fk_10_isThere S a5 v4) fun r6 =>
    if r6 = 0 then (
    fk_11_list_60 (fk_11_list_18 S n) S v0 v1 v2 v3 v4)
    else (
    if v3 = v2 then (
    ckk S v0 12 (bd (kR S v0 1) fun a10 =>
    ckk S a10 1 (bd (fk_0_nameOf S a10 v4) fun r11 =>
    some r11)))
    else (
    lt (v3 + (1 : Int32)) fun x9 =>
    fk_11_list_60 (fk_11_list_18 S n) S v0 v1 v2 x9 v4))))))))
set_option maxRecDepth 100000 in
set_option maxHeartbeats 4000000 in
theorem wk_11_list_18 (C : cY p R s m args meth c RX11 cX11_list 5 3 0 0 65 (some .int)) (X : cX D s) (hW : cW D S s.heap) : ∀ (n : Nat), ∀ {v0 : Nat} {v1 : Int32} {v2 : Int32} {v3 : Int32} {v4 : Int32} {ls : Array Slot}, fk_11_list_18 S n v0 v1 v2 v3 v4 = some r → lv_has ls 5 [(0, .ref v0), (1, .int v1), (2, .int v2), (3, .int v3), (4, .int v4)] → W p l e R s m args below meth c s.heap [] 0 0 (MQ below (kQ (some (.int r))) args s 0 0 mNo) (F0 m 18 ls []) := by
  intro n
  induction n with
  | zero =>
    intro v0 v1 v2 v3 v4 ls h hl
    exact absurd (show (none : Option (Int32)) = _ from h) (fun q => by cases q)
  | succ n ih =>
    intro v0 v1 v2 v3 v4 ls h hl
    rw [fk_11_list_18] at h
    refine lv_iload C.1 C.2.1 dX11_list_18 (lv_at hl 4 rfl) ?_
    refine lv_bipush (v := 48) C.1 C.2.1 dX11_list_20 (by decide) ?_
    refine lv_icmp_ge (tgt := 66) C.1 C.2.1 dX11_list_22 (by decide) (fun c1 => ?_) (fun c1 => ?_)
    · have h := if_t h c1
      refine lv_iconst (v := -1) C.1 C.2.1 dX11_list_66 (by decide) ?_
      cases h
      exact c_reti C rfl rfl dX11_list_67
    · have h := if_f h c1
      refine lv_aload_n C.1 C.2.1 dX11_list_25 rfl (lv_at hl 0 rfl) ?_
      obtain ⟨hk, h⟩ := ckk_ok h
      obtain ⟨a2, h_a2, h⟩ := bd_ok h
      refine gk11_25 C X hW hk h_a2 dX11_list_26 ?_
      refine lv_iload_n C.1 C.2.1 dX11_list_29 rfl (lv_at hl 1 rfl) ?_
      obtain ⟨hk, h⟩ := ckk_ok h
      obtain ⟨hin2, h⟩ := ck_ok h
      refine c_aald C 31 (by decide) X.2.2.2.2.2.1 hW hk hin2 dX11_list_30 ?_
      refine lt_ok h (fun o3 e_o3 h => ?_)
      refine lv_nmq e_o3 ?_
      obtain ⟨a4, e_a4, h⟩ := bd_ok h
      subst e_a4
      obtain ⟨hk, h⟩ := ckk_ok h
      obtain ⟨a5, h_a5, h⟩ := bd_ok h
      refine gk11_147 C X hW hk h_a5 dX11_list_31 ?_
      refine lv_iload C.1 C.2.1 dX11_list_34 (lv_at hl 4 rfl) ?_
      obtain ⟨hk, h⟩ := ckk_ok h
      obtain ⟨r6, h_r6, h⟩ := bd_ok h
      refine c_callR (rest := []) C X hW hl.1 10 (by decide) hk [.int v4] (tk_10_isThere l h_r6) cw11_298 ki_10_isThere kl_10_isThere rfl ⟨by decide, by decide⟩ ⟨(by decide), (by decide)⟩ rfl (Nat.le_of_ble_eq_true rfl) dX11_list_36 ?_
      refine W.eq (g2 := F0 m 39 ls [.int r6]) rfl ?_
      refine lv_if_eq (tgt := 60) C.1 C.2.1 dX11_list_39 (by decide) (fun c7 => ?_) (fun c7 => ?_)
      · have h := if_t h c7
        exact wk_11_list_60 C X hW ih h (lv_sub hl [0, 1, 2, 3, 4] rfl)
      · have h := if_f h c7
        refine lv_iload_n C.1 C.2.1 dX11_list_42 rfl (lv_at hl 3 rfl) ?_
        refine lv_iload_n C.1 C.2.1 dX11_list_43 rfl (lv_at hl 2 rfl) ?_
        refine lv_icmp_ne (tgt := 57) C.1 C.2.1 dX11_list_44 (by decide) (fun c8 => ?_) (fun c8 => ?_)
        · have h := if_f h c8
          refine lt_ok h (fun x9 e_x9 h => ?_)
          refine lv_iinc (v := x9) (lv' := [(3, .int x9), (0, .ref v0), (1, .int v1), (2, .int v2), (4, .int v4)]) C.1 C.2.1 dX11_list_57 hl (k := 3) rfl (by rw [← e_x9]; rfl) (by decide) rfl (fun ls hl => ?_)
          exact wk_11_list_60 C X hW ih h (lv_sub hl [1, 2, 3, 0, 4] rfl)
        · have h := if_t h c8
          refine lv_aload_n C.1 C.2.1 dX11_list_47 rfl (lv_at hl 0 rfl) ?_
          obtain ⟨hk, h⟩ := ckk_ok h
          obtain ⟨a10, h_a10, h⟩ := bd_ok h
          refine gk11_19 C X hW hk h_a10 dX11_list_48 ?_
          refine lv_iload C.1 C.2.1 dX11_list_51 (lv_at hl 4 rfl) ?_
          obtain ⟨hk, h⟩ := ckk_ok h
          obtain ⟨r11, h_r11, h⟩ := bd_ok h
          refine c_callR (rest := []) C X hW hl.1 0 (by decide) hk [.int v4] (tk_0_nameOf l h_r11) cw11_201 ki_0_nameOf kl_0_nameOf rfl ⟨by decide, by decide⟩ ⟨(by decide), (by decide)⟩ rfl (Nat.le_of_ble_eq_true rfl) dX11_list_53 ?_
          refine W.eq (g2 := F0 m 56 ls [.int r11]) rfl ?_
          cases h
          exact c_reti C rfl rfl dX11_list_56
noncomputable def fk_11_list (S : cSt) (v0 : Nat) (v1 : Int32) (v2 : Int32) : Option (Int32) :=
bd (fk_11_isNode v1) fun r1 =>
if r1 = 0 then (
fk_11_list_11 S)
else (
if 0 ≤ v2 then (
fk_11_list_18 S mFU v0 v1 v2 (0 : Int32) (0 : Int32))
else (
fk_11_list_11 S))
set_option maxRecDepth 100000 in
set_option maxHeartbeats 4000000 in
theorem tk_11_list (l : Launch) {D : cG} {S : cSt} {v0 : Nat} {v1 : Int32} {v2 : Int32} {r : Int32}  (h : fk_11_list S v0 v1 v2 = some r) : Met l yX11_list (Cond.code yX11_list cX11_list 5 (some .int) :: lw_g) { frames := 3, cells := 0, slots := 0, locals := 65 } (kPi [.ref v0, .int v1, .int v2] D S) (kQ (some (.int r))) 0 0 (mNo) := by
  refine Met.ofW (cc := cX11_list) (maxL := 5) (ret := (some .int)) (by decide) rfl ?_
  intro p e s m args below meth c s₁ B hml hv
  obtain ⟨rfl, hW, X⟩ := hv
  have C : cY p (headSpec (Cond.code yX11_list cX11_list 5 (some .int) :: lw_g) { frames := 3, cells := 0, slots := 0, locals := 65 }).room s m _ meth c RX11 cX11_list 5 3 0 0 65 (some .int) := ⟨B.exec, B.bytes, hml, findClass_of_methodNamed B.named, fun w hw => atoms_spec (ws := Cond.code yX11_list cX11_list 5 (some .int) :: lw_g) B.pre w (List.mem_cons_of_mem _ hw), ⟨Nat.le_refl _, Nat.le_refl _, Nat.le_refl _, Nat.le_refl _⟩, B.returns, B.notSynchronized⟩
  have hl := lv_entry ([.ref v0, .int v1, .int v2]) (n := 5) (Nat.le_of_ble_eq_true rfl)
  rw [lg_entry_eq]
  generalize (lg_sl ([.ref v0, .int v1, .int v2]) ++ List.replicate (5 - (lg_sl ([.ref v0, .int v1, .int v2])).length) Slot.unset).toArray = ls at hl ⊢
  have hl : lv_has ls 5 [(0, .ref v0), (1, .int v1), (2, .int v2)] := hl
  unfold fk_11_list at h
  refine lv_iload_n C.1 C.2.1 dX11_list_0 rfl (lv_at hl 1 rfl) ?_
  obtain ⟨r1, h_r1, h⟩ := bd_ok h
  refine c_callS (rest := []) C hl.1 [.int v1] (tk_11_isNode l h_r1) cw11_112 ks_11_isNode rfl ⟨by decide, by decide⟩ ⟨(by decide), (by decide)⟩ rfl (Nat.le_of_ble_eq_true rfl) dX11_list_1 ?_
  refine W.eq (g2 := F0 m 4 ls [.int r1]) rfl ?_
  refine lv_if_eq (tgt := 11) C.1 C.2.1 dX11_list_4 (by decide) (fun c2 => ?_) (fun c2 => ?_)
  · have h := if_t h c2
    exact wk_11_list_11 C X hW h (lv_sub hl [] rfl)
  · have h := if_f h c2
    refine lv_iload_n C.1 C.2.1 dX11_list_7 rfl (lv_at hl 2 rfl) ?_
    refine lv_if_ge (tgt := 13) C.1 C.2.1 dX11_list_8 (by decide) (fun c3 => ?_) (fun c3 => ?_)
    · have h := if_t h c3
      refine lv_iconst (v := 0) C.1 C.2.1 dX11_list_13 (by decide) ?_
      refine lv_istore_n (lv' := [(3, .int (0 : Int32)), (0, .ref v0), (1, .int v1), (2, .int v2)]) C.1 C.2.1 dX11_list_14 rfl hl (by decide) rfl (fun ls hl => ?_)
      refine lv_iconst (v := 0) C.1 C.2.1 dX11_list_15 (by decide) ?_
      refine lv_istore (lv' := [(4, .int (0 : Int32)), (3, .int (0 : Int32)), (0, .ref v0), (1, .int v1), (2, .int v2)]) C.1 C.2.1 dX11_list_16 hl (by decide) rfl (fun ls hl => ?_)
      exact wk_11_list_18 C X hW mFU h (lv_sub hl [2, 3, 4, 1, 0] rfl)
    · have h := if_f h c3
      exact wk_11_list_11 C X hW h (lv_sub hl [] rfl)
end
theorem dX11_count_0 : decode cX11_count 0 = .ok (.iload_n 1, 1) := by decide +kernel
theorem dX11_count_1 : decode cX11_count 1 = .ok (.invokestatic 112, 3) := by decide +kernel
theorem dX11_count_4 : decode cX11_count 4 = .ok (.ifCond .eq 17, 3) := by decide +kernel
theorem dX11_count_7 : decode cX11_count 7 = .ok (.aload_n 0, 1) := by decide +kernel
theorem dX11_count_8 : decode cX11_count 8 = .ok (.getfield 12, 3) := by decide +kernel
theorem dX11_count_11 : decode cX11_count 11 = .ok (.iload_n 2, 1) := by decide +kernel
theorem dX11_count_12 : decode cX11_count 12 = .ok (.iload_n 3, 1) := by decide +kernel
theorem dX11_count_13 : decode cX11_count 13 = .ok (.invokevirtual 190, 3) := by decide +kernel
theorem dX11_count_16 : decode cX11_count 16 = .ok (.bipush 76, 2) := by decide +kernel
theorem dX11_count_18 : decode cX11_count 18 = .ok (.if_icmp .eq 5, 3) := by decide +kernel
theorem dX11_count_21 : decode cX11_count 21 = .ok (.iconst (-1), 1) := by decide +kernel
theorem dX11_count_22 : decode cX11_count 22 = .ok (.ireturn, 1) := by decide +kernel
theorem dX11_count_23 : decode cX11_count 23 = .ok (.aload_n 0, 1) := by decide +kernel
theorem dX11_count_24 : decode cX11_count 24 = .ok (.getfield 25, 3) := by decide +kernel
theorem dX11_count_27 : decode cX11_count 27 = .ok (.iload_n 1, 1) := by decide +kernel
theorem dX11_count_28 : decode cX11_count 28 = .ok (.aaload, 1) := by decide +kernel
theorem dX11_count_29 : decode cX11_count 29 = .ok (.getfield 147, 3) := by decide +kernel
theorem dX11_count_32 : decode cX11_count 32 = .ok (.astore 6, 2) := by decide +kernel
theorem dX11_count_34 : decode cX11_count 34 = .ok (.iconst 0, 1) := by decide +kernel
theorem dX11_count_35 : decode cX11_count 35 = .ok (.istore 7, 2) := by decide +kernel
theorem dX11_count_37 : decode cX11_count 37 = .ok (.iconst 0, 1) := by decide +kernel
theorem dX11_count_38 : decode cX11_count 38 = .ok (.istore 8, 2) := by decide +kernel
theorem dX11_count_40 : decode cX11_count 40 = .ok (.iload 8, 2) := by decide +kernel
theorem dX11_count_42 : decode cX11_count 42 = .ok (.bipush 48, 2) := by decide +kernel
theorem dX11_count_44 : decode cX11_count 44 = .ok (.if_icmp .ge 58, 3) := by decide +kernel
theorem dX11_count_47 : decode cX11_count 47 = .ok (.aload 6, 2) := by decide +kernel
theorem dX11_count_49 : decode cX11_count 49 = .ok (.iload 8, 2) := by decide +kernel
theorem dX11_count_51 : decode cX11_count 51 = .ok (.iload_n 2, 1) := by decide +kernel
theorem dX11_count_52 : decode cX11_count 52 = .ok (.invokevirtual 354, 3) := by decide +kernel
theorem dX11_count_55 : decode cX11_count 55 = .ok (.ifCond .eq 41, 3) := by decide +kernel
theorem dX11_count_58 : decode cX11_count 58 = .ok (.aload 6, 2) := by decide +kernel
theorem dX11_count_60 : decode cX11_count 60 = .ok (.iload 8, 2) := by decide +kernel
theorem dX11_count_62 : decode cX11_count 62 = .ok (.bipush 8, 2) := by decide +kernel
theorem dX11_count_64 : decode cX11_count 64 = .ok (.imul, 1) := by decide +kernel
theorem dX11_count_65 : decode cX11_count 65 = .ok (.iload_n 3, 1) := by decide +kernel
theorem dX11_count_66 : decode cX11_count 66 = .ok (.iadd, 1) := by decide +kernel
theorem dX11_count_67 : decode cX11_count 67 = .ok (.invokevirtual 357, 3) := by decide +kernel
theorem dX11_count_70 : decode cX11_count 70 = .ok (.istore 9, 2) := by decide +kernel
theorem dX11_count_72 : decode cX11_count 72 = .ok (.iload 7, 2) := by decide +kernel
theorem dX11_count_74 : decode cX11_count 74 = .ok (.iload 9, 2) := by decide +kernel
theorem dX11_count_76 : decode cX11_count 76 = .ok (.iload 4, 2) := by decide +kernel
theorem dX11_count_78 : decode cX11_count 78 = .ok (.if_icmp .lt 14, 3) := by decide +kernel
theorem dX11_count_81 : decode cX11_count 81 = .ok (.iload 9, 2) := by decide +kernel
theorem dX11_count_83 : decode cX11_count 83 = .ok (.iload 5, 2) := by decide +kernel
theorem dX11_count_85 : decode cX11_count 85 = .ok (.if_icmp .gt 7, 3) := by decide +kernel
theorem dX11_count_88 : decode cX11_count 88 = .ok (.iconst 1, 1) := by decide +kernel
theorem dX11_count_89 : decode cX11_count 89 = .ok (.goto 4, 3) := by decide +kernel
theorem dX11_count_92 : decode cX11_count 92 = .ok (.iconst 0, 1) := by decide +kernel
theorem dX11_count_93 : decode cX11_count 93 = .ok (.iadd, 1) := by decide +kernel
theorem dX11_count_94 : decode cX11_count 94 = .ok (.istore 7, 2) := by decide +kernel
theorem dX11_count_96 : decode cX11_count 96 = .ok (.iinc 8 1, 3) := by decide +kernel
theorem dX11_count_99 : decode cX11_count 99 = .ok (.goto (-59), 3) := by decide +kernel
theorem dX11_count_102 : decode cX11_count 102 = .ok (.iload 7, 2) := by decide +kernel
theorem dX11_count_104 : decode cX11_count 104 = .ok (.ireturn, 1) := by decide +kernel
theorem kd_11_count : Cond.code yX11_count cX11_count 10 (some .int) ∈ lw_g := mt_at 1495 (by decide +kernel) rfl
theorem ki_11_count : Cond.instanceMethod yX11_count ∈ lw_g := mt_at 1493 (by decide +kernel) rfl
theorem kl_11_count : Cond.selects (kRn 11) yX11_count yX11_count ∈ lw_g := mt_at 1494 (by decide +kernel) rfl
theorem cw11_354 : cCw RX11 354 yX10_isThereOf cX10_isThereOf 3 (some .boolean) 2 := ⟨kd_10_isThereOf, mt_at 1496 (by decide +kernel) rfl, mt_at 10 (by decide +kernel) rfl, by decide +kernel⟩
theorem cw11_357 : cCw RX11 357 yX10_latestOf cX10_latestOf 3 (some .int) 1 := ⟨kd_10_latestOf, mt_at 1501 (by decide +kernel) rfl, mt_at 10 (by decide +kernel) rfl, by decide +kernel⟩
section
variable {p : Program} {l : Launch} {e : Env} {R : Room} {s : State} {m : MethodId} {args : Array Value} {below : List Frame} {meth : Method} {c : Code} {D : cG} {S : cSt} {r : Int32}
noncomputable def fk_11_count_21 (S : cSt) : Option (Int32) :=
some (-1 : Int32)
set_option maxRecDepth 100000 in
set_option maxHeartbeats 4000000 in
theorem wk_11_count_21 (C : cY p R s m args meth c RX11 cX11_count 10 4 0 0 87 (some .int)) (X : cX D s) (hW : cW D S s.heap) : ∀ {ls : Array Slot}, fk_11_count_21 S = some r → lv_has ls 10 [] → W p l e R s m args below meth c s.heap [] 0 0 (MQ below (kQ (some (.int r))) args s 0 0 mNo) (F0 m 21 ls []) := by
  intro ls h hl
  unfold fk_11_count_21 at h
  refine lv_iconst (v := -1) C.1 C.2.1 dX11_count_21 (by decide) ?_
  cases h
  exact c_reti C rfl rfl dX11_count_22
noncomputable def fk_11_count_96 (g_40 : Int32 → Int32 → Int32 → Int32 → Nat → Int32 → Int32 → Option (Int32)) (S : cSt) (v2 : Int32) (v3 : Int32) (v4 : Int32) (v5 : Int32) (v6 : Nat) (v7 : Int32) (v8 : Int32) : Option (Int32) :=
lt (v8 + (1 : Int32)) fun x1 =>
g_40 v2 v3 v4 v5 v6 v7 x1
set_option maxRecDepth 100000 in
set_option maxHeartbeats 4000000 in
theorem wk_11_count_96 (C : cY p R s m args meth c RX11 cX11_count 10 4 0 0 87 (some .int)) (X : cX D s) (hW : cW D S s.heap) {g_40 : Int32 → Int32 → Int32 → Int32 → Nat → Int32 → Int32 → Option (Int32)} (hg_40 : ∀ {v2 : Int32} {v3 : Int32} {v4 : Int32} {v5 : Int32} {v6 : Nat} {v7 : Int32} {v8 : Int32} {ls : Array Slot}, g_40 v2 v3 v4 v5 v6 v7 v8 = some r → lv_has ls 10 [(2, .int v2), (3, .int v3), (4, .int v4), (5, .int v5), (6, .ref v6), (7, .int v7), (8, .int v8)] → W p l e R s m args below meth c s.heap [] 0 0 (MQ below (kQ (some (.int r))) args s 0 0 mNo) (F0 m 40 ls [])) : ∀ {v2 : Int32} {v3 : Int32} {v4 : Int32} {v5 : Int32} {v6 : Nat} {v7 : Int32} {v8 : Int32} {ls : Array Slot}, fk_11_count_96 g_40 S v2 v3 v4 v5 v6 v7 v8 = some r → lv_has ls 10 [(2, .int v2), (3, .int v3), (4, .int v4), (5, .int v5), (6, .ref v6), (7, .int v7), (8, .int v8)] → W p l e R s m args below meth c s.heap [] 0 0 (MQ below (kQ (some (.int r))) args s 0 0 mNo) (F0 m 96 ls []) := by
  intro v2 v3 v4 v5 v6 v7 v8 ls h hl
  unfold fk_11_count_96 at h
  refine lt_ok h (fun x1 e_x1 h => ?_)
  refine lv_iinc (v := x1) (lv' := [(8, .int x1), (2, .int v2), (3, .int v3), (4, .int v4), (5, .int v5), (6, .ref v6), (7, .int v7)]) C.1 C.2.1 dX11_count_96 hl (k := 6) rfl (by rw [← e_x1]; rfl) (by decide) rfl (fun ls hl => ?_)
  refine lv_goto (tgt := 40) C.1 C.2.1 dX11_count_99 (by decide) ?_
  exact hg_40 h (lv_sub hl [1, 2, 3, 4, 5, 6, 0] rfl)
noncomputable def fk_11_count_93 (g_40 : Int32 → Int32 → Int32 → Int32 → Nat → Int32 → Int32 → Option (Int32)) (S : cSt) (v2 : Int32) (v3 : Int32) (v4 : Int32) (v5 : Int32) (v6 : Nat) (v8 : Int32) (s0 : Int32) (s1 : Int32) : Option (Int32) :=
lt (s0 + s1) fun x1 =>
fk_11_count_96 g_40 S v2 v3 v4 v5 v6 x1 v8
set_option maxRecDepth 100000 in
set_option maxHeartbeats 4000000 in
theorem wk_11_count_93 (C : cY p R s m args meth c RX11 cX11_count 10 4 0 0 87 (some .int)) (X : cX D s) (hW : cW D S s.heap) {g_40 : Int32 → Int32 → Int32 → Int32 → Nat → Int32 → Int32 → Option (Int32)} (hg_40 : ∀ {v2 : Int32} {v3 : Int32} {v4 : Int32} {v5 : Int32} {v6 : Nat} {v7 : Int32} {v8 : Int32} {ls : Array Slot}, g_40 v2 v3 v4 v5 v6 v7 v8 = some r → lv_has ls 10 [(2, .int v2), (3, .int v3), (4, .int v4), (5, .int v5), (6, .ref v6), (7, .int v7), (8, .int v8)] → W p l e R s m args below meth c s.heap [] 0 0 (MQ below (kQ (some (.int r))) args s 0 0 mNo) (F0 m 40 ls [])) : ∀ {v2 : Int32} {v3 : Int32} {v4 : Int32} {v5 : Int32} {v6 : Nat} {v8 : Int32} {s0 : Int32} {s1 : Int32} {ls : Array Slot}, fk_11_count_93 g_40 S v2 v3 v4 v5 v6 v8 s0 s1 = some r → lv_has ls 10 [(2, .int v2), (3, .int v3), (4, .int v4), (5, .int v5), (6, .ref v6), (8, .int v8)] → W p l e R s m args below meth c s.heap [] 0 0 (MQ below (kQ (some (.int r))) args s 0 0 mNo) (F0 m 93 ls [.int s1, .int s0]) := by
  intro v2 v3 v4 v5 v6 v8 s0 s1 ls h hl
  unfold fk_11_count_93 at h
  refine lv_iadd C.1 C.2.1 dX11_count_93 ?_
  refine lt_ok h (fun x1 e_x1 h => ?_)
  refine lv_nm e_x1 ?_
  refine lv_istore (lv' := [(7, .int x1), (2, .int v2), (3, .int v3), (4, .int v4), (5, .int v5), (6, .ref v6), (8, .int v8)]) C.1 C.2.1 dX11_count_94 hl (by decide) rfl (fun ls hl => ?_)
  exact wk_11_count_96 C X hW hg_40 h (lv_sub hl [1, 2, 3, 4, 5, 0, 6] rfl)
noncomputable def fk_11_count_92 (g_40 : Int32 → Int32 → Int32 → Int32 → Nat → Int32 → Int32 → Option (Int32)) (S : cSt) (v2 : Int32) (v3 : Int32) (v4 : Int32) (v5 : Int32) (v6 : Nat) (v8 : Int32) (s0 : Int32) : Option (Int32) :=
fk_11_count_93 g_40 S v2 v3 v4 v5 v6 v8 s0 (0 : Int32)
set_option maxRecDepth 100000 in
set_option maxHeartbeats 4000000 in
theorem wk_11_count_92 (C : cY p R s m args meth c RX11 cX11_count 10 4 0 0 87 (some .int)) (X : cX D s) (hW : cW D S s.heap) {g_40 : Int32 → Int32 → Int32 → Int32 → Nat → Int32 → Int32 → Option (Int32)} (hg_40 : ∀ {v2 : Int32} {v3 : Int32} {v4 : Int32} {v5 : Int32} {v6 : Nat} {v7 : Int32} {v8 : Int32} {ls : Array Slot}, g_40 v2 v3 v4 v5 v6 v7 v8 = some r → lv_has ls 10 [(2, .int v2), (3, .int v3), (4, .int v4), (5, .int v5), (6, .ref v6), (7, .int v7), (8, .int v8)] → W p l e R s m args below meth c s.heap [] 0 0 (MQ below (kQ (some (.int r))) args s 0 0 mNo) (F0 m 40 ls [])) : ∀ {v2 : Int32} {v3 : Int32} {v4 : Int32} {v5 : Int32} {v6 : Nat} {v8 : Int32} {s0 : Int32} {ls : Array Slot}, fk_11_count_92 g_40 S v2 v3 v4 v5 v6 v8 s0 = some r → lv_has ls 10 [(2, .int v2), (3, .int v3), (4, .int v4), (5, .int v5), (6, .ref v6), (8, .int v8)] → W p l e R s m args below meth c s.heap [] 0 0 (MQ below (kQ (some (.int r))) args s 0 0 mNo) (F0 m 92 ls [.int s0]) := by
  intro v2 v3 v4 v5 v6 v8 s0 ls h hl
  unfold fk_11_count_92 at h
  refine lv_iconst (v := 0) C.1 C.2.1 dX11_count_92 (by decide) ?_
  exact wk_11_count_93 C X hW hg_40 h (lv_sub hl [0, 1, 2, 3, 4, 5] rfl)
noncomputable def fk_11_count_40 (S : cSt) : Nat → Int32 → Int32 → Int32 → Int32 → Nat → Int32 → Int32 → Option (Int32)
  | 0, _, _, _, _, _, _, _ => none
  | n + 1, v2, v3, v4, v5, v6, v7, v8 =>
    if (48 : Int32) ≤ v8 then (
    some v7)
    else (
    ckk S v6 11 (bd (fk_10_isThereOf S v6 v8 v2) fun r2 =>
    if r2 = 0 then (
    fk_11_count_96 (fk_11_count_40 S n) S v2 v3 v4 v5 v6 v7 v8)
    else (
    ckk S v6 11 (bd (fk_10_latestOf S v6 ((v8 * (8 : Int32)) + v3)) fun r4 =>
    if r4 < v4 then (
    fk_11_count_92 (fk_11_count_40 S n) S v2 v3 v4 v5 v6 v8 v7)
    else (
    if v5 < r4 then (
    fk_11_count_92 (fk_11_count_40 S n) S v2 v3 v4 v5 v6 v8 v7)
    else (
    fk_11_count_93 (fk_11_count_40 S n) S v2 v3 v4 v5 v6 v8 v7 (1 : Int32)))))))
set_option maxRecDepth 100000 in
set_option maxHeartbeats 4000000 in
theorem wk_11_count_40 (C : cY p R s m args meth c RX11 cX11_count 10 4 0 0 87 (some .int)) (X : cX D s) (hW : cW D S s.heap) : ∀ (n : Nat), ∀ {v2 : Int32} {v3 : Int32} {v4 : Int32} {v5 : Int32} {v6 : Nat} {v7 : Int32} {v8 : Int32} {ls : Array Slot}, fk_11_count_40 S n v2 v3 v4 v5 v6 v7 v8 = some r → lv_has ls 10 [(2, .int v2), (3, .int v3), (4, .int v4), (5, .int v5), (6, .ref v6), (7, .int v7), (8, .int v8)] → W p l e R s m args below meth c s.heap [] 0 0 (MQ below (kQ (some (.int r))) args s 0 0 mNo) (F0 m 40 ls []) := by
  intro n
  induction n with
  | zero =>
    intro v2 v3 v4 v5 v6 v7 v8 ls h hl
    exact absurd (show (none : Option (Int32)) = _ from h) (fun q => by cases q)
  | succ n ih =>
    intro v2 v3 v4 v5 v6 v7 v8 ls h hl
    rw [fk_11_count_40] at h
    refine lv_iload C.1 C.2.1 dX11_count_40 (lv_at hl 6 rfl) ?_
    refine lv_bipush (v := 48) C.1 C.2.1 dX11_count_42 (by decide) ?_
    refine lv_icmp_ge (tgt := 102) C.1 C.2.1 dX11_count_44 (by decide) (fun c1 => ?_) (fun c1 => ?_)
    · have h := if_t h c1
      refine lv_iload C.1 C.2.1 dX11_count_102 (lv_at hl 5 rfl) ?_
      cases h
      exact c_reti C rfl rfl dX11_count_104
    · have h := if_f h c1
      refine lv_aload C.1 C.2.1 dX11_count_47 (lv_at hl 4 rfl) ?_
      refine lv_iload C.1 C.2.1 dX11_count_49 (lv_at hl 6 rfl) ?_
      refine lv_iload_n C.1 C.2.1 dX11_count_51 rfl (lv_at hl 0 rfl) ?_
      obtain ⟨hk, h⟩ := ckk_ok h
      obtain ⟨r2, h_r2, h⟩ := bd_ok h
      refine c_callR (rest := []) C X hW hl.1 10 (by decide) hk [.int v8, .int v2] (tk_10_isThereOf l h_r2) cw11_354 ki_10_isThereOf kl_10_isThereOf rfl ⟨by decide, by decide⟩ ⟨(by decide), (by decide)⟩ rfl (Nat.le_of_ble_eq_true rfl) dX11_count_52 ?_
      refine W.eq (g2 := F0 m 55 ls [.int r2]) rfl ?_
      refine lv_if_eq (tgt := 96) C.1 C.2.1 dX11_count_55 (by decide) (fun c3 => ?_) (fun c3 => ?_)
      · have h := if_t h c3
        exact wk_11_count_96 C X hW ih h (lv_sub hl [0, 1, 2, 3, 4, 5, 6] rfl)
      · have h := if_f h c3
        refine lv_aload C.1 C.2.1 dX11_count_58 (lv_at hl 4 rfl) ?_
        refine lv_iload C.1 C.2.1 dX11_count_60 (lv_at hl 6 rfl) ?_
        refine lv_bipush (v := 8) C.1 C.2.1 dX11_count_62 (by decide) ?_
        refine lv_imul C.1 C.2.1 dX11_count_64 ?_
        refine lv_iload_n C.1 C.2.1 dX11_count_65 rfl (lv_at hl 1 rfl) ?_
        refine lv_iadd C.1 C.2.1 dX11_count_66 ?_
        obtain ⟨hk, h⟩ := ckk_ok h
        obtain ⟨r4, h_r4, h⟩ := bd_ok h
        refine c_callR (rest := []) C X hW hl.1 10 (by decide) hk [.int ((v8 * (8 : Int32)) + v3)] (tk_10_latestOf l h_r4) cw11_357 ki_10_latestOf kl_10_latestOf rfl ⟨by decide, by decide⟩ ⟨(by decide), (by decide)⟩ rfl (Nat.le_of_ble_eq_true rfl) dX11_count_67 ?_
        refine W.eq (g2 := F0 m 70 ls [.int r4]) rfl ?_
        refine lv_istore (lv' := [(9, .int r4), (2, .int v2), (3, .int v3), (4, .int v4), (5, .int v5), (6, .ref v6), (7, .int v7), (8, .int v8)]) C.1 C.2.1 dX11_count_70 hl (by decide) rfl (fun ls hl => ?_)
        refine lv_iload C.1 C.2.1 dX11_count_72 (lv_at hl 6 rfl) ?_
        refine lv_iload C.1 C.2.1 dX11_count_74 (lv_at hl 0 rfl) ?_
        refine lv_iload C.1 C.2.1 dX11_count_76 (lv_at hl 3 rfl) ?_
        refine lv_icmp_lt (tgt := 92) C.1 C.2.1 dX11_count_78 (by decide) (fun c5 => ?_) (fun c5 => ?_)
        · have h := if_t h c5
          exact wk_11_count_92 C X hW ih h (lv_sub hl [1, 2, 3, 4, 5, 7] rfl)
        · have h := if_f h c5
          refine lv_iload C.1 C.2.1 dX11_count_81 (lv_at hl 0 rfl) ?_
          refine lv_iload C.1 C.2.1 dX11_count_83 (lv_at hl 4 rfl) ?_
          refine lv_icmp_gt (tgt := 92) C.1 C.2.1 dX11_count_85 (by decide) (fun c6 => ?_) (fun c6 => ?_)
          · have h := if_t h c6
            exact wk_11_count_92 C X hW ih h (lv_sub hl [1, 2, 3, 4, 5, 7] rfl)
          · have h := if_f h c6
            refine lv_iconst (v := 1) C.1 C.2.1 dX11_count_88 (by decide) ?_
            refine lv_goto (tgt := 93) C.1 C.2.1 dX11_count_89 (by decide) ?_
            exact wk_11_count_93 C X hW ih h (lv_sub hl [1, 2, 3, 4, 5, 7] rfl)
noncomputable def fk_11_count (S : cSt) (v0 : Nat) (v1 : Int32) (v2 : Int32) (v3 : Int32) (v4 : Int32) (v5 : Int32) : Option (Int32) :=
bd (fk_11_isNode v1) fun r1 =>
if r1 = 0 then (
fk_11_count_21 S)
else (
ckk S v0 12 (bd (kR S v0 0) fun a3 =>
ckk S a3 4 (bd (fk_3_ruleOf S a3 v2 v3) fun r4 =>
if r4 = (76 : Int32) then (
ckk S v0 12 (bd (kR S v0 2) fun a6 =>
ckk S a6 31 (ck v1 (kL S a6) (lt (kO S a6 (Int32.toNatClampNeg v1)) fun o7 =>
bd o7 fun a8 =>
ckk S a8 8 (bd (kR S a8 2) fun a9 =>
fk_11_count_40 S mFU v2 v3 v4 v5 a9 (0 : Int32) (0 : Int32))))))
else (
fk_11_count_21 S))))
set_option maxRecDepth 100000 in
set_option maxHeartbeats 4000000 in
theorem tk_11_count (l : Launch) {D : cG} {S : cSt} {v0 : Nat} {v1 : Int32} {v2 : Int32} {v3 : Int32} {v4 : Int32} {v5 : Int32} {r : Int32}  (h : fk_11_count S v0 v1 v2 v3 v4 v5 = some r) : Met l yX11_count (Cond.code yX11_count cX11_count 10 (some .int) :: lw_g) { frames := 4, cells := 0, slots := 0, locals := 87 } (kPi [.ref v0, .int v1, .int v2, .int v3, .int v4, .int v5] D S) (kQ (some (.int r))) 0 0 (mNo) := by
  refine Met.ofW (cc := cX11_count) (maxL := 10) (ret := (some .int)) (by decide) rfl ?_
  intro p e s m args below meth c s₁ B hml hv
  obtain ⟨rfl, hW, X⟩ := hv
  have C : cY p (headSpec (Cond.code yX11_count cX11_count 10 (some .int) :: lw_g) { frames := 4, cells := 0, slots := 0, locals := 87 }).room s m _ meth c RX11 cX11_count 10 4 0 0 87 (some .int) := ⟨B.exec, B.bytes, hml, findClass_of_methodNamed B.named, fun w hw => atoms_spec (ws := Cond.code yX11_count cX11_count 10 (some .int) :: lw_g) B.pre w (List.mem_cons_of_mem _ hw), ⟨Nat.le_refl _, Nat.le_refl _, Nat.le_refl _, Nat.le_refl _⟩, B.returns, B.notSynchronized⟩
  have hl := lv_entry ([.ref v0, .int v1, .int v2, .int v3, .int v4, .int v5]) (n := 10) (Nat.le_of_ble_eq_true rfl)
  rw [lg_entry_eq]
  generalize (lg_sl ([.ref v0, .int v1, .int v2, .int v3, .int v4, .int v5]) ++ List.replicate (10 - (lg_sl ([.ref v0, .int v1, .int v2, .int v3, .int v4, .int v5])).length) Slot.unset).toArray = ls at hl ⊢
  have hl : lv_has ls 10 [(0, .ref v0), (1, .int v1), (2, .int v2), (3, .int v3), (4, .int v4), (5, .int v5)] := hl
  unfold fk_11_count at h
  refine lv_iload_n C.1 C.2.1 dX11_count_0 rfl (lv_at hl 1 rfl) ?_
  obtain ⟨r1, h_r1, h⟩ := bd_ok h
  refine c_callS (rest := []) C hl.1 [.int v1] (tk_11_isNode l h_r1) cw11_112 ks_11_isNode rfl ⟨by decide, by decide⟩ ⟨(by decide), (by decide)⟩ rfl (Nat.le_of_ble_eq_true rfl) dX11_count_1 ?_
  refine W.eq (g2 := F0 m 4 ls [.int r1]) rfl ?_
  refine lv_if_eq (tgt := 21) C.1 C.2.1 dX11_count_4 (by decide) (fun c2 => ?_) (fun c2 => ?_)
  · have h := if_t h c2
    exact wk_11_count_21 C X hW h (lv_sub hl [] rfl)
  · have h := if_f h c2
    refine lv_aload_n C.1 C.2.1 dX11_count_7 rfl (lv_at hl 0 rfl) ?_
    obtain ⟨hk, h⟩ := ckk_ok h
    obtain ⟨a3, h_a3, h⟩ := bd_ok h
    refine gk11_12 C X hW hk h_a3 dX11_count_8 ?_
    refine lv_iload_n C.1 C.2.1 dX11_count_11 rfl (lv_at hl 2 rfl) ?_
    refine lv_iload_n C.1 C.2.1 dX11_count_12 rfl (lv_at hl 3 rfl) ?_
    obtain ⟨hk, h⟩ := ckk_ok h
    obtain ⟨r4, h_r4, h⟩ := bd_ok h
    refine c_callR (rest := []) C X hW hl.1 3 (by decide) hk [.int v2, .int v3] (tk_3_ruleOf l h_r4) cw11_190 ki_3_ruleOf kl_3_ruleOf rfl ⟨by decide, by decide⟩ ⟨(by decide), (by decide)⟩ rfl (Nat.le_of_ble_eq_true rfl) dX11_count_13 ?_
    refine W.eq (g2 := F0 m 16 ls [.int r4]) rfl ?_
    refine lv_bipush (v := 76) C.1 C.2.1 dX11_count_16 (by decide) ?_
    refine lv_icmp_eq (tgt := 23) C.1 C.2.1 dX11_count_18 (by decide) (fun c5 => ?_) (fun c5 => ?_)
    · have h := if_t h c5
      refine lv_aload_n C.1 C.2.1 dX11_count_23 rfl (lv_at hl 0 rfl) ?_
      obtain ⟨hk, h⟩ := ckk_ok h
      obtain ⟨a6, h_a6, h⟩ := bd_ok h
      refine gk11_25 C X hW hk h_a6 dX11_count_24 ?_
      refine lv_iload_n C.1 C.2.1 dX11_count_27 rfl (lv_at hl 1 rfl) ?_
      obtain ⟨hk, h⟩ := ckk_ok h
      obtain ⟨hin2, h⟩ := ck_ok h
      refine c_aald C 31 (by decide) X.2.2.2.2.2.1 hW hk hin2 dX11_count_28 ?_
      refine lt_ok h (fun o7 e_o7 h => ?_)
      refine lv_nmq e_o7 ?_
      obtain ⟨a8, e_a8, h⟩ := bd_ok h
      subst e_a8
      obtain ⟨hk, h⟩ := ckk_ok h
      obtain ⟨a9, h_a9, h⟩ := bd_ok h
      refine gk11_147 C X hW hk h_a9 dX11_count_29 ?_
      refine lv_astore (lv' := [(6, .ref a9), (0, .ref v0), (1, .int v1), (2, .int v2), (3, .int v3), (4, .int v4), (5, .int v5)]) C.1 C.2.1 dX11_count_32 hl (by decide) rfl (fun ls hl => ?_)
      refine lv_iconst (v := 0) C.1 C.2.1 dX11_count_34 (by decide) ?_
      refine lv_istore (lv' := [(7, .int (0 : Int32)), (6, .ref a9), (0, .ref v0), (1, .int v1), (2, .int v2), (3, .int v3), (4, .int v4), (5, .int v5)]) C.1 C.2.1 dX11_count_35 hl (by decide) rfl (fun ls hl => ?_)
      refine lv_iconst (v := 0) C.1 C.2.1 dX11_count_37 (by decide) ?_
      refine lv_istore (lv' := [(8, .int (0 : Int32)), (7, .int (0 : Int32)), (6, .ref a9), (0, .ref v0), (1, .int v1), (2, .int v2), (3, .int v3), (4, .int v4), (5, .int v5)]) C.1 C.2.1 dX11_count_38 hl (by decide) rfl (fun ls hl => ?_)
      exact wk_11_count_40 C X hW mFU h (lv_sub hl [5, 6, 7, 8, 2, 1, 0] rfl)
    · have h := if_f h c5
      exact wk_11_count_21 C X hW h (lv_sub hl [] rfl)
end
theorem dX11_rankIn_0 : decode cX11_rankIn 0 = .ok (.aload_n 1, 1) := by decide +kernel
theorem dX11_rankIn_1 : decode cX11_rankIn 1 = .ok (.iload_n 3, 1) := by decide +kernel
theorem dX11_rankIn_2 : decode cX11_rankIn 2 = .ok (.bipush 8, 2) := by decide +kernel
theorem dX11_rankIn_4 : decode cX11_rankIn 4 = .ok (.imul, 1) := by decide +kernel
theorem dX11_rankIn_5 : decode cX11_rankIn 5 = .ok (.iload 4, 2) := by decide +kernel
theorem dX11_rankIn_7 : decode cX11_rankIn 7 = .ok (.iadd, 1) := by decide +kernel
theorem dX11_rankIn_8 : decode cX11_rankIn 8 = .ok (.invokevirtual 357, 3) := by decide +kernel
theorem dX11_rankIn_11 : decode cX11_rankIn 11 = .ok (.istore 5, 2) := by decide +kernel
theorem dX11_rankIn_13 : decode cX11_rankIn 13 = .ok (.iload_n 2, 1) := by decide +kernel
theorem dX11_rankIn_14 : decode cX11_rankIn 14 = .ok (.istore 6, 2) := by decide +kernel
theorem dX11_rankIn_16 : decode cX11_rankIn 16 = .ok (.iload 6, 2) := by decide +kernel
theorem dX11_rankIn_18 : decode cX11_rankIn 18 = .ok (.ifCond .le 49, 3) := by decide +kernel
theorem dX11_rankIn_21 : decode cX11_rankIn 21 = .ok (.aload_n 0, 1) := by decide +kernel
theorem dX11_rankIn_22 : decode cX11_rankIn 22 = .ok (.getfield 52, 3) := by decide +kernel
theorem dX11_rankIn_25 : decode cX11_rankIn 25 = .ok (.iload 6, 2) := by decide +kernel
theorem dX11_rankIn_27 : decode cX11_rankIn 27 = .ok (.iconst 1, 1) := by decide +kernel
theorem dX11_rankIn_28 : decode cX11_rankIn 28 = .ok (.isub, 1) := by decide +kernel
theorem dX11_rankIn_29 : decode cX11_rankIn 29 = .ok (.iaload, 1) := by decide +kernel
theorem dX11_rankIn_30 : decode cX11_rankIn 30 = .ok (.istore 7, 2) := by decide +kernel
theorem dX11_rankIn_32 : decode cX11_rankIn 32 = .ok (.aload_n 1, 1) := by decide +kernel
theorem dX11_rankIn_33 : decode cX11_rankIn 33 = .ok (.iload 7, 2) := by decide +kernel
theorem dX11_rankIn_35 : decode cX11_rankIn 35 = .ok (.bipush 8, 2) := by decide +kernel
theorem dX11_rankIn_37 : decode cX11_rankIn 37 = .ok (.imul, 1) := by decide +kernel
theorem dX11_rankIn_38 : decode cX11_rankIn 38 = .ok (.iload 4, 2) := by decide +kernel
theorem dX11_rankIn_40 : decode cX11_rankIn 40 = .ok (.iadd, 1) := by decide +kernel
theorem dX11_rankIn_41 : decode cX11_rankIn 41 = .ok (.invokevirtual 357, 3) := by decide +kernel
theorem dX11_rankIn_44 : decode cX11_rankIn 44 = .ok (.iload 5, 2) := by decide +kernel
theorem dX11_rankIn_46 : decode cX11_rankIn 46 = .ok (.if_icmp .gt 6, 3) := by decide +kernel
theorem dX11_rankIn_49 : decode cX11_rankIn 49 = .ok (.goto 18, 3) := by decide +kernel
theorem dX11_rankIn_52 : decode cX11_rankIn 52 = .ok (.aload_n 0, 1) := by decide +kernel
theorem dX11_rankIn_53 : decode cX11_rankIn 53 = .ok (.getfield 52, 3) := by decide +kernel
theorem dX11_rankIn_56 : decode cX11_rankIn 56 = .ok (.iload 6, 2) := by decide +kernel
theorem dX11_rankIn_58 : decode cX11_rankIn 58 = .ok (.iload 7, 2) := by decide +kernel
theorem dX11_rankIn_60 : decode cX11_rankIn 60 = .ok (.iastore, 1) := by decide +kernel
theorem dX11_rankIn_61 : decode cX11_rankIn 61 = .ok (.iinc 6 (-1), 3) := by decide +kernel
theorem dX11_rankIn_64 : decode cX11_rankIn 64 = .ok (.goto (-48), 3) := by decide +kernel
theorem dX11_rankIn_67 : decode cX11_rankIn 67 = .ok (.aload_n 0, 1) := by decide +kernel
theorem dX11_rankIn_68 : decode cX11_rankIn 68 = .ok (.getfield 52, 3) := by decide +kernel
theorem dX11_rankIn_71 : decode cX11_rankIn 71 = .ok (.iload 6, 2) := by decide +kernel
theorem dX11_rankIn_73 : decode cX11_rankIn 73 = .ok (.iload_n 3, 1) := by decide +kernel
theorem dX11_rankIn_74 : decode cX11_rankIn 74 = .ok (.iastore, 1) := by decide +kernel
theorem dX11_rankIn_75 : decode cX11_rankIn 75 = .ok (.return_, 1) := by decide +kernel
theorem kd_11_rankIn : Cond.code yX11_rankIn cX11_rankIn 8 none ∈ lw_g := mt_at 1509 (by decide +kernel) rfl
theorem ki_11_rankIn : Cond.instanceMethod yX11_rankIn ∈ lw_g := mt_at 1508 (by decide +kernel) rfl
theorem kl_11_rankIn : Cond.selects (kRn 11) yX11_rankIn yX11_rankIn ∈ lw_g := mt_sel 42 (by decide +kernel) rfl
section
variable {p : Program} {l : Launch} {e : Env} {R : Room} {s : State} {m : MethodId} {args : Array Value} {below : List Frame} {meth : Method} {c : Code} {H : Heap} {locs : List Loc} {cells slots : Nat} {Q : State → Prop}
variable {D : cG} {S S0 : cSt} {cc : ByteArray} {nL : Nat} {pc : Nat} {ls : Array Slot} {rest : List Value} {H0 : Heap} {nF nR nC nS : Nat} {ret : Option FieldType} {a : Nat}
theorem gk11_52 (C : cY p R s m args meth c RX11 cc nL nF nC nS nR ret) (X : cX D s) (hW : cW D S H) (hk : kK S a = 12) {x : Nat} (hx : kR S a 7 = some x) (hdg : decode cc pc = .ok (.getfield 52, 3)) (kk : W p l e R s m args below meth c H locs cells slots Q (F0 m (pc + 3) ls (.ref x :: rest))) : W p l e R s m args below meth c H locs cells slots Q (F0 m pc ls (.ref a :: rest)) := c_get C X hW 11 (by decide) ly_11 hk 7 (by decide) (mt_at 378 (by decide +kernel) (by decide +kernel)) hdg (by rw [cV_R (by decide +kernel) hx]; exact kk)
end
section
variable {p : Program} {l : Launch} {e : Env} {R : Room} {s : State} {m : MethodId} {args : Array Value} {below : List Frame} {meth : Method} {c : Code} {D : cG} {S0 S9 : cSt}
noncomputable def fk_11_rankIn_67 (S : cSt) (v0 : Nat) (v3 : Int32) (v6 : Int32) : Option (cSt) :=
ckk S v0 12 (bd (kR S v0 7) fun a1 =>
ckk S a1 20 (ck v6 (kL S a1) (lt (cWi S a1 (Int32.toNatClampNeg v6) v3) fun S2 =>
some S2)))
set_option maxRecDepth 100000 in
set_option maxHeartbeats 4000000 in
theorem wk_11_rankIn_67 (C : cY p R s m args meth c RX11 cX11_rankIn 8 3 0 0 66 none) (X : cX D s) : ∀ {S : cSt} {v0 : Nat} {v3 : Int32} {v6 : Int32} {H : Heap} {locs : List Loc} {ls : Array Slot}, fk_11_rankIn_67 S v0 v3 v6 = some S9 → cJ D S0 s.heap S H locs → lv_has ls 8 [(0, .ref v0), (3, .int v3), (6, .int v6)] → W p l e R s m args below meth c H locs 0 0 (MQ below (kW none D S0 S9) args s 0 0 (cA S0)) (F0 m 67 ls []) := by
  intro S v0 v3 v6 H locs ls h hJ hl
  unfold fk_11_rankIn_67 at h
  refine lv_aload_n C.1 C.2.1 dX11_rankIn_67 rfl (lv_at hl 0 rfl) ?_
  obtain ⟨hk, h⟩ := ckk_ok h
  obtain ⟨a1, h_a1, h⟩ := bd_ok h
  refine gk11_52 C X hJ.1 hk h_a1 dX11_rankIn_68 ?_
  refine lv_iload C.1 C.2.1 dX11_rankIn_71 (lv_at hl 2 rfl) ?_
  refine lv_iload_n C.1 C.2.1 dX11_rankIn_73 rfl (lv_at hl 1 rfl) ?_
  obtain ⟨hk, h⟩ := ckk_ok h
  obtain ⟨hin2, h⟩ := ck_ok h
  refine c_iast C X hJ hk hin2 dX11_rankIn_74 (fun H locs hJ => ?_)
  refine lt_ok h (fun S2 e_S2 h => ?_)
  rw [e_S2] at hJ
  cases h
  exact c_retvW C hJ dX11_rankIn_75
noncomputable def fk_11_rankIn_16 : Nat → cSt → Nat → Nat → Int32 → Int32 → Int32 → Int32 → Option (cSt)
  | 0, _, _, _, _, _, _, _ => none
  | n + 1, S, v0, v1, v3, v4, v5, v6 =>
    if v6 ≤ 0 then (
    fk_11_rankIn_67 S v0 v3 v6)
    else (
    ckk S v0 12 (bd (kR S v0 7) fun a2 =>
    ckk S a2 20 (ck (v6 - (1 : Int32)) (kL S a2) (
    lt (kI S a2 (Int32.toNatClampNeg (v6 - (1 : Int32)))) fun x3 =>
    ckk S v1 11 (bd (fk_10_latestOf S v1 ((x3 * (8 : Int32)) + v4)) fun r4 =>
    if v5 < r4 then (
    ckk S v0 12 (bd (kR S v0 7) fun a6 =>
    ckk S a6 20 (ck v6 (kL S a6) (lt (cWi S a6 (Int32.toNatClampNeg v6) x3) fun S7 =>
    lt (v6 + (-1 : Int32)) fun x8 =>
    fk_11_rankIn_16 n S7 v0 v1 v3 v4 v5 x8))))
    else (
    fk_11_rankIn_67 S v0 v3 v6))))))
set_option maxRecDepth 100000 in
set_option maxHeartbeats 4000000 in
theorem wk_11_rankIn_16 (C : cY p R s m args meth c RX11 cX11_rankIn 8 3 0 0 66 none) (X : cX D s) : ∀ (n : Nat), ∀ {S : cSt} {v0 : Nat} {v1 : Nat} {v3 : Int32} {v4 : Int32} {v5 : Int32} {v6 : Int32} {H : Heap} {locs : List Loc} {ls : Array Slot}, fk_11_rankIn_16 n S v0 v1 v3 v4 v5 v6 = some S9 → cJ D S0 s.heap S H locs → lv_has ls 8 [(0, .ref v0), (1, .ref v1), (3, .int v3), (4, .int v4), (5, .int v5), (6, .int v6)] → W p l e R s m args below meth c H locs 0 0 (MQ below (kW none D S0 S9) args s 0 0 (cA S0)) (F0 m 16 ls []) := by
  intro n
  induction n with
  | zero =>
    intro S v0 v1 v3 v4 v5 v6 H locs ls h hJ hl
    exact absurd (show (none : Option (cSt)) = _ from h) (fun q => by cases q)
  | succ n ih =>
    intro S v0 v1 v3 v4 v5 v6 H locs ls h hJ hl
    rw [fk_11_rankIn_16] at h
    refine lv_iload C.1 C.2.1 dX11_rankIn_16 (lv_at hl 5 rfl) ?_
    refine lv_if_le (tgt := 67) C.1 C.2.1 dX11_rankIn_18 (by decide) (fun c1 => ?_) (fun c1 => ?_)
    · have h := if_t h c1
      exact wk_11_rankIn_67 C X h hJ (lv_sub hl [0, 2, 5] rfl)
    · have h := if_f h c1
      refine lv_aload_n C.1 C.2.1 dX11_rankIn_21 rfl (lv_at hl 0 rfl) ?_
      obtain ⟨hk, h⟩ := ckk_ok h
      obtain ⟨a2, h_a2, h⟩ := bd_ok h
      refine gk11_52 C X hJ.1 hk h_a2 dX11_rankIn_22 ?_
      refine lv_iload C.1 C.2.1 dX11_rankIn_25 (lv_at hl 5 rfl) ?_
      refine lv_iconst (v := 1) C.1 C.2.1 dX11_rankIn_27 (by decide) ?_
      refine lv_isub C.1 C.2.1 dX11_rankIn_28 ?_
      obtain ⟨hk, h⟩ := ckk_ok h
      obtain ⟨hin2, h⟩ := ck_ok h
      refine c_iald C X hJ.1 hk hin2 dX11_rankIn_29 ?_
      refine lt_ok h (fun x3 e_x3 h => ?_)
      refine lv_nm e_x3 ?_
      refine lv_istore (lv' := [(7, .int x3), (0, .ref v0), (1, .ref v1), (3, .int v3), (4, .int v4), (5, .int v5), (6, .int v6)]) C.1 C.2.1 dX11_rankIn_30 hl (by decide) rfl (fun ls hl => ?_)
      refine lv_aload_n C.1 C.2.1 dX11_rankIn_32 rfl (lv_at hl 2 rfl) ?_
      refine lv_iload C.1 C.2.1 dX11_rankIn_33 (lv_at hl 0 rfl) ?_
      refine lv_bipush (v := 8) C.1 C.2.1 dX11_rankIn_35 (by decide) ?_
      refine lv_imul C.1 C.2.1 dX11_rankIn_37 ?_
      refine lv_iload C.1 C.2.1 dX11_rankIn_38 (lv_at hl 4 rfl) ?_
      refine lv_iadd C.1 C.2.1 dX11_rankIn_40 ?_
      obtain ⟨hk, h⟩ := ckk_ok h
      obtain ⟨r4, h_r4, h⟩ := bd_ok h
      refine c_callR (rest := []) C X hJ.1 hl.1 10 (by decide) hk [.int ((x3 * (8 : Int32)) + v4)] (tk_10_latestOf l h_r4) cw11_357 ki_10_latestOf kl_10_latestOf rfl ⟨by decide, by decide⟩ ⟨(by decide), (by decide)⟩ rfl (Nat.le_of_ble_eq_true rfl) dX11_rankIn_41 ?_
      refine W.eq (g2 := F0 m 44 ls [.int r4]) rfl ?_
      refine lv_iload C.1 C.2.1 dX11_rankIn_44 (lv_at hl 5 rfl) ?_
      refine lv_icmp_gt (tgt := 52) C.1 C.2.1 dX11_rankIn_46 (by decide) (fun c5 => ?_) (fun c5 => ?_)
      · have h := if_t h c5
        refine lv_aload_n C.1 C.2.1 dX11_rankIn_52 rfl (lv_at hl 1 rfl) ?_
        obtain ⟨hk, h⟩ := ckk_ok h
        obtain ⟨a6, h_a6, h⟩ := bd_ok h
        refine gk11_52 C X hJ.1 hk h_a6 dX11_rankIn_53 ?_
        refine lv_iload C.1 C.2.1 dX11_rankIn_56 (lv_at hl 6 rfl) ?_
        refine lv_iload C.1 C.2.1 dX11_rankIn_58 (lv_at hl 0 rfl) ?_
        obtain ⟨hk, h⟩ := ckk_ok h
        obtain ⟨hin2, h⟩ := ck_ok h
        refine c_iast C X hJ hk hin2 dX11_rankIn_60 (fun H locs hJ => ?_)
        refine lt_ok h (fun S7 e_S7 h => ?_)
        rw [e_S7] at hJ
        refine lt_ok h (fun x8 e_x8 h => ?_)
        refine lv_iinc (v := x8) (lv' := [(6, .int x8), (7, .int x3), (0, .ref v0), (1, .ref v1), (3, .int v3), (4, .int v4), (5, .int v5)]) C.1 C.2.1 dX11_rankIn_61 hl (k := 6) rfl (by rw [← e_x8]; rfl) (by decide) rfl (fun ls hl => ?_)
        refine lv_goto (tgt := 16) C.1 C.2.1 dX11_rankIn_64 (by decide) ?_
        exact ih h hJ (lv_sub hl [2, 3, 4, 5, 6, 0] rfl)
      · have h := if_f h c5
        refine lv_goto (tgt := 67) C.1 C.2.1 dX11_rankIn_49 (by decide) ?_
        exact wk_11_rankIn_67 C X h hJ (lv_sub hl [1, 3, 6] rfl)
noncomputable def fk_11_rankIn (S : cSt) (v0 : Nat) (v1 : Nat) (v2 : Int32) (v3 : Int32) (v4 : Int32) : Option (cSt) :=
ckk S v1 11 (bd (fk_10_latestOf S v1 ((v3 * (8 : Int32)) + v4)) fun r1 =>
fk_11_rankIn_16 mFU S v0 v1 v3 v4 r1 v2)
set_option maxRecDepth 100000 in
set_option maxHeartbeats 4000000 in
theorem tk_11_rankIn (l : Launch) {D : cG} {S : cSt} {v0 : Nat} {v1 : Nat} {v2 : Int32} {v3 : Int32} {v4 : Int32} {S9 : cSt} (h : fk_11_rankIn S v0 v1 v2 v3 v4 = some S9) : Met l yX11_rankIn (Cond.code yX11_rankIn cX11_rankIn 8 none :: lw_g) { frames := 3, cells := 0, slots := 0, locals := 66 } (kPi [.ref v0, .ref v1, .int v2, .int v3, .int v4] D S) (kW none D S S9) 0 0 (cA S) := by
  refine Met.ofW (cc := cX11_rankIn) (maxL := 8) (ret := none) (by decide) rfl ?_
  intro p e s m args below meth c s₁ B hml hv
  obtain ⟨rfl, hW, X⟩ := hv
  have C : cY p (headSpec (Cond.code yX11_rankIn cX11_rankIn 8 none :: lw_g) { frames := 3, cells := 0, slots := 0, locals := 66 }).room s m _ meth c RX11 cX11_rankIn 8 3 0 0 66 none := ⟨B.exec, B.bytes, hml, findClass_of_methodNamed B.named, fun w hw => atoms_spec (ws := Cond.code yX11_rankIn cX11_rankIn 8 none :: lw_g) B.pre w (List.mem_cons_of_mem _ hw), ⟨Nat.le_refl _, Nat.le_refl _, Nat.le_refl _, Nat.le_refl _⟩, B.returns, B.notSynchronized⟩
  have hl := lv_entry ([.ref v0, .ref v1, .int v2, .int v3, .int v4]) (n := 8) (Nat.le_of_ble_eq_true rfl)
  rw [lg_entry_eq]
  generalize (lg_sl ([.ref v0, .ref v1, .int v2, .int v3, .int v4]) ++ List.replicate (8 - (lg_sl ([.ref v0, .ref v1, .int v2, .int v3, .int v4])).length) Slot.unset).toArray = ls at hl ⊢
  have hl : lv_has ls 8 [(0, .ref v0), (1, .ref v1), (2, .int v2), (3, .int v3), (4, .int v4)] := hl
  have hJ : cJ D S s.heap S s.heap [] := cJ.rf hW
  unfold fk_11_rankIn at h
  refine lv_aload_n C.1 C.2.1 dX11_rankIn_0 rfl (lv_at hl 1 rfl) ?_
  refine lv_iload_n C.1 C.2.1 dX11_rankIn_1 rfl (lv_at hl 3 rfl) ?_
  refine lv_bipush (v := 8) C.1 C.2.1 dX11_rankIn_2 (by decide) ?_
  refine lv_imul C.1 C.2.1 dX11_rankIn_4 ?_
  refine lv_iload C.1 C.2.1 dX11_rankIn_5 (lv_at hl 4 rfl) ?_
  refine lv_iadd C.1 C.2.1 dX11_rankIn_7 ?_
  obtain ⟨hk, h⟩ := ckk_ok h
  obtain ⟨r1, h_r1, h⟩ := bd_ok h
  refine c_callR (rest := []) C X hJ.1 hl.1 10 (by decide) hk [.int ((v3 * (8 : Int32)) + v4)] (tk_10_latestOf l h_r1) cw11_357 ki_10_latestOf kl_10_latestOf rfl ⟨by decide, by decide⟩ ⟨(by decide), (by decide)⟩ rfl (Nat.le_of_ble_eq_true rfl) dX11_rankIn_8 ?_
  refine W.eq (g2 := F0 m 11 ls [.int r1]) rfl ?_
  refine lv_istore (lv' := [(5, .int r1), (0, .ref v0), (1, .ref v1), (2, .int v2), (3, .int v3), (4, .int v4)]) C.1 C.2.1 dX11_rankIn_11 hl (by decide) rfl (fun ls hl => ?_)
  refine lv_iload_n C.1 C.2.1 dX11_rankIn_13 rfl (lv_at hl 3 rfl) ?_
  refine lv_istore (lv' := [(6, .int v2), (5, .int r1), (0, .ref v0), (1, .ref v1), (2, .int v2), (3, .int v3), (4, .int v4)]) C.1 C.2.1 dX11_rankIn_14 hl (by decide) rfl (fun ls hl => ?_)
  exact wk_11_rankIn_16 C X mFU h hJ (lv_sub hl [2, 3, 5, 6, 1, 0] rfl)
end
theorem dX11_ranked_0 : decode cX11_ranked 0 = .ok (.iload_n 1, 1) := by decide +kernel
theorem dX11_ranked_1 : decode cX11_ranked 1 = .ok (.invokestatic 112, 3) := by decide +kernel
theorem dX11_ranked_4 : decode cX11_ranked 4 = .ok (.ifCond .eq 17, 3) := by decide +kernel
theorem dX11_ranked_7 : decode cX11_ranked 7 = .ok (.aload_n 0, 1) := by decide +kernel
theorem dX11_ranked_8 : decode cX11_ranked 8 = .ok (.getfield 12, 3) := by decide +kernel
theorem dX11_ranked_11 : decode cX11_ranked 11 = .ok (.iload_n 2, 1) := by decide +kernel
theorem dX11_ranked_12 : decode cX11_ranked 12 = .ok (.iload_n 3, 1) := by decide +kernel
theorem dX11_ranked_13 : decode cX11_ranked 13 = .ok (.invokevirtual 190, 3) := by decide +kernel
theorem dX11_ranked_16 : decode cX11_ranked 16 = .ok (.bipush 76, 2) := by decide +kernel
theorem dX11_ranked_18 : decode cX11_ranked 18 = .ok (.if_icmp .eq 5, 3) := by decide +kernel
theorem dX11_ranked_21 : decode cX11_ranked 21 = .ok (.iconst (-1), 1) := by decide +kernel
theorem dX11_ranked_22 : decode cX11_ranked 22 = .ok (.ireturn, 1) := by decide +kernel
theorem dX11_ranked_23 : decode cX11_ranked 23 = .ok (.aload_n 0, 1) := by decide +kernel
theorem dX11_ranked_24 : decode cX11_ranked 24 = .ok (.getfield 25, 3) := by decide +kernel
theorem dX11_ranked_27 : decode cX11_ranked 27 = .ok (.iload_n 1, 1) := by decide +kernel
theorem dX11_ranked_28 : decode cX11_ranked 28 = .ok (.aaload, 1) := by decide +kernel
theorem dX11_ranked_29 : decode cX11_ranked 29 = .ok (.getfield 147, 3) := by decide +kernel
theorem dX11_ranked_32 : decode cX11_ranked 32 = .ok (.astore 5, 2) := by decide +kernel
theorem dX11_ranked_34 : decode cX11_ranked 34 = .ok (.iconst 0, 1) := by decide +kernel
theorem dX11_ranked_35 : decode cX11_ranked 35 = .ok (.istore 6, 2) := by decide +kernel
theorem dX11_ranked_37 : decode cX11_ranked 37 = .ok (.iconst 0, 1) := by decide +kernel
theorem dX11_ranked_38 : decode cX11_ranked 38 = .ok (.istore 7, 2) := by decide +kernel
theorem dX11_ranked_40 : decode cX11_ranked 40 = .ok (.iload 7, 2) := by decide +kernel
theorem dX11_ranked_42 : decode cX11_ranked 42 = .ok (.bipush 48, 2) := by decide +kernel
theorem dX11_ranked_44 : decode cX11_ranked 44 = .ok (.if_icmp .ge 34, 3) := by decide +kernel
theorem dX11_ranked_47 : decode cX11_ranked 47 = .ok (.aload 5, 2) := by decide +kernel
theorem dX11_ranked_49 : decode cX11_ranked 49 = .ok (.iload 7, 2) := by decide +kernel
theorem dX11_ranked_51 : decode cX11_ranked 51 = .ok (.iload_n 2, 1) := by decide +kernel
theorem dX11_ranked_52 : decode cX11_ranked 52 = .ok (.invokevirtual 354, 3) := by decide +kernel
theorem dX11_ranked_55 : decode cX11_ranked 55 = .ok (.ifCond .eq 17, 3) := by decide +kernel
theorem dX11_ranked_58 : decode cX11_ranked 58 = .ok (.aload_n 0, 1) := by decide +kernel
theorem dX11_ranked_59 : decode cX11_ranked 59 = .ok (.aload 5, 2) := by decide +kernel
theorem dX11_ranked_61 : decode cX11_ranked 61 = .ok (.iload 6, 2) := by decide +kernel
theorem dX11_ranked_63 : decode cX11_ranked 63 = .ok (.iload 7, 2) := by decide +kernel
theorem dX11_ranked_65 : decode cX11_ranked 65 = .ok (.iload_n 3, 1) := by decide +kernel
theorem dX11_ranked_66 : decode cX11_ranked 66 = .ok (.invokevirtual 360, 3) := by decide +kernel
theorem dX11_ranked_69 : decode cX11_ranked 69 = .ok (.iinc 6 1, 3) := by decide +kernel
theorem dX11_ranked_72 : decode cX11_ranked 72 = .ok (.iinc 7 1, 3) := by decide +kernel
theorem dX11_ranked_75 : decode cX11_ranked 75 = .ok (.goto (-35), 3) := by decide +kernel
theorem dX11_ranked_78 : decode cX11_ranked 78 = .ok (.iload 4, 2) := by decide +kernel
theorem dX11_ranked_80 : decode cX11_ranked 80 = .ok (.ifCond .lt 27, 3) := by decide +kernel
theorem dX11_ranked_83 : decode cX11_ranked 83 = .ok (.iload 4, 2) := by decide +kernel
theorem dX11_ranked_85 : decode cX11_ranked 85 = .ok (.iload 6, 2) := by decide +kernel
theorem dX11_ranked_87 : decode cX11_ranked 87 = .ok (.if_icmp .ge 20, 3) := by decide +kernel
theorem dX11_ranked_90 : decode cX11_ranked 90 = .ok (.aload_n 0, 1) := by decide +kernel
theorem dX11_ranked_91 : decode cX11_ranked 91 = .ok (.getfield 19, 3) := by decide +kernel
theorem dX11_ranked_94 : decode cX11_ranked 94 = .ok (.aload_n 0, 1) := by decide +kernel
theorem dX11_ranked_95 : decode cX11_ranked 95 = .ok (.getfield 52, 3) := by decide +kernel
theorem dX11_ranked_98 : decode cX11_ranked 98 = .ok (.iload 4, 2) := by decide +kernel
theorem dX11_ranked_100 : decode cX11_ranked 100 = .ok (.iaload, 1) := by decide +kernel
theorem dX11_ranked_101 : decode cX11_ranked 101 = .ok (.invokevirtual 201, 3) := by decide +kernel
theorem dX11_ranked_104 : decode cX11_ranked 104 = .ok (.goto 4, 3) := by decide +kernel
theorem dX11_ranked_107 : decode cX11_ranked 107 = .ok (.iconst (-1), 1) := by decide +kernel
theorem dX11_ranked_108 : decode cX11_ranked 108 = .ok (.ireturn, 1) := by decide +kernel
theorem kd_11_ranked : Cond.code yX11_ranked cX11_ranked 8 (some .int) ∈ lw_g := mt_at 1505 (by decide +kernel) rfl
theorem ki_11_ranked : Cond.instanceMethod yX11_ranked ∈ lw_g := mt_at 1503 (by decide +kernel) rfl
theorem kl_11_ranked : Cond.selects (kRn 11) yX11_ranked yX11_ranked ∈ lw_g := mt_at 1504 (by decide +kernel) rfl
theorem cw11_360 : cCw RX11 360 yX11_rankIn cX11_rankIn 8 none 4 := ⟨kd_11_rankIn, mt_at 1506 (by decide +kernel) rfl, mt_at 1 (by decide +kernel) rfl, by decide +kernel⟩
section
variable {p : Program} {l : Launch} {e : Env} {R : Room} {s : State} {m : MethodId} {args : Array Value} {below : List Frame} {meth : Method} {c : Code} {D : cG} {S0 S9 : cSt} {r : Int32}
noncomputable def fk_11_ranked_21 (S : cSt) : Option (Int32 × cSt) :=
some ((-1 : Int32), S)
set_option maxRecDepth 100000 in
set_option maxHeartbeats 4000000 in
theorem wk_11_ranked_21 (C : cY p R s m args meth c RX11 cX11_ranked 8 4 0 0 93 (some .int)) (X : cX D s) : ∀ {S : cSt} {H : Heap} {locs : List Loc} {ls : Array Slot}, fk_11_ranked_21 S = some (r, S9) → cJ D S0 s.heap S H locs → lv_has ls 8 [] → W p l e R s m args below meth c H locs 0 0 (MQ below (kW (some (.int r)) D S0 S9) args s 0 0 (cA S0)) (F0 m 21 ls []) := by
  intro S H locs ls h hJ hl
  unfold fk_11_ranked_21 at h
  refine lv_iconst (v := -1) C.1 C.2.1 dX11_ranked_21 (by decide) ?_
  cases h
  exact c_retiW C hJ dX11_ranked_22
noncomputable def fk_11_ranked_108 (S : cSt) (s0 : Int32) : Option (Int32 × cSt) :=
some (s0, S)
set_option maxRecDepth 100000 in
set_option maxHeartbeats 4000000 in
theorem wk_11_ranked_108 (C : cY p R s m args meth c RX11 cX11_ranked 8 4 0 0 93 (some .int)) (X : cX D s) : ∀ {S : cSt} {s0 : Int32} {H : Heap} {locs : List Loc} {ls : Array Slot}, fk_11_ranked_108 S s0 = some (r, S9) → cJ D S0 s.heap S H locs → lv_has ls 8 [] → W p l e R s m args below meth c H locs 0 0 (MQ below (kW (some (.int r)) D S0 S9) args s 0 0 (cA S0)) (F0 m 108 ls [.int s0]) := by
  intro S s0 H locs ls h hJ hl
  unfold fk_11_ranked_108 at h
  cases h
  exact c_retiW C hJ dX11_ranked_108
noncomputable def fk_11_ranked_107 (S : cSt) : Option (Int32 × cSt) :=
fk_11_ranked_108 S (-1 : Int32)
set_option maxRecDepth 100000 in
set_option maxHeartbeats 4000000 in
theorem wk_11_ranked_107 (C : cY p R s m args meth c RX11 cX11_ranked 8 4 0 0 93 (some .int)) (X : cX D s) : ∀ {S : cSt} {H : Heap} {locs : List Loc} {ls : Array Slot}, fk_11_ranked_107 S = some (r, S9) → cJ D S0 s.heap S H locs → lv_has ls 8 [] → W p l e R s m args below meth c H locs 0 0 (MQ below (kW (some (.int r)) D S0 S9) args s 0 0 (cA S0)) (F0 m 107 ls []) := by
  intro S H locs ls h hJ hl
  unfold fk_11_ranked_107 at h
  refine lv_iconst (v := -1) C.1 C.2.1 dX11_ranked_107 (by decide) ?_
  exact wk_11_ranked_108 C X h hJ (lv_sub hl [] rfl)
noncomputable def fk_11_ranked_72 (g_40 : cSt → Nat → Int32 → Int32 → Int32 → Nat → Int32 → Int32 → Option (Int32 × cSt)) (S : cSt) (v0 : Nat) (v2 : Int32) (v3 : Int32) (v4 : Int32) (v5 : Nat) (v6 : Int32) (v7 : Int32) : Option (Int32 × cSt) :=
lt (v7 + (1 : Int32)) fun x1 =>
g_40 S v0 v2 v3 v4 v5 v6 x1
set_option maxRecDepth 100000 in
set_option maxHeartbeats 4000000 in
theorem wk_11_ranked_72 (C : cY p R s m args meth c RX11 cX11_ranked 8 4 0 0 93 (some .int)) (X : cX D s) {g_40 : cSt → Nat → Int32 → Int32 → Int32 → Nat → Int32 → Int32 → Option (Int32 × cSt)} (hg_40 : ∀ {S : cSt} {v0 : Nat} {v2 : Int32} {v3 : Int32} {v4 : Int32} {v5 : Nat} {v6 : Int32} {v7 : Int32} {H : Heap} {locs : List Loc} {ls : Array Slot}, g_40 S v0 v2 v3 v4 v5 v6 v7 = some (r, S9) → cJ D S0 s.heap S H locs → lv_has ls 8 [(0, .ref v0), (2, .int v2), (3, .int v3), (4, .int v4), (5, .ref v5), (6, .int v6), (7, .int v7)] → W p l e R s m args below meth c H locs 0 0 (MQ below (kW (some (.int r)) D S0 S9) args s 0 0 (cA S0)) (F0 m 40 ls [])) : ∀ {S : cSt} {v0 : Nat} {v2 : Int32} {v3 : Int32} {v4 : Int32} {v5 : Nat} {v6 : Int32} {v7 : Int32} {H : Heap} {locs : List Loc} {ls : Array Slot}, fk_11_ranked_72 g_40 S v0 v2 v3 v4 v5 v6 v7 = some (r, S9) → cJ D S0 s.heap S H locs → lv_has ls 8 [(0, .ref v0), (2, .int v2), (3, .int v3), (4, .int v4), (5, .ref v5), (6, .int v6), (7, .int v7)] → W p l e R s m args below meth c H locs 0 0 (MQ below (kW (some (.int r)) D S0 S9) args s 0 0 (cA S0)) (F0 m 72 ls []) := by
  intro S v0 v2 v3 v4 v5 v6 v7 H locs ls h hJ hl
  unfold fk_11_ranked_72 at h
  refine lt_ok h (fun x1 e_x1 h => ?_)
  refine lv_iinc (v := x1) (lv' := [(7, .int x1), (0, .ref v0), (2, .int v2), (3, .int v3), (4, .int v4), (5, .ref v5), (6, .int v6)]) C.1 C.2.1 dX11_ranked_72 hl (k := 6) rfl (by rw [← e_x1]; rfl) (by decide) rfl (fun ls hl => ?_)
  refine lv_goto (tgt := 40) C.1 C.2.1 dX11_ranked_75 (by decide) ?_
  exact hg_40 h hJ (lv_sub hl [1, 2, 3, 4, 5, 6, 0] rfl)
noncomputable def fk_11_ranked_40 : Nat → cSt → Nat → Int32 → Int32 → Int32 → Nat → Int32 → Int32 → Option (Int32 × cSt)
  | 0, _, _, _, _, _, _, _, _ => none
  | n + 1, S, v0, v2, v3, v4, v5, v6, v7 =>
    if (48 : Int32) ≤ v7 then (
    if v4 < 0 then (
    fk_11_ranked_107 S)
    else (
    if v6 ≤ v4 then (
    fk_11_ranked_107 S)
    else (
    ckk S v0 12 (bd (kR S v0 1) fun a4 =>
    ckk S v0 12 (bd (kR S v0 7) fun a5 =>
    ckk S a5 20 (ck v4 (kL S a5) (
    ckk S a4 1 (bd (fk_0_nameOf S a4 (kI S a5 (Int32.toNatClampNeg v4))) fun r6 =>
    fk_11_ranked_108 S r6))))))))
    else (
    ckk S v5 11 (bd (fk_10_isThereOf S v5 v7 v2) fun r7 =>
    if r7 = 0 then (
    fk_11_ranked_72 (fk_11_ranked_40 n) S v0 v2 v3 v4 v5 v6 v7)
    else (
    ckk S v0 12 (bd (fk_11_rankIn S v0 v5 v6 v7 v3) fun S10 =>
    lt (v6 + (1 : Int32)) fun x11 =>
    fk_11_ranked_72 (fk_11_ranked_40 n) S10 v0 v2 v3 v4 v5 x11 v7))))
set_option maxRecDepth 100000 in
set_option maxHeartbeats 4000000 in
theorem wk_11_ranked_40 (C : cY p R s m args meth c RX11 cX11_ranked 8 4 0 0 93 (some .int)) (X : cX D s) : ∀ (n : Nat), ∀ {S : cSt} {v0 : Nat} {v2 : Int32} {v3 : Int32} {v4 : Int32} {v5 : Nat} {v6 : Int32} {v7 : Int32} {H : Heap} {locs : List Loc} {ls : Array Slot}, fk_11_ranked_40 n S v0 v2 v3 v4 v5 v6 v7 = some (r, S9) → cJ D S0 s.heap S H locs → lv_has ls 8 [(0, .ref v0), (2, .int v2), (3, .int v3), (4, .int v4), (5, .ref v5), (6, .int v6), (7, .int v7)] → W p l e R s m args below meth c H locs 0 0 (MQ below (kW (some (.int r)) D S0 S9) args s 0 0 (cA S0)) (F0 m 40 ls []) := by
  intro n
  induction n with
  | zero =>
    intro S v0 v2 v3 v4 v5 v6 v7 H locs ls h hJ hl
    exact absurd (show (none : Option (Int32 × cSt)) = _ from h) (fun q => by cases q)
  | succ n ih =>
    intro S v0 v2 v3 v4 v5 v6 v7 H locs ls h hJ hl
    rw [fk_11_ranked_40] at h
    refine lv_iload C.1 C.2.1 dX11_ranked_40 (lv_at hl 6 rfl) ?_
    refine lv_bipush (v := 48) C.1 C.2.1 dX11_ranked_42 (by decide) ?_
    refine lv_icmp_ge (tgt := 78) C.1 C.2.1 dX11_ranked_44 (by decide) (fun c1 => ?_) (fun c1 => ?_)
    · have h := if_t h c1
      refine lv_iload C.1 C.2.1 dX11_ranked_78 (lv_at hl 3 rfl) ?_
      refine lv_if_lt (tgt := 107) C.1 C.2.1 dX11_ranked_80 (by decide) (fun c2 => ?_) (fun c2 => ?_)
      · have h := if_t h c2
        exact wk_11_ranked_107 C X h hJ (lv_sub hl [] rfl)
      · have h := if_f h c2
        refine lv_iload C.1 C.2.1 dX11_ranked_83 (lv_at hl 3 rfl) ?_
        refine lv_iload C.1 C.2.1 dX11_ranked_85 (lv_at hl 5 rfl) ?_
        refine lv_icmp_ge (tgt := 107) C.1 C.2.1 dX11_ranked_87 (by decide) (fun c3 => ?_) (fun c3 => ?_)
        · have h := if_t h c3
          exact wk_11_ranked_107 C X h hJ (lv_sub hl [] rfl)
        · have h := if_f h c3
          refine lv_aload_n C.1 C.2.1 dX11_ranked_90 rfl (lv_at hl 0 rfl) ?_
          obtain ⟨hk, h⟩ := ckk_ok h
          obtain ⟨a4, h_a4, h⟩ := bd_ok h
          refine gk11_19 C X hJ.1 hk h_a4 dX11_ranked_91 ?_
          refine lv_aload_n C.1 C.2.1 dX11_ranked_94 rfl (lv_at hl 0 rfl) ?_
          obtain ⟨hk, h⟩ := ckk_ok h
          obtain ⟨a5, h_a5, h⟩ := bd_ok h
          refine gk11_52 C X hJ.1 hk h_a5 dX11_ranked_95 ?_
          refine lv_iload C.1 C.2.1 dX11_ranked_98 (lv_at hl 3 rfl) ?_
          obtain ⟨hk, h⟩ := ckk_ok h
          obtain ⟨hin2, h⟩ := ck_ok h
          refine c_iald C X hJ.1 hk hin2 dX11_ranked_100 ?_
          obtain ⟨hk, h⟩ := ckk_ok h
          obtain ⟨r6, h_r6, h⟩ := bd_ok h
          refine c_callR (rest := []) C X hJ.1 hl.1 0 (by decide) hk [.int (kI S a5 (Int32.toNatClampNeg v4))] (tk_0_nameOf l h_r6) cw11_201 ki_0_nameOf kl_0_nameOf rfl ⟨by decide, by decide⟩ ⟨(by decide), (by decide)⟩ rfl (Nat.le_of_ble_eq_true rfl) dX11_ranked_101 ?_
          refine W.eq (g2 := F0 m 104 ls [.int r6]) rfl ?_
          refine lv_goto (tgt := 108) C.1 C.2.1 dX11_ranked_104 (by decide) ?_
          exact wk_11_ranked_108 C X h hJ (lv_sub hl [] rfl)
    · have h := if_f h c1
      refine lv_aload C.1 C.2.1 dX11_ranked_47 (lv_at hl 4 rfl) ?_
      refine lv_iload C.1 C.2.1 dX11_ranked_49 (lv_at hl 6 rfl) ?_
      refine lv_iload_n C.1 C.2.1 dX11_ranked_51 rfl (lv_at hl 1 rfl) ?_
      obtain ⟨hk, h⟩ := ckk_ok h
      obtain ⟨r7, h_r7, h⟩ := bd_ok h
      refine c_callR (rest := []) C X hJ.1 hl.1 10 (by decide) hk [.int v7, .int v2] (tk_10_isThereOf l h_r7) cw11_354 ki_10_isThereOf kl_10_isThereOf rfl ⟨by decide, by decide⟩ ⟨(by decide), (by decide)⟩ rfl (Nat.le_of_ble_eq_true rfl) dX11_ranked_52 ?_
      refine W.eq (g2 := F0 m 55 ls [.int r7]) rfl ?_
      refine lv_if_eq (tgt := 72) C.1 C.2.1 dX11_ranked_55 (by decide) (fun c8 => ?_) (fun c8 => ?_)
      · have h := if_t h c8
        exact wk_11_ranked_72 C X ih h hJ (lv_sub hl [0, 1, 2, 3, 4, 5, 6] rfl)
      · have h := if_f h c8
        refine lv_aload_n C.1 C.2.1 dX11_ranked_58 rfl (lv_at hl 0 rfl) ?_
        refine lv_aload C.1 C.2.1 dX11_ranked_59 (lv_at hl 4 rfl) ?_
        refine lv_iload C.1 C.2.1 dX11_ranked_61 (lv_at hl 5 rfl) ?_
        refine lv_iload C.1 C.2.1 dX11_ranked_63 (lv_at hl 6 rfl) ?_
        refine lv_iload_n C.1 C.2.1 dX11_ranked_65 rfl (lv_at hl 2 rfl) ?_
        obtain ⟨hk, h⟩ := ckk_ok h
        obtain ⟨S10, h_S10, h⟩ := bd_ok h
        refine c_callW (rest := []) C X hJ hl.1 11 (by decide) hk [.ref v5, .int v6, .int v7, .int v3] (tk_11_rankIn l h_S10) cw11_360 ki_11_rankIn kl_11_rankIn rfl ⟨by decide, by decide⟩ ⟨(by decide), (by decide)⟩ rfl (Nat.le_of_ble_eq_true rfl) dX11_ranked_66 (fun H locs hJ => ?_)
        refine W.eq (g2 := F0 m 69 ls []) rfl ?_
        refine lt_ok h (fun x11 e_x11 h => ?_)
        refine lv_iinc (v := x11) (lv' := [(6, .int x11), (0, .ref v0), (2, .int v2), (3, .int v3), (4, .int v4), (5, .ref v5), (7, .int v7)]) C.1 C.2.1 dX11_ranked_69 hl (k := 5) rfl (by rw [← e_x11]; rfl) (by decide) rfl (fun ls hl => ?_)
        exact wk_11_ranked_72 C X ih h hJ (lv_sub hl [1, 2, 3, 4, 5, 0, 6] rfl)
noncomputable def fk_11_ranked (S : cSt) (v0 : Nat) (v1 : Int32) (v2 : Int32) (v3 : Int32) (v4 : Int32) : Option (Int32 × cSt) :=
bd (fk_11_isNode v1) fun r1 =>
if r1 = 0 then (
fk_11_ranked_21 S)
else (
ckk S v0 12 (bd (kR S v0 0) fun a3 =>
ckk S a3 4 (bd (fk_3_ruleOf S a3 v2 v3) fun r4 =>
if r4 = (76 : Int32) then (
ckk S v0 12 (bd (kR S v0 2) fun a6 =>
ckk S a6 31 (ck v1 (kL S a6) (lt (kO S a6 (Int32.toNatClampNeg v1)) fun o7 =>
bd o7 fun a8 =>
ckk S a8 8 (bd (kR S a8 2) fun a9 =>
fk_11_ranked_40 mFU S v0 v2 v3 v4 a9 (0 : Int32) (0 : Int32))))))
else (
fk_11_ranked_21 S))))
set_option maxRecDepth 100000 in
set_option maxHeartbeats 4000000 in
theorem tk_11_ranked (l : Launch) {D : cG} {S : cSt} {v0 : Nat} {v1 : Int32} {v2 : Int32} {v3 : Int32} {v4 : Int32} {r : Int32} {S9 : cSt} (h : fk_11_ranked S v0 v1 v2 v3 v4 = some (r, S9)) : Met l yX11_ranked (Cond.code yX11_ranked cX11_ranked 8 (some .int) :: lw_g) { frames := 4, cells := 0, slots := 0, locals := 93 } (kPi [.ref v0, .int v1, .int v2, .int v3, .int v4] D S) (kW (some (.int r)) D S S9) 0 0 (cA S) := by
  refine Met.ofW (cc := cX11_ranked) (maxL := 8) (ret := (some .int)) (by decide) rfl ?_
  intro p e s m args below meth c s₁ B hml hv
  obtain ⟨rfl, hW, X⟩ := hv
  have C : cY p (headSpec (Cond.code yX11_ranked cX11_ranked 8 (some .int) :: lw_g) { frames := 4, cells := 0, slots := 0, locals := 93 }).room s m _ meth c RX11 cX11_ranked 8 4 0 0 93 (some .int) := ⟨B.exec, B.bytes, hml, findClass_of_methodNamed B.named, fun w hw => atoms_spec (ws := Cond.code yX11_ranked cX11_ranked 8 (some .int) :: lw_g) B.pre w (List.mem_cons_of_mem _ hw), ⟨Nat.le_refl _, Nat.le_refl _, Nat.le_refl _, Nat.le_refl _⟩, B.returns, B.notSynchronized⟩
  have hl := lv_entry ([.ref v0, .int v1, .int v2, .int v3, .int v4]) (n := 8) (Nat.le_of_ble_eq_true rfl)
  rw [lg_entry_eq]
  generalize (lg_sl ([.ref v0, .int v1, .int v2, .int v3, .int v4]) ++ List.replicate (8 - (lg_sl ([.ref v0, .int v1, .int v2, .int v3, .int v4])).length) Slot.unset).toArray = ls at hl ⊢
  have hl : lv_has ls 8 [(0, .ref v0), (1, .int v1), (2, .int v2), (3, .int v3), (4, .int v4)] := hl
  have hJ : cJ D S s.heap S s.heap [] := cJ.rf hW
  unfold fk_11_ranked at h
  refine lv_iload_n C.1 C.2.1 dX11_ranked_0 rfl (lv_at hl 1 rfl) ?_
  obtain ⟨r1, h_r1, h⟩ := bd_ok h
  refine c_callS (rest := []) C hl.1 [.int v1] (tk_11_isNode l h_r1) cw11_112 ks_11_isNode rfl ⟨by decide, by decide⟩ ⟨(by decide), (by decide)⟩ rfl (Nat.le_of_ble_eq_true rfl) dX11_ranked_1 ?_
  refine W.eq (g2 := F0 m 4 ls [.int r1]) rfl ?_
  refine lv_if_eq (tgt := 21) C.1 C.2.1 dX11_ranked_4 (by decide) (fun c2 => ?_) (fun c2 => ?_)
  · have h := if_t h c2
    exact wk_11_ranked_21 C X h hJ (lv_sub hl [] rfl)
  · have h := if_f h c2
    refine lv_aload_n C.1 C.2.1 dX11_ranked_7 rfl (lv_at hl 0 rfl) ?_
    obtain ⟨hk, h⟩ := ckk_ok h
    obtain ⟨a3, h_a3, h⟩ := bd_ok h
    refine gk11_12 C X hJ.1 hk h_a3 dX11_ranked_8 ?_
    refine lv_iload_n C.1 C.2.1 dX11_ranked_11 rfl (lv_at hl 2 rfl) ?_
    refine lv_iload_n C.1 C.2.1 dX11_ranked_12 rfl (lv_at hl 3 rfl) ?_
    obtain ⟨hk, h⟩ := ckk_ok h
    obtain ⟨r4, h_r4, h⟩ := bd_ok h
    refine c_callR (rest := []) C X hJ.1 hl.1 3 (by decide) hk [.int v2, .int v3] (tk_3_ruleOf l h_r4) cw11_190 ki_3_ruleOf kl_3_ruleOf rfl ⟨by decide, by decide⟩ ⟨(by decide), (by decide)⟩ rfl (Nat.le_of_ble_eq_true rfl) dX11_ranked_13 ?_
    refine W.eq (g2 := F0 m 16 ls [.int r4]) rfl ?_
    refine lv_bipush (v := 76) C.1 C.2.1 dX11_ranked_16 (by decide) ?_
    refine lv_icmp_eq (tgt := 23) C.1 C.2.1 dX11_ranked_18 (by decide) (fun c5 => ?_) (fun c5 => ?_)
    · have h := if_t h c5
      refine lv_aload_n C.1 C.2.1 dX11_ranked_23 rfl (lv_at hl 0 rfl) ?_
      obtain ⟨hk, h⟩ := ckk_ok h
      obtain ⟨a6, h_a6, h⟩ := bd_ok h
      refine gk11_25 C X hJ.1 hk h_a6 dX11_ranked_24 ?_
      refine lv_iload_n C.1 C.2.1 dX11_ranked_27 rfl (lv_at hl 1 rfl) ?_
      obtain ⟨hk, h⟩ := ckk_ok h
      obtain ⟨hin2, h⟩ := ck_ok h
      refine c_aald C 31 (by decide) X.2.2.2.2.2.1 hJ.1 hk hin2 dX11_ranked_28 ?_
      refine lt_ok h (fun o7 e_o7 h => ?_)
      refine lv_nmq e_o7 ?_
      obtain ⟨a8, e_a8, h⟩ := bd_ok h
      subst e_a8
      obtain ⟨hk, h⟩ := ckk_ok h
      obtain ⟨a9, h_a9, h⟩ := bd_ok h
      refine gk11_147 C X hJ.1 hk h_a9 dX11_ranked_29 ?_
      refine lv_astore (lv' := [(5, .ref a9), (0, .ref v0), (1, .int v1), (2, .int v2), (3, .int v3), (4, .int v4)]) C.1 C.2.1 dX11_ranked_32 hl (by decide) rfl (fun ls hl => ?_)
      refine lv_iconst (v := 0) C.1 C.2.1 dX11_ranked_34 (by decide) ?_
      refine lv_istore (lv' := [(6, .int (0 : Int32)), (5, .ref a9), (0, .ref v0), (1, .int v1), (2, .int v2), (3, .int v3), (4, .int v4)]) C.1 C.2.1 dX11_ranked_35 hl (by decide) rfl (fun ls hl => ?_)
      refine lv_iconst (v := 0) C.1 C.2.1 dX11_ranked_37 (by decide) ?_
      refine lv_istore (lv' := [(7, .int (0 : Int32)), (6, .int (0 : Int32)), (5, .ref a9), (0, .ref v0), (1, .int v1), (2, .int v2), (3, .int v3), (4, .int v4)]) C.1 C.2.1 dX11_ranked_38 hl (by decide) rfl (fun ls hl => ?_)
      exact wk_11_ranked_40 C X mFU h hJ (lv_sub hl [3, 5, 6, 7, 2, 1, 0] rfl)
    · have h := if_f h c5
      exact wk_11_ranked_21 C X h hJ (lv_sub hl [] rfl)
end
theorem dX11_was_0 : decode cX11_was 0 = .ok (.aload_n 0, 1) := by decide +kernel
theorem dX11_was_1 : decode cX11_was 1 = .ok (.iload_n 1, 1) := by decide +kernel
theorem dX11_was_2 : decode cX11_was 2 = .ok (.iload_n 3, 1) := by decide +kernel
theorem dX11_was_3 : decode cX11_was 3 = .ok (.invokevirtual 295, 3) := by decide +kernel
theorem dX11_was_6 : decode cX11_was 6 = .ok (.istore 6, 2) := by decide +kernel
theorem dX11_was_8 : decode cX11_was 8 = .ok (.aload_n 0, 1) := by decide +kernel
theorem dX11_was_9 : decode cX11_was 9 = .ok (.iload 6, 2) := by decide +kernel
theorem dX11_was_11 : decode cX11_was 11 = .ok (.iload 4, 2) := by decide +kernel
theorem dX11_was_13 : decode cX11_was 13 = .ok (.invokevirtual 316, 3) := by decide +kernel
theorem dX11_was_16 : decode cX11_was 16 = .ok (.bipush 84, 2) := by decide +kernel
theorem dX11_was_18 : decode cX11_was 18 = .ok (.if_icmp .ne 9, 3) := by decide +kernel
theorem dX11_was_21 : decode cX11_was 21 = .ok (.iload 5, 2) := by decide +kernel
theorem dX11_was_23 : decode cX11_was 23 = .ok (.iconst (-1), 1) := by decide +kernel
theorem dX11_was_24 : decode cX11_was 24 = .ok (.if_icmp .ge 5, 3) := by decide +kernel
theorem dX11_was_27 : decode cX11_was 27 = .ok (.iconst (-1), 1) := by decide +kernel
theorem dX11_was_28 : decode cX11_was 28 = .ok (.ireturn, 1) := by decide +kernel
theorem dX11_was_29 : decode cX11_was 29 = .ok (.aload_n 0, 1) := by decide +kernel
theorem dX11_was_30 : decode cX11_was 30 = .ok (.getfield 25, 3) := by decide +kernel
theorem dX11_was_33 : decode cX11_was 33 = .ok (.iload_n 1, 1) := by decide +kernel
theorem dX11_was_34 : decode cX11_was 34 = .ok (.aaload, 1) := by decide +kernel
theorem dX11_was_35 : decode cX11_was 35 = .ok (.getfield 68, 3) := by decide +kernel
theorem dX11_was_38 : decode cX11_was 38 = .ok (.astore 7, 2) := by decide +kernel
theorem dX11_was_40 : decode cX11_was 40 = .ok (.iload_n 2, 1) := by decide +kernel
theorem dX11_was_41 : decode cX11_was 41 = .ok (.ifCond .lt 12, 3) := by decide +kernel
theorem dX11_was_44 : decode cX11_was 44 = .ok (.iload_n 2, 1) := by decide +kernel
theorem dX11_was_45 : decode cX11_was 45 = .ok (.aload 7, 2) := by decide +kernel
theorem dX11_was_47 : decode cX11_was 47 = .ok (.getfield 366, 3) := by decide +kernel
theorem dX11_was_50 : decode cX11_was 50 = .ok (.if_icmp .le 5, 3) := by decide +kernel
theorem dX11_was_53 : decode cX11_was 53 = .ok (.iconst (-1), 1) := by decide +kernel
theorem dX11_was_54 : decode cX11_was 54 = .ok (.ireturn, 1) := by decide +kernel
theorem dX11_was_55 : decode cX11_was 55 = .ok (.aload_n 0, 1) := by decide +kernel
theorem dX11_was_56 : decode cX11_was 56 = .ok (.getfield 75, 3) := by decide +kernel
theorem dX11_was_59 : decode cX11_was 59 = .ok (.aload 7, 2) := by decide +kernel
theorem dX11_was_61 : decode cX11_was 61 = .ok (.iload_n 2, 1) := by decide +kernel
theorem dX11_was_62 : decode cX11_was 62 = .ok (.invokevirtual 373, 3) := by decide +kernel
theorem dX11_was_65 : decode cX11_was 65 = .ok (.aload_n 0, 1) := by decide +kernel
theorem dX11_was_66 : decode cX11_was 66 = .ok (.getfield 41, 3) := by decide +kernel
theorem dX11_was_69 : decode cX11_was 69 = .ok (.aload_n 0, 1) := by decide +kernel
theorem dX11_was_70 : decode cX11_was 70 = .ok (.getfield 75, 3) := by decide +kernel
theorem dX11_was_73 : decode cX11_was 73 = .ok (.iload 6, 2) := by decide +kernel
theorem dX11_was_75 : decode cX11_was 75 = .ok (.bipush 8, 2) := by decide +kernel
theorem dX11_was_77 : decode cX11_was 77 = .ok (.imul, 1) := by decide +kernel
theorem dX11_was_78 : decode cX11_was 78 = .ok (.iload 4, 2) := by decide +kernel
theorem dX11_was_80 : decode cX11_was 80 = .ok (.iadd, 1) := by decide +kernel
theorem dX11_was_81 : decode cX11_was 81 = .ok (.invokevirtual 153, 3) := by decide +kernel
theorem dX11_was_84 : decode cX11_was 84 = .ok (.iload 5, 2) := by decide +kernel
theorem dX11_was_86 : decode cX11_was 86 = .ok (.iconst (-1), 1) := by decide +kernel
theorem dX11_was_87 : decode cX11_was 87 = .ok (.if_icmp .ne 11, 3) := by decide +kernel
theorem dX11_was_90 : decode cX11_was 90 = .ok (.aload_n 0, 1) := by decide +kernel
theorem dX11_was_91 : decode cX11_was 91 = .ok (.getfield 41, 3) := by decide +kernel
theorem dX11_was_94 : decode cX11_was 94 = .ok (.getfield 165, 3) := by decide +kernel
theorem dX11_was_97 : decode cX11_was 97 = .ok (.ireturn, 1) := by decide +kernel
theorem dX11_was_98 : decode cX11_was 98 = .ok (.iload 5, 2) := by decide +kernel
theorem dX11_was_100 : decode cX11_was 100 = .ok (.aload_n 0, 1) := by decide +kernel
theorem dX11_was_101 : decode cX11_was 101 = .ok (.getfield 41, 3) := by decide +kernel
theorem dX11_was_104 : decode cX11_was 104 = .ok (.getfield 165, 3) := by decide +kernel
theorem dX11_was_107 : decode cX11_was 107 = .ok (.if_icmp .ge 19, 3) := by decide +kernel
theorem dX11_was_110 : decode cX11_was 110 = .ok (.aload_n 0, 1) := by decide +kernel
theorem dX11_was_111 : decode cX11_was 111 = .ok (.getfield 41, 3) := by decide +kernel
theorem dX11_was_114 : decode cX11_was 114 = .ok (.getfield 377, 3) := by decide +kernel
theorem dX11_was_117 : decode cX11_was 117 = .ok (.iload 5, 2) := by decide +kernel
theorem dX11_was_119 : decode cX11_was 119 = .ok (.aaload, 1) := by decide +kernel
theorem dX11_was_120 : decode cX11_was 120 = .ok (.getfield 340, 3) := by decide +kernel
theorem dX11_was_123 : decode cX11_was 123 = .ok (.goto 4, 3) := by decide +kernel
theorem dX11_was_126 : decode cX11_was 126 = .ok (.iconst (-1), 1) := by decide +kernel
theorem dX11_was_127 : decode cX11_was 127 = .ok (.ireturn, 1) := by decide +kernel
theorem kd_11_was : Cond.code yX11_was cX11_was 8 (some .int) ∈ lw_g := mt_at 1513 (by decide +kernel) rfl
theorem ki_11_was : Cond.instanceMethod yX11_was ∈ lw_g := mt_at 1511 (by decide +kernel) rfl
theorem kl_11_was : Cond.selects (kRn 11) yX11_was yX11_was ∈ lw_g := mt_at 1512 (by decide +kernel) rfl
theorem cw11_373 : cCw RX11 373 yX10_lookBack cX10_lookBack 4 none 2 := ⟨kd_10_lookBack, mt_at 1514 (by decide +kernel) rfl, mt_at 10 (by decide +kernel) rfl, by decide +kernel⟩
section
variable {p : Program} {l : Launch} {e : Env} {R : Room} {s : State} {m : MethodId} {args : Array Value} {below : List Frame} {meth : Method} {c : Code} {H : Heap} {locs : List Loc} {cells slots : Nat} {Q : State → Prop}
variable {D : cG} {S S0 : cSt} {cc : ByteArray} {nL : Nat} {pc : Nat} {ls : Array Slot} {rest : List Value} {H0 : Heap} {nF nR nC nS : Nat} {ret : Option FieldType} {a : Nat}
theorem gk11_75 (C : cY p R s m args meth c RX11 cc nL nF nC nS nR ret) (X : cX D s) (hW : cW D S H) (hk : kK S a = 12) {x : Nat} (hx : kR S a 4 = some x) (hdg : decode cc pc = .ok (.getfield 75, 3)) (kk : W p l e R s m args below meth c H locs cells slots Q (F0 m (pc + 3) ls (.ref x :: rest))) : W p l e R s m args below meth c H locs cells slots Q (F0 m pc ls (.ref a :: rest)) := c_get C X hW 11 (by decide) ly_11 hk 4 (by decide) (mt_at 375 (by decide +kernel) (by decide +kernel)) hdg (by rw [cV_R (by decide +kernel) hx]; exact kk)
theorem gk11_340 (C : cY p R s m args meth c RX11 cc nL nF nC nS nR ret) (X : cX D s) (hW : cW D S H) (hk : kK S a = 9) (hdg : decode cc pc = .ok (.getfield 340, 3)) (kk : W p l e R s m args below meth c H locs cells slots Q (F0 m (pc + 3) ls (.int (kF S a 4) :: rest))) : W p l e R s m args below meth c H locs cells slots Q (F0 m pc ls (.ref a :: rest)) := c_get C X hW 8 (by decide) ly_8 hk 4 (by decide) (mt_at 986 (by decide +kernel) (by decide +kernel)) hdg (by rw [cV_I (by decide +kernel)]; exact kk)
theorem gk11_366 (C : cY p R s m args meth c RX11 cc nL nF nC nS nR ret) (X : cX D s) (hW : cW D S H) (hk : kK S a = 5) (hdg : decode cc pc = .ok (.getfield 366, 3)) (kk : W p l e R s m args below meth c H locs cells slots Q (F0 m (pc + 3) ls (.int (kF S a 7) :: rest))) : W p l e R s m args below meth c H locs cells slots Q (F0 m pc ls (.ref a :: rest)) := c_get C X hW 4 (by decide) ly_4 hk 7 (by decide) (mt_at 244 (by decide +kernel) (by decide +kernel)) hdg (by rw [cV_I (by decide +kernel)]; exact kk)
end
section
variable {p : Program} {l : Launch} {e : Env} {R : Room} {s : State} {m : MethodId} {args : Array Value} {below : List Frame} {meth : Method} {c : Code} {D : cG} {S0 S9 : cSt} {r : Int32}
noncomputable def fk_11_was_27 (S : cSt) : Option (Int32 × cSt) :=
some ((-1 : Int32), S)
set_option maxRecDepth 100000 in
set_option maxHeartbeats 4000000 in
theorem wk_11_was_27 (C : cY p R s m args meth c RX11 cX11_was 8 3 0 0 68 (some .int)) (X : cX D s) : ∀ {S : cSt} {H : Heap} {locs : List Loc} {ls : Array Slot}, fk_11_was_27 S = some (r, S9) → cJ D S0 s.heap S H locs → lv_has ls 8 [] → W p l e R s m args below meth c H locs 0 0 (MQ below (kW (some (.int r)) D S0 S9) args s 0 0 (cA S0)) (F0 m 27 ls []) := by
  intro S H locs ls h hJ hl
  unfold fk_11_was_27 at h
  refine lv_iconst (v := -1) C.1 C.2.1 dX11_was_27 (by decide) ?_
  cases h
  exact c_retiW C hJ dX11_was_28
noncomputable def fk_11_was_53 (S : cSt) : Option (Int32 × cSt) :=
some ((-1 : Int32), S)
set_option maxRecDepth 100000 in
set_option maxHeartbeats 4000000 in
theorem wk_11_was_53 (C : cY p R s m args meth c RX11 cX11_was 8 3 0 0 68 (some .int)) (X : cX D s) : ∀ {S : cSt} {H : Heap} {locs : List Loc} {ls : Array Slot}, fk_11_was_53 S = some (r, S9) → cJ D S0 s.heap S H locs → lv_has ls 8 [] → W p l e R s m args below meth c H locs 0 0 (MQ below (kW (some (.int r)) D S0 S9) args s 0 0 (cA S0)) (F0 m 53 ls []) := by
  intro S H locs ls h hJ hl
  unfold fk_11_was_53 at h
  refine lv_iconst (v := -1) C.1 C.2.1 dX11_was_53 (by decide) ?_
  cases h
  exact c_retiW C hJ dX11_was_54
noncomputable def fk_11_was_127 (S : cSt) (s0 : Int32) : Option (Int32 × cSt) :=
some (s0, S)
set_option maxRecDepth 100000 in
set_option maxHeartbeats 4000000 in
theorem wk_11_was_127 (C : cY p R s m args meth c RX11 cX11_was 8 3 0 0 68 (some .int)) (X : cX D s) : ∀ {S : cSt} {s0 : Int32} {H : Heap} {locs : List Loc} {ls : Array Slot}, fk_11_was_127 S s0 = some (r, S9) → cJ D S0 s.heap S H locs → lv_has ls 8 [] → W p l e R s m args below meth c H locs 0 0 (MQ below (kW (some (.int r)) D S0 S9) args s 0 0 (cA S0)) (F0 m 127 ls [.int s0]) := by
  intro S s0 H locs ls h hJ hl
  unfold fk_11_was_127 at h
  cases h
  exact c_retiW C hJ dX11_was_127
noncomputable def fk_11_was (S : cSt) (v0 : Nat) (v1 : Int32) (v2 : Int32) (v3 : Int32) (v4 : Int32) (v5 : Int32) : Option (Int32 × cSt) :=
ckk S v0 12 (bd (fk_11_madeSlot S v0 v1 v3) fun r1 =>
ckk S v0 12 (bd (fk_11_ruleAt S v0 r1 v4) fun r2 =>
if r2 = (84 : Int32) then (
if (-1 : Int32) ≤ v5 then (
ckk S v0 12 (bd (kR S v0 2) fun a5 =>
ckk S a5 31 (ck v1 (kL S a5) (lt (kO S a5 (Int32.toNatClampNeg v1)) fun o6 =>
bd o6 fun a7 =>
ckk S a7 8 (bd (kR S a7 1) fun a8 =>
if v2 < 0 then (
fk_11_was_53 S)
else (
ckk S a8 5 (
if v2 ≤ (kF S a8 7) then (
ckk S v0 12 (bd (kR S v0 4) fun a11 =>
ckk S a11 11 (bd (fk_10_lookBack S a11 a8 v2) fun S12 =>
ckk S12 v0 12 (bd (kR S12 v0 5) fun a13 =>
ckk S12 v0 12 (bd (kR S12 v0 4) fun a14 =>
ckk S12 a13 10 (bd (fk_9_read S12 a13 a14 ((r1 * (8 : Int32)) + v4)) fun S15 =>
if v5 = (-1 : Int32) then (
ckk S15 v0 12 (bd (kR S15 v0 5) fun a23 =>
ckk S15 a23 10 (
some (kF S15 a23 1, S15))))
else (
ckk S15 v0 12 (bd (kR S15 v0 5) fun a17 =>
ckk S15 a17 10 (
if (kF S15 a17 1) ≤ v5 then (
fk_11_was_127 S15 (-1 : Int32))
else (
ckk S15 v0 12 (bd (kR S15 v0 5) fun a19 =>
ckk S15 a19 10 (bd (kR S15 a19 0) fun a20 =>
ckk S15 a20 30 (ck v5 (kL S15 a20) (lt (kO S15 a20 (Int32.toNatClampNeg v5)) fun o21 =>
bd o21 fun a22 =>
ckk S15 a22 9 (
fk_11_was_127 S15 (kF S15 a22 4))))))))))))))))
else (
fk_11_was_53 S))))))))
else (
fk_11_was_27 S))
else (
fk_11_was_27 S)))
set_option maxRecDepth 100000 in
set_option maxHeartbeats 4000000 in
theorem tk_11_was (l : Launch) {D : cG} {S : cSt} {v0 : Nat} {v1 : Int32} {v2 : Int32} {v3 : Int32} {v4 : Int32} {v5 : Int32} {r : Int32} {S9 : cSt} (h : fk_11_was S v0 v1 v2 v3 v4 v5 = some (r, S9)) : Met l yX11_was (Cond.code yX11_was cX11_was 8 (some .int) :: lw_g) { frames := 3, cells := 0, slots := 0, locals := 68 } (kPi [.ref v0, .int v1, .int v2, .int v3, .int v4, .int v5] D S) (kW (some (.int r)) D S S9) 0 0 (cA S) := by
  refine Met.ofW (cc := cX11_was) (maxL := 8) (ret := (some .int)) (by decide) rfl ?_
  intro p e s m args below meth c s₁ B hml hv
  obtain ⟨rfl, hW, X⟩ := hv
  have C : cY p (headSpec (Cond.code yX11_was cX11_was 8 (some .int) :: lw_g) { frames := 3, cells := 0, slots := 0, locals := 68 }).room s m _ meth c RX11 cX11_was 8 3 0 0 68 (some .int) := ⟨B.exec, B.bytes, hml, findClass_of_methodNamed B.named, fun w hw => atoms_spec (ws := Cond.code yX11_was cX11_was 8 (some .int) :: lw_g) B.pre w (List.mem_cons_of_mem _ hw), ⟨Nat.le_refl _, Nat.le_refl _, Nat.le_refl _, Nat.le_refl _⟩, B.returns, B.notSynchronized⟩
  have hl := lv_entry ([.ref v0, .int v1, .int v2, .int v3, .int v4, .int v5]) (n := 8) (Nat.le_of_ble_eq_true rfl)
  rw [lg_entry_eq]
  generalize (lg_sl ([.ref v0, .int v1, .int v2, .int v3, .int v4, .int v5]) ++ List.replicate (8 - (lg_sl ([.ref v0, .int v1, .int v2, .int v3, .int v4, .int v5])).length) Slot.unset).toArray = ls at hl ⊢
  have hl : lv_has ls 8 [(0, .ref v0), (1, .int v1), (2, .int v2), (3, .int v3), (4, .int v4), (5, .int v5)] := hl
  have hJ : cJ D S s.heap S s.heap [] := cJ.rf hW
  unfold fk_11_was at h
  refine lv_aload_n C.1 C.2.1 dX11_was_0 rfl (lv_at hl 0 rfl) ?_
  refine lv_iload_n C.1 C.2.1 dX11_was_1 rfl (lv_at hl 1 rfl) ?_
  refine lv_iload_n C.1 C.2.1 dX11_was_2 rfl (lv_at hl 3 rfl) ?_
  obtain ⟨hk, h⟩ := ckk_ok h
  obtain ⟨r1, h_r1, h⟩ := bd_ok h
  refine c_callR (rest := []) C X hJ.1 hl.1 11 (by decide) hk [.int v1, .int v3] (tk_11_madeSlot l h_r1) cw11_295 ki_11_madeSlot kl_11_madeSlot rfl ⟨by decide, by decide⟩ ⟨(by decide), (by decide)⟩ rfl (Nat.le_of_ble_eq_true rfl) dX11_was_3 ?_
  refine W.eq (g2 := F0 m 6 ls [.int r1]) rfl ?_
  refine lv_istore (lv' := [(6, .int r1), (0, .ref v0), (1, .int v1), (2, .int v2), (3, .int v3), (4, .int v4), (5, .int v5)]) C.1 C.2.1 dX11_was_6 hl (by decide) rfl (fun ls hl => ?_)
  refine lv_aload_n C.1 C.2.1 dX11_was_8 rfl (lv_at hl 1 rfl) ?_
  refine lv_iload C.1 C.2.1 dX11_was_9 (lv_at hl 0 rfl) ?_
  refine lv_iload C.1 C.2.1 dX11_was_11 (lv_at hl 5 rfl) ?_
  obtain ⟨hk, h⟩ := ckk_ok h
  obtain ⟨r2, h_r2, h⟩ := bd_ok h
  refine c_callR (rest := []) C X hJ.1 hl.1 11 (by decide) hk [.int r1, .int v4] (tk_11_ruleAt l h_r2) cw11_316 ki_11_ruleAt kl_11_ruleAt rfl ⟨by decide, by decide⟩ ⟨(by decide), (by decide)⟩ rfl (Nat.le_of_ble_eq_true rfl) dX11_was_13 ?_
  refine W.eq (g2 := F0 m 16 ls [.int r2]) rfl ?_
  refine lv_bipush (v := 84) C.1 C.2.1 dX11_was_16 (by decide) ?_
  refine lv_icmp_ne (tgt := 27) C.1 C.2.1 dX11_was_18 (by decide) (fun c3 => ?_) (fun c3 => ?_)
  · have h := if_f h c3
    exact wk_11_was_27 C X h hJ (lv_sub hl [] rfl)
  · have h := if_t h c3
    refine lv_iload C.1 C.2.1 dX11_was_21 (lv_at hl 6 rfl) ?_
    refine lv_iconst (v := -1) C.1 C.2.1 dX11_was_23 (by decide) ?_
    refine lv_icmp_ge (tgt := 29) C.1 C.2.1 dX11_was_24 (by decide) (fun c4 => ?_) (fun c4 => ?_)
    · have h := if_t h c4
      refine lv_aload_n C.1 C.2.1 dX11_was_29 rfl (lv_at hl 1 rfl) ?_
      obtain ⟨hk, h⟩ := ckk_ok h
      obtain ⟨a5, h_a5, h⟩ := bd_ok h
      refine gk11_25 C X hJ.1 hk h_a5 dX11_was_30 ?_
      refine lv_iload_n C.1 C.2.1 dX11_was_33 rfl (lv_at hl 2 rfl) ?_
      obtain ⟨hk, h⟩ := ckk_ok h
      obtain ⟨hin2, h⟩ := ck_ok h
      refine c_aald C 31 (by decide) X.2.2.2.2.2.1 hJ.1 hk hin2 dX11_was_34 ?_
      refine lt_ok h (fun o6 e_o6 h => ?_)
      refine lv_nmq e_o6 ?_
      obtain ⟨a7, e_a7, h⟩ := bd_ok h
      subst e_a7
      obtain ⟨hk, h⟩ := ckk_ok h
      obtain ⟨a8, h_a8, h⟩ := bd_ok h
      refine gk11_68 C X hJ.1 hk h_a8 dX11_was_35 ?_
      refine lv_astore (lv' := [(7, .ref a8), (6, .int r1), (0, .ref v0), (1, .int v1), (2, .int v2), (3, .int v3), (4, .int v4), (5, .int v5)]) C.1 C.2.1 dX11_was_38 hl (by decide) rfl (fun ls hl => ?_)
      refine lv_iload_n C.1 C.2.1 dX11_was_40 rfl (lv_at hl 4 rfl) ?_
      refine lv_if_lt (tgt := 53) C.1 C.2.1 dX11_was_41 (by decide) (fun c9 => ?_) (fun c9 => ?_)
      · have h := if_t h c9
        exact wk_11_was_53 C X h hJ (lv_sub hl [] rfl)
      · have h := if_f h c9
        refine lv_iload_n C.1 C.2.1 dX11_was_44 rfl (lv_at hl 4 rfl) ?_
        refine lv_aload C.1 C.2.1 dX11_was_45 (lv_at hl 0 rfl) ?_
        obtain ⟨hk, h⟩ := ckk_ok h
        refine gk11_366 C X hJ.1 hk dX11_was_47 ?_
        refine lv_icmp_le (tgt := 55) C.1 C.2.1 dX11_was_50 (by decide) (fun c10 => ?_) (fun c10 => ?_)
        · have h := if_t h c10
          refine lv_aload_n C.1 C.2.1 dX11_was_55 rfl (lv_at hl 2 rfl) ?_
          obtain ⟨hk, h⟩ := ckk_ok h
          obtain ⟨a11, h_a11, h⟩ := bd_ok h
          refine gk11_75 C X hJ.1 hk h_a11 dX11_was_56 ?_
          refine lv_aload C.1 C.2.1 dX11_was_59 (lv_at hl 0 rfl) ?_
          refine lv_iload_n C.1 C.2.1 dX11_was_61 rfl (lv_at hl 4 rfl) ?_
          obtain ⟨hk, h⟩ := ckk_ok h
          obtain ⟨S12, h_S12, h⟩ := bd_ok h
          refine c_callW (rest := []) C X hJ hl.1 10 (by decide) hk [.ref a8, .int v2] (tk_10_lookBack l h_S12) cw11_373 ki_10_lookBack kl_10_lookBack rfl ⟨by decide, by decide⟩ ⟨(by decide), (by decide)⟩ rfl (Nat.le_of_ble_eq_true rfl) dX11_was_62 (fun H locs hJ => ?_)
          refine W.eq (g2 := F0 m 65 ls []) rfl ?_
          refine lv_aload_n C.1 C.2.1 dX11_was_65 rfl (lv_at hl 2 rfl) ?_
          obtain ⟨hk, h⟩ := ckk_ok h
          obtain ⟨a13, h_a13, h⟩ := bd_ok h
          refine gk11_41 C X hJ.1 hk h_a13 dX11_was_66 ?_
          refine lv_aload_n C.1 C.2.1 dX11_was_69 rfl (lv_at hl 2 rfl) ?_
          obtain ⟨hk, h⟩ := ckk_ok h
          obtain ⟨a14, h_a14, h⟩ := bd_ok h
          refine gk11_75 C X hJ.1 hk h_a14 dX11_was_70 ?_
          refine lv_iload C.1 C.2.1 dX11_was_73 (lv_at hl 1 rfl) ?_
          refine lv_bipush (v := 8) C.1 C.2.1 dX11_was_75 (by decide) ?_
          refine lv_imul C.1 C.2.1 dX11_was_77 ?_
          refine lv_iload C.1 C.2.1 dX11_was_78 (lv_at hl 6 rfl) ?_
          refine lv_iadd C.1 C.2.1 dX11_was_80 ?_
          obtain ⟨hk, h⟩ := ckk_ok h
          obtain ⟨S15, h_S15, h⟩ := bd_ok h
          refine c_callW (rest := []) C X hJ hl.1 9 (by decide) hk [.ref a14, .int ((r1 * (8 : Int32)) + v4)] (tk_9_read l h_S15) cw11_153 ki_9_read kl_9_read rfl ⟨by decide, by decide⟩ ⟨(by decide), (by decide)⟩ rfl (Nat.le_of_ble_eq_true rfl) dX11_was_81 (fun H locs hJ => ?_)
          refine W.eq (g2 := F0 m 84 ls []) rfl ?_
          refine lv_iload C.1 C.2.1 dX11_was_84 (lv_at hl 7 rfl) ?_
          refine lv_iconst (v := -1) C.1 C.2.1 dX11_was_86 (by decide) ?_
          refine lv_icmp_ne (tgt := 98) C.1 C.2.1 dX11_was_87 (by decide) (fun c16 => ?_) (fun c16 => ?_)
          · have h := if_f h c16
            refine lv_iload C.1 C.2.1 dX11_was_98 (lv_at hl 7 rfl) ?_
            refine lv_aload_n C.1 C.2.1 dX11_was_100 rfl (lv_at hl 2 rfl) ?_
            obtain ⟨hk, h⟩ := ckk_ok h
            obtain ⟨a17, h_a17, h⟩ := bd_ok h
            refine gk11_41 C X hJ.1 hk h_a17 dX11_was_101 ?_
            obtain ⟨hk, h⟩ := ckk_ok h
            refine gk11_165 C X hJ.1 hk dX11_was_104 ?_
            refine lv_icmp_ge (tgt := 126) C.1 C.2.1 dX11_was_107 (by decide) (fun c18 => ?_) (fun c18 => ?_)
            · have h := if_t h c18
              refine lv_iconst (v := -1) C.1 C.2.1 dX11_was_126 (by decide) ?_
              exact wk_11_was_127 C X h hJ (lv_sub hl [] rfl)
            · have h := if_f h c18
              refine lv_aload_n C.1 C.2.1 dX11_was_110 rfl (lv_at hl 2 rfl) ?_
              obtain ⟨hk, h⟩ := ckk_ok h
              obtain ⟨a19, h_a19, h⟩ := bd_ok h
              refine gk11_41 C X hJ.1 hk h_a19 dX11_was_111 ?_
              obtain ⟨hk, h⟩ := ckk_ok h
              obtain ⟨a20, h_a20, h⟩ := bd_ok h
              refine gk11_377 C X hJ.1 hk h_a20 dX11_was_114 ?_
              refine lv_iload C.1 C.2.1 dX11_was_117 (lv_at hl 7 rfl) ?_
              obtain ⟨hk, h⟩ := ckk_ok h
              obtain ⟨hin2, h⟩ := ck_ok h
              refine c_aald C 30 (by decide) X.2.2.2.2.1 hJ.1 hk hin2 dX11_was_119 ?_
              refine lt_ok h (fun o21 e_o21 h => ?_)
              refine lv_nmq e_o21 ?_
              obtain ⟨a22, e_a22, h⟩ := bd_ok h
              subst e_a22
              obtain ⟨hk, h⟩ := ckk_ok h
              refine gk11_340 C X hJ.1 hk dX11_was_120 ?_
              refine lv_goto (tgt := 127) C.1 C.2.1 dX11_was_123 (by decide) ?_
              exact wk_11_was_127 C X h hJ (lv_sub hl [] rfl)
          · have h := if_t h c16
            refine lv_aload_n C.1 C.2.1 dX11_was_90 rfl (lv_at hl 2 rfl) ?_
            obtain ⟨hk, h⟩ := ckk_ok h
            obtain ⟨a23, h_a23, h⟩ := bd_ok h
            refine gk11_41 C X hJ.1 hk h_a23 dX11_was_91 ?_
            obtain ⟨hk, h⟩ := ckk_ok h
            refine gk11_165 C X hJ.1 hk dX11_was_94 ?_
            cases h
            exact c_retiW C hJ dX11_was_97
        · have h := if_f h c10
          exact wk_11_was_53 C X h hJ (lv_sub hl [] rfl)
    · have h := if_f h c4
      exact wk_11_was_27 C X h hJ (lv_sub hl [] rfl)
end
