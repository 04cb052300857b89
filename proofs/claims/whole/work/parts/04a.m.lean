-- made by wip/whole/walk.py: the reference's thrown, within, type, isRule, kind, fault, tick, nodeOf, numberOf, nameOf, rowOf, isBefore, knew, knownOf, seenOf, isApplied, rowAt
theorem dX12_thrown_0 : decode cX12_thrown 0 = .ok (.aload_n 0, 1) := by decide +kernel
theorem dX12_thrown_1 : decode cX12_thrown 1 = .ok (.getfield 200, 3) := by decide +kernel
theorem dX12_thrown_4 : decode cX12_thrown 4 = .ok (.ireturn, 1) := by decide +kernel
theorem cd_thrown : Cond.code yX12_thrown cX12_thrown 1 (some .int) ∈ lw_g := mt_at 1939 (by decide +kernel) rfl
section
variable {p : Program} {l : Launch} {e : Env} {R : Room} {s : State} {m : MethodId} {args : Array Value} {below : List Frame} {meth : Method} {c : Code} {cM : ClassId} {iS : Nat → Nat} {cI cZ : ClassId} {mo : Nat} {ad : Nat → Nat} {S : mSt} {r : Int32}
noncomputable def fm_thrown (S : mSt) : Option (Int32) :=
some (S.1 0)
set_option maxRecDepth 100000 in
set_option maxHeartbeats 4000000 in
theorem tm_thrown (l : Launch) {cM : ClassId} {iS : Nat → Nat} {cI cZ : ClassId} {mo : Nat} {ad : Nat → Nat} {S : mSt} {r : Int32} (h : fm_thrown S = some r) : Met l yX12_thrown (Cond.code yX12_thrown cX12_thrown 1 (some .int) :: lw_g) { frames := 0, cells := 0, slots := 0, locals := 0 } (mPi [] cM iS cI cZ mo ad S) (mQi r) 0 0 (mNo) := by
  refine Met.ofW (cc := cX12_thrown) (maxL := 1) (ret := (some .int)) (by decide) rfl ?_
  intro p e s m args below meth c s₁ B hml hv
  obtain ⟨rfl, hW, X⟩ := hv
  have C : mY p (headSpec (Cond.code yX12_thrown cX12_thrown 1 (some .int) :: lw_g) { frames := 0, cells := 0, slots := 0, locals := 0 }).room s m _ meth c cX12_thrown 1 0 0 (some .int) := ⟨B.exec, B.bytes, hml, findClass_of_methodNamed B.named, fun w hw => atoms_spec (ws := Cond.code yX12_thrown cX12_thrown 1 (some .int) :: lw_g) B.pre w (List.mem_cons_of_mem _ hw), ⟨Nat.le_refl _, Nat.le_refl _⟩, B.returns, B.notSynchronized⟩
  have hl := lv_entry ([.ref mo]) (n := 1) (Nat.le_of_ble_eq_true rfl)
  rw [lg_entry_eq]
  generalize (lg_sl ([.ref mo]) ++ List.replicate (1 - (lg_sl ([.ref mo])).length) Slot.unset).toArray = ls at hl ⊢
  have hl : lv_has ls 1 [(0, .ref mo)] := hl
  unfold fm_thrown at h
  refine lv_aload_n C.1 C.2.1 dX12_thrown_0 rfl (lv_at hl 0 rfl) ?_
  refine gf_0 C X hW dX12_thrown_1 ?_
  cases h
  exact m_reti C rfl rfl dX12_thrown_4
end
theorem dX12_within_0 : decode cX12_within 0 = .ok (.iload_n 0, 1) := by decide +kernel
theorem dX12_within_1 : decode cX12_within 1 = .ok (.iload_n 1, 1) := by decide +kernel
theorem dX12_within_2 : decode cX12_within 2 = .ok (.if_icmp .lt 12, 3) := by decide +kernel
theorem dX12_within_5 : decode cX12_within 5 = .ok (.iload_n 0, 1) := by decide +kernel
theorem dX12_within_6 : decode cX12_within 6 = .ok (.iload_n 2, 1) := by decide +kernel
theorem dX12_within_7 : decode cX12_within 7 = .ok (.if_icmp .gt 7, 3) := by decide +kernel
theorem dX12_within_10 : decode cX12_within 10 = .ok (.iconst 1, 1) := by decide +kernel
theorem dX12_within_11 : decode cX12_within 11 = .ok (.goto 4, 3) := by decide +kernel
theorem dX12_within_14 : decode cX12_within 14 = .ok (.iconst 0, 1) := by decide +kernel
theorem dX12_within_15 : decode cX12_within 15 = .ok (.ireturn, 1) := by decide +kernel
theorem cd_within : Cond.code yX12_within cX12_within 3 (some .boolean) ∈ lw_g := mt_at 1962 (by decide +kernel) rfl
theorem mw_within : mCw 215 yX12_within cX12_within 3 (some .boolean) 3 := ⟨cd_within, mt_at 1960 (by decide +kernel) rfl, in_M, by decide +kernel⟩
theorem st_within : Cond.static yX12_within ∈ lw_g := mt_at 1961 (by decide +kernel) rfl
section
variable {p : Program} {l : Launch} {e : Env} {R : Room} {s : State} {m : MethodId} {args : Array Value} {below : List Frame} {meth : Method} {c : Code} {cM : ClassId} {iS : Nat → Nat} {cI cZ : ClassId} {mo : Nat} {ad : Nat → Nat} {r : Int32}
noncomputable def fm_within_15 (s0 : Int32) : Option (Int32) :=
ckz s0 (some s0)
set_option maxRecDepth 100000 in
set_option maxHeartbeats 4000000 in
theorem wm_within_15 (C : mY p R s m args meth c cX12_within 3 0 0 (some .boolean)) : ∀ {s0 : Int32} {ls : Array Slot}, fm_within_15 s0 = some r → lv_has ls 3 [] → W p l e R s m args below meth c s.heap [] 0 0 (MQ below (mQi r) args s 0 0 mNo) (F0 m 15 ls [.int s0]) := by
  intro s0 ls h hl
  unfold fm_within_15 at h
  obtain ⟨hzo, h⟩ := ckz_ok h
  cases h
  exact m_retz C hzo rfl rfl dX12_within_15
noncomputable def fm_within_14 : Option (Int32) :=
fm_within_15 (0 : Int32)
set_option maxRecDepth 100000 in
set_option maxHeartbeats 4000000 in
theorem wm_within_14 (C : mY p R s m args meth c cX12_within 3 0 0 (some .boolean)) : ∀ {ls : Array Slot}, fm_within_14 = some r → lv_has ls 3 [] → W p l e R s m args below meth c s.heap [] 0 0 (MQ below (mQi r) args s 0 0 mNo) (F0 m 14 ls []) := by
  intro ls h hl
  unfold fm_within_14 at h
  refine lv_iconst (v := 0) C.1 C.2.1 dX12_within_14 (by decide) ?_
  exact wm_within_15 C h (lv_sub hl [] rfl)
noncomputable def fm_within (v0 : Int32) (v1 : Int32) (v2 : Int32) : Option (Int32) :=
if v0 < v1 then (
fm_within_14)
else (
if v2 < v0 then (
fm_within_14)
else (
fm_within_15 (1 : Int32)))
set_option maxRecDepth 100000 in
set_option maxHeartbeats 4000000 in
theorem tm_within (l : Launch) {v0 : Int32} {v1 : Int32} {v2 : Int32} {r : Int32} (h : fm_within v0 v1 v2 = some r) : Met l yX12_within (Cond.code yX12_within cX12_within 3 (some .boolean) :: lw_g) { frames := 0, cells := 0, slots := 0, locals := 0 } (mPs [.int v0, .int v1, .int v2]) (mQi r) 0 0 (mNo) := by
  refine Met.ofW (cc := cX12_within) (maxL := 3) (ret := (some .boolean)) (by decide) rfl ?_
  intro p e s m args below meth c s₁ B hml hv
  obtain rfl := hv
  have C : mY p (headSpec (Cond.code yX12_within cX12_within 3 (some .boolean) :: lw_g) { frames := 0, cells := 0, slots := 0, locals := 0 }).room s m _ meth c cX12_within 3 0 0 (some .boolean) := ⟨B.exec, B.bytes, hml, findClass_of_methodNamed B.named, fun w hw => atoms_spec (ws := Cond.code yX12_within cX12_within 3 (some .boolean) :: lw_g) B.pre w (List.mem_cons_of_mem _ hw), ⟨Nat.le_refl _, Nat.le_refl _⟩, B.returns, B.notSynchronized⟩
  have hl := lv_entry ([.int v0, .int v1, .int v2]) (n := 3) (Nat.le_of_ble_eq_true rfl)
  rw [lg_entry_eq]
  generalize (lg_sl ([.int v0, .int v1, .int v2]) ++ List.replicate (3 - (lg_sl ([.int v0, .int v1, .int v2])).length) Slot.unset).toArray = ls at hl ⊢
  have hl : lv_has ls 3 [(0, .int v0), (1, .int v1), (2, .int v2)] := hl
  unfold fm_within at h
  refine lv_iload_n C.1 C.2.1 dX12_within_0 rfl (lv_at hl 0 rfl) ?_
  refine lv_iload_n C.1 C.2.1 dX12_within_1 rfl (lv_at hl 1 rfl) ?_
  refine lv_icmp_lt (tgt := 14) C.1 C.2.1 dX12_within_2 (by decide) (fun c1 => ?_) (fun c1 => ?_)
  · have h := if_t h c1
    exact wm_within_14 C h (lv_sub hl [] rfl)
  · have h := if_f h c1
    refine lv_iload_n C.1 C.2.1 dX12_within_5 rfl (lv_at hl 0 rfl) ?_
    refine lv_iload_n C.1 C.2.1 dX12_within_6 rfl (lv_at hl 2 rfl) ?_
    refine lv_icmp_gt (tgt := 14) C.1 C.2.1 dX12_within_7 (by decide) (fun c2 => ?_) (fun c2 => ?_)
    · have h := if_t h c2
      exact wm_within_14 C h (lv_sub hl [] rfl)
    · have h := if_f h c2
      refine lv_iconst (v := 1) C.1 C.2.1 dX12_within_10 (by decide) ?_
      refine lv_goto (tgt := 15) C.1 C.2.1 dX12_within_11 (by decide) ?_
      exact wm_within_15 C h (lv_sub hl [] rfl)
end
theorem dX12_type_0 : decode cX12_type 0 = .ok (.aload_n 0, 1) := by decide +kernel
theorem dX12_type_1 : decode cX12_type 1 = .ok (.iconst 0, 1) := by decide +kernel
theorem dX12_type_2 : decode cX12_type 2 = .ok (.putfield 200, 3) := by decide +kernel
theorem dX12_type_5 : decode cX12_type 5 = .ok (.iload_n 3, 1) := by decide +kernel
theorem dX12_type_6 : decode cX12_type 6 = .ok (.iconst 1, 1) := by decide +kernel
theorem dX12_type_7 : decode cX12_type 7 = .ok (.if_icmp .lt 20, 3) := by decide +kernel
theorem dX12_type_10 : decode cX12_type 10 = .ok (.iload_n 3, 1) := by decide +kernel
theorem dX12_type_11 : decode cX12_type 11 = .ok (.bipush 8, 2) := by decide +kernel
theorem dX12_type_13 : decode cX12_type 13 = .ok (.if_icmp .gt 14, 3) := by decide +kernel
theorem dX12_type_16 : decode cX12_type 16 = .ok (.aload_n 0, 1) := by decide +kernel
theorem dX12_type_17 : decode cX12_type 17 = .ok (.getfield 203, 3) := by decide +kernel
theorem dX12_type_20 : decode cX12_type 20 = .ok (.iload_n 3, 1) := by decide +kernel
theorem dX12_type_21 : decode cX12_type 21 = .ok (.iadd, 1) := by decide +kernel
theorem dX12_type_22 : decode cX12_type 22 = .ok (.bipush 40, 2) := by decide +kernel
theorem dX12_type_24 : decode cX12_type 24 = .ok (.if_icmp .le 5, 3) := by decide +kernel
theorem dX12_type_27 : decode cX12_type 27 = .ok (.iconst 0, 1) := by decide +kernel
theorem dX12_type_28 : decode cX12_type 28 = .ok (.ireturn, 1) := by decide +kernel
theorem dX12_type_29 : decode cX12_type 29 = .ok (.iconst 0, 1) := by decide +kernel
theorem dX12_type_30 : decode cX12_type 30 = .ok (.istore 4, 2) := by decide +kernel
theorem dX12_type_32 : decode cX12_type 32 = .ok (.iload 4, 2) := by decide +kernel
theorem dX12_type_34 : decode cX12_type 34 = .ok (.iload_n 3, 1) := by decide +kernel
theorem dX12_type_35 : decode cX12_type 35 = .ok (.if_icmp .ge 39, 3) := by decide +kernel
theorem dX12_type_38 : decode cX12_type 38 = .ok (.lload_n 1, 1) := by decide +kernel
theorem dX12_type_39 : decode cX12_type 39 = .ok (.bipush 8, 2) := by decide +kernel
theorem dX12_type_41 : decode cX12_type 41 = .ok (.iload 4, 2) := by decide +kernel
theorem dX12_type_43 : decode cX12_type 43 = .ok (.imul, 1) := by decide +kernel
theorem dX12_type_44 : decode cX12_type 44 = .ok (.lshr, 1) := by decide +kernel
theorem dX12_type_45 : decode cX12_type 45 = .ok (.ldc2_w 206, 3) := by decide +kernel
theorem dX12_type_48 : decode cX12_type 48 = .ok (.land, 1) := by decide +kernel
theorem dX12_type_49 : decode cX12_type 49 = .ok (.l2i, 1) := by decide +kernel
theorem dX12_type_50 : decode cX12_type 50 = .ok (.istore 5, 2) := by decide +kernel
theorem dX12_type_52 : decode cX12_type 52 = .ok (.iload 5, 2) := by decide +kernel
theorem dX12_type_54 : decode cX12_type 54 = .ok (.bipush 32, 2) := by decide +kernel
theorem dX12_type_56 : decode cX12_type 56 = .ok (.if_icmp .lt 10, 3) := by decide +kernel
theorem dX12_type_59 : decode cX12_type 59 = .ok (.iload 5, 2) := by decide +kernel
theorem dX12_type_61 : decode cX12_type 61 = .ok (.bipush 126, 2) := by decide +kernel
theorem dX12_type_63 : decode cX12_type 63 = .ok (.if_icmp .le 5, 3) := by decide +kernel
theorem dX12_type_66 : decode cX12_type 66 = .ok (.iconst 0, 1) := by decide +kernel
theorem dX12_type_67 : decode cX12_type 67 = .ok (.ireturn, 1) := by decide +kernel
theorem dX12_type_68 : decode cX12_type 68 = .ok (.iinc 4 1, 3) := by decide +kernel
theorem dX12_type_71 : decode cX12_type 71 = .ok (.goto (-39), 3) := by decide +kernel
theorem dX12_type_74 : decode cX12_type 74 = .ok (.iload_n 3, 1) := by decide +kernel
theorem dX12_type_75 : decode cX12_type 75 = .ok (.iconst 1, 1) := by decide +kernel
theorem dX12_type_76 : decode cX12_type 76 = .ok (.isub, 1) := by decide +kernel
theorem dX12_type_77 : decode cX12_type 77 = .ok (.istore 4, 2) := by decide +kernel
theorem dX12_type_79 : decode cX12_type 79 = .ok (.iload 4, 2) := by decide +kernel
theorem dX12_type_81 : decode cX12_type 81 = .ok (.ifCond .lt 40, 3) := by decide +kernel
theorem dX12_type_84 : decode cX12_type 84 = .ok (.aload_n 0, 1) := by decide +kernel
theorem dX12_type_85 : decode cX12_type 85 = .ok (.getfield 7, 3) := by decide +kernel
theorem dX12_type_88 : decode cX12_type 88 = .ok (.aload_n 0, 1) := by decide +kernel
theorem dX12_type_89 : decode cX12_type 89 = .ok (.getfield 203, 3) := by decide +kernel
theorem dX12_type_92 : decode cX12_type 92 = .ok (.lload_n 1, 1) := by decide +kernel
theorem dX12_type_93 : decode cX12_type 93 = .ok (.bipush 8, 2) := by decide +kernel
theorem dX12_type_95 : decode cX12_type 95 = .ok (.iload 4, 2) := by decide +kernel
theorem dX12_type_97 : decode cX12_type 97 = .ok (.imul, 1) := by decide +kernel
theorem dX12_type_98 : decode cX12_type 98 = .ok (.lshr, 1) := by decide +kernel
theorem dX12_type_99 : decode cX12_type 99 = .ok (.ldc2_w 206, 3) := by decide +kernel
theorem dX12_type_102 : decode cX12_type 102 = .ok (.land, 1) := by decide +kernel
theorem dX12_type_103 : decode cX12_type 103 = .ok (.l2i, 1) := by decide +kernel
theorem dX12_type_104 : decode cX12_type 104 = .ok (.iastore, 1) := by decide +kernel
theorem dX12_type_105 : decode cX12_type 105 = .ok (.aload_n 0, 1) := by decide +kernel
theorem dX12_type_106 : decode cX12_type 106 = .ok (.dup, 1) := by decide +kernel
theorem dX12_type_107 : decode cX12_type 107 = .ok (.getfield 203, 3) := by decide +kernel
theorem dX12_type_110 : decode cX12_type 110 = .ok (.iconst 1, 1) := by decide +kernel
theorem dX12_type_111 : decode cX12_type 111 = .ok (.iadd, 1) := by decide +kernel
theorem dX12_type_112 : decode cX12_type 112 = .ok (.putfield 203, 3) := by decide +kernel
theorem dX12_type_115 : decode cX12_type 115 = .ok (.iinc 4 (-1), 3) := by decide +kernel
theorem dX12_type_118 : decode cX12_type 118 = .ok (.goto (-39), 3) := by decide +kernel
theorem dX12_type_121 : decode cX12_type 121 = .ok (.iconst 1, 1) := by decide +kernel
theorem dX12_type_122 : decode cX12_type 122 = .ok (.ireturn, 1) := by decide +kernel
theorem cd_type : Cond.code yX12_type cX12_type 6 (some .boolean) ∈ lw_g := mt_at 1943 (by decide +kernel) rfl
section
variable {p : Program} {l : Launch} {e : Env} {R : Room} {s : State} {m : MethodId} {args : Array Value} {below : List Frame} {meth : Method} {c : Code} {cM : ClassId} {iS : Nat → Nat} {cI cZ : ClassId} {mo : Nat} {ad : Nat → Nat} {r : Int32} {S9 : mSt}
noncomputable def fm_type_27 (S : mSt) : Option (Int32 × mSt) :=
ckz (0 : Int32) (some ((0 : Int32), S))
set_option maxRecDepth 100000 in
set_option maxHeartbeats 4000000 in
theorem wm_type_27 (C : mY p R s m args meth c cX12_type 6 0 0 (some .boolean)) (X : mX s cM iS cI cZ mo ad) : ∀ {S : mSt} {H : Heap} {locs : List Loc} {ls : Array Slot}, fm_type_27 S = some (r, S9) → mW cM iS cI cZ mo ad S H → mS (mA mo ad) s.heap H locs → lv_has ls 6 [] → W p l e R s m args below meth c H locs 0 0 (MQ below (mQw (some (.int r)) cM iS cI cZ mo ad S9) args s 0 0 (mA mo ad)) (F0 m 27 ls []) := by
  intro S H locs ls h hW hS hl
  unfold fm_type_27 at h
  refine lv_iconst (v := 0) C.1 C.2.1 dX12_type_27 (by decide) ?_
  obtain ⟨hzo, h⟩ := ckz_ok h
  cases h
  exact m_retzW C hzo hW hS dX12_type_28
noncomputable def fm_type_79 : Nat → mSt → Int64 → Int32 → Option (Int32 × mSt)
  | 0, _, _, _ => none
  | n + 1, S, v1, v4 =>
    if v4 < 0 then (
    ckz (1 : Int32) (some ((1 : Int32), S)))
    else (
    ck (S.1 1) 40 (lt (wr S 2 (S.1 1) (Int64.toInt32 ((v1 >>> (Int32.toInt64 ((8 : Int32) * v4) &&& 63)) &&& (255 : Int64)))) fun S2 =>
    lt (pu S2 1 ((S2.1 1) + (1 : Int32))) fun S3 =>
    lt (v4 + (-1 : Int32)) fun x4 =>
    fm_type_79 n S3 v1 x4))
set_option maxRecDepth 100000 in
set_option maxHeartbeats 4000000 in
theorem wm_type_79 (C : mY p R s m args meth c cX12_type 6 0 0 (some .boolean)) (X : mX s cM iS cI cZ mo ad) : ∀ (n : Nat), ∀ {S : mSt} {v1 : Int64} {v4 : Int32} {H : Heap} {locs : List Loc} {ls : Array Slot}, fm_type_79 n S v1 v4 = some (r, S9) → mW cM iS cI cZ mo ad S H → mS (mA mo ad) s.heap H locs → lv_has ls 6 [(0, .ref mo), (1, .long v1), (4, .int v4)] → W p l e R s m args below meth c H locs 0 0 (MQ below (mQw (some (.int r)) cM iS cI cZ mo ad S9) args s 0 0 (mA mo ad)) (F0 m 79 ls []) := by
  intro n
  induction n with
  | zero =>
    intro S v1 v4 H locs ls h hW hS hl
    exact absurd (show (none : Option (Int32 × mSt)) = _ from h) (fun q => by cases q)
  | succ n ih =>
    intro S v1 v4 H locs ls h hW hS hl
    rw [fm_type_79] at h
    refine lv_iload C.1 C.2.1 dX12_type_79 (lv_at hl 2 rfl) ?_
    refine lv_if_lt (tgt := 121) C.1 C.2.1 dX12_type_81 (by decide) (fun c1 => ?_) (fun c1 => ?_)
    · have h := if_t h c1
      refine lv_iconst (v := 1) C.1 C.2.1 dX12_type_121 (by decide) ?_
      obtain ⟨hzo, h⟩ := ckz_ok h
      cases h
      exact m_retzW C hzo hW hS dX12_type_122
    · have h := if_f h c1
      refine lv_aload_n C.1 C.2.1 dX12_type_84 rfl (lv_at hl 0 rfl) ?_
      refine gf_2 C X hW dX12_type_85 ?_
      refine lv_aload_n C.1 C.2.1 dX12_type_88 rfl (lv_at hl 0 rfl) ?_
      refine gf_1 C X hW dX12_type_89 ?_
      refine lv_lload_n C.1 C.2.1 dX12_type_92 rfl (lv_at hl 1 rfl) ?_
      refine lv_bipush (v := 8) C.1 C.2.1 dX12_type_93 (by decide) ?_
      refine lv_iload C.1 C.2.1 dX12_type_95 (lv_at hl 2 rfl) ?_
      refine lv_imul C.1 C.2.1 dX12_type_97 ?_
      refine lv_lshr (v := v1 >>> (Int32.toInt64 ((8 : Int32) * v4) &&& 63)) C.1 C.2.1 dX12_type_98 rfl ?_
      refine lv_ldc2 (own := RX12) (v := 255) C.1 C.2.1 C.2.2.2.1 (C.2.2.2.2.1 _ kl_206) dX12_type_99 ?_
      refine lv_land C.1 C.2.1 dX12_type_102 ?_
      refine lv_l2i (v := Int64.toInt32 ((v1 >>> (Int32.toInt64 ((8 : Int32) * v4) &&& 63)) &&& (255 : Int64))) C.1 C.2.1 dX12_type_103 rfl ?_
      obtain ⟨hin, h⟩ := ck_ok h
      refine s_2 C X hW hS hin dX12_type_104 (fun H locs hW hS => ?_)
      refine lt_ok h (fun S2 e_S2 h => ?_)
      rw [e_S2] at hW
      refine lv_aload_n C.1 C.2.1 dX12_type_105 rfl (lv_at hl 0 rfl) ?_
      refine lv_dup C.1 C.2.1 dX12_type_106 rfl ?_
      refine gf_1 C X hW dX12_type_107 ?_
      refine lv_iconst (v := 1) C.1 C.2.1 dX12_type_110 (by decide) ?_
      refine lv_iadd C.1 C.2.1 dX12_type_111 ?_
      refine p_1 C X hW hS dX12_type_112 (fun H locs hW hS => ?_)
      refine lt_ok h (fun S3 e_S3 h => ?_)
      rw [e_S3] at hW
      refine lt_ok h (fun x4 e_x4 h => ?_)
      refine lv_iinc (v := x4) (lv' := [(4, .int x4), (0, .ref mo), (1, .long v1)]) C.1 C.2.1 dX12_type_115 hl (k := 2) rfl (by rw [← e_x4]; rfl) (by decide) rfl (fun ls hl => ?_)
      refine lv_goto (tgt := 79) C.1 C.2.1 dX12_type_118 (by decide) ?_
      exact ih h hW hS (lv_sub hl [1, 2, 0] rfl)
noncomputable def fm_type_66 (S : mSt) : Option (Int32 × mSt) :=
ckz (0 : Int32) (some ((0 : Int32), S))
set_option maxRecDepth 100000 in
set_option maxHeartbeats 4000000 in
theorem wm_type_66 (C : mY p R s m args meth c cX12_type 6 0 0 (some .boolean)) (X : mX s cM iS cI cZ mo ad) : ∀ {S : mSt} {H : Heap} {locs : List Loc} {ls : Array Slot}, fm_type_66 S = some (r, S9) → mW cM iS cI cZ mo ad S H → mS (mA mo ad) s.heap H locs → lv_has ls 6 [] → W p l e R s m args below meth c H locs 0 0 (MQ below (mQw (some (.int r)) cM iS cI cZ mo ad S9) args s 0 0 (mA mo ad)) (F0 m 66 ls []) := by
  intro S H locs ls h hW hS hl
  unfold fm_type_66 at h
  refine lv_iconst (v := 0) C.1 C.2.1 dX12_type_66 (by decide) ?_
  obtain ⟨hzo, h⟩ := ckz_ok h
  cases h
  exact m_retzW C hzo hW hS dX12_type_67
noncomputable def fm_type_32 : Nat → mSt → Int64 → Int32 → Int32 → Option (Int32 × mSt)
  | 0, _, _, _, _ => none
  | n + 1, S, v1, v3, v4 =>
    if v3 ≤ v4 then (
    lt (v3 - (1 : Int32)) fun x2 =>
    fm_type_79 mFU S v1 x2)
    else (
    lt (Int64.toInt32 ((v1 >>> (Int32.toInt64 ((8 : Int32) * v4) &&& 63)) &&& (255 : Int64))) fun x3 =>
    if x3 < (32 : Int32) then (
    fm_type_66 S)
    else (
    if x3 ≤ (126 : Int32) then (
    lt (v4 + (1 : Int32)) fun x6 =>
    fm_type_32 n S v1 v3 x6)
    else (
    fm_type_66 S)))
set_option maxRecDepth 100000 in
set_option maxHeartbeats 4000000 in
theorem wm_type_32 (C : mY p R s m args meth c cX12_type 6 0 0 (some .boolean)) (X : mX s cM iS cI cZ mo ad) : ∀ (n : Nat), ∀ {S : mSt} {v1 : Int64} {v3 : Int32} {v4 : Int32} {H : Heap} {locs : List Loc} {ls : Array Slot}, fm_type_32 n S v1 v3 v4 = some (r, S9) → mW cM iS cI cZ mo ad S H → mS (mA mo ad) s.heap H locs → lv_has ls 6 [(0, .ref mo), (1, .long v1), (3, .int v3), (4, .int v4)] → W p l e R s m args below meth c H locs 0 0 (MQ below (mQw (some (.int r)) cM iS cI cZ mo ad S9) args s 0 0 (mA mo ad)) (F0 m 32 ls []) := by
  intro n
  induction n with
  | zero =>
    intro S v1 v3 v4 H locs ls h hW hS hl
    exact absurd (show (none : Option (Int32 × mSt)) = _ from h) (fun q => by cases q)
  | succ n ih =>
    intro S v1 v3 v4 H locs ls h hW hS hl
    rw [fm_type_32] at h
    refine lv_iload C.1 C.2.1 dX12_type_32 (lv_at hl 3 rfl) ?_
    refine lv_iload_n C.1 C.2.1 dX12_type_34 rfl (lv_at hl 2 rfl) ?_
    refine lv_icmp_ge (tgt := 74) C.1 C.2.1 dX12_type_35 (by decide) (fun c1 => ?_) (fun c1 => ?_)
    · have h := if_t h c1
      refine lv_iload_n C.1 C.2.1 dX12_type_74 rfl (lv_at hl 2 rfl) ?_
      refine lv_iconst (v := 1) C.1 C.2.1 dX12_type_75 (by decide) ?_
      refine lv_isub C.1 C.2.1 dX12_type_76 ?_
      refine lt_ok h (fun x2 e_x2 h => ?_)
      refine lv_nm e_x2 ?_
      refine lv_istore (lv' := [(4, .int x2), (0, .ref mo), (1, .long v1), (3, .int v3)]) C.1 C.2.1 dX12_type_77 hl (by decide) rfl (fun ls hl => ?_)
      exact wm_type_79 C X mFU h hW hS (lv_sub hl [1, 2, 0] rfl)
    · have h := if_f h c1
      refine lv_lload_n C.1 C.2.1 dX12_type_38 rfl (lv_at hl 1 rfl) ?_
      refine lv_bipush (v := 8) C.1 C.2.1 dX12_type_39 (by decide) ?_
      refine lv_iload C.1 C.2.1 dX12_type_41 (lv_at hl 3 rfl) ?_
      refine lv_imul C.1 C.2.1 dX12_type_43 ?_
      refine lv_lshr (v := v1 >>> (Int32.toInt64 ((8 : Int32) * v4) &&& 63)) C.1 C.2.1 dX12_type_44 rfl ?_
      refine lv_ldc2 (own := RX12) (v := 255) C.1 C.2.1 C.2.2.2.1 (C.2.2.2.2.1 _ kl_206) dX12_type_45 ?_
      refine lv_land C.1 C.2.1 dX12_type_48 ?_
      refine lv_l2i (v := Int64.toInt32 ((v1 >>> (Int32.toInt64 ((8 : Int32) * v4) &&& 63)) &&& (255 : Int64))) C.1 C.2.1 dX12_type_49 rfl ?_
      refine lt_ok h (fun x3 e_x3 h => ?_)
      refine lv_nm e_x3 ?_
      refine lv_istore (lv' := [(5, .int x3), (0, .ref mo), (1, .long v1), (3, .int v3), (4, .int v4)]) C.1 C.2.1 dX12_type_50 hl (by decide) rfl (fun ls hl => ?_)
      refine lv_iload C.1 C.2.1 dX12_type_52 (lv_at hl 0 rfl) ?_
      refine lv_bipush (v := 32) C.1 C.2.1 dX12_type_54 (by decide) ?_
      refine lv_icmp_lt (tgt := 66) C.1 C.2.1 dX12_type_56 (by decide) (fun c4 => ?_) (fun c4 => ?_)
      · have h := if_t h c4
        exact wm_type_66 C X h hW hS (lv_sub hl [] rfl)
      · have h := if_f h c4
        refine lv_iload C.1 C.2.1 dX12_type_59 (lv_at hl 0 rfl) ?_
        refine lv_bipush (v := 126) C.1 C.2.1 dX12_type_61 (by decide) ?_
        refine lv_icmp_le (tgt := 68) C.1 C.2.1 dX12_type_63 (by decide) (fun c5 => ?_) (fun c5 => ?_)
        · have h := if_t h c5
          refine lt_ok h (fun x6 e_x6 h => ?_)
          refine lv_iinc (v := x6) (lv' := [(4, .int x6), (5, .int x3), (0, .ref mo), (1, .long v1), (3, .int v3)]) C.1 C.2.1 dX12_type_68 hl (k := 4) rfl (by rw [← e_x6]; rfl) (by decide) rfl (fun ls hl => ?_)
          refine lv_goto (tgt := 32) C.1 C.2.1 dX12_type_71 (by decide) ?_
          exact ih h hW hS (lv_sub hl [2, 3, 4, 0] rfl)
        · have h := if_f h c5
          exact wm_type_66 C X h hW hS (lv_sub hl [] rfl)
noncomputable def fm_type (S : mSt) (v1 : Int64) (v3 : Int32) : Option (Int32 × mSt) :=
lt (pu S 0 (0 : Int32)) fun S1 =>
if v3 < (1 : Int32) then (
fm_type_27 S1)
else (
if (8 : Int32) < v3 then (
fm_type_27 S1)
else (
if ((S1.1 1) + v3) ≤ (40 : Int32) then (
fm_type_32 mFU S1 v1 v3 (0 : Int32))
else (
fm_type_27 S1)))
set_option maxRecDepth 100000 in
set_option maxHeartbeats 4000000 in
theorem tm_type (l : Launch) {cM : ClassId} {iS : Nat → Nat} {cI cZ : ClassId} {mo : Nat} {ad : Nat → Nat} {S : mSt} {v1 : Int64} {v3 : Int32} {r : Int32} {S9 : mSt} (h : fm_type S v1 v3 = some (r, S9)) : Met l yX12_type (Cond.code yX12_type cX12_type 6 (some .boolean) :: lw_g) { frames := 0, cells := 0, slots := 0, locals := 0 } (mPi [.long v1, .int v3] cM iS cI cZ mo ad S) (mQw (some (.int r)) cM iS cI cZ mo ad S9) 0 0 (mA mo ad) := by
  refine Met.ofW (cc := cX12_type) (maxL := 6) (ret := (some .boolean)) (by decide) rfl ?_
  intro p e s m args below meth c s₁ B hml hv
  obtain ⟨rfl, hW, X⟩ := hv
  have C : mY p (headSpec (Cond.code yX12_type cX12_type 6 (some .boolean) :: lw_g) { frames := 0, cells := 0, slots := 0, locals := 0 }).room s m _ meth c cX12_type 6 0 0 (some .boolean) := ⟨B.exec, B.bytes, hml, findClass_of_methodNamed B.named, fun w hw => atoms_spec (ws := Cond.code yX12_type cX12_type 6 (some .boolean) :: lw_g) B.pre w (List.mem_cons_of_mem _ hw), ⟨Nat.le_refl _, Nat.le_refl _⟩, B.returns, B.notSynchronized⟩
  have hl := lv_entry ([.ref mo, .long v1, .int v3]) (n := 6) (Nat.le_of_ble_eq_true rfl)
  rw [lg_entry_eq]
  generalize (lg_sl ([.ref mo, .long v1, .int v3]) ++ List.replicate (6 - (lg_sl ([.ref mo, .long v1, .int v3])).length) Slot.unset).toArray = ls at hl ⊢
  have hl : lv_has ls 6 [(0, .ref mo), (1, .long v1), (3, .int v3)] := hl
  have hS : mS (mA mo ad) s.heap s.heap [] := mS.rf
  unfold fm_type at h
  refine lv_aload_n C.1 C.2.1 dX12_type_0 rfl (lv_at hl 0 rfl) ?_
  refine lv_iconst (v := 0) C.1 C.2.1 dX12_type_1 (by decide) ?_
  refine p_0 C X hW hS dX12_type_2 (fun H locs hW hS => ?_)
  refine lt_ok h (fun S1 e_S1 h => ?_)
  rw [e_S1] at hW
  refine lv_iload_n C.1 C.2.1 dX12_type_5 rfl (lv_at hl 2 rfl) ?_
  refine lv_iconst (v := 1) C.1 C.2.1 dX12_type_6 (by decide) ?_
  refine lv_icmp_lt (tgt := 27) C.1 C.2.1 dX12_type_7 (by decide) (fun c2 => ?_) (fun c2 => ?_)
  · have h := if_t h c2
    exact wm_type_27 C X h hW hS (lv_sub hl [] rfl)
  · have h := if_f h c2
    refine lv_iload_n C.1 C.2.1 dX12_type_10 rfl (lv_at hl 2 rfl) ?_
    refine lv_bipush (v := 8) C.1 C.2.1 dX12_type_11 (by decide) ?_
    refine lv_icmp_gt (tgt := 27) C.1 C.2.1 dX12_type_13 (by decide) (fun c3 => ?_) (fun c3 => ?_)
    · have h := if_t h c3
      exact wm_type_27 C X h hW hS (lv_sub hl [] rfl)
    · have h := if_f h c3
      refine lv_aload_n C.1 C.2.1 dX12_type_16 rfl (lv_at hl 0 rfl) ?_
      refine gf_1 C X hW dX12_type_17 ?_
      refine lv_iload_n C.1 C.2.1 dX12_type_20 rfl (lv_at hl 2 rfl) ?_
      refine lv_iadd C.1 C.2.1 dX12_type_21 ?_
      refine lv_bipush (v := 40) C.1 C.2.1 dX12_type_22 (by decide) ?_
      refine lv_icmp_le (tgt := 29) C.1 C.2.1 dX12_type_24 (by decide) (fun c4 => ?_) (fun c4 => ?_)
      · have h := if_t h c4
        refine lv_iconst (v := 0) C.1 C.2.1 dX12_type_29 (by decide) ?_
        refine lv_istore (lv' := [(4, .int (0 : Int32)), (0, .ref mo), (1, .long v1), (3, .int v3)]) C.1 C.2.1 dX12_type_30 hl (by decide) rfl (fun ls hl => ?_)
        exact wm_type_32 C X mFU h hW hS (lv_sub hl [1, 2, 3, 0] rfl)
      · have h := if_f h c4
        exact wm_type_27 C X h hW hS (lv_sub hl [] rfl)
end
theorem dX12_isRule_0 : decode cX12_isRule 0 = .ok (.iload_n 0, 1) := by decide +kernel
theorem dX12_isRule_1 : decode cX12_isRule 1 = .ok (.bipush 76, 2) := by decide +kernel
theorem dX12_isRule_3 : decode cX12_isRule 3 = .ok (.if_icmp .eq 39, 3) := by decide +kernel
theorem dX12_isRule_6 : decode cX12_isRule 6 = .ok (.iload_n 0, 1) := by decide +kernel
theorem dX12_isRule_7 : decode cX12_isRule 7 = .ok (.bipush 83, 2) := by decide +kernel
theorem dX12_isRule_9 : decode cX12_isRule 9 = .ok (.if_icmp .eq 33, 3) := by decide +kernel
theorem dX12_isRule_12 : decode cX12_isRule 12 = .ok (.iload_n 0, 1) := by decide +kernel
theorem dX12_isRule_13 : decode cX12_isRule 13 = .ok (.bipush 67, 2) := by decide +kernel
theorem dX12_isRule_15 : decode cX12_isRule 15 = .ok (.if_icmp .eq 27, 3) := by decide +kernel
theorem dX12_isRule_18 : decode cX12_isRule 18 = .ok (.iload_n 0, 1) := by decide +kernel
theorem dX12_isRule_19 : decode cX12_isRule 19 = .ok (.bipush 66, 2) := by decide +kernel
theorem dX12_isRule_21 : decode cX12_isRule 21 = .ok (.if_icmp .eq 21, 3) := by decide +kernel
theorem dX12_isRule_24 : decode cX12_isRule 24 = .ok (.iload_n 0, 1) := by decide +kernel
theorem dX12_isRule_25 : decode cX12_isRule 25 = .ok (.bipush 65, 2) := by decide +kernel
theorem dX12_isRule_27 : decode cX12_isRule 27 = .ok (.if_icmp .eq 15, 3) := by decide +kernel
theorem dX12_isRule_30 : decode cX12_isRule 30 = .ok (.iload_n 0, 1) := by decide +kernel
theorem dX12_isRule_31 : decode cX12_isRule 31 = .ok (.bipush 84, 2) := by decide +kernel
theorem dX12_isRule_33 : decode cX12_isRule 33 = .ok (.if_icmp .eq 9, 3) := by decide +kernel
theorem dX12_isRule_36 : decode cX12_isRule 36 = .ok (.iload_n 0, 1) := by decide +kernel
theorem dX12_isRule_37 : decode cX12_isRule 37 = .ok (.bipush 77, 2) := by decide +kernel
theorem dX12_isRule_39 : decode cX12_isRule 39 = .ok (.if_icmp .ne 7, 3) := by decide +kernel
theorem dX12_isRule_42 : decode cX12_isRule 42 = .ok (.iconst 1, 1) := by decide +kernel
theorem dX12_isRule_43 : decode cX12_isRule 43 = .ok (.goto 4, 3) := by decide +kernel
theorem dX12_isRule_46 : decode cX12_isRule 46 = .ok (.iconst 0, 1) := by decide +kernel
theorem dX12_isRule_47 : decode cX12_isRule 47 = .ok (.ireturn, 1) := by decide +kernel
theorem cd_isRule : Cond.code yX12_isRule cX12_isRule 1 (some .boolean) ∈ lw_g := mt_at 1951 (by decide +kernel) rfl
theorem mw_isRule : mCw 208 yX12_isRule cX12_isRule 1 (some .boolean) 1 := ⟨cd_isRule, mt_at 1949 (by decide +kernel) rfl, in_M, by decide +kernel⟩
theorem st_isRule : Cond.static yX12_isRule ∈ lw_g := mt_at 1950 (by decide +kernel) rfl
section
variable {p : Program} {l : Launch} {e : Env} {R : Room} {s : State} {m : MethodId} {args : Array Value} {below : List Frame} {meth : Method} {c : Code} {cM : ClassId} {iS : Nat → Nat} {cI cZ : ClassId} {mo : Nat} {ad : Nat → Nat} {r : Int32}
noncomputable def fm_isRule_47 (s0 : Int32) : Option (Int32) :=
ckz s0 (some s0)
set_option maxRecDepth 100000 in
set_option maxHeartbeats 4000000 in
theorem wm_isRule_47 (C : mY p R s m args meth c cX12_isRule 1 0 0 (some .boolean)) : ∀ {s0 : Int32} {ls : Array Slot}, fm_isRule_47 s0 = some r → lv_has ls 1 [] → W p l e R s m args below meth c s.heap [] 0 0 (MQ below (mQi r) args s 0 0 mNo) (F0 m 47 ls [.int s0]) := by
  intro s0 ls h hl
  unfold fm_isRule_47 at h
  obtain ⟨hzo, h⟩ := ckz_ok h
  cases h
  exact m_retz C hzo rfl rfl dX12_isRule_47
noncomputable def fm_isRule_42 : Option (Int32) :=
fm_isRule_47 (1 : Int32)
set_option maxRecDepth 100000 in
set_option maxHeartbeats 4000000 in
theorem wm_isRule_42 (C : mY p R s m args meth c cX12_isRule 1 0 0 (some .boolean)) : ∀ {ls : Array Slot}, fm_isRule_42 = some r → lv_has ls 1 [] → W p l e R s m args below meth c s.heap [] 0 0 (MQ below (mQi r) args s 0 0 mNo) (F0 m 42 ls []) := by
  intro ls h hl
  unfold fm_isRule_42 at h
  refine lv_iconst (v := 1) C.1 C.2.1 dX12_isRule_42 (by decide) ?_
  refine lv_goto (tgt := 47) C.1 C.2.1 dX12_isRule_43 (by decide) ?_
  exact wm_isRule_47 C h (lv_sub hl [] rfl)
noncomputable def fm_isRule (v0 : Int32) : Option (Int32) :=
if v0 = (76 : Int32) then (
fm_isRule_42)
else (
if v0 = (83 : Int32) then (
fm_isRule_42)
else (
if v0 = (67 : Int32) then (
fm_isRule_42)
else (
if v0 = (66 : Int32) then (
fm_isRule_42)
else (
if v0 = (65 : Int32) then (
fm_isRule_42)
else (
if v0 = (84 : Int32) then (
fm_isRule_42)
else (
if v0 = (77 : Int32) then (
fm_isRule_42)
else (
fm_isRule_47 (0 : Int32))))))))
set_option maxRecDepth 100000 in
set_option maxHeartbeats 4000000 in
theorem tm_isRule (l : Launch) {v0 : Int32} {r : Int32} (h : fm_isRule v0 = some r) : Met l yX12_isRule (Cond.code yX12_isRule cX12_isRule 1 (some .boolean) :: lw_g) { frames := 0, cells := 0, slots := 0, locals := 0 } (mPs [.int v0]) (mQi r) 0 0 (mNo) := by
  refine Met.ofW (cc := cX12_isRule) (maxL := 1) (ret := (some .boolean)) (by decide) rfl ?_
  intro p e s m args below meth c s₁ B hml hv
  obtain rfl := hv
  have C : mY p (headSpec (Cond.code yX12_isRule cX12_isRule 1 (some .boolean) :: lw_g) { frames := 0, cells := 0, slots := 0, locals := 0 }).room s m _ meth c cX12_isRule 1 0 0 (some .boolean) := ⟨B.exec, B.bytes, hml, findClass_of_methodNamed B.named, fun w hw => atoms_spec (ws := Cond.code yX12_isRule cX12_isRule 1 (some .boolean) :: lw_g) B.pre w (List.mem_cons_of_mem _ hw), ⟨Nat.le_refl _, Nat.le_refl _⟩, B.returns, B.notSynchronized⟩
  have hl := lv_entry ([.int v0]) (n := 1) (Nat.le_of_ble_eq_true rfl)
  rw [lg_entry_eq]
  generalize (lg_sl ([.int v0]) ++ List.replicate (1 - (lg_sl ([.int v0])).length) Slot.unset).toArray = ls at hl ⊢
  have hl : lv_has ls 1 [(0, .int v0)] := hl
  unfold fm_isRule at h
  refine lv_iload_n C.1 C.2.1 dX12_isRule_0 rfl (lv_at hl 0 rfl) ?_
  refine lv_bipush (v := 76) C.1 C.2.1 dX12_isRule_1 (by decide) ?_
  refine lv_icmp_eq (tgt := 42) C.1 C.2.1 dX12_isRule_3 (by decide) (fun c1 => ?_) (fun c1 => ?_)
  · have h := if_t h c1
    exact wm_isRule_42 C h (lv_sub hl [] rfl)
  · have h := if_f h c1
    refine lv_iload_n C.1 C.2.1 dX12_isRule_6 rfl (lv_at hl 0 rfl) ?_
    refine lv_bipush (v := 83) C.1 C.2.1 dX12_isRule_7 (by decide) ?_
    refine lv_icmp_eq (tgt := 42) C.1 C.2.1 dX12_isRule_9 (by decide) (fun c2 => ?_) (fun c2 => ?_)
    · have h := if_t h c2
      exact wm_isRule_42 C h (lv_sub hl [] rfl)
    · have h := if_f h c2
      refine lv_iload_n C.1 C.2.1 dX12_isRule_12 rfl (lv_at hl 0 rfl) ?_
      refine lv_bipush (v := 67) C.1 C.2.1 dX12_isRule_13 (by decide) ?_
      refine lv_icmp_eq (tgt := 42) C.1 C.2.1 dX12_isRule_15 (by decide) (fun c3 => ?_) (fun c3 => ?_)
      · have h := if_t h c3
        exact wm_isRule_42 C h (lv_sub hl [] rfl)
      · have h := if_f h c3
        refine lv_iload_n C.1 C.2.1 dX12_isRule_18 rfl (lv_at hl 0 rfl) ?_
        refine lv_bipush (v := 66) C.1 C.2.1 dX12_isRule_19 (by decide) ?_
        refine lv_icmp_eq (tgt := 42) C.1 C.2.1 dX12_isRule_21 (by decide) (fun c4 => ?_) (fun c4 => ?_)
        · have h := if_t h c4
          exact wm_isRule_42 C h (lv_sub hl [] rfl)
        · have h := if_f h c4
          refine lv_iload_n C.1 C.2.1 dX12_isRule_24 rfl (lv_at hl 0 rfl) ?_
          refine lv_bipush (v := 65) C.1 C.2.1 dX12_isRule_25 (by decide) ?_
          refine lv_icmp_eq (tgt := 42) C.1 C.2.1 dX12_isRule_27 (by decide) (fun c5 => ?_) (fun c5 => ?_)
          · have h := if_t h c5
            exact wm_isRule_42 C h (lv_sub hl [] rfl)
          · have h := if_f h c5
            refine lv_iload_n C.1 C.2.1 dX12_isRule_30 rfl (lv_at hl 0 rfl) ?_
            refine lv_bipush (v := 84) C.1 C.2.1 dX12_isRule_31 (by decide) ?_
            refine lv_icmp_eq (tgt := 42) C.1 C.2.1 dX12_isRule_33 (by decide) (fun c6 => ?_) (fun c6 => ?_)
            · have h := if_t h c6
              exact wm_isRule_42 C h (lv_sub hl [] rfl)
            · have h := if_f h c6
              refine lv_iload_n C.1 C.2.1 dX12_isRule_36 rfl (lv_at hl 0 rfl) ?_
              refine lv_bipush (v := 77) C.1 C.2.1 dX12_isRule_37 (by decide) ?_
              refine lv_icmp_ne (tgt := 46) C.1 C.2.1 dX12_isRule_39 (by decide) (fun c7 => ?_) (fun c7 => ?_)
              · have h := if_f h c7
                refine lv_iconst (v := 0) C.1 C.2.1 dX12_isRule_46 (by decide) ?_
                exact wm_isRule_47 C h (lv_sub hl [] rfl)
              · have h := if_t h c7
                exact wm_isRule_42 C h (lv_sub hl [] rfl)
end
theorem dX12_kind_0 : decode cX12_kind 0 = .ok (.aload_n 0, 1) := by decide +kernel
theorem dX12_kind_1 : decode cX12_kind 1 = .ok (.getfield 203, 3) := by decide +kernel
theorem dX12_kind_4 : decode cX12_kind 4 = .ok (.istore_n 1, 1) := by decide +kernel
theorem dX12_kind_5 : decode cX12_kind 5 = .ok (.aload_n 0, 1) := by decide +kernel
theorem dX12_kind_6 : decode cX12_kind 6 = .ok (.iconst 0, 1) := by decide +kernel
theorem dX12_kind_7 : decode cX12_kind 7 = .ok (.putfield 203, 3) := by decide +kernel
theorem dX12_kind_10 : decode cX12_kind 10 = .ok (.iconst 0, 1) := by decide +kernel
theorem dX12_kind_11 : decode cX12_kind 11 = .ok (.istore_n 2, 1) := by decide +kernel
theorem dX12_kind_12 : decode cX12_kind 12 = .ok (.iload_n 2, 1) := by decide +kernel
theorem dX12_kind_13 : decode cX12_kind 13 = .ok (.iload_n 1, 1) := by decide +kernel
theorem dX12_kind_14 : decode cX12_kind 14 = .ok (.if_icmp .ge 27, 3) := by decide +kernel
theorem dX12_kind_17 : decode cX12_kind 17 = .ok (.iload_n 2, 1) := by decide +kernel
theorem dX12_kind_18 : decode cX12_kind 18 = .ok (.bipush 6, 2) := by decide +kernel
theorem dX12_kind_20 : decode cX12_kind 20 = .ok (.if_icmp .ge 21, 3) := by decide +kernel
theorem dX12_kind_23 : decode cX12_kind 23 = .ok (.aload_n 0, 1) := by decide +kernel
theorem dX12_kind_24 : decode cX12_kind 24 = .ok (.getfield 7, 3) := by decide +kernel
theorem dX12_kind_27 : decode cX12_kind 27 = .ok (.iload_n 2, 1) := by decide +kernel
theorem dX12_kind_28 : decode cX12_kind 28 = .ok (.iaload, 1) := by decide +kernel
theorem dX12_kind_29 : decode cX12_kind 29 = .ok (.invokestatic 208, 3) := by decide +kernel
theorem dX12_kind_32 : decode cX12_kind 32 = .ok (.ifCond .eq 9, 3) := by decide +kernel
theorem dX12_kind_35 : decode cX12_kind 35 = .ok (.iinc 2 1, 3) := by decide +kernel
theorem dX12_kind_38 : decode cX12_kind 38 = .ok (.goto (-26), 3) := by decide +kernel
theorem dX12_kind_41 : decode cX12_kind 41 = .ok (.iload_n 1, 1) := by decide +kernel
theorem dX12_kind_42 : decode cX12_kind 42 = .ok (.ifCond .le 12, 3) := by decide +kernel
theorem dX12_kind_45 : decode cX12_kind 45 = .ok (.iload_n 2, 1) := by decide +kernel
theorem dX12_kind_46 : decode cX12_kind 46 = .ok (.iload_n 1, 1) := by decide +kernel
theorem dX12_kind_47 : decode cX12_kind 47 = .ok (.if_icmp .ne 7, 3) := by decide +kernel
theorem dX12_kind_50 : decode cX12_kind 50 = .ok (.iconst 1, 1) := by decide +kernel
theorem dX12_kind_51 : decode cX12_kind 51 = .ok (.goto 4, 3) := by decide +kernel
theorem dX12_kind_54 : decode cX12_kind 54 = .ok (.iconst 0, 1) := by decide +kernel
theorem dX12_kind_55 : decode cX12_kind 55 = .ok (.istore_n 3, 1) := by decide +kernel
theorem dX12_kind_56 : decode cX12_kind 56 = .ok (.aload_n 0, 1) := by decide +kernel
theorem dX12_kind_57 : decode cX12_kind 57 = .ok (.iload_n 3, 1) := by decide +kernel
theorem dX12_kind_58 : decode cX12_kind 58 = .ok (.ifCond .eq 7, 3) := by decide +kernel
theorem dX12_kind_61 : decode cX12_kind 61 = .ok (.iconst (-1), 1) := by decide +kernel
theorem dX12_kind_62 : decode cX12_kind 62 = .ok (.goto 4, 3) := by decide +kernel
theorem dX12_kind_65 : decode cX12_kind 65 = .ok (.iload_n 2, 1) := by decide +kernel
theorem dX12_kind_66 : decode cX12_kind 66 = .ok (.putfield 13, 3) := by decide +kernel
theorem dX12_kind_69 : decode cX12_kind 69 = .ok (.aload_n 0, 1) := by decide +kernel
theorem dX12_kind_70 : decode cX12_kind 70 = .ok (.iload_n 3, 1) := by decide +kernel
theorem dX12_kind_71 : decode cX12_kind 71 = .ok (.ifCond .ne 7, 3) := by decide +kernel
theorem dX12_kind_74 : decode cX12_kind 74 = .ok (.iconst 1, 1) := by decide +kernel
theorem dX12_kind_75 : decode cX12_kind 75 = .ok (.goto 17, 3) := by decide +kernel
theorem dX12_kind_78 : decode cX12_kind 78 = .ok (.aload_n 0, 1) := by decide +kernel
theorem dX12_kind_79 : decode cX12_kind 79 = .ok (.getfield 212, 3) := by decide +kernel
theorem dX12_kind_82 : decode cX12_kind 82 = .ok (.bipush 8, 2) := by decide +kernel
theorem dX12_kind_84 : decode cX12_kind 84 = .ok (.if_icmp .ne 7, 3) := by decide +kernel
theorem dX12_kind_87 : decode cX12_kind 87 = .ok (.iconst 2, 1) := by decide +kernel
theorem dX12_kind_88 : decode cX12_kind 88 = .ok (.goto 4, 3) := by decide +kernel
theorem dX12_kind_91 : decode cX12_kind 91 = .ok (.iconst 0, 1) := by decide +kernel
theorem dX12_kind_92 : decode cX12_kind 92 = .ok (.putfield 200, 3) := by decide +kernel
theorem dX12_kind_95 : decode cX12_kind 95 = .ok (.aload_n 0, 1) := by decide +kernel
theorem dX12_kind_96 : decode cX12_kind 96 = .ok (.getfield 200, 3) := by decide +kernel
theorem dX12_kind_99 : decode cX12_kind 99 = .ok (.ifCond .eq 5, 3) := by decide +kernel
theorem dX12_kind_102 : decode cX12_kind 102 = .ok (.iconst 0, 1) := by decide +kernel
theorem dX12_kind_103 : decode cX12_kind 103 = .ok (.ireturn, 1) := by decide +kernel
theorem dX12_kind_104 : decode cX12_kind 104 = .ok (.aload_n 0, 1) := by decide +kernel
theorem dX12_kind_105 : decode cX12_kind 105 = .ok (.getfield 17, 3) := by decide +kernel
theorem dX12_kind_108 : decode cX12_kind 108 = .ok (.aload_n 0, 1) := by decide +kernel
theorem dX12_kind_109 : decode cX12_kind 109 = .ok (.getfield 212, 3) := by decide +kernel
theorem dX12_kind_112 : decode cX12_kind 112 = .ok (.iload_n 1, 1) := by decide +kernel
theorem dX12_kind_113 : decode cX12_kind 113 = .ok (.iastore, 1) := by decide +kernel
theorem dX12_kind_114 : decode cX12_kind 114 = .ok (.iconst 0, 1) := by decide +kernel
theorem dX12_kind_115 : decode cX12_kind 115 = .ok (.istore 4, 2) := by decide +kernel
theorem dX12_kind_117 : decode cX12_kind 117 = .ok (.iload 4, 2) := by decide +kernel
theorem dX12_kind_119 : decode cX12_kind 119 = .ok (.iload_n 1, 1) := by decide +kernel
theorem dX12_kind_120 : decode cX12_kind 120 = .ok (.if_icmp .ge 31, 3) := by decide +kernel
theorem dX12_kind_123 : decode cX12_kind 123 = .ok (.aload_n 0, 1) := by decide +kernel
theorem dX12_kind_124 : decode cX12_kind 124 = .ok (.getfield 20, 3) := by decide +kernel
theorem dX12_kind_127 : decode cX12_kind 127 = .ok (.bipush 6, 2) := by decide +kernel
theorem dX12_kind_129 : decode cX12_kind 129 = .ok (.aload_n 0, 1) := by decide +kernel
theorem dX12_kind_130 : decode cX12_kind 130 = .ok (.getfield 212, 3) := by decide +kernel
theorem dX12_kind_133 : decode cX12_kind 133 = .ok (.imul, 1) := by decide +kernel
theorem dX12_kind_134 : decode cX12_kind 134 = .ok (.iload 4, 2) := by decide +kernel
theorem dX12_kind_136 : decode cX12_kind 136 = .ok (.iadd, 1) := by decide +kernel
theorem dX12_kind_137 : decode cX12_kind 137 = .ok (.aload_n 0, 1) := by decide +kernel
theorem dX12_kind_138 : decode cX12_kind 138 = .ok (.getfield 7, 3) := by decide +kernel
theorem dX12_kind_141 : decode cX12_kind 141 = .ok (.iload 4, 2) := by decide +kernel
theorem dX12_kind_143 : decode cX12_kind 143 = .ok (.iaload, 1) := by decide +kernel
theorem dX12_kind_144 : decode cX12_kind 144 = .ok (.iastore, 1) := by decide +kernel
theorem dX12_kind_145 : decode cX12_kind 145 = .ok (.iinc 4 1, 3) := by decide +kernel
theorem dX12_kind_148 : decode cX12_kind 148 = .ok (.goto (-31), 3) := by decide +kernel
theorem dX12_kind_151 : decode cX12_kind 151 = .ok (.aload_n 0, 1) := by decide +kernel
theorem dX12_kind_152 : decode cX12_kind 152 = .ok (.dup, 1) := by decide +kernel
theorem dX12_kind_153 : decode cX12_kind 153 = .ok (.getfield 212, 3) := by decide +kernel
theorem dX12_kind_156 : decode cX12_kind 156 = .ok (.iconst 1, 1) := by decide +kernel
theorem dX12_kind_157 : decode cX12_kind 157 = .ok (.iadd, 1) := by decide +kernel
theorem dX12_kind_158 : decode cX12_kind 158 = .ok (.putfield 212, 3) := by decide +kernel
theorem dX12_kind_161 : decode cX12_kind 161 = .ok (.aload_n 0, 1) := by decide +kernel
theorem dX12_kind_162 : decode cX12_kind 162 = .ok (.getfield 212, 3) := by decide +kernel
theorem dX12_kind_165 : decode cX12_kind 165 = .ok (.iconst 1, 1) := by decide +kernel
theorem dX12_kind_166 : decode cX12_kind 166 = .ok (.isub, 1) := by decide +kernel
theorem dX12_kind_167 : decode cX12_kind 167 = .ok (.ireturn, 1) := by decide +kernel
theorem cd_kind : Cond.code yX12_kind cX12_kind 5 (some .int) ∈ lw_g := mt_at 1948 (by decide +kernel) rfl
section
variable {p : Program} {l : Launch} {e : Env} {R : Room} {s : State} {m : MethodId} {args : Array Value} {below : List Frame} {meth : Method} {c : Code} {cM : ClassId} {iS : Nat → Nat} {cI cZ : ClassId} {mo : Nat} {ad : Nat → Nat} {r : Int32} {S9 : mSt}
noncomputable def fm_kind_117 : Nat → mSt → Int32 → Int32 → Option (Int32 × mSt)
  | 0, _, _, _ => none
  | n + 1, S, v1, v4 =>
    if v1 ≤ v4 then (
    lt (pu S 4 ((S.1 4) + (1 : Int32))) fun S2 =>
    some ((S2.1 4) - (1 : Int32), S2))
    else (
    ck v4 40 (
    ck (((6 : Int32) * (S.1 4)) + v4) 48 (lt (wr S 6 (((6 : Int32) * (S.1 4)) + v4) (rd S 2 v4)) fun S3 =>
    lt (v4 + (1 : Int32)) fun x4 =>
    fm_kind_117 n S3 v1 x4)))
set_option maxRecDepth 100000 in
set_option maxHeartbeats 4000000 in
theorem wm_kind_117 (C : mY p R s m args meth c cX12_kind 5 1 20 (some .int)) (X : mX s cM iS cI cZ mo ad) : ∀ (n : Nat), ∀ {S : mSt} {v1 : Int32} {v4 : Int32} {H : Heap} {locs : List Loc} {ls : Array Slot}, fm_kind_117 n S v1 v4 = some (r, S9) → mW cM iS cI cZ mo ad S H → mS (mA mo ad) s.heap H locs → lv_has ls 5 [(0, .ref mo), (1, .int v1), (4, .int v4)] → W p l e R s m args below meth c H locs 0 0 (MQ below (mQw (some (.int r)) cM iS cI cZ mo ad S9) args s 0 0 (mA mo ad)) (F0 m 117 ls []) := by
  intro n
  induction n with
  | zero =>
    intro S v1 v4 H locs ls h hW hS hl
    exact absurd (show (none : Option (Int32 × mSt)) = _ from h) (fun q => by cases q)
  | succ n ih =>
    intro S v1 v4 H locs ls h hW hS hl
    rw [fm_kind_117] at h
    refine lv_iload C.1 C.2.1 dX12_kind_117 (lv_at hl 2 rfl) ?_
    refine lv_iload_n C.1 C.2.1 dX12_kind_119 rfl (lv_at hl 1 rfl) ?_
    refine lv_icmp_ge (tgt := 151) C.1 C.2.1 dX12_kind_120 (by decide) (fun c1 => ?_) (fun c1 => ?_)
    · have h := if_t h c1
      refine lv_aload_n C.1 C.2.1 dX12_kind_151 rfl (lv_at hl 0 rfl) ?_
      refine lv_dup C.1 C.2.1 dX12_kind_152 rfl ?_
      refine gf_4 C X hW dX12_kind_153 ?_
      refine lv_iconst (v := 1) C.1 C.2.1 dX12_kind_156 (by decide) ?_
      refine lv_iadd C.1 C.2.1 dX12_kind_157 ?_
      refine p_4 C X hW hS dX12_kind_158 (fun H locs hW hS => ?_)
      refine lt_ok h (fun S2 e_S2 h => ?_)
      rw [e_S2] at hW
      refine lv_aload_n C.1 C.2.1 dX12_kind_161 rfl (lv_at hl 0 rfl) ?_
      refine gf_4 C X hW dX12_kind_162 ?_
      refine lv_iconst (v := 1) C.1 C.2.1 dX12_kind_165 (by decide) ?_
      refine lv_isub C.1 C.2.1 dX12_kind_166 ?_
      cases h
      exact m_retiW C hW hS dX12_kind_167
    · have h := if_f h c1
      refine lv_aload_n C.1 C.2.1 dX12_kind_123 rfl (lv_at hl 0 rfl) ?_
      refine gf_6 C X hW dX12_kind_124 ?_
      refine lv_bipush (v := 6) C.1 C.2.1 dX12_kind_127 (by decide) ?_
      refine lv_aload_n C.1 C.2.1 dX12_kind_129 rfl (lv_at hl 0 rfl) ?_
      refine gf_4 C X hW dX12_kind_130 ?_
      refine lv_imul C.1 C.2.1 dX12_kind_133 ?_
      refine lv_iload C.1 C.2.1 dX12_kind_134 (lv_at hl 2 rfl) ?_
      refine lv_iadd C.1 C.2.1 dX12_kind_136 ?_
      refine lv_aload_n C.1 C.2.1 dX12_kind_137 rfl (lv_at hl 0 rfl) ?_
      refine gf_2 C X hW dX12_kind_138 ?_
      refine lv_iload C.1 C.2.1 dX12_kind_141 (lv_at hl 2 rfl) ?_
      obtain ⟨hin, h⟩ := ck_ok h
      refine l_2 C X hW hin dX12_kind_143 ?_
      obtain ⟨hin, h⟩ := ck_ok h
      refine s_6 C X hW hS hin dX12_kind_144 (fun H locs hW hS => ?_)
      refine lt_ok h (fun S3 e_S3 h => ?_)
      rw [e_S3] at hW
      refine lt_ok h (fun x4 e_x4 h => ?_)
      refine lv_iinc (v := x4) (lv' := [(4, .int x4), (0, .ref mo), (1, .int v1)]) C.1 C.2.1 dX12_kind_145 hl (k := 2) rfl (by rw [← e_x4]; rfl) (by decide) rfl (fun ls hl => ?_)
      refine lv_goto (tgt := 117) C.1 C.2.1 dX12_kind_148 (by decide) ?_
      exact ih h hW hS (lv_sub hl [1, 2, 0] rfl)
noncomputable def fm_kind_92 (S : mSt) (v1 : Int32) (s1 : Int32) : Option (Int32 × mSt) :=
lt (pu S 0 s1) fun S1 =>
if (S1.1 0) = 0 then (
ck (S1.1 4) 8 (lt (wr S1 5 (S1.1 4) v1) fun S3 =>
fm_kind_117 mFU S3 v1 (0 : Int32)))
else (
some ((0 : Int32), S1))
set_option maxRecDepth 100000 in
set_option maxHeartbeats 4000000 in
theorem wm_kind_92 (C : mY p R s m args meth c cX12_kind 5 1 20 (some .int)) (X : mX s cM iS cI cZ mo ad) : ∀ {S : mSt} {v1 : Int32} {s1 : Int32} {H : Heap} {locs : List Loc} {ls : Array Slot}, fm_kind_92 S v1 s1 = some (r, S9) → mW cM iS cI cZ mo ad S H → mS (mA mo ad) s.heap H locs → lv_has ls 5 [(0, .ref mo), (1, .int v1)] → W p l e R s m args below meth c H locs 0 0 (MQ below (mQw (some (.int r)) cM iS cI cZ mo ad S9) args s 0 0 (mA mo ad)) (F0 m 92 ls [.int s1, .ref mo]) := by
  intro S v1 s1 H locs ls h hW hS hl
  unfold fm_kind_92 at h
  refine p_0 C X hW hS dX12_kind_92 (fun H locs hW hS => ?_)
  refine lt_ok h (fun S1 e_S1 h => ?_)
  rw [e_S1] at hW
  refine lv_aload_n C.1 C.2.1 dX12_kind_95 rfl (lv_at hl 0 rfl) ?_
  refine gf_0 C X hW dX12_kind_96 ?_
  refine lv_if_eq (tgt := 104) C.1 C.2.1 dX12_kind_99 (by decide) (fun c2 => ?_) (fun c2 => ?_)
  · have h := if_t h c2
    refine lv_aload_n C.1 C.2.1 dX12_kind_104 rfl (lv_at hl 0 rfl) ?_
    refine gf_5 C X hW dX12_kind_105 ?_
    refine lv_aload_n C.1 C.2.1 dX12_kind_108 rfl (lv_at hl 0 rfl) ?_
    refine gf_4 C X hW dX12_kind_109 ?_
    refine lv_iload_n C.1 C.2.1 dX12_kind_112 rfl (lv_at hl 1 rfl) ?_
    obtain ⟨hin, h⟩ := ck_ok h
    refine s_5 C X hW hS hin dX12_kind_113 (fun H locs hW hS => ?_)
    refine lt_ok h (fun S3 e_S3 h => ?_)
    rw [e_S3] at hW
    refine lv_iconst (v := 0) C.1 C.2.1 dX12_kind_114 (by decide) ?_
    refine lv_istore (lv' := [(4, .int (0 : Int32)), (0, .ref mo), (1, .int v1)]) C.1 C.2.1 dX12_kind_115 hl (by decide) rfl (fun ls hl => ?_)
    exact wm_kind_117 C X mFU h hW hS (lv_sub hl [1, 2, 0] rfl)
  · have h := if_f h c2
    refine lv_iconst (v := 0) C.1 C.2.1 dX12_kind_102 (by decide) ?_
    cases h
    exact m_retiW C hW hS dX12_kind_103
noncomputable def fm_kind_66 (S : mSt) (v1 : Int32) (v3 : Int32) (s1 : Int32) : Option (Int32 × mSt) :=
lt (pu S 3 s1) fun S1 =>
if v3 = 0 then (
fm_kind_92 S1 v1 (1 : Int32))
else (
if (S1.1 4) = (8 : Int32) then (
fm_kind_92 S1 v1 (2 : Int32))
else (
fm_kind_92 S1 v1 (0 : Int32)))
set_option maxRecDepth 100000 in
set_option maxHeartbeats 4000000 in
theorem wm_kind_66 (C : mY p R s m args meth c cX12_kind 5 1 20 (some .int)) (X : mX s cM iS cI cZ mo ad) : ∀ {S : mSt} {v1 : Int32} {v3 : Int32} {s1 : Int32} {H : Heap} {locs : List Loc} {ls : Array Slot}, fm_kind_66 S v1 v3 s1 = some (r, S9) → mW cM iS cI cZ mo ad S H → mS (mA mo ad) s.heap H locs → lv_has ls 5 [(0, .ref mo), (1, .int v1), (3, .int v3)] → W p l e R s m args below meth c H locs 0 0 (MQ below (mQw (some (.int r)) cM iS cI cZ mo ad S9) args s 0 0 (mA mo ad)) (F0 m 66 ls [.int s1, .ref mo]) := by
  intro S v1 v3 s1 H locs ls h hW hS hl
  unfold fm_kind_66 at h
  refine p_3 C X hW hS dX12_kind_66 (fun H locs hW hS => ?_)
  refine lt_ok h (fun S1 e_S1 h => ?_)
  rw [e_S1] at hW
  refine lv_aload_n C.1 C.2.1 dX12_kind_69 rfl (lv_at hl 0 rfl) ?_
  refine lv_iload_n C.1 C.2.1 dX12_kind_70 rfl (lv_at hl 2 rfl) ?_
  refine lv_if_ne (tgt := 78) C.1 C.2.1 dX12_kind_71 (by decide) (fun c2 => ?_) (fun c2 => ?_)
  · have h := if_f h c2
    refine lv_aload_n C.1 C.2.1 dX12_kind_78 rfl (lv_at hl 0 rfl) ?_
    refine gf_4 C X hW dX12_kind_79 ?_
    refine lv_bipush (v := 8) C.1 C.2.1 dX12_kind_82 (by decide) ?_
    refine lv_icmp_ne (tgt := 91) C.1 C.2.1 dX12_kind_84 (by decide) (fun c3 => ?_) (fun c3 => ?_)
    · have h := if_f h c3
      refine lv_iconst (v := 0) C.1 C.2.1 dX12_kind_91 (by decide) ?_
      exact wm_kind_92 C X h hW hS (lv_sub hl [0, 1] rfl)
    · have h := if_t h c3
      refine lv_iconst (v := 2) C.1 C.2.1 dX12_kind_87 (by decide) ?_
      refine lv_goto (tgt := 92) C.1 C.2.1 dX12_kind_88 (by decide) ?_
      exact wm_kind_92 C X h hW hS (lv_sub hl [0, 1] rfl)
  · have h := if_t h c2
    refine lv_iconst (v := 1) C.1 C.2.1 dX12_kind_74 (by decide) ?_
    refine lv_goto (tgt := 92) C.1 C.2.1 dX12_kind_75 (by decide) ?_
    exact wm_kind_92 C X h hW hS (lv_sub hl [0, 1] rfl)
noncomputable def fm_kind_55 (S : mSt) (v1 : Int32) (v2 : Int32) (s0 : Int32) : Option (Int32 × mSt) :=
if s0 = 0 then (
fm_kind_66 S v1 s0 v2)
else (
fm_kind_66 S v1 s0 (-1 : Int32))
set_option maxRecDepth 100000 in
set_option maxHeartbeats 4000000 in
theorem wm_kind_55 (C : mY p R s m args meth c cX12_kind 5 1 20 (some .int)) (X : mX s cM iS cI cZ mo ad) : ∀ {S : mSt} {v1 : Int32} {v2 : Int32} {s0 : Int32} {H : Heap} {locs : List Loc} {ls : Array Slot}, fm_kind_55 S v1 v2 s0 = some (r, S9) → mW cM iS cI cZ mo ad S H → mS (mA mo ad) s.heap H locs → lv_has ls 5 [(0, .ref mo), (1, .int v1), (2, .int v2)] → W p l e R s m args below meth c H locs 0 0 (MQ below (mQw (some (.int r)) cM iS cI cZ mo ad S9) args s 0 0 (mA mo ad)) (F0 m 55 ls [.int s0]) := by
  intro S v1 v2 s0 H locs ls h hW hS hl
  unfold fm_kind_55 at h
  refine lv_istore_n (lv' := [(3, .int s0), (0, .ref mo), (1, .int v1), (2, .int v2)]) C.1 C.2.1 dX12_kind_55 rfl hl (by decide) rfl (fun ls hl => ?_)
  refine lv_aload_n C.1 C.2.1 dX12_kind_56 rfl (lv_at hl 1 rfl) ?_
  refine lv_iload_n C.1 C.2.1 dX12_kind_57 rfl (lv_at hl 0 rfl) ?_
  refine lv_if_eq (tgt := 65) C.1 C.2.1 dX12_kind_58 (by decide) (fun c1 => ?_) (fun c1 => ?_)
  · have h := if_t h c1
    refine lv_iload_n C.1 C.2.1 dX12_kind_65 rfl (lv_at hl 3 rfl) ?_
    exact wm_kind_66 C X h hW hS (lv_sub hl [1, 2, 0] rfl)
  · have h := if_f h c1
    refine lv_iconst (v := -1) C.1 C.2.1 dX12_kind_61 (by decide) ?_
    refine lv_goto (tgt := 66) C.1 C.2.1 dX12_kind_62 (by decide) ?_
    exact wm_kind_66 C X h hW hS (lv_sub hl [1, 2, 0] rfl)
noncomputable def fm_kind_54 (S : mSt) (v1 : Int32) (v2 : Int32) : Option (Int32 × mSt) :=
fm_kind_55 S v1 v2 (0 : Int32)
set_option maxRecDepth 100000 in
set_option maxHeartbeats 4000000 in
theorem wm_kind_54 (C : mY p R s m args meth c cX12_kind 5 1 20 (some .int)) (X : mX s cM iS cI cZ mo ad) : ∀ {S : mSt} {v1 : Int32} {v2 : Int32} {H : Heap} {locs : List Loc} {ls : Array Slot}, fm_kind_54 S v1 v2 = some (r, S9) → mW cM iS cI cZ mo ad S H → mS (mA mo ad) s.heap H locs → lv_has ls 5 [(0, .ref mo), (1, .int v1), (2, .int v2)] → W p l e R s m args below meth c H locs 0 0 (MQ below (mQw (some (.int r)) cM iS cI cZ mo ad S9) args s 0 0 (mA mo ad)) (F0 m 54 ls []) := by
  intro S v1 v2 H locs ls h hW hS hl
  unfold fm_kind_54 at h
  refine lv_iconst (v := 0) C.1 C.2.1 dX12_kind_54 (by decide) ?_
  exact wm_kind_55 C X h hW hS (lv_sub hl [0, 1, 2] rfl)
noncomputable def fm_kind_41 (S : mSt) (v1 : Int32) (v2 : Int32) : Option (Int32 × mSt) :=
if v1 ≤ 0 then (
fm_kind_54 S v1 v2)
else (
if v2 = v1 then (
fm_kind_55 S v1 v2 (1 : Int32))
else (
fm_kind_54 S v1 v2))
set_option maxRecDepth 100000 in
set_option maxHeartbeats 4000000 in
theorem wm_kind_41 (C : mY p R s m args meth c cX12_kind 5 1 20 (some .int)) (X : mX s cM iS cI cZ mo ad) : ∀ {S : mSt} {v1 : Int32} {v2 : Int32} {H : Heap} {locs : List Loc} {ls : Array Slot}, fm_kind_41 S v1 v2 = some (r, S9) → mW cM iS cI cZ mo ad S H → mS (mA mo ad) s.heap H locs → lv_has ls 5 [(0, .ref mo), (1, .int v1), (2, .int v2)] → W p l e R s m args below meth c H locs 0 0 (MQ below (mQw (some (.int r)) cM iS cI cZ mo ad S9) args s 0 0 (mA mo ad)) (F0 m 41 ls []) := by
  intro S v1 v2 H locs ls h hW hS hl
  unfold fm_kind_41 at h
  refine lv_iload_n C.1 C.2.1 dX12_kind_41 rfl (lv_at hl 1 rfl) ?_
  refine lv_if_le (tgt := 54) C.1 C.2.1 dX12_kind_42 (by decide) (fun c1 => ?_) (fun c1 => ?_)
  · have h := if_t h c1
    exact wm_kind_54 C X h hW hS (lv_sub hl [0, 1, 2] rfl)
  · have h := if_f h c1
    refine lv_iload_n C.1 C.2.1 dX12_kind_45 rfl (lv_at hl 2 rfl) ?_
    refine lv_iload_n C.1 C.2.1 dX12_kind_46 rfl (lv_at hl 1 rfl) ?_
    refine lv_icmp_ne (tgt := 54) C.1 C.2.1 dX12_kind_47 (by decide) (fun c2 => ?_) (fun c2 => ?_)
    · have h := if_f h c2
      exact wm_kind_54 C X h hW hS (lv_sub hl [0, 1, 2] rfl)
    · have h := if_t h c2
      refine lv_iconst (v := 1) C.1 C.2.1 dX12_kind_50 (by decide) ?_
      refine lv_goto (tgt := 55) C.1 C.2.1 dX12_kind_51 (by decide) ?_
      exact wm_kind_55 C X h hW hS (lv_sub hl [0, 1, 2] rfl)
noncomputable def fm_kind_12 : Nat → mSt → Int32 → Int32 → Option (Int32 × mSt)
  | 0, _, _, _ => none
  | n + 1, S, v1, v2 =>
    if v1 ≤ v2 then (
    fm_kind_41 S v1 v2)
    else (
    if (6 : Int32) ≤ v2 then (
    fm_kind_41 S v1 v2)
    else (
    ck v2 40 (
    bd (fm_isRule (rd S 2 v2)) fun r3 =>
    if r3 = 0 then (
    fm_kind_41 S v1 v2)
    else (
    lt (v2 + (1 : Int32)) fun x5 =>
    fm_kind_12 n S v1 x5))))
set_option maxRecDepth 100000 in
set_option maxHeartbeats 4000000 in
theorem wm_kind_12 (C : mY p R s m args meth c cX12_kind 5 1 20 (some .int)) (X : mX s cM iS cI cZ mo ad) : ∀ (n : Nat), ∀ {S : mSt} {v1 : Int32} {v2 : Int32} {H : Heap} {locs : List Loc} {ls : Array Slot}, fm_kind_12 n S v1 v2 = some (r, S9) → mW cM iS cI cZ mo ad S H → mS (mA mo ad) s.heap H locs → lv_has ls 5 [(0, .ref mo), (1, .int v1), (2, .int v2)] → W p l e R s m args below meth c H locs 0 0 (MQ below (mQw (some (.int r)) cM iS cI cZ mo ad S9) args s 0 0 (mA mo ad)) (F0 m 12 ls []) := by
  intro n
  induction n with
  | zero =>
    intro S v1 v2 H locs ls h hW hS hl
    exact absurd (show (none : Option (Int32 × mSt)) = _ from h) (fun q => by cases q)
  | succ n ih =>
    intro S v1 v2 H locs ls h hW hS hl
    rw [fm_kind_12] at h
    refine lv_iload_n C.1 C.2.1 dX12_kind_12 rfl (lv_at hl 2 rfl) ?_
    refine lv_iload_n C.1 C.2.1 dX12_kind_13 rfl (lv_at hl 1 rfl) ?_
    refine lv_icmp_ge (tgt := 41) C.1 C.2.1 dX12_kind_14 (by decide) (fun c1 => ?_) (fun c1 => ?_)
    · have h := if_t h c1
      exact wm_kind_41 C X h hW hS (lv_sub hl [0, 1, 2] rfl)
    · have h := if_f h c1
      refine lv_iload_n C.1 C.2.1 dX12_kind_17 rfl (lv_at hl 2 rfl) ?_
      refine lv_bipush (v := 6) C.1 C.2.1 dX12_kind_18 (by decide) ?_
      refine lv_icmp_ge (tgt := 41) C.1 C.2.1 dX12_kind_20 (by decide) (fun c2 => ?_) (fun c2 => ?_)
      · have h := if_t h c2
        exact wm_kind_41 C X h hW hS (lv_sub hl [0, 1, 2] rfl)
      · have h := if_f h c2
        refine lv_aload_n C.1 C.2.1 dX12_kind_23 rfl (lv_at hl 0 rfl) ?_
        refine gf_2 C X hW dX12_kind_24 ?_
        refine lv_iload_n C.1 C.2.1 dX12_kind_27 rfl (lv_at hl 2 rfl) ?_
        obtain ⟨hin, h⟩ := ck_ok h
        refine l_2 C X hW hin dX12_kind_28 ?_
        obtain ⟨r3, h_r3, h⟩ := bd_ok h
        refine m_callS (rest := []) C hl.1 [.int (rd S 2 v2)] (tm_isRule l h_r3) mw_isRule st_isRule rfl ⟨by decide, by decide⟩ rfl (Nat.le_of_ble_eq_true rfl) dX12_kind_29 ?_
        refine lv_if_eq (tgt := 41) C.1 C.2.1 dX12_kind_32 (by decide) (fun c4 => ?_) (fun c4 => ?_)
        · have h := if_t h c4
          exact wm_kind_41 C X h hW hS (lv_sub hl [0, 1, 2] rfl)
        · have h := if_f h c4
          refine lt_ok h (fun x5 e_x5 h => ?_)
          refine lv_iinc (v := x5) (lv' := [(2, .int x5), (0, .ref mo), (1, .int v1)]) C.1 C.2.1 dX12_kind_35 hl (k := 2) rfl (by rw [← e_x5]; rfl) (by decide) rfl (fun ls hl => ?_)
          refine lv_goto (tgt := 12) C.1 C.2.1 dX12_kind_38 (by decide) ?_
          exact ih h hW hS (lv_sub hl [1, 2, 0] rfl)
noncomputable def fm_kind (S : mSt) : Option (Int32 × mSt) :=
lt (S.1 1) fun x1 =>
lt (pu S 1 (0 : Int32)) fun S2 =>
fm_kind_12 mFU S2 x1 (0 : Int32)
set_option maxRecDepth 100000 in
set_option maxHeartbeats 4000000 in
theorem tm_kind (l : Launch) {cM : ClassId} {iS : Nat → Nat} {cI cZ : ClassId} {mo : Nat} {ad : Nat → Nat} {S : mSt} {r : Int32} {S9 : mSt} (h : fm_kind S = some (r, S9)) : Met l yX12_kind (Cond.code yX12_kind cX12_kind 5 (some .int) :: lw_g) { frames := 1, cells := 0, slots := 0, locals := 20 } (mPi [] cM iS cI cZ mo ad S) (mQw (some (.int r)) cM iS cI cZ mo ad S9) 0 0 (mA mo ad) := by
  refine Met.ofW (cc := cX12_kind) (maxL := 5) (ret := (some .int)) (by decide) rfl ?_
  intro p e s m args below meth c s₁ B hml hv
  obtain ⟨rfl, hW, X⟩ := hv
  have C : mY p (headSpec (Cond.code yX12_kind cX12_kind 5 (some .int) :: lw_g) { frames := 1, cells := 0, slots := 0, locals := 20 }).room s m _ meth c cX12_kind 5 1 20 (some .int) := ⟨B.exec, B.bytes, hml, findClass_of_methodNamed B.named, fun w hw => atoms_spec (ws := Cond.code yX12_kind cX12_kind 5 (some .int) :: lw_g) B.pre w (List.mem_cons_of_mem _ hw), ⟨Nat.le_refl _, Nat.le_refl _⟩, B.returns, B.notSynchronized⟩
  have hl := lv_entry ([.ref mo]) (n := 5) (Nat.le_of_ble_eq_true rfl)
  rw [lg_entry_eq]
  generalize (lg_sl ([.ref mo]) ++ List.replicate (5 - (lg_sl ([.ref mo])).length) Slot.unset).toArray = ls at hl ⊢
  have hl : lv_has ls 5 [(0, .ref mo)] := hl
  have hS : mS (mA mo ad) s.heap s.heap [] := mS.rf
  unfold fm_kind at h
  refine lv_aload_n C.1 C.2.1 dX12_kind_0 rfl (lv_at hl 0 rfl) ?_
  refine gf_1 C X hW dX12_kind_1 ?_
  refine lt_ok h (fun x1 e_x1 h => ?_)
  refine lv_nm e_x1 ?_
  refine lv_istore_n (lv' := [(1, .int x1), (0, .ref mo)]) C.1 C.2.1 dX12_kind_4 rfl hl (by decide) rfl (fun ls hl => ?_)
  refine lv_aload_n C.1 C.2.1 dX12_kind_5 rfl (lv_at hl 1 rfl) ?_
  refine lv_iconst (v := 0) C.1 C.2.1 dX12_kind_6 (by decide) ?_
  refine p_1 C X hW hS dX12_kind_7 (fun H locs hW hS => ?_)
  refine lt_ok h (fun S2 e_S2 h => ?_)
  rw [e_S2] at hW
  refine lv_iconst (v := 0) C.1 C.2.1 dX12_kind_10 (by decide) ?_
  refine lv_istore_n (lv' := [(2, .int (0 : Int32)), (1, .int x1), (0, .ref mo)]) C.1 C.2.1 dX12_kind_11 rfl hl (by decide) rfl (fun ls hl => ?_)
  exact wm_kind_12 C X mFU h hW hS (lv_sub hl [2, 1, 0] rfl)
end
theorem dX12_fault_0 : decode cX12_fault 0 = .ok (.aload_n 0, 1) := by decide +kernel
theorem dX12_fault_1 : decode cX12_fault 1 = .ok (.iconst 0, 1) := by decide +kernel
theorem dX12_fault_2 : decode cX12_fault 2 = .ok (.putfield 200, 3) := by decide +kernel
theorem dX12_fault_5 : decode cX12_fault 5 = .ok (.aload_n 0, 1) := by decide +kernel
theorem dX12_fault_6 : decode cX12_fault 6 = .ok (.getfield 13, 3) := by decide +kernel
theorem dX12_fault_9 : decode cX12_fault 9 = .ok (.ireturn, 1) := by decide +kernel
theorem cd_fault : Cond.code yX12_fault cX12_fault 1 (some .int) ∈ lw_g := mt_at 1955 (by decide +kernel) rfl
section
variable {p : Program} {l : Launch} {e : Env} {R : Room} {s : State} {m : MethodId} {args : Array Value} {below : List Frame} {meth : Method} {c : Code} {cM : ClassId} {iS : Nat → Nat} {cI cZ : ClassId} {mo : Nat} {ad : Nat → Nat} {r : Int32} {S9 : mSt}
noncomputable def fm_fault (S : mSt) : Option (Int32 × mSt) :=
lt (pu S 0 (0 : Int32)) fun S1 =>
some (S1.1 3, S1)
set_option maxRecDepth 100000 in
set_option maxHeartbeats 4000000 in
theorem tm_fault (l : Launch) {cM : ClassId} {iS : Nat → Nat} {cI cZ : ClassId} {mo : Nat} {ad : Nat → Nat} {S : mSt} {r : Int32} {S9 : mSt} (h : fm_fault S = some (r, S9)) : Met l yX12_fault (Cond.code yX12_fault cX12_fault 1 (some .int) :: lw_g) { frames := 0, cells := 0, slots := 0, locals := 0 } (mPi [] cM iS cI cZ mo ad S) (mQw (some (.int r)) cM iS cI cZ mo ad S9) 0 0 (mA mo ad) := by
  refine Met.ofW (cc := cX12_fault) (maxL := 1) (ret := (some .int)) (by decide) rfl ?_
  intro p e s m args below meth c s₁ B hml hv
  obtain ⟨rfl, hW, X⟩ := hv
  have C : mY p (headSpec (Cond.code yX12_fault cX12_fault 1 (some .int) :: lw_g) { frames := 0, cells := 0, slots := 0, locals := 0 }).room s m _ meth c cX12_fault 1 0 0 (some .int) := ⟨B.exec, B.bytes, hml, findClass_of_methodNamed B.named, fun w hw => atoms_spec (ws := Cond.code yX12_fault cX12_fault 1 (some .int) :: lw_g) B.pre w (List.mem_cons_of_mem _ hw), ⟨Nat.le_refl _, Nat.le_refl _⟩, B.returns, B.notSynchronized⟩
  have hl := lv_entry ([.ref mo]) (n := 1) (Nat.le_of_ble_eq_true rfl)
  rw [lg_entry_eq]
  generalize (lg_sl ([.ref mo]) ++ List.replicate (1 - (lg_sl ([.ref mo])).length) Slot.unset).toArray = ls at hl ⊢
  have hl : lv_has ls 1 [(0, .ref mo)] := hl
  have hS : mS (mA mo ad) s.heap s.heap [] := mS.rf
  unfold fm_fault at h
  refine lv_aload_n C.1 C.2.1 dX12_fault_0 rfl (lv_at hl 0 rfl) ?_
  refine lv_iconst (v := 0) C.1 C.2.1 dX12_fault_1 (by decide) ?_
  refine p_0 C X hW hS dX12_fault_2 (fun H locs hW hS => ?_)
  refine lt_ok h (fun S1 e_S1 h => ?_)
  rw [e_S1] at hW
  refine lv_aload_n C.1 C.2.1 dX12_fault_5 rfl (lv_at hl 0 rfl) ?_
  refine gf_3 C X hW dX12_fault_6 ?_
  cases h
  exact m_retiW C hW hS dX12_fault_9
end
theorem dX12_tick_0 : decode cX12_tick 0 = .ok (.aload_n 0, 1) := by decide +kernel
theorem dX12_tick_1 : decode cX12_tick 1 = .ok (.iconst 0, 1) := by decide +kernel
theorem dX12_tick_2 : decode cX12_tick 2 = .ok (.putfield 200, 3) := by decide +kernel
theorem dX12_tick_5 : decode cX12_tick 5 = .ok (.iload_n 1, 1) := by decide +kernel
theorem dX12_tick_6 : decode cX12_tick 6 = .ok (.iconst 0, 1) := by decide +kernel
theorem dX12_tick_7 : decode cX12_tick 7 = .ok (.iconst 3, 1) := by decide +kernel
theorem dX12_tick_8 : decode cX12_tick 8 = .ok (.invokestatic 215, 3) := by decide +kernel
theorem dX12_tick_11 : decode cX12_tick 11 = .ok (.ifCond .eq 14, 3) := by decide +kernel
theorem dX12_tick_14 : decode cX12_tick 14 = .ok (.iload_n 2, 1) := by decide +kernel
theorem dX12_tick_15 : decode cX12_tick 15 = .ok (.iconst 1, 1) := by decide +kernel
theorem dX12_tick_16 : decode cX12_tick 16 = .ok (.sipush 1000, 3) := by decide +kernel
theorem dX12_tick_19 : decode cX12_tick 19 = .ok (.invokestatic 215, 3) := by decide +kernel
theorem dX12_tick_22 : decode cX12_tick 22 = .ok (.ifCond .ne 5, 3) := by decide +kernel
theorem dX12_tick_25 : decode cX12_tick 25 = .ok (.iconst (-1), 1) := by decide +kernel
theorem dX12_tick_26 : decode cX12_tick 26 = .ok (.ireturn, 1) := by decide +kernel
theorem dX12_tick_27 : decode cX12_tick 27 = .ok (.aload_n 0, 1) := by decide +kernel
theorem dX12_tick_28 : decode cX12_tick 28 = .ok (.getfield 53, 3) := by decide +kernel
theorem dX12_tick_31 : decode cX12_tick 31 = .ok (.iload_n 1, 1) := by decide +kernel
theorem dX12_tick_32 : decode cX12_tick 32 = .ok (.dup2, 1) := by decide +kernel
theorem dX12_tick_33 : decode cX12_tick 33 = .ok (.iaload, 1) := by decide +kernel
theorem dX12_tick_34 : decode cX12_tick 34 = .ok (.iload_n 2, 1) := by decide +kernel
theorem dX12_tick_35 : decode cX12_tick 35 = .ok (.iadd, 1) := by decide +kernel
theorem dX12_tick_36 : decode cX12_tick 36 = .ok (.iastore, 1) := by decide +kernel
theorem dX12_tick_37 : decode cX12_tick 37 = .ok (.aload_n 0, 1) := by decide +kernel
theorem dX12_tick_38 : decode cX12_tick 38 = .ok (.getfield 53, 3) := by decide +kernel
theorem dX12_tick_41 : decode cX12_tick 41 = .ok (.iload_n 1, 1) := by decide +kernel
theorem dX12_tick_42 : decode cX12_tick 42 = .ok (.iaload, 1) := by decide +kernel
theorem dX12_tick_43 : decode cX12_tick 43 = .ok (.ireturn, 1) := by decide +kernel
theorem cd_tick : Cond.code yX12_tick cX12_tick 3 (some .int) ∈ lw_g := mt_at 1959 (by decide +kernel) rfl
section
variable {p : Program} {l : Launch} {e : Env} {R : Room} {s : State} {m : MethodId} {args : Array Value} {below : List Frame} {meth : Method} {c : Code} {cM : ClassId} {iS : Nat → Nat} {cI cZ : ClassId} {mo : Nat} {ad : Nat → Nat} {r : Int32} {S9 : mSt}
noncomputable def fm_tick_25 (S : mSt) : Option (Int32 × mSt) :=
some ((-1 : Int32), S)
set_option maxRecDepth 100000 in
set_option maxHeartbeats 4000000 in
theorem wm_tick_25 (C : mY p R s m args meth c cX12_tick 3 1 22 (some .int)) (X : mX s cM iS cI cZ mo ad) : ∀ {S : mSt} {H : Heap} {locs : List Loc} {ls : Array Slot}, fm_tick_25 S = some (r, S9) → mW cM iS cI cZ mo ad S H → mS (mA mo ad) s.heap H locs → lv_has ls 3 [] → W p l e R s m args below meth c H locs 0 0 (MQ below (mQw (some (.int r)) cM iS cI cZ mo ad S9) args s 0 0 (mA mo ad)) (F0 m 25 ls []) := by
  intro S H locs ls h hW hS hl
  unfold fm_tick_25 at h
  refine lv_iconst (v := -1) C.1 C.2.1 dX12_tick_25 (by decide) ?_
  cases h
  exact m_retiW C hW hS dX12_tick_26
noncomputable def fm_tick (S : mSt) (v1 : Int32) (v2 : Int32) : Option (Int32 × mSt) :=
lt (pu S 0 (0 : Int32)) fun S1 =>
bd (fm_within v1 (0 : Int32) (3 : Int32)) fun r2 =>
if r2 = 0 then (
fm_tick_25 S1)
else (
bd (fm_within v2 (1 : Int32) (1000 : Int32)) fun r4 =>
if r4 = 0 then (
fm_tick_25 S1)
else (
ck v1 4 (
ck v1 4 (lt (wr S1 17 v1 ((rd S1 17 v1) + v2)) fun S6 =>
ck v1 4 (
some (rd S6 17 v1, S6))))))
set_option maxRecDepth 100000 in
set_option maxHeartbeats 4000000 in
theorem tm_tick (l : Launch) {cM : ClassId} {iS : Nat → Nat} {cI cZ : ClassId} {mo : Nat} {ad : Nat → Nat} {S : mSt} {v1 : Int32} {v2 : Int32} {r : Int32} {S9 : mSt} (h : fm_tick S v1 v2 = some (r, S9)) : Met l yX12_tick (Cond.code yX12_tick cX12_tick 3 (some .int) :: lw_g) { frames := 1, cells := 0, slots := 0, locals := 22 } (mPi [.int v1, .int v2] cM iS cI cZ mo ad S) (mQw (some (.int r)) cM iS cI cZ mo ad S9) 0 0 (mA mo ad) := by
  refine Met.ofW (cc := cX12_tick) (maxL := 3) (ret := (some .int)) (by decide) rfl ?_
  intro p e s m args below meth c s₁ B hml hv
  obtain ⟨rfl, hW, X⟩ := hv
  have C : mY p (headSpec (Cond.code yX12_tick cX12_tick 3 (some .int) :: lw_g) { frames := 1, cells := 0, slots := 0, locals := 22 }).room s m _ meth c cX12_tick 3 1 22 (some .int) := ⟨B.exec, B.bytes, hml, findClass_of_methodNamed B.named, fun w hw => atoms_spec (ws := Cond.code yX12_tick cX12_tick 3 (some .int) :: lw_g) B.pre w (List.mem_cons_of_mem _ hw), ⟨Nat.le_refl _, Nat.le_refl _⟩, B.returns, B.notSynchronized⟩
  have hl := lv_entry ([.ref mo, .int v1, .int v2]) (n := 3) (Nat.le_of_ble_eq_true rfl)
  rw [lg_entry_eq]
  generalize (lg_sl ([.ref mo, .int v1, .int v2]) ++ List.replicate (3 - (lg_sl ([.ref mo, .int v1, .int v2])).length) Slot.unset).toArray = ls at hl ⊢
  have hl : lv_has ls 3 [(0, .ref mo), (1, .int v1), (2, .int v2)] := hl
  have hS : mS (mA mo ad) s.heap s.heap [] := mS.rf
  unfold fm_tick at h
  refine lv_aload_n C.1 C.2.1 dX12_tick_0 rfl (lv_at hl 0 rfl) ?_
  refine lv_iconst (v := 0) C.1 C.2.1 dX12_tick_1 (by decide) ?_
  refine p_0 C X hW hS dX12_tick_2 (fun H locs hW hS => ?_)
  refine lt_ok h (fun S1 e_S1 h => ?_)
  rw [e_S1] at hW
  refine lv_iload_n C.1 C.2.1 dX12_tick_5 rfl (lv_at hl 1 rfl) ?_
  refine lv_iconst (v := 0) C.1 C.2.1 dX12_tick_6 (by decide) ?_
  refine lv_iconst (v := 3) C.1 C.2.1 dX12_tick_7 (by decide) ?_
  obtain ⟨r2, h_r2, h⟩ := bd_ok h
  refine m_callS (rest := []) C hl.1 [.int v1, .int (0 : Int32), .int (3 : Int32)] (tm_within l h_r2) mw_within st_within rfl ⟨by decide, by decide⟩ rfl (Nat.le_of_ble_eq_true rfl) dX12_tick_8 ?_
  refine lv_if_eq (tgt := 25) C.1 C.2.1 dX12_tick_11 (by decide) (fun c3 => ?_) (fun c3 => ?_)
  · have h := if_t h c3
    exact wm_tick_25 C X h hW hS (lv_sub hl [] rfl)
  · have h := if_f h c3
    refine lv_iload_n C.1 C.2.1 dX12_tick_14 rfl (lv_at hl 2 rfl) ?_
    refine lv_iconst (v := 1) C.1 C.2.1 dX12_tick_15 (by decide) ?_
    refine lv_sipush (v := 1000) C.1 C.2.1 dX12_tick_16 (by decide) ?_
    obtain ⟨r4, h_r4, h⟩ := bd_ok h
    refine m_callS (rest := []) C hl.1 [.int v2, .int (1 : Int32), .int (1000 : Int32)] (tm_within l h_r4) mw_within st_within rfl ⟨by decide, by decide⟩ rfl (Nat.le_of_ble_eq_true rfl) dX12_tick_19 ?_
    refine lv_if_ne (tgt := 27) C.1 C.2.1 dX12_tick_22 (by decide) (fun c5 => ?_) (fun c5 => ?_)
    · have h := if_f h c5
      refine lv_aload_n C.1 C.2.1 dX12_tick_27 rfl (lv_at hl 0 rfl) ?_
      refine gf_17 C X hW dX12_tick_28 ?_
      refine lv_iload_n C.1 C.2.1 dX12_tick_31 rfl (lv_at hl 1 rfl) ?_
      refine lv_dup2_11 C.1 C.2.1 dX12_tick_32 rfl rfl ?_
      obtain ⟨hin, h⟩ := ck_ok h
      refine l_17 C X hW hin dX12_tick_33 ?_
      refine lv_iload_n C.1 C.2.1 dX12_tick_34 rfl (lv_at hl 2 rfl) ?_
      refine lv_iadd C.1 C.2.1 dX12_tick_35 ?_
      obtain ⟨hin, h⟩ := ck_ok h
      refine s_17 C X hW hS hin dX12_tick_36 (fun H locs hW hS => ?_)
      refine lt_ok h (fun S6 e_S6 h => ?_)
      rw [e_S6] at hW
      refine lv_aload_n C.1 C.2.1 dX12_tick_37 rfl (lv_at hl 0 rfl) ?_
      refine gf_17 C X hW dX12_tick_38 ?_
      refine lv_iload_n C.1 C.2.1 dX12_tick_41 rfl (lv_at hl 1 rfl) ?_
      obtain ⟨hin, h⟩ := ck_ok h
      refine l_17 C X hW hin dX12_tick_42 ?_
      cases h
      exact m_retiW C hW hS dX12_tick_43
    · have h := if_t h c5
      exact wm_tick_25 C X h hW hS (lv_sub hl [] rfl)
end
theorem dX12_nodeOf_0 : decode cX12_nodeOf 0 = .ok (.iload_n 0, 1) := by decide +kernel
theorem dX12_nodeOf_1 : decode cX12_nodeOf 1 = .ok (.sipush 250, 3) := by decide +kernel
theorem dX12_nodeOf_4 : decode cX12_nodeOf 4 = .ok (.idiv, 1) := by decide +kernel
theorem dX12_nodeOf_5 : decode cX12_nodeOf 5 = .ok (.ireturn, 1) := by decide +kernel
theorem cd_nodeOf : Cond.code yX12_nodeOf cX12_nodeOf 1 (some .int) ∈ lw_g := mt_at 1983 (by decide +kernel) rfl
theorem mw_nodeOf : mCw 219 yX12_nodeOf cX12_nodeOf 1 (some .int) 1 := ⟨cd_nodeOf, mt_at 1981 (by decide +kernel) rfl, in_M, by decide +kernel⟩
theorem st_nodeOf : Cond.static yX12_nodeOf ∈ lw_g := mt_at 1982 (by decide +kernel) rfl
section
variable {p : Program} {l : Launch} {e : Env} {R : Room} {s : State} {m : MethodId} {args : Array Value} {below : List Frame} {meth : Method} {c : Code} {cM : ClassId} {iS : Nat → Nat} {cI cZ : ClassId} {mo : Nat} {ad : Nat → Nat} {r : Int32}
noncomputable def fm_nodeOf (v0 : Int32) : Option (Int32) :=
some (v0 / (250 : Int32))
set_option maxRecDepth 100000 in
set_option maxHeartbeats 4000000 in
theorem tm_nodeOf (l : Launch) {v0 : Int32} {r : Int32} (h : fm_nodeOf v0 = some r) : Met l yX12_nodeOf (Cond.code yX12_nodeOf cX12_nodeOf 1 (some .int) :: lw_g) { frames := 0, cells := 0, slots := 0, locals := 0 } (mPs [.int v0]) (mQi r) 0 0 (mNo) := by
  refine Met.ofW (cc := cX12_nodeOf) (maxL := 1) (ret := (some .int)) (by decide) rfl ?_
  intro p e s m args below meth c s₁ B hml hv
  obtain rfl := hv
  have C : mY p (headSpec (Cond.code yX12_nodeOf cX12_nodeOf 1 (some .int) :: lw_g) { frames := 0, cells := 0, slots := 0, locals := 0 }).room s m _ meth c cX12_nodeOf 1 0 0 (some .int) := ⟨B.exec, B.bytes, hml, findClass_of_methodNamed B.named, fun w hw => atoms_spec (ws := Cond.code yX12_nodeOf cX12_nodeOf 1 (some .int) :: lw_g) B.pre w (List.mem_cons_of_mem _ hw), ⟨Nat.le_refl _, Nat.le_refl _⟩, B.returns, B.notSynchronized⟩
  have hl := lv_entry ([.int v0]) (n := 1) (Nat.le_of_ble_eq_true rfl)
  rw [lg_entry_eq]
  generalize (lg_sl ([.int v0]) ++ List.replicate (1 - (lg_sl ([.int v0])).length) Slot.unset).toArray = ls at hl ⊢
  have hl : lv_has ls 1 [(0, .int v0)] := hl
  unfold fm_nodeOf at h
  refine lv_iload_n C.1 C.2.1 dX12_nodeOf_0 rfl (lv_at hl 0 rfl) ?_
  refine lv_sipush (v := 250) C.1 C.2.1 dX12_nodeOf_1 (by decide) ?_
  refine lv_idiv C.1 C.2.1 dX12_nodeOf_4 (by decide) ?_
  cases h
  exact m_reti C rfl rfl dX12_nodeOf_5
end
theorem dX12_numberOf_0 : decode cX12_numberOf 0 = .ok (.iload_n 0, 1) := by decide +kernel
theorem dX12_numberOf_1 : decode cX12_numberOf 1 = .ok (.sipush 250, 3) := by decide +kernel
theorem dX12_numberOf_4 : decode cX12_numberOf 4 = .ok (.irem, 1) := by decide +kernel
theorem dX12_numberOf_5 : decode cX12_numberOf 5 = .ok (.iconst 1, 1) := by decide +kernel
theorem dX12_numberOf_6 : decode cX12_numberOf 6 = .ok (.iadd, 1) := by decide +kernel
theorem dX12_numberOf_7 : decode cX12_numberOf 7 = .ok (.ireturn, 1) := by decide +kernel
theorem cd_numberOf : Cond.code yX12_numberOf cX12_numberOf 1 (some .int) ∈ lw_g := mt_at 1990 (by decide +kernel) rfl
theorem mw_numberOf : mCw 223 yX12_numberOf cX12_numberOf 1 (some .int) 1 := ⟨cd_numberOf, mt_at 1988 (by decide +kernel) rfl, in_M, by decide +kernel⟩
theorem st_numberOf : Cond.static yX12_numberOf ∈ lw_g := mt_at 1989 (by decide +kernel) rfl
section
variable {p : Program} {l : Launch} {e : Env} {R : Room} {s : State} {m : MethodId} {args : Array Value} {below : List Frame} {meth : Method} {c : Code} {cM : ClassId} {iS : Nat → Nat} {cI cZ : ClassId} {mo : Nat} {ad : Nat → Nat} {r : Int32}
noncomputable def fm_numberOf (v0 : Int32) : Option (Int32) :=
some ((v0 - v0 / (250 : Int32) * (250 : Int32)) + (1 : Int32))
set_option maxRecDepth 100000 in
set_option maxHeartbeats 4000000 in
theorem tm_numberOf (l : Launch) {v0 : Int32} {r : Int32} (h : fm_numberOf v0 = some r) : Met l yX12_numberOf (Cond.code yX12_numberOf cX12_numberOf 1 (some .int) :: lw_g) { frames := 0, cells := 0, slots := 0, locals := 0 } (mPs [.int v0]) (mQi r) 0 0 (mNo) := by
  refine Met.ofW (cc := cX12_numberOf) (maxL := 1) (ret := (some .int)) (by decide) rfl ?_
  intro p e s m args below meth c s₁ B hml hv
  obtain rfl := hv
  have C : mY p (headSpec (Cond.code yX12_numberOf cX12_numberOf 1 (some .int) :: lw_g) { frames := 0, cells := 0, slots := 0, locals := 0 }).room s m _ meth c cX12_numberOf 1 0 0 (some .int) := ⟨B.exec, B.bytes, hml, findClass_of_methodNamed B.named, fun w hw => atoms_spec (ws := Cond.code yX12_numberOf cX12_numberOf 1 (some .int) :: lw_g) B.pre w (List.mem_cons_of_mem _ hw), ⟨Nat.le_refl _, Nat.le_refl _⟩, B.returns, B.notSynchronized⟩
  have hl := lv_entry ([.int v0]) (n := 1) (Nat.le_of_ble_eq_true rfl)
  rw [lg_entry_eq]
  generalize (lg_sl ([.int v0]) ++ List.replicate (1 - (lg_sl ([.int v0])).length) Slot.unset).toArray = ls at hl ⊢
  have hl : lv_has ls 1 [(0, .int v0)] := hl
  unfold fm_numberOf at h
  refine lv_iload_n C.1 C.2.1 dX12_numberOf_0 rfl (lv_at hl 0 rfl) ?_
  refine lv_sipush (v := 250) C.1 C.2.1 dX12_numberOf_1 (by decide) ?_
  refine lv_irem C.1 C.2.1 dX12_numberOf_4 (by decide) ?_
  refine lv_iconst (v := 1) C.1 C.2.1 dX12_numberOf_5 (by decide) ?_
  refine lv_iadd C.1 C.2.1 dX12_numberOf_6 ?_
  cases h
  exact m_reti C rfl rfl dX12_numberOf_7
end
theorem dX12_nameOf_0 : decode cX12_nameOf 0 = .ok (.sipush 1000, 3) := by decide +kernel
theorem dX12_nameOf_3 : decode cX12_nameOf 3 = .ok (.iload_n 0, 1) := by decide +kernel
theorem dX12_nameOf_4 : decode cX12_nameOf 4 = .ok (.invokestatic 219, 3) := by decide +kernel
theorem dX12_nameOf_7 : decode cX12_nameOf 7 = .ok (.imul, 1) := by decide +kernel
theorem dX12_nameOf_8 : decode cX12_nameOf 8 = .ok (.iload_n 0, 1) := by decide +kernel
theorem dX12_nameOf_9 : decode cX12_nameOf 9 = .ok (.invokestatic 223, 3) := by decide +kernel
theorem dX12_nameOf_12 : decode cX12_nameOf 12 = .ok (.iadd, 1) := by decide +kernel
theorem dX12_nameOf_13 : decode cX12_nameOf 13 = .ok (.ireturn, 1) := by decide +kernel
theorem cd_nameOf : Cond.code yX12_nameOf cX12_nameOf 1 (some .int) ∈ lw_g := mt_at 2084 (by decide +kernel) rfl
theorem mw_nameOf : mCw 303 yX12_nameOf cX12_nameOf 1 (some .int) 1 := ⟨cd_nameOf, mt_at 2082 (by decide +kernel) rfl, in_M, by decide +kernel⟩
theorem st_nameOf : Cond.static yX12_nameOf ∈ lw_g := mt_at 2083 (by decide +kernel) rfl
section
variable {p : Program} {l : Launch} {e : Env} {R : Room} {s : State} {m : MethodId} {args : Array Value} {below : List Frame} {meth : Method} {c : Code} {cM : ClassId} {iS : Nat → Nat} {cI cZ : ClassId} {mo : Nat} {ad : Nat → Nat} {r : Int32}
noncomputable def fm_nameOf (v0 : Int32) : Option (Int32) :=
bd (fm_nodeOf v0) fun r1 =>
bd (fm_numberOf v0) fun r2 =>
some (((1000 : Int32) * r1) + r2)
set_option maxRecDepth 100000 in
set_option maxHeartbeats 4000000 in
theorem tm_nameOf (l : Launch) {v0 : Int32} {r : Int32} (h : fm_nameOf v0 = some r) : Met l yX12_nameOf (Cond.code yX12_nameOf cX12_nameOf 1 (some .int) :: lw_g) { frames := 1, cells := 0, slots := 0, locals := 20 } (mPs [.int v0]) (mQi r) 0 0 (mNo) := by
  refine Met.ofW (cc := cX12_nameOf) (maxL := 1) (ret := (some .int)) (by decide) rfl ?_
  intro p e s m args below meth c s₁ B hml hv
  obtain rfl := hv
  have C : mY p (headSpec (Cond.code yX12_nameOf cX12_nameOf 1 (some .int) :: lw_g) { frames := 1, cells := 0, slots := 0, locals := 20 }).room s m _ meth c cX12_nameOf 1 1 20 (some .int) := ⟨B.exec, B.bytes, hml, findClass_of_methodNamed B.named, fun w hw => atoms_spec (ws := Cond.code yX12_nameOf cX12_nameOf 1 (some .int) :: lw_g) B.pre w (List.mem_cons_of_mem _ hw), ⟨Nat.le_refl _, Nat.le_refl _⟩, B.returns, B.notSynchronized⟩
  have hl := lv_entry ([.int v0]) (n := 1) (Nat.le_of_ble_eq_true rfl)
  rw [lg_entry_eq]
  generalize (lg_sl ([.int v0]) ++ List.replicate (1 - (lg_sl ([.int v0])).length) Slot.unset).toArray = ls at hl ⊢
  have hl : lv_has ls 1 [(0, .int v0)] := hl
  unfold fm_nameOf at h
  refine lv_sipush (v := 1000) C.1 C.2.1 dX12_nameOf_0 (by decide) ?_
  refine lv_iload_n C.1 C.2.1 dX12_nameOf_3 rfl (lv_at hl 0 rfl) ?_
  obtain ⟨r1, h_r1, h⟩ := bd_ok h
  refine m_callS (rest := [.int (1000 : Int32)]) C hl.1 [.int v0] (tm_nodeOf l h_r1) mw_nodeOf st_nodeOf rfl ⟨by decide, by decide⟩ rfl (Nat.le_of_ble_eq_true rfl) dX12_nameOf_4 ?_
  refine lv_imul C.1 C.2.1 dX12_nameOf_7 ?_
  refine lv_iload_n C.1 C.2.1 dX12_nameOf_8 rfl (lv_at hl 0 rfl) ?_
  obtain ⟨r2, h_r2, h⟩ := bd_ok h
  refine m_callS (rest := [.int ((1000 : Int32) * r1)]) C hl.1 [.int v0] (tm_numberOf l h_r2) mw_numberOf st_numberOf rfl ⟨by decide, by decide⟩ rfl (Nat.le_of_ble_eq_true rfl) dX12_nameOf_9 ?_
  refine lv_iadd C.1 C.2.1 dX12_nameOf_12 ?_
  cases h
  exact m_reti C rfl rfl dX12_nameOf_13
end
theorem dX12_rowOf_0 : decode cX12_rowOf 0 = .ok (.iload_n 0, 1) := by decide +kernel
theorem dX12_rowOf_1 : decode cX12_rowOf 1 = .ok (.sipush 1000, 3) := by decide +kernel
theorem dX12_rowOf_4 : decode cX12_rowOf 4 = .ok (.idiv, 1) := by decide +kernel
theorem dX12_rowOf_5 : decode cX12_rowOf 5 = .ok (.istore_n 1, 1) := by decide +kernel
theorem dX12_rowOf_6 : decode cX12_rowOf 6 = .ok (.iload_n 0, 1) := by decide +kernel
theorem dX12_rowOf_7 : decode cX12_rowOf 7 = .ok (.sipush 1000, 3) := by decide +kernel
theorem dX12_rowOf_10 : decode cX12_rowOf 10 = .ok (.irem, 1) := by decide +kernel
theorem dX12_rowOf_11 : decode cX12_rowOf 11 = .ok (.istore_n 2, 1) := by decide +kernel
theorem dX12_rowOf_12 : decode cX12_rowOf 12 = .ok (.iload_n 0, 1) := by decide +kernel
theorem dX12_rowOf_13 : decode cX12_rowOf 13 = .ok (.ifCond .lt 19, 3) := by decide +kernel
theorem dX12_rowOf_16 : decode cX12_rowOf 16 = .ok (.iload_n 1, 1) := by decide +kernel
theorem dX12_rowOf_17 : decode cX12_rowOf 17 = .ok (.iconst 3, 1) := by decide +kernel
theorem dX12_rowOf_18 : decode cX12_rowOf 18 = .ok (.if_icmp .gt 14, 3) := by decide +kernel
theorem dX12_rowOf_21 : decode cX12_rowOf 21 = .ok (.iload_n 2, 1) := by decide +kernel
theorem dX12_rowOf_22 : decode cX12_rowOf 22 = .ok (.iconst 1, 1) := by decide +kernel
theorem dX12_rowOf_23 : decode cX12_rowOf 23 = .ok (.sipush 250, 3) := by decide +kernel
theorem dX12_rowOf_26 : decode cX12_rowOf 26 = .ok (.invokestatic 215, 3) := by decide +kernel
theorem dX12_rowOf_29 : decode cX12_rowOf 29 = .ok (.ifCond .ne 7, 3) := by decide +kernel
theorem dX12_rowOf_32 : decode cX12_rowOf 32 = .ok (.iconst (-1), 1) := by decide +kernel
theorem dX12_rowOf_33 : decode cX12_rowOf 33 = .ok (.goto 12, 3) := by decide +kernel
theorem dX12_rowOf_36 : decode cX12_rowOf 36 = .ok (.sipush 250, 3) := by decide +kernel
theorem dX12_rowOf_39 : decode cX12_rowOf 39 = .ok (.iload_n 1, 1) := by decide +kernel
theorem dX12_rowOf_40 : decode cX12_rowOf 40 = .ok (.imul, 1) := by decide +kernel
theorem dX12_rowOf_41 : decode cX12_rowOf 41 = .ok (.iload_n 2, 1) := by decide +kernel
theorem dX12_rowOf_42 : decode cX12_rowOf 42 = .ok (.iadd, 1) := by decide +kernel
theorem dX12_rowOf_43 : decode cX12_rowOf 43 = .ok (.iconst 1, 1) := by decide +kernel
theorem dX12_rowOf_44 : decode cX12_rowOf 44 = .ok (.isub, 1) := by decide +kernel
theorem dX12_rowOf_45 : decode cX12_rowOf 45 = .ok (.ireturn, 1) := by decide +kernel
theorem cd_rowOf : Cond.code yX12_rowOf cX12_rowOf 3 (some .int) ∈ lw_g := mt_at 1976 (by decide +kernel) rfl
theorem mw_rowOf : mCw 233 yX12_rowOf cX12_rowOf 3 (some .int) 1 := ⟨cd_rowOf, mt_at 1974 (by decide +kernel) rfl, in_M, by decide +kernel⟩
theorem st_rowOf : Cond.static yX12_rowOf ∈ lw_g := mt_at 1975 (by decide +kernel) rfl
section
variable {p : Program} {l : Launch} {e : Env} {R : Room} {s : State} {m : MethodId} {args : Array Value} {below : List Frame} {meth : Method} {c : Code} {cM : ClassId} {iS : Nat → Nat} {cI cZ : ClassId} {mo : Nat} {ad : Nat → Nat} {r : Int32}
noncomputable def fm_rowOf_45 (s0 : Int32) : Option (Int32) :=
some s0
set_option maxRecDepth 100000 in
set_option maxHeartbeats 4000000 in
theorem wm_rowOf_45 (C : mY p R s m args meth c cX12_rowOf 3 1 22 (some .int)) : ∀ {s0 : Int32} {ls : Array Slot}, fm_rowOf_45 s0 = some r → lv_has ls 3 [] → W p l e R s m args below meth c s.heap [] 0 0 (MQ below (mQi r) args s 0 0 mNo) (F0 m 45 ls [.int s0]) := by
  intro s0 ls h hl
  unfold fm_rowOf_45 at h
  cases h
  exact m_reti C rfl rfl dX12_rowOf_45
noncomputable def fm_rowOf_32 : Option (Int32) :=
fm_rowOf_45 (-1 : Int32)
set_option maxRecDepth 100000 in
set_option maxHeartbeats 4000000 in
theorem wm_rowOf_32 (C : mY p R s m args meth c cX12_rowOf 3 1 22 (some .int)) : ∀ {ls : Array Slot}, fm_rowOf_32 = some r → lv_has ls 3 [] → W p l e R s m args below meth c s.heap [] 0 0 (MQ below (mQi r) args s 0 0 mNo) (F0 m 32 ls []) := by
  intro ls h hl
  unfold fm_rowOf_32 at h
  refine lv_iconst (v := -1) C.1 C.2.1 dX12_rowOf_32 (by decide) ?_
  refine lv_goto (tgt := 45) C.1 C.2.1 dX12_rowOf_33 (by decide) ?_
  exact wm_rowOf_45 C h (lv_sub hl [] rfl)
noncomputable def fm_rowOf (v0 : Int32) : Option (Int32) :=
lt (v0 / (1000 : Int32)) fun x1 =>
lt (v0 - v0 / (1000 : Int32) * (1000 : Int32)) fun x2 =>
if v0 < 0 then (
fm_rowOf_32)
else (
if (3 : Int32) < x1 then (
fm_rowOf_32)
else (
bd (fm_within x2 (1 : Int32) (250 : Int32)) fun r5 =>
if r5 = 0 then (
fm_rowOf_32)
else (
fm_rowOf_45 ((((250 : Int32) * x1) + x2) - (1 : Int32)))))
set_option maxRecDepth 100000 in
set_option maxHeartbeats 4000000 in
theorem tm_rowOf (l : Launch) {v0 : Int32} {r : Int32} (h : fm_rowOf v0 = some r) : Met l yX12_rowOf (Cond.code yX12_rowOf cX12_rowOf 3 (some .int) :: lw_g) { frames := 1, cells := 0, slots := 0, locals := 22 } (mPs [.int v0]) (mQi r) 0 0 (mNo) := by
  refine Met.ofW (cc := cX12_rowOf) (maxL := 3) (ret := (some .int)) (by decide) rfl ?_
  intro p e s m args below meth c s₁ B hml hv
  obtain rfl := hv
  have C : mY p (headSpec (Cond.code yX12_rowOf cX12_rowOf 3 (some .int) :: lw_g) { frames := 1, cells := 0, slots := 0, locals := 22 }).room s m _ meth c cX12_rowOf 3 1 22 (some .int) := ⟨B.exec, B.bytes, hml, findClass_of_methodNamed B.named, fun w hw => atoms_spec (ws := Cond.code yX12_rowOf cX12_rowOf 3 (some .int) :: lw_g) B.pre w (List.mem_cons_of_mem _ hw), ⟨Nat.le_refl _, Nat.le_refl _⟩, B.returns, B.notSynchronized⟩
  have hl := lv_entry ([.int v0]) (n := 3) (Nat.le_of_ble_eq_true rfl)
  rw [lg_entry_eq]
  generalize (lg_sl ([.int v0]) ++ List.replicate (3 - (lg_sl ([.int v0])).length) Slot.unset).toArray = ls at hl ⊢
  have hl : lv_has ls 3 [(0, .int v0)] := hl
  unfold fm_rowOf at h
  refine lv_iload_n C.1 C.2.1 dX12_rowOf_0 rfl (lv_at hl 0 rfl) ?_
  refine lv_sipush (v := 1000) C.1 C.2.1 dX12_rowOf_1 (by decide) ?_
  refine lv_idiv C.1 C.2.1 dX12_rowOf_4 (by decide) ?_
  refine lt_ok h (fun x1 e_x1 h => ?_)
  refine lv_nm e_x1 ?_
  refine lv_istore_n (lv' := [(1, .int x1), (0, .int v0)]) C.1 C.2.1 dX12_rowOf_5 rfl hl (by decide) rfl (fun ls hl => ?_)
  refine lv_iload_n C.1 C.2.1 dX12_rowOf_6 rfl (lv_at hl 1 rfl) ?_
  refine lv_sipush (v := 1000) C.1 C.2.1 dX12_rowOf_7 (by decide) ?_
  refine lv_irem C.1 C.2.1 dX12_rowOf_10 (by decide) ?_
  refine lt_ok h (fun x2 e_x2 h => ?_)
  refine lv_nm e_x2 ?_
  refine lv_istore_n (lv' := [(2, .int x2), (1, .int x1), (0, .int v0)]) C.1 C.2.1 dX12_rowOf_11 rfl hl (by decide) rfl (fun ls hl => ?_)
  refine lv_iload_n C.1 C.2.1 dX12_rowOf_12 rfl (lv_at hl 2 rfl) ?_
  refine lv_if_lt (tgt := 32) C.1 C.2.1 dX12_rowOf_13 (by decide) (fun c3 => ?_) (fun c3 => ?_)
  · have h := if_t h c3
    exact wm_rowOf_32 C h (lv_sub hl [] rfl)
  · have h := if_f h c3
    refine lv_iload_n C.1 C.2.1 dX12_rowOf_16 rfl (lv_at hl 1 rfl) ?_
    refine lv_iconst (v := 3) C.1 C.2.1 dX12_rowOf_17 (by decide) ?_
    refine lv_icmp_gt (tgt := 32) C.1 C.2.1 dX12_rowOf_18 (by decide) (fun c4 => ?_) (fun c4 => ?_)
    · have h := if_t h c4
      exact wm_rowOf_32 C h (lv_sub hl [] rfl)
    · have h := if_f h c4
      refine lv_iload_n C.1 C.2.1 dX12_rowOf_21 rfl (lv_at hl 0 rfl) ?_
      refine lv_iconst (v := 1) C.1 C.2.1 dX12_rowOf_22 (by decide) ?_
      refine lv_sipush (v := 250) C.1 C.2.1 dX12_rowOf_23 (by decide) ?_
      obtain ⟨r5, h_r5, h⟩ := bd_ok h
      refine m_callS (rest := []) C hl.1 [.int x2, .int (1 : Int32), .int (250 : Int32)] (tm_within l h_r5) mw_within st_within rfl ⟨by decide, by decide⟩ rfl (Nat.le_of_ble_eq_true rfl) dX12_rowOf_26 ?_
      refine lv_if_ne (tgt := 36) C.1 C.2.1 dX12_rowOf_29 (by decide) (fun c6 => ?_) (fun c6 => ?_)
      · have h := if_f h c6
        refine lv_sipush (v := 250) C.1 C.2.1 dX12_rowOf_36 (by decide) ?_
        refine lv_iload_n C.1 C.2.1 dX12_rowOf_39 rfl (lv_at hl 1 rfl) ?_
        refine lv_imul C.1 C.2.1 dX12_rowOf_40 ?_
        refine lv_iload_n C.1 C.2.1 dX12_rowOf_41 rfl (lv_at hl 0 rfl) ?_
        refine lv_iadd C.1 C.2.1 dX12_rowOf_42 ?_
        refine lv_iconst (v := 1) C.1 C.2.1 dX12_rowOf_43 (by decide) ?_
        refine lv_isub C.1 C.2.1 dX12_rowOf_44 ?_
        exact wm_rowOf_45 C h (lv_sub hl [] rfl)
      · have h := if_t h c6
        exact wm_rowOf_32 C h (lv_sub hl [] rfl)
end
theorem dX12_isBefore_0 : decode cX12_isBefore 0 = .ok (.aload_n 0, 1) := by decide +kernel
theorem dX12_isBefore_1 : decode cX12_isBefore 1 = .ok (.getfield 44, 3) := by decide +kernel
theorem dX12_isBefore_4 : decode cX12_isBefore 4 = .ok (.iload_n 1, 1) := by decide +kernel
theorem dX12_isBefore_5 : decode cX12_isBefore 5 = .ok (.iaload, 1) := by decide +kernel
theorem dX12_isBefore_6 : decode cX12_isBefore 6 = .ok (.aload_n 0, 1) := by decide +kernel
theorem dX12_isBefore_7 : decode cX12_isBefore 7 = .ok (.getfield 44, 3) := by decide +kernel
theorem dX12_isBefore_10 : decode cX12_isBefore 10 = .ok (.iload_n 2, 1) := by decide +kernel
theorem dX12_isBefore_11 : decode cX12_isBefore 11 = .ok (.iaload, 1) := by decide +kernel
theorem dX12_isBefore_12 : decode cX12_isBefore 12 = .ok (.if_icmp .eq 26, 3) := by decide +kernel
theorem dX12_isBefore_15 : decode cX12_isBefore 15 = .ok (.aload_n 0, 1) := by decide +kernel
theorem dX12_isBefore_16 : decode cX12_isBefore 16 = .ok (.getfield 44, 3) := by decide +kernel
theorem dX12_isBefore_19 : decode cX12_isBefore 19 = .ok (.iload_n 1, 1) := by decide +kernel
theorem dX12_isBefore_20 : decode cX12_isBefore 20 = .ok (.iaload, 1) := by decide +kernel
theorem dX12_isBefore_21 : decode cX12_isBefore 21 = .ok (.aload_n 0, 1) := by decide +kernel
theorem dX12_isBefore_22 : decode cX12_isBefore 22 = .ok (.getfield 44, 3) := by decide +kernel
theorem dX12_isBefore_25 : decode cX12_isBefore 25 = .ok (.iload_n 2, 1) := by decide +kernel
theorem dX12_isBefore_26 : decode cX12_isBefore 26 = .ok (.iaload, 1) := by decide +kernel
theorem dX12_isBefore_27 : decode cX12_isBefore 27 = .ok (.if_icmp .ge 7, 3) := by decide +kernel
theorem dX12_isBefore_30 : decode cX12_isBefore 30 = .ok (.iconst 1, 1) := by decide +kernel
theorem dX12_isBefore_31 : decode cX12_isBefore 31 = .ok (.goto 61, 3) := by decide +kernel
theorem dX12_isBefore_34 : decode cX12_isBefore 34 = .ok (.iconst 0, 1) := by decide +kernel
theorem dX12_isBefore_35 : decode cX12_isBefore 35 = .ok (.goto 57, 3) := by decide +kernel
theorem dX12_isBefore_38 : decode cX12_isBefore 38 = .ok (.aload_n 0, 1) := by decide +kernel
theorem dX12_isBefore_39 : decode cX12_isBefore 39 = .ok (.getfield 47, 3) := by decide +kernel
theorem dX12_isBefore_42 : decode cX12_isBefore 42 = .ok (.iload_n 1, 1) := by decide +kernel
theorem dX12_isBefore_43 : decode cX12_isBefore 43 = .ok (.iaload, 1) := by decide +kernel
theorem dX12_isBefore_44 : decode cX12_isBefore 44 = .ok (.aload_n 0, 1) := by decide +kernel
theorem dX12_isBefore_45 : decode cX12_isBefore 45 = .ok (.getfield 47, 3) := by decide +kernel
theorem dX12_isBefore_48 : decode cX12_isBefore 48 = .ok (.iload_n 2, 1) := by decide +kernel
theorem dX12_isBefore_49 : decode cX12_isBefore 49 = .ok (.iaload, 1) := by decide +kernel
theorem dX12_isBefore_50 : decode cX12_isBefore 50 = .ok (.if_icmp .eq 26, 3) := by decide +kernel
theorem dX12_isBefore_53 : decode cX12_isBefore 53 = .ok (.aload_n 0, 1) := by decide +kernel
theorem dX12_isBefore_54 : decode cX12_isBefore 54 = .ok (.getfield 47, 3) := by decide +kernel
theorem dX12_isBefore_57 : decode cX12_isBefore 57 = .ok (.iload_n 1, 1) := by decide +kernel
theorem dX12_isBefore_58 : decode cX12_isBefore 58 = .ok (.iaload, 1) := by decide +kernel
theorem dX12_isBefore_59 : decode cX12_isBefore 59 = .ok (.aload_n 0, 1) := by decide +kernel
theorem dX12_isBefore_60 : decode cX12_isBefore 60 = .ok (.getfield 47, 3) := by decide +kernel
theorem dX12_isBefore_63 : decode cX12_isBefore 63 = .ok (.iload_n 2, 1) := by decide +kernel
theorem dX12_isBefore_64 : decode cX12_isBefore 64 = .ok (.iaload, 1) := by decide +kernel
theorem dX12_isBefore_65 : decode cX12_isBefore 65 = .ok (.if_icmp .ge 7, 3) := by decide +kernel
theorem dX12_isBefore_68 : decode cX12_isBefore 68 = .ok (.iconst 1, 1) := by decide +kernel
theorem dX12_isBefore_69 : decode cX12_isBefore 69 = .ok (.goto 23, 3) := by decide +kernel
theorem dX12_isBefore_72 : decode cX12_isBefore 72 = .ok (.iconst 0, 1) := by decide +kernel
theorem dX12_isBefore_73 : decode cX12_isBefore 73 = .ok (.goto 19, 3) := by decide +kernel
theorem dX12_isBefore_76 : decode cX12_isBefore 76 = .ok (.iload_n 1, 1) := by decide +kernel
theorem dX12_isBefore_77 : decode cX12_isBefore 77 = .ok (.invokestatic 219, 3) := by decide +kernel
theorem dX12_isBefore_80 : decode cX12_isBefore 80 = .ok (.iload_n 2, 1) := by decide +kernel
theorem dX12_isBefore_81 : decode cX12_isBefore 81 = .ok (.invokestatic 219, 3) := by decide +kernel
theorem dX12_isBefore_84 : decode cX12_isBefore 84 = .ok (.if_icmp .ge 7, 3) := by decide +kernel
theorem dX12_isBefore_87 : decode cX12_isBefore 87 = .ok (.iconst 1, 1) := by decide +kernel
theorem dX12_isBefore_88 : decode cX12_isBefore 88 = .ok (.goto 4, 3) := by decide +kernel
theorem dX12_isBefore_91 : decode cX12_isBefore 91 = .ok (.iconst 0, 1) := by decide +kernel
theorem dX12_isBefore_92 : decode cX12_isBefore 92 = .ok (.ireturn, 1) := by decide +kernel
theorem cd_isBefore : Cond.code yX12_isBefore cX12_isBefore 3 (some .boolean) ∈ lw_g := mt_at 2041 (by decide +kernel) rfl
theorem mw_isBefore : mCw 285 yX12_isBefore cX12_isBefore 3 (some .boolean) 2 := ⟨cd_isBefore, mt_at 2038 (by decide +kernel) rfl, in_M, by decide +kernel⟩
theorem im_isBefore : Cond.instanceMethod yX12_isBefore ∈ lw_g := mt_at 2040 (by decide +kernel) rfl
theorem sl_isBefore : Cond.selects RX12 yX12_isBefore yX12_isBefore ∈ lw_g := mt_sel 57 (by decide +kernel) rfl
section
variable {p : Program} {l : Launch} {e : Env} {R : Room} {s : State} {m : MethodId} {args : Array Value} {below : List Frame} {meth : Method} {c : Code} {cM : ClassId} {iS : Nat → Nat} {cI cZ : ClassId} {mo : Nat} {ad : Nat → Nat} {S : mSt} {r : Int32}
noncomputable def fm_isBefore_92 (S : mSt) (s0 : Int32) : Option (Int32) :=
ckz s0 (some s0)
set_option maxRecDepth 100000 in
set_option maxHeartbeats 4000000 in
theorem wm_isBefore_92 (C : mY p R s m args meth c cX12_isBefore 3 1 20 (some .boolean)) (X : mX s cM iS cI cZ mo ad) (hW : mW cM iS cI cZ mo ad S s.heap) : ∀ {s0 : Int32} {ls : Array Slot}, fm_isBefore_92 S s0 = some r → lv_has ls 3 [] → W p l e R s m args below meth c s.heap [] 0 0 (MQ below (mQi r) args s 0 0 mNo) (F0 m 92 ls [.int s0]) := by
  intro s0 ls h hl
  unfold fm_isBefore_92 at h
  obtain ⟨hzo, h⟩ := ckz_ok h
  cases h
  exact m_retz C hzo rfl rfl dX12_isBefore_92
noncomputable def fm_isBefore (S : mSt) (v1 : Int32) (v2 : Int32) : Option (Int32) :=
ck v1 1000 (
ck v2 1000 (
if (rd S 14 v1) = (rd S 14 v2) then (
ck v1 1000 (
ck v2 1000 (
if (rd S 15 v1) = (rd S 15 v2) then (
bd (fm_nodeOf v1) fun r3 =>
bd (fm_nodeOf v2) fun r4 =>
if r4 ≤ r3 then (
fm_isBefore_92 S (0 : Int32))
else (
fm_isBefore_92 S (1 : Int32)))
else (
ck v1 1000 (
ck v2 1000 (
if (rd S 15 v2) ≤ (rd S 15 v1) then (
fm_isBefore_92 S (0 : Int32))
else (
fm_isBefore_92 S (1 : Int32))))))))
else (
ck v1 1000 (
ck v2 1000 (
if (rd S 14 v2) ≤ (rd S 14 v1) then (
fm_isBefore_92 S (0 : Int32))
else (
fm_isBefore_92 S (1 : Int32)))))))
set_option maxRecDepth 100000 in
set_option maxHeartbeats 4000000 in
theorem tm_isBefore (l : Launch) {cM : ClassId} {iS : Nat → Nat} {cI cZ : ClassId} {mo : Nat} {ad : Nat → Nat} {S : mSt} {v1 : Int32} {v2 : Int32} {r : Int32} (h : fm_isBefore S v1 v2 = some r) : Met l yX12_isBefore (Cond.code yX12_isBefore cX12_isBefore 3 (some .boolean) :: lw_g) { frames := 1, cells := 0, slots := 0, locals := 20 } (mPi [.int v1, .int v2] cM iS cI cZ mo ad S) (mQi r) 0 0 (mNo) := by
  refine Met.ofW (cc := cX12_isBefore) (maxL := 3) (ret := (some .boolean)) (by decide) rfl ?_
  intro p e s m args below meth c s₁ B hml hv
  obtain ⟨rfl, hW, X⟩ := hv
  have C : mY p (headSpec (Cond.code yX12_isBefore cX12_isBefore 3 (some .boolean) :: lw_g) { frames := 1, cells := 0, slots := 0, locals := 20 }).room s m _ meth c cX12_isBefore 3 1 20 (some .boolean) := ⟨B.exec, B.bytes, hml, findClass_of_methodNamed B.named, fun w hw => atoms_spec (ws := Cond.code yX12_isBefore cX12_isBefore 3 (some .boolean) :: lw_g) B.pre w (List.mem_cons_of_mem _ hw), ⟨Nat.le_refl _, Nat.le_refl _⟩, B.returns, B.notSynchronized⟩
  have hl := lv_entry ([.ref mo, .int v1, .int v2]) (n := 3) (Nat.le_of_ble_eq_true rfl)
  rw [lg_entry_eq]
  generalize (lg_sl ([.ref mo, .int v1, .int v2]) ++ List.replicate (3 - (lg_sl ([.ref mo, .int v1, .int v2])).length) Slot.unset).toArray = ls at hl ⊢
  have hl : lv_has ls 3 [(0, .ref mo), (1, .int v1), (2, .int v2)] := hl
  unfold fm_isBefore at h
  refine lv_aload_n C.1 C.2.1 dX12_isBefore_0 rfl (lv_at hl 0 rfl) ?_
  refine gf_14 C X hW dX12_isBefore_1 ?_
  refine lv_iload_n C.1 C.2.1 dX12_isBefore_4 rfl (lv_at hl 1 rfl) ?_
  obtain ⟨hin, h⟩ := ck_ok h
  refine l_14 C X hW hin dX12_isBefore_5 ?_
  refine lv_aload_n C.1 C.2.1 dX12_isBefore_6 rfl (lv_at hl 0 rfl) ?_
  refine gf_14 C X hW dX12_isBefore_7 ?_
  refine lv_iload_n C.1 C.2.1 dX12_isBefore_10 rfl (lv_at hl 2 rfl) ?_
  obtain ⟨hin, h⟩ := ck_ok h
  refine l_14 C X hW hin dX12_isBefore_11 ?_
  refine lv_icmp_eq (tgt := 38) C.1 C.2.1 dX12_isBefore_12 (by decide) (fun c1 => ?_) (fun c1 => ?_)
  · have h := if_t h c1
    refine lv_aload_n C.1 C.2.1 dX12_isBefore_38 rfl (lv_at hl 0 rfl) ?_
    refine gf_15 C X hW dX12_isBefore_39 ?_
    refine lv_iload_n C.1 C.2.1 dX12_isBefore_42 rfl (lv_at hl 1 rfl) ?_
    obtain ⟨hin, h⟩ := ck_ok h
    refine l_15 C X hW hin dX12_isBefore_43 ?_
    refine lv_aload_n C.1 C.2.1 dX12_isBefore_44 rfl (lv_at hl 0 rfl) ?_
    refine gf_15 C X hW dX12_isBefore_45 ?_
    refine lv_iload_n C.1 C.2.1 dX12_isBefore_48 rfl (lv_at hl 2 rfl) ?_
    obtain ⟨hin, h⟩ := ck_ok h
    refine l_15 C X hW hin dX12_isBefore_49 ?_
    refine lv_icmp_eq (tgt := 76) C.1 C.2.1 dX12_isBefore_50 (by decide) (fun c2 => ?_) (fun c2 => ?_)
    · have h := if_t h c2
      refine lv_iload_n C.1 C.2.1 dX12_isBefore_76 rfl (lv_at hl 1 rfl) ?_
      obtain ⟨r3, h_r3, h⟩ := bd_ok h
      refine m_callS (rest := []) C hl.1 [.int v1] (tm_nodeOf l h_r3) mw_nodeOf st_nodeOf rfl ⟨by decide, by decide⟩ rfl (Nat.le_of_ble_eq_true rfl) dX12_isBefore_77 ?_
      refine lv_iload_n C.1 C.2.1 dX12_isBefore_80 rfl (lv_at hl 2 rfl) ?_
      obtain ⟨r4, h_r4, h⟩ := bd_ok h
      refine m_callS (rest := [.int r3]) C hl.1 [.int v2] (tm_nodeOf l h_r4) mw_nodeOf st_nodeOf rfl ⟨by decide, by decide⟩ rfl (Nat.le_of_ble_eq_true rfl) dX12_isBefore_81 ?_
      refine lv_icmp_ge (tgt := 91) C.1 C.2.1 dX12_isBefore_84 (by decide) (fun c5 => ?_) (fun c5 => ?_)
      · have h := if_t h c5
        refine lv_iconst (v := 0) C.1 C.2.1 dX12_isBefore_91 (by decide) ?_
        exact wm_isBefore_92 C X hW h (lv_sub hl [] rfl)
      · have h := if_f h c5
        refine lv_iconst (v := 1) C.1 C.2.1 dX12_isBefore_87 (by decide) ?_
        refine lv_goto (tgt := 92) C.1 C.2.1 dX12_isBefore_88 (by decide) ?_
        exact wm_isBefore_92 C X hW h (lv_sub hl [] rfl)
    · have h := if_f h c2
      refine lv_aload_n C.1 C.2.1 dX12_isBefore_53 rfl (lv_at hl 0 rfl) ?_
      refine gf_15 C X hW dX12_isBefore_54 ?_
      refine lv_iload_n C.1 C.2.1 dX12_isBefore_57 rfl (lv_at hl 1 rfl) ?_
      obtain ⟨hin, h⟩ := ck_ok h
      refine l_15 C X hW hin dX12_isBefore_58 ?_
      refine lv_aload_n C.1 C.2.1 dX12_isBefore_59 rfl (lv_at hl 0 rfl) ?_
      refine gf_15 C X hW dX12_isBefore_60 ?_
      refine lv_iload_n C.1 C.2.1 dX12_isBefore_63 rfl (lv_at hl 2 rfl) ?_
      obtain ⟨hin, h⟩ := ck_ok h
      refine l_15 C X hW hin dX12_isBefore_64 ?_
      refine lv_icmp_ge (tgt := 72) C.1 C.2.1 dX12_isBefore_65 (by decide) (fun c6 => ?_) (fun c6 => ?_)
      · have h := if_t h c6
        refine lv_iconst (v := 0) C.1 C.2.1 dX12_isBefore_72 (by decide) ?_
        refine lv_goto (tgt := 92) C.1 C.2.1 dX12_isBefore_73 (by decide) ?_
        exact wm_isBefore_92 C X hW h (lv_sub hl [] rfl)
      · have h := if_f h c6
        refine lv_iconst (v := 1) C.1 C.2.1 dX12_isBefore_68 (by decide) ?_
        refine lv_goto (tgt := 92) C.1 C.2.1 dX12_isBefore_69 (by decide) ?_
        exact wm_isBefore_92 C X hW h (lv_sub hl [] rfl)
  · have h := if_f h c1
    refine lv_aload_n C.1 C.2.1 dX12_isBefore_15 rfl (lv_at hl 0 rfl) ?_
    refine gf_14 C X hW dX12_isBefore_16 ?_
    refine lv_iload_n C.1 C.2.1 dX12_isBefore_19 rfl (lv_at hl 1 rfl) ?_
    obtain ⟨hin, h⟩ := ck_ok h
    refine l_14 C X hW hin dX12_isBefore_20 ?_
    refine lv_aload_n C.1 C.2.1 dX12_isBefore_21 rfl (lv_at hl 0 rfl) ?_
    refine gf_14 C X hW dX12_isBefore_22 ?_
    refine lv_iload_n C.1 C.2.1 dX12_isBefore_25 rfl (lv_at hl 2 rfl) ?_
    obtain ⟨hin, h⟩ := ck_ok h
    refine l_14 C X hW hin dX12_isBefore_26 ?_
    refine lv_icmp_ge (tgt := 34) C.1 C.2.1 dX12_isBefore_27 (by decide) (fun c7 => ?_) (fun c7 => ?_)
    · have h := if_t h c7
      refine lv_iconst (v := 0) C.1 C.2.1 dX12_isBefore_34 (by decide) ?_
      refine lv_goto (tgt := 92) C.1 C.2.1 dX12_isBefore_35 (by decide) ?_
      exact wm_isBefore_92 C X hW h (lv_sub hl [] rfl)
    · have h := if_f h c7
      refine lv_iconst (v := 1) C.1 C.2.1 dX12_isBefore_30 (by decide) ?_
      refine lv_goto (tgt := 92) C.1 C.2.1 dX12_isBefore_31 (by decide) ?_
      exact wm_isBefore_92 C X hW h (lv_sub hl [] rfl)
end
theorem dX12_knew_0 : decode cX12_knew 0 = .ok (.aload_n 0, 1) := by decide +kernel
theorem dX12_knew_1 : decode cX12_knew 1 = .ok (.getfield 50, 3) := by decide +kernel
theorem dX12_knew_4 : decode cX12_knew 4 = .ok (.iconst 4, 1) := by decide +kernel
theorem dX12_knew_5 : decode cX12_knew 5 = .ok (.iload_n 1, 1) := by decide +kernel
theorem dX12_knew_6 : decode cX12_knew 6 = .ok (.imul, 1) := by decide +kernel
theorem dX12_knew_7 : decode cX12_knew 7 = .ok (.iload_n 2, 1) := by decide +kernel
theorem dX12_knew_8 : decode cX12_knew 8 = .ok (.invokestatic 219, 3) := by decide +kernel
theorem dX12_knew_11 : decode cX12_knew 11 = .ok (.iadd, 1) := by decide +kernel
theorem dX12_knew_12 : decode cX12_knew 12 = .ok (.iaload, 1) := by decide +kernel
theorem dX12_knew_13 : decode cX12_knew 13 = .ok (.iload_n 2, 1) := by decide +kernel
theorem dX12_knew_14 : decode cX12_knew 14 = .ok (.invokestatic 223, 3) := by decide +kernel
theorem dX12_knew_17 : decode cX12_knew 17 = .ok (.if_icmp .lt 7, 3) := by decide +kernel
theorem dX12_knew_20 : decode cX12_knew 20 = .ok (.iconst 1, 1) := by decide +kernel
theorem dX12_knew_21 : decode cX12_knew 21 = .ok (.goto 4, 3) := by decide +kernel
theorem dX12_knew_24 : decode cX12_knew 24 = .ok (.iconst 0, 1) := by decide +kernel
theorem dX12_knew_25 : decode cX12_knew 25 = .ok (.ireturn, 1) := by decide +kernel
theorem cd_knew : Cond.code yX12_knew cX12_knew 3 (some .boolean) ∈ lw_g := mt_at 2053 (by decide +kernel) rfl
theorem mw_knew : mCw 291 yX12_knew cX12_knew 3 (some .boolean) 2 := ⟨cd_knew, mt_at 2050 (by decide +kernel) rfl, in_M, by decide +kernel⟩
theorem im_knew : Cond.instanceMethod yX12_knew ∈ lw_g := mt_at 2052 (by decide +kernel) rfl
theorem sl_knew : Cond.selects RX12 yX12_knew yX12_knew ∈ lw_g := mt_sel 60 (by decide +kernel) rfl
section
variable {p : Program} {l : Launch} {e : Env} {R : Room} {s : State} {m : MethodId} {args : Array Value} {below : List Frame} {meth : Method} {c : Code} {cM : ClassId} {iS : Nat → Nat} {cI cZ : ClassId} {mo : Nat} {ad : Nat → Nat} {S : mSt} {r : Int32}
noncomputable def fm_knew_25 (S : mSt) (s0 : Int32) : Option (Int32) :=
ckz s0 (some s0)
set_option maxRecDepth 100000 in
set_option maxHeartbeats 4000000 in
theorem wm_knew_25 (C : mY p R s m args meth c cX12_knew 3 1 20 (some .boolean)) (X : mX s cM iS cI cZ mo ad) (hW : mW cM iS cI cZ mo ad S s.heap) : ∀ {s0 : Int32} {ls : Array Slot}, fm_knew_25 S s0 = some r → lv_has ls 3 [] → W p l e R s m args below meth c s.heap [] 0 0 (MQ below (mQi r) args s 0 0 mNo) (F0 m 25 ls [.int s0]) := by
  intro s0 ls h hl
  unfold fm_knew_25 at h
  obtain ⟨hzo, h⟩ := ckz_ok h
  cases h
  exact m_retz C hzo rfl rfl dX12_knew_25
noncomputable def fm_knew (S : mSt) (v1 : Int32) (v2 : Int32) : Option (Int32) :=
bd (fm_nodeOf v2) fun r1 =>
ck (((4 : Int32) * v1) + r1) 4000 (
bd (fm_numberOf v2) fun r2 =>
if (rd S 16 (((4 : Int32) * v1) + r1)) < r2 then (
fm_knew_25 S (0 : Int32))
else (
fm_knew_25 S (1 : Int32)))
set_option maxRecDepth 100000 in
set_option maxHeartbeats 4000000 in
theorem tm_knew (l : Launch) {cM : ClassId} {iS : Nat → Nat} {cI cZ : ClassId} {mo : Nat} {ad : Nat → Nat} {S : mSt} {v1 : Int32} {v2 : Int32} {r : Int32} (h : fm_knew S v1 v2 = some r) : Met l yX12_knew (Cond.code yX12_knew cX12_knew 3 (some .boolean) :: lw_g) { frames := 1, cells := 0, slots := 0, locals := 20 } (mPi [.int v1, .int v2] cM iS cI cZ mo ad S) (mQi r) 0 0 (mNo) := by
  refine Met.ofW (cc := cX12_knew) (maxL := 3) (ret := (some .boolean)) (by decide) rfl ?_
  intro p e s m args below meth c s₁ B hml hv
  obtain ⟨rfl, hW, X⟩ := hv
  have C : mY p (headSpec (Cond.code yX12_knew cX12_knew 3 (some .boolean) :: lw_g) { frames := 1, cells := 0, slots := 0, locals := 20 }).room s m _ meth c cX12_knew 3 1 20 (some .boolean) := ⟨B.exec, B.bytes, hml, findClass_of_methodNamed B.named, fun w hw => atoms_spec (ws := Cond.code yX12_knew cX12_knew 3 (some .boolean) :: lw_g) B.pre w (List.mem_cons_of_mem _ hw), ⟨Nat.le_refl _, Nat.le_refl _⟩, B.returns, B.notSynchronized⟩
  have hl := lv_entry ([.ref mo, .int v1, .int v2]) (n := 3) (Nat.le_of_ble_eq_true rfl)
  rw [lg_entry_eq]
  generalize (lg_sl ([.ref mo, .int v1, .int v2]) ++ List.replicate (3 - (lg_sl ([.ref mo, .int v1, .int v2])).length) Slot.unset).toArray = ls at hl ⊢
  have hl : lv_has ls 3 [(0, .ref mo), (1, .int v1), (2, .int v2)] := hl
  unfold fm_knew at h
  refine lv_aload_n C.1 C.2.1 dX12_knew_0 rfl (lv_at hl 0 rfl) ?_
  refine gf_16 C X hW dX12_knew_1 ?_
  refine lv_iconst (v := 4) C.1 C.2.1 dX12_knew_4 (by decide) ?_
  refine lv_iload_n C.1 C.2.1 dX12_knew_5 rfl (lv_at hl 1 rfl) ?_
  refine lv_imul C.1 C.2.1 dX12_knew_6 ?_
  refine lv_iload_n C.1 C.2.1 dX12_knew_7 rfl (lv_at hl 2 rfl) ?_
  obtain ⟨r1, h_r1, h⟩ := bd_ok h
  refine m_callS (rest := [.int ((4 : Int32) * v1), .ref (ad 16)]) C hl.1 [.int v2] (tm_nodeOf l h_r1) mw_nodeOf st_nodeOf rfl ⟨by decide, by decide⟩ rfl (Nat.le_of_ble_eq_true rfl) dX12_knew_8 ?_
  refine lv_iadd C.1 C.2.1 dX12_knew_11 ?_
  obtain ⟨hin, h⟩ := ck_ok h
  refine l_16 C X hW hin dX12_knew_12 ?_
  refine lv_iload_n C.1 C.2.1 dX12_knew_13 rfl (lv_at hl 2 rfl) ?_
  obtain ⟨r2, h_r2, h⟩ := bd_ok h
  refine m_callS (rest := [.int (rd S 16 (((4 : Int32) * v1) + r1))]) C hl.1 [.int v2] (tm_numberOf l h_r2) mw_numberOf st_numberOf rfl ⟨by decide, by decide⟩ rfl (Nat.le_of_ble_eq_true rfl) dX12_knew_14 ?_
  refine lv_icmp_lt (tgt := 24) C.1 C.2.1 dX12_knew_17 (by decide) (fun c3 => ?_) (fun c3 => ?_)
  · have h := if_t h c3
    refine lv_iconst (v := 0) C.1 C.2.1 dX12_knew_24 (by decide) ?_
    exact wm_knew_25 C X hW h (lv_sub hl [] rfl)
  · have h := if_f h c3
    refine lv_iconst (v := 1) C.1 C.2.1 dX12_knew_20 (by decide) ?_
    refine lv_goto (tgt := 25) C.1 C.2.1 dX12_knew_21 (by decide) ?_
    exact wm_knew_25 C X hW h (lv_sub hl [] rfl)
end
theorem dX12_knownOf_0 : decode cX12_knownOf 0 = .ok (.aload_n 0, 1) := by decide +kernel
theorem dX12_knownOf_1 : decode cX12_knownOf 1 = .ok (.getfield 62, 3) := by decide +kernel
theorem dX12_knownOf_4 : decode cX12_knownOf 4 = .ok (.iconst 4, 1) := by decide +kernel
theorem dX12_knownOf_5 : decode cX12_knownOf 5 = .ok (.iload_n 1, 1) := by decide +kernel
theorem dX12_knownOf_6 : decode cX12_knownOf 6 = .ok (.imul, 1) := by decide +kernel
theorem dX12_knownOf_7 : decode cX12_knownOf 7 = .ok (.iload_n 2, 1) := by decide +kernel
theorem dX12_knownOf_8 : decode cX12_knownOf 8 = .ok (.iadd, 1) := by decide +kernel
theorem dX12_knownOf_9 : decode cX12_knownOf 9 = .ok (.iaload, 1) := by decide +kernel
theorem dX12_knownOf_10 : decode cX12_knownOf 10 = .ok (.ireturn, 1) := by decide +kernel
theorem cd_knownOf : Cond.code yX12_knownOf cX12_knownOf 3 (some .int) ∈ lw_g := mt_at 1987 (by decide +kernel) rfl
theorem mw_knownOf : mCw 226 yX12_knownOf cX12_knownOf 3 (some .int) 2 := ⟨cd_knownOf, mt_at 1984 (by decide +kernel) rfl, in_M, by decide +kernel⟩
theorem im_knownOf : Cond.instanceMethod yX12_knownOf ∈ lw_g := mt_at 1986 (by decide +kernel) rfl
theorem sl_knownOf : Cond.selects RX12 yX12_knownOf yX12_knownOf ∈ lw_g := mt_sel 45 (by decide +kernel) rfl
section
variable {p : Program} {l : Launch} {e : Env} {R : Room} {s : State} {m : MethodId} {args : Array Value} {below : List Frame} {meth : Method} {c : Code} {cM : ClassId} {iS : Nat → Nat} {cI cZ : ClassId} {mo : Nat} {ad : Nat → Nat} {S : mSt} {r : Int32}
noncomputable def fm_knownOf (S : mSt) (v1 : Int32) (v2 : Int32) : Option (Int32) :=
ck (((4 : Int32) * v1) + v2) 16 (
some (rd S 20 (((4 : Int32) * v1) + v2)))
set_option maxRecDepth 100000 in
set_option maxHeartbeats 4000000 in
theorem tm_knownOf (l : Launch) {cM : ClassId} {iS : Nat → Nat} {cI cZ : ClassId} {mo : Nat} {ad : Nat → Nat} {S : mSt} {v1 : Int32} {v2 : Int32} {r : Int32} (h : fm_knownOf S v1 v2 = some r) : Met l yX12_knownOf (Cond.code yX12_knownOf cX12_knownOf 3 (some .int) :: lw_g) { frames := 0, cells := 0, slots := 0, locals := 0 } (mPi [.int v1, .int v2] cM iS cI cZ mo ad S) (mQi r) 0 0 (mNo) := by
  refine Met.ofW (cc := cX12_knownOf) (maxL := 3) (ret := (some .int)) (by decide) rfl ?_
  intro p e s m args below meth c s₁ B hml hv
  obtain ⟨rfl, hW, X⟩ := hv
  have C : mY p (headSpec (Cond.code yX12_knownOf cX12_knownOf 3 (some .int) :: lw_g) { frames := 0, cells := 0, slots := 0, locals := 0 }).room s m _ meth c cX12_knownOf 3 0 0 (some .int) := ⟨B.exec, B.bytes, hml, findClass_of_methodNamed B.named, fun w hw => atoms_spec (ws := Cond.code yX12_knownOf cX12_knownOf 3 (some .int) :: lw_g) B.pre w (List.mem_cons_of_mem _ hw), ⟨Nat.le_refl _, Nat.le_refl _⟩, B.returns, B.notSynchronized⟩
  have hl := lv_entry ([.ref mo, .int v1, .int v2]) (n := 3) (Nat.le_of_ble_eq_true rfl)
  rw [lg_entry_eq]
  generalize (lg_sl ([.ref mo, .int v1, .int v2]) ++ List.replicate (3 - (lg_sl ([.ref mo, .int v1, .int v2])).length) Slot.unset).toArray = ls at hl ⊢
  have hl : lv_has ls 3 [(0, .ref mo), (1, .int v1), (2, .int v2)] := hl
  unfold fm_knownOf at h
  refine lv_aload_n C.1 C.2.1 dX12_knownOf_0 rfl (lv_at hl 0 rfl) ?_
  refine gf_20 C X hW dX12_knownOf_1 ?_
  refine lv_iconst (v := 4) C.1 C.2.1 dX12_knownOf_4 (by decide) ?_
  refine lv_iload_n C.1 C.2.1 dX12_knownOf_5 rfl (lv_at hl 1 rfl) ?_
  refine lv_imul C.1 C.2.1 dX12_knownOf_6 ?_
  refine lv_iload_n C.1 C.2.1 dX12_knownOf_7 rfl (lv_at hl 2 rfl) ?_
  refine lv_iadd C.1 C.2.1 dX12_knownOf_8 ?_
  obtain ⟨hin, h⟩ := ck_ok h
  refine l_20 C X hW hin dX12_knownOf_9 ?_
  cases h
  exact m_reti C rfl rfl dX12_knownOf_10
end
theorem dX12_seenOf_0 : decode cX12_seenOf 0 = .ok (.iload_n 2, 1) := by decide +kernel
theorem dX12_seenOf_1 : decode cX12_seenOf 1 = .ok (.iload_n 1, 1) := by decide +kernel
theorem dX12_seenOf_2 : decode cX12_seenOf 2 = .ok (.if_icmp .ne 12, 3) := by decide +kernel
theorem dX12_seenOf_5 : decode cX12_seenOf 5 = .ok (.aload_n 0, 1) := by decide +kernel
theorem dX12_seenOf_6 : decode cX12_seenOf 6 = .ok (.iload_n 1, 1) := by decide +kernel
theorem dX12_seenOf_7 : decode cX12_seenOf 7 = .ok (.iload_n 3, 1) := by decide +kernel
theorem dX12_seenOf_8 : decode cX12_seenOf 8 = .ok (.invokevirtual 226, 3) := by decide +kernel
theorem dX12_seenOf_11 : decode cX12_seenOf 11 = .ok (.goto 18, 3) := by decide +kernel
theorem dX12_seenOf_14 : decode cX12_seenOf 14 = .ok (.aload_n 0, 1) := by decide +kernel
theorem dX12_seenOf_15 : decode cX12_seenOf 15 = .ok (.getfield 65, 3) := by decide +kernel
theorem dX12_seenOf_18 : decode cX12_seenOf 18 = .ok (.bipush 16, 2) := by decide +kernel
theorem dX12_seenOf_20 : decode cX12_seenOf 20 = .ok (.iload_n 1, 1) := by decide +kernel
theorem dX12_seenOf_21 : decode cX12_seenOf 21 = .ok (.imul, 1) := by decide +kernel
theorem dX12_seenOf_22 : decode cX12_seenOf 22 = .ok (.iconst 4, 1) := by decide +kernel
theorem dX12_seenOf_23 : decode cX12_seenOf 23 = .ok (.iload_n 2, 1) := by decide +kernel
theorem dX12_seenOf_24 : decode cX12_seenOf 24 = .ok (.imul, 1) := by decide +kernel
theorem dX12_seenOf_25 : decode cX12_seenOf 25 = .ok (.iadd, 1) := by decide +kernel
theorem dX12_seenOf_26 : decode cX12_seenOf 26 = .ok (.iload_n 3, 1) := by decide +kernel
theorem dX12_seenOf_27 : decode cX12_seenOf 27 = .ok (.iadd, 1) := by decide +kernel
theorem dX12_seenOf_28 : decode cX12_seenOf 28 = .ok (.iaload, 1) := by decide +kernel
theorem dX12_seenOf_29 : decode cX12_seenOf 29 = .ok (.ireturn, 1) := by decide +kernel
theorem cd_seenOf : Cond.code yX12_seenOf cX12_seenOf 4 (some .int) ∈ lw_g := mt_at 2111 (by decide +kernel) rfl
theorem mw_seenOf : mCw 333 yX12_seenOf cX12_seenOf 4 (some .int) 3 := ⟨cd_seenOf, mt_at 2108 (by decide +kernel) rfl, in_M, by decide +kernel⟩
theorem im_seenOf : Cond.instanceMethod yX12_seenOf ∈ lw_g := mt_at 2110 (by decide +kernel) rfl
theorem sl_seenOf : Cond.selects RX12 yX12_seenOf yX12_seenOf ∈ lw_g := mt_sel 73 (by decide +kernel) rfl
section
variable {p : Program} {l : Launch} {e : Env} {R : Room} {s : State} {m : MethodId} {args : Array Value} {below : List Frame} {meth : Method} {c : Code} {cM : ClassId} {iS : Nat → Nat} {cI cZ : ClassId} {mo : Nat} {ad : Nat → Nat} {S : mSt} {r : Int32}
noncomputable def fm_seenOf_29 (S : mSt) (s0 : Int32) : Option (Int32) :=
some s0
set_option maxRecDepth 100000 in
set_option maxHeartbeats 4000000 in
theorem wm_seenOf_29 (C : mY p R s m args meth c cX12_seenOf 4 1 22 (some .int)) (X : mX s cM iS cI cZ mo ad) (hW : mW cM iS cI cZ mo ad S s.heap) : ∀ {s0 : Int32} {ls : Array Slot}, fm_seenOf_29 S s0 = some r → lv_has ls 4 [] → W p l e R s m args below meth c s.heap [] 0 0 (MQ below (mQi r) args s 0 0 mNo) (F0 m 29 ls [.int s0]) := by
  intro s0 ls h hl
  unfold fm_seenOf_29 at h
  cases h
  exact m_reti C rfl rfl dX12_seenOf_29
noncomputable def fm_seenOf (S : mSt) (v1 : Int32) (v2 : Int32) (v3 : Int32) : Option (Int32) :=
if v2 = v1 then (
bd (fm_knownOf S v1 v3) fun r2 =>
fm_seenOf_29 S r2)
else (
ck ((((16 : Int32) * v1) + ((4 : Int32) * v2)) + v3) 64 (
fm_seenOf_29 S (rd S 21 ((((16 : Int32) * v1) + ((4 : Int32) * v2)) + v3))))
set_option maxRecDepth 100000 in
set_option maxHeartbeats 4000000 in
theorem tm_seenOf (l : Launch) {cM : ClassId} {iS : Nat → Nat} {cI cZ : ClassId} {mo : Nat} {ad : Nat → Nat} {S : mSt} {v1 : Int32} {v2 : Int32} {v3 : Int32} {r : Int32} (h : fm_seenOf S v1 v2 v3 = some r) : Met l yX12_seenOf (Cond.code yX12_seenOf cX12_seenOf 4 (some .int) :: lw_g) { frames := 1, cells := 0, slots := 0, locals := 22 } (mPi [.int v1, .int v2, .int v3] cM iS cI cZ mo ad S) (mQi r) 0 0 (mNo) := by
  refine Met.ofW (cc := cX12_seenOf) (maxL := 4) (ret := (some .int)) (by decide) rfl ?_
  intro p e s m args below meth c s₁ B hml hv
  obtain ⟨rfl, hW, X⟩ := hv
  have C : mY p (headSpec (Cond.code yX12_seenOf cX12_seenOf 4 (some .int) :: lw_g) { frames := 1, cells := 0, slots := 0, locals := 22 }).room s m _ meth c cX12_seenOf 4 1 22 (some .int) := ⟨B.exec, B.bytes, hml, findClass_of_methodNamed B.named, fun w hw => atoms_spec (ws := Cond.code yX12_seenOf cX12_seenOf 4 (some .int) :: lw_g) B.pre w (List.mem_cons_of_mem _ hw), ⟨Nat.le_refl _, Nat.le_refl _⟩, B.returns, B.notSynchronized⟩
  have hl := lv_entry ([.ref mo, .int v1, .int v2, .int v3]) (n := 4) (Nat.le_of_ble_eq_true rfl)
  rw [lg_entry_eq]
  generalize (lg_sl ([.ref mo, .int v1, .int v2, .int v3]) ++ List.replicate (4 - (lg_sl ([.ref mo, .int v1, .int v2, .int v3])).length) Slot.unset).toArray = ls at hl ⊢
  have hl : lv_has ls 4 [(0, .ref mo), (1, .int v1), (2, .int v2), (3, .int v3)] := hl
  unfold fm_seenOf at h
  refine lv_iload_n C.1 C.2.1 dX12_seenOf_0 rfl (lv_at hl 2 rfl) ?_
  refine lv_iload_n C.1 C.2.1 dX12_seenOf_1 rfl (lv_at hl 1 rfl) ?_
  refine lv_icmp_ne (tgt := 14) C.1 C.2.1 dX12_seenOf_2 (by decide) (fun c1 => ?_) (fun c1 => ?_)
  · have h := if_f h c1
    refine lv_aload_n C.1 C.2.1 dX12_seenOf_14 rfl (lv_at hl 0 rfl) ?_
    refine gf_21 C X hW dX12_seenOf_15 ?_
    refine lv_bipush (v := 16) C.1 C.2.1 dX12_seenOf_18 (by decide) ?_
    refine lv_iload_n C.1 C.2.1 dX12_seenOf_20 rfl (lv_at hl 1 rfl) ?_
    refine lv_imul C.1 C.2.1 dX12_seenOf_21 ?_
    refine lv_iconst (v := 4) C.1 C.2.1 dX12_seenOf_22 (by decide) ?_
    refine lv_iload_n C.1 C.2.1 dX12_seenOf_23 rfl (lv_at hl 2 rfl) ?_
    refine lv_imul C.1 C.2.1 dX12_seenOf_24 ?_
    refine lv_iadd C.1 C.2.1 dX12_seenOf_25 ?_
    refine lv_iload_n C.1 C.2.1 dX12_seenOf_26 rfl (lv_at hl 3 rfl) ?_
    refine lv_iadd C.1 C.2.1 dX12_seenOf_27 ?_
    obtain ⟨hin, h⟩ := ck_ok h
    refine l_21 C X hW hin dX12_seenOf_28 ?_
    exact wm_seenOf_29 C X hW h (lv_sub hl [] rfl)
  · have h := if_t h c1
    refine lv_aload_n C.1 C.2.1 dX12_seenOf_5 rfl (lv_at hl 0 rfl) ?_
    refine lv_iload_n C.1 C.2.1 dX12_seenOf_6 rfl (lv_at hl 1 rfl) ?_
    refine lv_iload_n C.1 C.2.1 dX12_seenOf_7 rfl (lv_at hl 3 rfl) ?_
    obtain ⟨r2, h_r2, h⟩ := bd_ok h
    refine m_callR (rest := []) C X hW hl.1 [.int v1, .int v3] (tm_knownOf l h_r2) mw_knownOf im_knownOf sl_knownOf rfl ⟨by decide, by decide⟩ rfl (Nat.le_of_ble_eq_true rfl) dX12_seenOf_8 ?_
    refine lv_goto (tgt := 29) C.1 C.2.1 dX12_seenOf_11 (by decide) ?_
    exact wm_seenOf_29 C X hW h (lv_sub hl [] rfl)
end
theorem dX12_isApplied_0 : decode cX12_isApplied 0 = .ok (.iload_n 2, 1) := by decide +kernel
theorem dX12_isApplied_1 : decode cX12_isApplied 1 = .ok (.iconst (-1), 1) := by decide +kernel
theorem dX12_isApplied_2 : decode cX12_isApplied 2 = .ok (.if_icmp .eq 23, 3) := by decide +kernel
theorem dX12_isApplied_5 : decode cX12_isApplied 5 = .ok (.aload_n 0, 1) := by decide +kernel
theorem dX12_isApplied_6 : decode cX12_isApplied 6 = .ok (.iload_n 1, 1) := by decide +kernel
theorem dX12_isApplied_7 : decode cX12_isApplied 7 = .ok (.iload_n 2, 1) := by decide +kernel
theorem dX12_isApplied_8 : decode cX12_isApplied 8 = .ok (.invokestatic 219, 3) := by decide +kernel
theorem dX12_isApplied_11 : decode cX12_isApplied 11 = .ok (.invokevirtual 226, 3) := by decide +kernel
theorem dX12_isApplied_14 : decode cX12_isApplied 14 = .ok (.iload_n 2, 1) := by decide +kernel
theorem dX12_isApplied_15 : decode cX12_isApplied 15 = .ok (.invokestatic 223, 3) := by decide +kernel
theorem dX12_isApplied_18 : decode cX12_isApplied 18 = .ok (.if_icmp .lt 7, 3) := by decide +kernel
theorem dX12_isApplied_21 : decode cX12_isApplied 21 = .ok (.iconst 1, 1) := by decide +kernel
theorem dX12_isApplied_22 : decode cX12_isApplied 22 = .ok (.goto 4, 3) := by decide +kernel
theorem dX12_isApplied_25 : decode cX12_isApplied 25 = .ok (.iconst 0, 1) := by decide +kernel
theorem dX12_isApplied_26 : decode cX12_isApplied 26 = .ok (.ireturn, 1) := by decide +kernel
theorem cd_isApplied : Cond.code yX12_isApplied cX12_isApplied 3 (some .boolean) ∈ lw_g := mt_at 1980 (by decide +kernel) rfl
theorem mw_isApplied : mCw 236 yX12_isApplied cX12_isApplied 3 (some .boolean) 2 := ⟨cd_isApplied, mt_at 1977 (by decide +kernel) rfl, in_M, by decide +kernel⟩
theorem im_isApplied : Cond.instanceMethod yX12_isApplied ∈ lw_g := mt_at 1979 (by decide +kernel) rfl
theorem sl_isApplied : Cond.selects RX12 yX12_isApplied yX12_isApplied ∈ lw_g := mt_sel 44 (by decide +kernel) rfl
section
variable {p : Program} {l : Launch} {e : Env} {R : Room} {s : State} {m : MethodId} {args : Array Value} {below : List Frame} {meth : Method} {c : Code} {cM : ClassId} {iS : Nat → Nat} {cI cZ : ClassId} {mo : Nat} {ad : Nat → Nat} {S : mSt} {r : Int32}
noncomputable def fm_isApplied_26 (S : mSt) (s0 : Int32) : Option (Int32) :=
ckz s0 (some s0)
set_option maxRecDepth 100000 in
set_option maxHeartbeats 4000000 in
theorem wm_isApplied_26 (C : mY p R s m args meth c cX12_isApplied 3 1 22 (some .boolean)) (X : mX s cM iS cI cZ mo ad) (hW : mW cM iS cI cZ mo ad S s.heap) : ∀ {s0 : Int32} {ls : Array Slot}, fm_isApplied_26 S s0 = some r → lv_has ls 3 [] → W p l e R s m args below meth c s.heap [] 0 0 (MQ below (mQi r) args s 0 0 mNo) (F0 m 26 ls [.int s0]) := by
  intro s0 ls h hl
  unfold fm_isApplied_26 at h
  obtain ⟨hzo, h⟩ := ckz_ok h
  cases h
  exact m_retz C hzo rfl rfl dX12_isApplied_26
noncomputable def fm_isApplied_25 (S : mSt) : Option (Int32) :=
fm_isApplied_26 S (0 : Int32)
set_option maxRecDepth 100000 in
set_option maxHeartbeats 4000000 in
theorem wm_isApplied_25 (C : mY p R s m args meth c cX12_isApplied 3 1 22 (some .boolean)) (X : mX s cM iS cI cZ mo ad) (hW : mW cM iS cI cZ mo ad S s.heap) : ∀ {ls : Array Slot}, fm_isApplied_25 S = some r → lv_has ls 3 [] → W p l e R s m args below meth c s.heap [] 0 0 (MQ below (mQi r) args s 0 0 mNo) (F0 m 25 ls []) := by
  intro ls h hl
  unfold fm_isApplied_25 at h
  refine lv_iconst (v := 0) C.1 C.2.1 dX12_isApplied_25 (by decide) ?_
  exact wm_isApplied_26 C X hW h (lv_sub hl [] rfl)
noncomputable def fm_isApplied (S : mSt) (v1 : Int32) (v2 : Int32) : Option (Int32) :=
if v2 = (-1 : Int32) then (
fm_isApplied_25 S)
else (
bd (fm_nodeOf v2) fun r2 =>
bd (fm_knownOf S v1 r2) fun r3 =>
bd (fm_numberOf v2) fun r4 =>
if r3 < r4 then (
fm_isApplied_25 S)
else (
fm_isApplied_26 S (1 : Int32)))
set_option maxRecDepth 100000 in
set_option maxHeartbeats 4000000 in
theorem tm_isApplied (l : Launch) {cM : ClassId} {iS : Nat → Nat} {cI cZ : ClassId} {mo : Nat} {ad : Nat → Nat} {S : mSt} {v1 : Int32} {v2 : Int32} {r : Int32} (h : fm_isApplied S v1 v2 = some r) : Met l yX12_isApplied (Cond.code yX12_isApplied cX12_isApplied 3 (some .boolean) :: lw_g) { frames := 1, cells := 0, slots := 0, locals := 22 } (mPi [.int v1, .int v2] cM iS cI cZ mo ad S) (mQi r) 0 0 (mNo) := by
  refine Met.ofW (cc := cX12_isApplied) (maxL := 3) (ret := (some .boolean)) (by decide) rfl ?_
  intro p e s m args below meth c s₁ B hml hv
  obtain ⟨rfl, hW, X⟩ := hv
  have C : mY p (headSpec (Cond.code yX12_isApplied cX12_isApplied 3 (some .boolean) :: lw_g) { frames := 1, cells := 0, slots := 0, locals := 22 }).room s m _ meth c cX12_isApplied 3 1 22 (some .boolean) := ⟨B.exec, B.bytes, hml, findClass_of_methodNamed B.named, fun w hw => atoms_spec (ws := Cond.code yX12_isApplied cX12_isApplied 3 (some .boolean) :: lw_g) B.pre w (List.mem_cons_of_mem _ hw), ⟨Nat.le_refl _, Nat.le_refl _⟩, B.returns, B.notSynchronized⟩
  have hl := lv_entry ([.ref mo, .int v1, .int v2]) (n := 3) (Nat.le_of_ble_eq_true rfl)
  rw [lg_entry_eq]
  generalize (lg_sl ([.ref mo, .int v1, .int v2]) ++ List.replicate (3 - (lg_sl ([.ref mo, .int v1, .int v2])).length) Slot.unset).toArray = ls at hl ⊢
  have hl : lv_has ls 3 [(0, .ref mo), (1, .int v1), (2, .int v2)] := hl
  unfold fm_isApplied at h
  refine lv_iload_n C.1 C.2.1 dX12_isApplied_0 rfl (lv_at hl 2 rfl) ?_
  refine lv_iconst (v := -1) C.1 C.2.1 dX12_isApplied_1 (by decide) ?_
  refine lv_icmp_eq (tgt := 25) C.1 C.2.1 dX12_isApplied_2 (by decide) (fun c1 => ?_) (fun c1 => ?_)
  · have h := if_t h c1
    exact wm_isApplied_25 C X hW h (lv_sub hl [] rfl)
  · have h := if_f h c1
    refine lv_aload_n C.1 C.2.1 dX12_isApplied_5 rfl (lv_at hl 0 rfl) ?_
    refine lv_iload_n C.1 C.2.1 dX12_isApplied_6 rfl (lv_at hl 1 rfl) ?_
    refine lv_iload_n C.1 C.2.1 dX12_isApplied_7 rfl (lv_at hl 2 rfl) ?_
    obtain ⟨r2, h_r2, h⟩ := bd_ok h
    refine m_callS (rest := [.int v1, .ref mo]) C hl.1 [.int v2] (tm_nodeOf l h_r2) mw_nodeOf st_nodeOf rfl ⟨by decide, by decide⟩ rfl (Nat.le_of_ble_eq_true rfl) dX12_isApplied_8 ?_
    obtain ⟨r3, h_r3, h⟩ := bd_ok h
    refine m_callR (rest := []) C X hW hl.1 [.int v1, .int r2] (tm_knownOf l h_r3) mw_knownOf im_knownOf sl_knownOf rfl ⟨by decide, by decide⟩ rfl (Nat.le_of_ble_eq_true rfl) dX12_isApplied_11 ?_
    refine lv_iload_n C.1 C.2.1 dX12_isApplied_14 rfl (lv_at hl 2 rfl) ?_
    obtain ⟨r4, h_r4, h⟩ := bd_ok h
    refine m_callS (rest := [.int r3]) C hl.1 [.int v2] (tm_numberOf l h_r4) mw_numberOf st_numberOf rfl ⟨by decide, by decide⟩ rfl (Nat.le_of_ble_eq_true rfl) dX12_isApplied_15 ?_
    refine lv_icmp_lt (tgt := 25) C.1 C.2.1 dX12_isApplied_18 (by decide) (fun c5 => ?_) (fun c5 => ?_)
    · have h := if_t h c5
      exact wm_isApplied_25 C X hW h (lv_sub hl [] rfl)
    · have h := if_f h c5
      refine lv_iconst (v := 1) C.1 C.2.1 dX12_isApplied_21 (by decide) ?_
      refine lv_goto (tgt := 26) C.1 C.2.1 dX12_isApplied_22 (by decide) ?_
      exact wm_isApplied_26 C X hW h (lv_sub hl [] rfl)
end
theorem dX12_rowAt_0 : decode cX12_rowAt 0 = .ok (.aload_n 0, 1) := by decide +kernel
theorem dX12_rowAt_1 : decode cX12_rowAt 1 = .ok (.getfield 74, 3) := by decide +kernel
theorem dX12_rowAt_4 : decode cX12_rowAt 4 = .ok (.sipush 1000, 3) := by decide +kernel
theorem dX12_rowAt_7 : decode cX12_rowAt 7 = .ok (.iload_n 1, 1) := by decide +kernel
theorem dX12_rowAt_8 : decode cX12_rowAt 8 = .ok (.imul, 1) := by decide +kernel
theorem dX12_rowAt_9 : decode cX12_rowAt 9 = .ok (.iload_n 2, 1) := by decide +kernel
theorem dX12_rowAt_10 : decode cX12_rowAt 10 = .ok (.iadd, 1) := by decide +kernel
theorem dX12_rowAt_11 : decode cX12_rowAt 11 = .ok (.iaload, 1) := by decide +kernel
theorem dX12_rowAt_12 : decode cX12_rowAt 12 = .ok (.ireturn, 1) := by decide +kernel
theorem cd_rowAt : Cond.code yX12_rowAt cX12_rowAt 3 (some .int) ∈ lw_g := mt_at 2017 (by decide +kernel) rfl
theorem mw_rowAt : mCw 230 yX12_rowAt cX12_rowAt 3 (some .int) 2 := ⟨cd_rowAt, mt_at 2014 (by decide +kernel) rfl, in_M, by decide +kernel⟩
theorem im_rowAt : Cond.instanceMethod yX12_rowAt ∈ lw_g := mt_at 2016 (by decide +kernel) rfl
theorem sl_rowAt : Cond.selects RX12 yX12_rowAt yX12_rowAt ∈ lw_g := mt_sel 51 (by decide +kernel) rfl
section
variable {p : Program} {l : Launch} {e : Env} {R : Room} {s : State} {m : MethodId} {args : Array Value} {below : List Frame} {meth : Method} {c : Code} {cM : ClassId} {iS : Nat → Nat} {cI cZ : ClassId} {mo : Nat} {ad : Nat → Nat} {S : mSt} {r : Int32}
noncomputable def fm_rowAt (S : mSt) (v1 : Int32) (v2 : Int32) : Option (Int32) :=
ck (((1000 : Int32) * v1) + v2) 4000 (
some (rd S 24 (((1000 : Int32) * v1) + v2)))
set_option maxRecDepth 100000 in
set_option maxHeartbeats 4000000 in
theorem tm_rowAt (l : Launch) {cM : ClassId} {iS : Nat → Nat} {cI cZ : ClassId} {mo : Nat} {ad : Nat → Nat} {S : mSt} {v1 : Int32} {v2 : Int32} {r : Int32} (h : fm_rowAt S v1 v2 = some r) : Met l yX12_rowAt (Cond.code yX12_rowAt cX12_rowAt 3 (some .int) :: lw_g) { frames := 0, cells := 0, slots := 0, locals := 0 } (mPi [.int v1, .int v2] cM iS cI cZ mo ad S) (mQi r) 0 0 (mNo) := by
  refine Met.ofW (cc := cX12_rowAt) (maxL := 3) (ret := (some .int)) (by decide) rfl ?_
  intro p e s m args below meth c s₁ B hml hv
  obtain ⟨rfl, hW, X⟩ := hv
  have C : mY p (headSpec (Cond.code yX12_rowAt cX12_rowAt 3 (some .int) :: lw_g) { frames := 0, cells := 0, slots := 0, locals := 0 }).room s m _ meth c cX12_rowAt 3 0 0 (some .int) := ⟨B.exec, B.bytes, hml, findClass_of_methodNamed B.named, fun w hw => atoms_spec (ws := Cond.code yX12_rowAt cX12_rowAt 3 (some .int) :: lw_g) B.pre w (List.mem_cons_of_mem _ hw), ⟨Nat.le_refl _, Nat.le_refl _⟩, B.returns, B.notSynchronized⟩
  have hl := lv_entry ([.ref mo, .int v1, .int v2]) (n := 3) (Nat.le_of_ble_eq_true rfl)
  rw [lg_entry_eq]
  generalize (lg_sl ([.ref mo, .int v1, .int v2]) ++ List.replicate (3 - (lg_sl ([.ref mo, .int v1, .int v2])).length) Slot.unset).toArray = ls at hl ⊢
  have hl : lv_has ls 3 [(0, .ref mo), (1, .int v1), (2, .int v2)] := hl
  unfold fm_rowAt at h
  refine lv_aload_n C.1 C.2.1 dX12_rowAt_0 rfl (lv_at hl 0 rfl) ?_
  refine gf_24 C X hW dX12_rowAt_1 ?_
  refine lv_sipush (v := 1000) C.1 C.2.1 dX12_rowAt_4 (by decide) ?_
  refine lv_iload_n C.1 C.2.1 dX12_rowAt_7 rfl (lv_at hl 1 rfl) ?_
  refine lv_imul C.1 C.2.1 dX12_rowAt_8 ?_
  refine lv_iload_n C.1 C.2.1 dX12_rowAt_9 rfl (lv_at hl 2 rfl) ?_
  refine lv_iadd C.1 C.2.1 dX12_rowAt_10 ?_
  obtain ⟨hin, h⟩ := ck_ok h
  refine l_24 C X hW hin dX12_rowAt_11 ?_
  cases h
  exact m_reti C rfl rfl dX12_rowAt_12
end
