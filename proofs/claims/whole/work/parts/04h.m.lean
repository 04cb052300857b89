-- made by wip/whole/walk.py: the reference's findGood, findUndone, refusal
theorem dX12_findGood_0 : decode cX12_findGood 0 = .ok (.aload_n 0, 1) := by decide +kernel
theorem dX12_findGood_1 : decode cX12_findGood 1 = .ok (.iload_n 1, 1) := by decide +kernel
theorem dX12_findGood_2 : decode cX12_findGood 2 = .ok (.aload_n 0, 1) := by decide +kernel
theorem dX12_findGood_3 : decode cX12_findGood 3 = .ok (.getfield 71, 3) := by decide +kernel
theorem dX12_findGood_6 : decode cX12_findGood 6 = .ok (.iload_n 1, 1) := by decide +kernel
theorem dX12_findGood_7 : decode cX12_findGood 7 = .ok (.iaload, 1) := by decide +kernel
theorem dX12_findGood_8 : decode cX12_findGood 8 = .ok (.invokevirtual 243, 3) := by decide +kernel
theorem dX12_findGood_11 : decode cX12_findGood 11 = .ok (.iconst (-1), 1) := by decide +kernel
theorem dX12_findGood_12 : decode cX12_findGood 12 = .ok (.istore_n 2, 1) := by decide +kernel
theorem dX12_findGood_13 : decode cX12_findGood 13 = .ok (.iconst 0, 1) := by decide +kernel
theorem dX12_findGood_14 : decode cX12_findGood 14 = .ok (.istore_n 3, 1) := by decide +kernel
theorem dX12_findGood_15 : decode cX12_findGood 15 = .ok (.iload_n 3, 1) := by decide +kernel
theorem dX12_findGood_16 : decode cX12_findGood 16 = .ok (.aload_n 0, 1) := by decide +kernel
theorem dX12_findGood_17 : decode cX12_findGood 17 = .ok (.getfield 23, 3) := by decide +kernel
theorem dX12_findGood_20 : decode cX12_findGood 20 = .ok (.iload_n 1, 1) := by decide +kernel
theorem dX12_findGood_21 : decode cX12_findGood 21 = .ok (.iaload, 1) := by decide +kernel
theorem dX12_findGood_22 : decode cX12_findGood 22 = .ok (.if_icmp .ge 44, 3) := by decide +kernel
theorem dX12_findGood_25 : decode cX12_findGood 25 = .ok (.sipush 250, 3) := by decide +kernel
theorem dX12_findGood_28 : decode cX12_findGood 28 = .ok (.iload_n 1, 1) := by decide +kernel
theorem dX12_findGood_29 : decode cX12_findGood 29 = .ok (.imul, 1) := by decide +kernel
theorem dX12_findGood_30 : decode cX12_findGood 30 = .ok (.iload_n 3, 1) := by decide +kernel
theorem dX12_findGood_31 : decode cX12_findGood 31 = .ok (.iadd, 1) := by decide +kernel
theorem dX12_findGood_32 : decode cX12_findGood 32 = .ok (.istore 4, 2) := by decide +kernel
theorem dX12_findGood_34 : decode cX12_findGood 34 = .ok (.aload_n 0, 1) := by decide +kernel
theorem dX12_findGood_35 : decode cX12_findGood 35 = .ok (.getfield 29, 3) := by decide +kernel
theorem dX12_findGood_38 : decode cX12_findGood 38 = .ok (.iload 4, 2) := by decide +kernel
theorem dX12_findGood_40 : decode cX12_findGood 40 = .ok (.iaload, 1) := by decide +kernel
theorem dX12_findGood_41 : decode cX12_findGood 41 = .ok (.invokestatic 393, 3) := by decide +kernel
theorem dX12_findGood_44 : decode cX12_findGood 44 = .ok (.ifCond .eq 16, 3) := by decide +kernel
theorem dX12_findGood_47 : decode cX12_findGood 47 = .ok (.aload_n 0, 1) := by decide +kernel
theorem dX12_findGood_48 : decode cX12_findGood 48 = .ok (.getfield 133, 3) := by decide +kernel
theorem dX12_findGood_51 : decode cX12_findGood 51 = .ok (.iload 4, 2) := by decide +kernel
theorem dX12_findGood_53 : decode cX12_findGood 53 = .ok (.baload, 1) := by decide +kernel
theorem dX12_findGood_54 : decode cX12_findGood 54 = .ok (.ifCond .eq 6, 3) := by decide +kernel
theorem dX12_findGood_57 : decode cX12_findGood 57 = .ok (.iload 4, 2) := by decide +kernel
theorem dX12_findGood_59 : decode cX12_findGood 59 = .ok (.istore_n 2, 1) := by decide +kernel
theorem dX12_findGood_60 : decode cX12_findGood 60 = .ok (.iinc 3 1, 3) := by decide +kernel
theorem dX12_findGood_63 : decode cX12_findGood 63 = .ok (.goto (-48), 3) := by decide +kernel
theorem dX12_findGood_66 : decode cX12_findGood 66 = .ok (.iload_n 2, 1) := by decide +kernel
theorem dX12_findGood_67 : decode cX12_findGood 67 = .ok (.iconst (-1), 1) := by decide +kernel
theorem dX12_findGood_68 : decode cX12_findGood 68 = .ok (.if_icmp .eq 12, 3) := by decide +kernel
theorem dX12_findGood_71 : decode cX12_findGood 71 = .ok (.aload_n 0, 1) := by decide +kernel
theorem dX12_findGood_72 : decode cX12_findGood 72 = .ok (.iload_n 1, 1) := by decide +kernel
theorem dX12_findGood_73 : decode cX12_findGood 73 = .ok (.iload_n 2, 1) := by decide +kernel
theorem dX12_findGood_74 : decode cX12_findGood 74 = .ok (.invokevirtual 396, 3) := by decide +kernel
theorem dX12_findGood_77 : decode cX12_findGood 77 = .ok (.ifCond .eq 5, 3) := by decide +kernel
theorem dX12_findGood_80 : decode cX12_findGood 80 = .ok (.iconst 5, 1) := by decide +kernel
theorem dX12_findGood_81 : decode cX12_findGood 81 = .ok (.ireturn, 1) := by decide +kernel
theorem dX12_findGood_82 : decode cX12_findGood 82 = .ok (.aload_n 0, 1) := by decide +kernel
theorem dX12_findGood_83 : decode cX12_findGood 83 = .ok (.iload_n 2, 1) := by decide +kernel
theorem dX12_findGood_84 : decode cX12_findGood 84 = .ok (.invokestatic 303, 3) := by decide +kernel
theorem dX12_findGood_87 : decode cX12_findGood 87 = .ok (.putfield 381, 3) := by decide +kernel
theorem dX12_findGood_90 : decode cX12_findGood 90 = .ok (.iconst 0, 1) := by decide +kernel
theorem dX12_findGood_91 : decode cX12_findGood 91 = .ok (.ireturn, 1) := by decide +kernel
theorem cd_findGood : Cond.code yX12_findGood cX12_findGood 5 (some .int) ∈ lw_g := mt_at 2100 (by decide +kernel) rfl
theorem mw_findGood : mCw 387 yX12_findGood cX12_findGood 5 (some .int) 1 := ⟨cd_findGood, mt_at 2097 (by decide +kernel) rfl, in_M, by decide +kernel⟩
theorem im_findGood : Cond.instanceMethod yX12_findGood ∈ lw_g := mt_at 2099 (by decide +kernel) rfl
theorem sl_findGood : Cond.selects RX12 yX12_findGood yX12_findGood ∈ lw_g := mt_sel 71 (by decide +kernel) rfl
section
variable {p : Program} {l : Launch} {e : Env} {R : Room} {s : State} {m : MethodId} {args : Array Value} {below : List Frame} {meth : Method} {c : Code} {cM : ClassId} {iS : Nat → Nat} {cI cZ : ClassId} {mo : Nat} {ad : Nat → Nat} {r : Int32} {S9 : mSt}
noncomputable def fm_findGood_80 (S : mSt) : Option (Int32 × mSt) :=
some ((5 : Int32), S)
set_option maxRecDepth 100000 in
set_option maxHeartbeats 4000000 in
theorem wm_findGood_80 (C : mY p R s m args meth c cX12_findGood 5 3 69 (some .int)) (X : mX s cM iS cI cZ mo ad) : ∀ {S : mSt} {H : Heap} {locs : List Loc} {ls : Array Slot}, fm_findGood_80 S = some (r, S9) → mW cM iS cI cZ mo ad S H → mS (mA mo ad) s.heap H locs → lv_has ls 5 [] → W p l e R s m args below meth c H locs 0 0 (MQ below (mQw (some (.int r)) cM iS cI cZ mo ad S9) args s 0 0 (mA mo ad)) (F0 m 80 ls []) := by
  intro S H locs ls h hW hS hl
  unfold fm_findGood_80 at h
  refine lv_iconst (v := 5) C.1 C.2.1 dX12_findGood_80 (by decide) ?_
  cases h
  exact m_retiW C hW hS dX12_findGood_81
noncomputable def fm_findGood_60 (g_15 : mSt → Int32 → Int32 → Int32 → Option (Int32 × mSt)) (S : mSt) (v1 : Int32) (v2 : Int32) (v3 : Int32) : Option (Int32 × mSt) :=
lt (v3 + (1 : Int32)) fun x1 =>
g_15 S v1 v2 x1
set_option maxRecDepth 100000 in
set_option maxHeartbeats 4000000 in
theorem wm_findGood_60 (C : mY p R s m args meth c cX12_findGood 5 3 69 (some .int)) (X : mX s cM iS cI cZ mo ad) {g_15 : mSt → Int32 → Int32 → Int32 → Option (Int32 × mSt)} (hg_15 : ∀ {S : mSt} {v1 : Int32} {v2 : Int32} {v3 : Int32} {H : Heap} {locs : List Loc} {ls : Array Slot}, g_15 S v1 v2 v3 = some (r, S9) → mW cM iS cI cZ mo ad S H → mS (mA mo ad) s.heap H locs → lv_has ls 5 [(0, .ref mo), (1, .int v1), (2, .int v2), (3, .int v3)] → W p l e R s m args below meth c H locs 0 0 (MQ below (mQw (some (.int r)) cM iS cI cZ mo ad S9) args s 0 0 (mA mo ad)) (F0 m 15 ls [])) : ∀ {S : mSt} {v1 : Int32} {v2 : Int32} {v3 : Int32} {H : Heap} {locs : List Loc} {ls : Array Slot}, fm_findGood_60 g_15 S v1 v2 v3 = some (r, S9) → mW cM iS cI cZ mo ad S H → mS (mA mo ad) s.heap H locs → lv_has ls 5 [(0, .ref mo), (1, .int v1), (2, .int v2), (3, .int v3)] → W p l e R s m args below meth c H locs 0 0 (MQ below (mQw (some (.int r)) cM iS cI cZ mo ad S9) args s 0 0 (mA mo ad)) (F0 m 60 ls []) := by
  intro S v1 v2 v3 H locs ls h hW hS hl
  unfold fm_findGood_60 at h
  refine lt_ok h (fun x1 e_x1 h => ?_)
  refine lv_iinc (v := x1) (lv' := [(3, .int x1), (0, .ref mo), (1, .int v1), (2, .int v2)]) C.1 C.2.1 dX12_findGood_60 hl (k := 3) rfl (by rw [← e_x1]; rfl) (by decide) rfl (fun ls hl => ?_)
  refine lv_goto (tgt := 15) C.1 C.2.1 dX12_findGood_63 (by decide) ?_
  exact hg_15 h hW hS (lv_sub hl [1, 2, 3, 0] rfl)
noncomputable def fm_findGood_15 : Nat → mSt → Int32 → Int32 → Int32 → Option (Int32 × mSt)
  | 0, _, _, _, _ => none
  | n + 1, S, v1, v2, v3 =>
    ck v1 4 (
    if (rd S 7 v1) ≤ v3 then (
    if v2 = (-1 : Int32) then (
    fm_findGood_80 S)
    else (
    bd (fm_isStable S v1 v2) fun r3 =>
    if r3 = 0 then (
    bd (fm_nameOf v2) fun r5 =>
    lt (pu S 70 r5) fun S6 =>
    some ((0 : Int32), S6))
    else (
    fm_findGood_80 S)))
    else (
    lt (((250 : Int32) * v1) + v3) fun x7 =>
    ck x7 1000 (
    bd (fm_canBeUndone (rd S 9 x7)) fun r8 =>
    if r8 = 0 then (
    fm_findGood_60 (fm_findGood_15 n) S v1 v2 v3)
    else (
    ck x7 1000 (
    if (rd S 47 x7) = 0 then (
    fm_findGood_60 (fm_findGood_15 n) S v1 v2 v3)
    else (
    fm_findGood_60 (fm_findGood_15 n) S v1 x7 v3))))))
set_option maxRecDepth 100000 in
set_option maxHeartbeats 4000000 in
theorem wm_findGood_15 (C : mY p R s m args meth c cX12_findGood 5 3 69 (some .int)) (X : mX s cM iS cI cZ mo ad) : ∀ (n : Nat), ∀ {S : mSt} {v1 : Int32} {v2 : Int32} {v3 : Int32} {H : Heap} {locs : List Loc} {ls : Array Slot}, fm_findGood_15 n S v1 v2 v3 = some (r, S9) → mW cM iS cI cZ mo ad S H → mS (mA mo ad) s.heap H locs → lv_has ls 5 [(0, .ref mo), (1, .int v1), (2, .int v2), (3, .int v3)] → W p l e R s m args below meth c H locs 0 0 (MQ below (mQw (some (.int r)) cM iS cI cZ mo ad S9) args s 0 0 (mA mo ad)) (F0 m 15 ls []) := by
  intro n
  induction n with
  | zero =>
    intro S v1 v2 v3 H locs ls h hW hS hl
    exact absurd (show (none : Option (Int32 × mSt)) = _ from h) (fun q => by cases q)
  | succ n ih =>
    intro S v1 v2 v3 H locs ls h hW hS hl
    rw [fm_findGood_15] at h
    refine lv_iload_n C.1 C.2.1 dX12_findGood_15 rfl (lv_at hl 3 rfl) ?_
    refine lv_aload_n C.1 C.2.1 dX12_findGood_16 rfl (lv_at hl 0 rfl) ?_
    refine gf_7 C X hW dX12_findGood_17 ?_
    refine lv_iload_n C.1 C.2.1 dX12_findGood_20 rfl (lv_at hl 1 rfl) ?_
    obtain ⟨hin, h⟩ := ck_ok h
    refine l_7 C X hW hin dX12_findGood_21 ?_
    refine lv_icmp_ge (tgt := 66) C.1 C.2.1 dX12_findGood_22 (by decide) (fun c1 => ?_) (fun c1 => ?_)
    · have h := if_t h c1
      refine lv_iload_n C.1 C.2.1 dX12_findGood_66 rfl (lv_at hl 2 rfl) ?_
      refine lv_iconst (v := -1) C.1 C.2.1 dX12_findGood_67 (by decide) ?_
      refine lv_icmp_eq (tgt := 80) C.1 C.2.1 dX12_findGood_68 (by decide) (fun c2 => ?_) (fun c2 => ?_)
      · have h := if_t h c2
        exact wm_findGood_80 C X h hW hS (lv_sub hl [] rfl)
      · have h := if_f h c2
        refine lv_aload_n C.1 C.2.1 dX12_findGood_71 rfl (lv_at hl 0 rfl) ?_
        refine lv_iload_n C.1 C.2.1 dX12_findGood_72 rfl (lv_at hl 1 rfl) ?_
        refine lv_iload_n C.1 C.2.1 dX12_findGood_73 rfl (lv_at hl 2 rfl) ?_
        obtain ⟨r3, h_r3, h⟩ := bd_ok h
        refine m_callR (rest := []) C X hW hl.1 [.int v1, .int v2] (tm_isStable l h_r3) mw_isStable im_isStable sl_isStable rfl ⟨by decide, by decide⟩ rfl (Nat.le_of_ble_eq_true rfl) dX12_findGood_74 ?_
        refine lv_if_eq (tgt := 82) C.1 C.2.1 dX12_findGood_77 (by decide) (fun c4 => ?_) (fun c4 => ?_)
        · have h := if_t h c4
          refine lv_aload_n C.1 C.2.1 dX12_findGood_82 rfl (lv_at hl 0 rfl) ?_
          refine lv_iload_n C.1 C.2.1 dX12_findGood_83 rfl (lv_at hl 2 rfl) ?_
          obtain ⟨r5, h_r5, h⟩ := bd_ok h
          refine m_callS (rest := [.ref mo]) C hl.1 [.int v2] (tm_nameOf l h_r5) mw_nameOf st_nameOf rfl ⟨by decide, by decide⟩ rfl (Nat.le_of_ble_eq_true rfl) dX12_findGood_84 ?_
          refine p_70 C X hW hS dX12_findGood_87 (fun H locs hW hS => ?_)
          refine lt_ok h (fun S6 e_S6 h => ?_)
          rw [e_S6] at hW
          refine lv_iconst (v := 0) C.1 C.2.1 dX12_findGood_90 (by decide) ?_
          cases h
          exact m_retiW C hW hS dX12_findGood_91
        · have h := if_f h c4
          exact wm_findGood_80 C X h hW hS (lv_sub hl [] rfl)
    · have h := if_f h c1
      refine lv_sipush (v := 250) C.1 C.2.1 dX12_findGood_25 (by decide) ?_
      refine lv_iload_n C.1 C.2.1 dX12_findGood_28 rfl (lv_at hl 1 rfl) ?_
      refine lv_imul C.1 C.2.1 dX12_findGood_29 ?_
      refine lv_iload_n C.1 C.2.1 dX12_findGood_30 rfl (lv_at hl 3 rfl) ?_
      refine lv_iadd C.1 C.2.1 dX12_findGood_31 ?_
      refine lt_ok h (fun x7 e_x7 h => ?_)
      refine lv_nm e_x7 ?_
      refine lv_istore (lv' := [(4, .int x7), (0, .ref mo), (1, .int v1), (2, .int v2), (3, .int v3)]) C.1 C.2.1 dX12_findGood_32 hl (by decide) rfl (fun ls hl => ?_)
      refine lv_aload_n C.1 C.2.1 dX12_findGood_34 rfl (lv_at hl 1 rfl) ?_
      refine gf_9 C X hW dX12_findGood_35 ?_
      refine lv_iload C.1 C.2.1 dX12_findGood_38 (lv_at hl 0 rfl) ?_
      obtain ⟨hin, h⟩ := ck_ok h
      refine l_9 C X hW hin dX12_findGood_40 ?_
      obtain ⟨r8, h_r8, h⟩ := bd_ok h
      refine m_callS (rest := []) C hl.1 [.int (rd S 9 x7)] (tm_canBeUndone l h_r8) mw_canBeUndone st_canBeUndone rfl ⟨by decide, by decide⟩ rfl (Nat.le_of_ble_eq_true rfl) dX12_findGood_41 ?_
      refine lv_if_eq (tgt := 60) C.1 C.2.1 dX12_findGood_44 (by decide) (fun c9 => ?_) (fun c9 => ?_)
      · have h := if_t h c9
        exact wm_findGood_60 C X ih h hW hS (lv_sub hl [1, 2, 3, 4] rfl)
      · have h := if_f h c9
        refine lv_aload_n C.1 C.2.1 dX12_findGood_47 rfl (lv_at hl 1 rfl) ?_
        refine gf_47 C X hW dX12_findGood_48 ?_
        refine lv_iload C.1 C.2.1 dX12_findGood_51 (lv_at hl 0 rfl) ?_
        obtain ⟨hin, h⟩ := ck_ok h
        refine l_47 C X hW hin dX12_findGood_53 ?_
        refine lv_if_eq (tgt := 60) C.1 C.2.1 dX12_findGood_54 (by decide) (fun c10 => ?_) (fun c10 => ?_)
        · have h := if_t h c10
          exact wm_findGood_60 C X ih h hW hS (lv_sub hl [1, 2, 3, 4] rfl)
        · have h := if_f h c10
          refine lv_iload C.1 C.2.1 dX12_findGood_57 (lv_at hl 0 rfl) ?_
          refine lv_istore_n (lv' := [(2, .int x7), (4, .int x7), (0, .ref mo), (1, .int v1), (3, .int v3)]) C.1 C.2.1 dX12_findGood_59 rfl hl (by decide) rfl (fun ls hl => ?_)
          exact wm_findGood_60 C X ih h hW hS (lv_sub hl [2, 3, 0, 4] rfl)
noncomputable def fm_findGood (S : mSt) (v1 : Int32) : Option (Int32 × mSt) :=
ck v1 4 (
bd (fm_judge S v1 (rd S 23 v1)) fun S1 =>
fm_findGood_15 mFU S1 v1 (-1 : Int32) (0 : Int32))
set_option maxRecDepth 100000 in
set_option maxHeartbeats 4000000 in
theorem tm_findGood (l : Launch) {cM : ClassId} {iS : Nat → Nat} {cI cZ : ClassId} {mo : Nat} {ad : Nat → Nat} {S : mSt} {v1 : Int32} {r : Int32} {S9 : mSt} (h : fm_findGood S v1 = some (r, S9)) : Met l yX12_findGood (Cond.code yX12_findGood cX12_findGood 5 (some .int) :: lw_g) { frames := 3, cells := 0, slots := 0, locals := 69 } (mPi [.int v1] cM iS cI cZ mo ad S) (mQw (some (.int r)) cM iS cI cZ mo ad S9) 0 0 (mA mo ad) := by
  refine Met.ofW (cc := cX12_findGood) (maxL := 5) (ret := (some .int)) (by decide) rfl ?_
  intro p e s m args below meth c s₁ B hml hv
  obtain ⟨rfl, hW, X⟩ := hv
  have C : mY p (headSpec (Cond.code yX12_findGood cX12_findGood 5 (some .int) :: lw_g) { frames := 3, cells := 0, slots := 0, locals := 69 }).room s m _ meth c cX12_findGood 5 3 69 (some .int) := ⟨B.exec, B.bytes, hml, findClass_of_methodNamed B.named, fun w hw => atoms_spec (ws := Cond.code yX12_findGood cX12_findGood 5 (some .int) :: lw_g) B.pre w (List.mem_cons_of_mem _ hw), ⟨Nat.le_refl _, Nat.le_refl _⟩, B.returns, B.notSynchronized⟩
  have hl := lv_entry ([.ref mo, .int v1]) (n := 5) (Nat.le_of_ble_eq_true rfl)
  rw [lg_entry_eq]
  generalize (lg_sl ([.ref mo, .int v1]) ++ List.replicate (5 - (lg_sl ([.ref mo, .int v1])).length) Slot.unset).toArray = ls at hl ⊢
  have hl : lv_has ls 5 [(0, .ref mo), (1, .int v1)] := hl
  have hS : mS (mA mo ad) s.heap s.heap [] := mS.rf
  unfold fm_findGood at h
  refine lv_aload_n C.1 C.2.1 dX12_findGood_0 rfl (lv_at hl 0 rfl) ?_
  refine lv_iload_n C.1 C.2.1 dX12_findGood_1 rfl (lv_at hl 1 rfl) ?_
  refine lv_aload_n C.1 C.2.1 dX12_findGood_2 rfl (lv_at hl 0 rfl) ?_
  refine gf_23 C X hW dX12_findGood_3 ?_
  refine lv_iload_n C.1 C.2.1 dX12_findGood_6 rfl (lv_at hl 1 rfl) ?_
  obtain ⟨hin, h⟩ := ck_ok h
  refine l_23 C X hW hin dX12_findGood_7 ?_
  obtain ⟨S1, h_S1, h⟩ := bd_ok h
  refine m_callW (rest := []) (ov := none) C X hW hS hl.1 [.int v1, .int (rd S 23 v1)] (tm_judge l h_S1) mw_judge im_judge sl_judge rfl ⟨by decide, by decide⟩ rfl (Nat.le_of_ble_eq_true rfl) dX12_findGood_8 (fun H locs hW hS => ?_)
  refine W.eq (g2 := F0 m 11 ls []) rfl ?_
  refine lv_iconst (v := -1) C.1 C.2.1 dX12_findGood_11 (by decide) ?_
  refine lv_istore_n (lv' := [(2, .int (-1 : Int32)), (0, .ref mo), (1, .int v1)]) C.1 C.2.1 dX12_findGood_12 rfl hl (by decide) rfl (fun ls hl => ?_)
  refine lv_iconst (v := 0) C.1 C.2.1 dX12_findGood_13 (by decide) ?_
  refine lv_istore_n (lv' := [(3, .int (0 : Int32)), (2, .int (-1 : Int32)), (0, .ref mo), (1, .int v1)]) C.1 C.2.1 dX12_findGood_14 rfl hl (by decide) rfl (fun ls hl => ?_)
  exact wm_findGood_15 C X mFU h hW hS (lv_sub hl [2, 3, 1, 0] rfl)
end
theorem dX12_findUndone_0 : decode cX12_findUndone 0 = .ok (.aload_n 0, 1) := by decide +kernel
theorem dX12_findUndone_1 : decode cX12_findUndone 1 = .ok (.iload_n 1, 1) := by decide +kernel
theorem dX12_findUndone_2 : decode cX12_findUndone 2 = .ok (.aload_n 0, 1) := by decide +kernel
theorem dX12_findUndone_3 : decode cX12_findUndone 3 = .ok (.getfield 71, 3) := by decide +kernel
theorem dX12_findUndone_6 : decode cX12_findUndone 6 = .ok (.iload_n 1, 1) := by decide +kernel
theorem dX12_findUndone_7 : decode cX12_findUndone 7 = .ok (.iaload, 1) := by decide +kernel
theorem dX12_findUndone_8 : decode cX12_findUndone 8 = .ok (.invokevirtual 243, 3) := by decide +kernel
theorem dX12_findUndone_11 : decode cX12_findUndone 11 = .ok (.iconst (-1), 1) := by decide +kernel
theorem dX12_findUndone_12 : decode cX12_findUndone 12 = .ok (.istore_n 2, 1) := by decide +kernel
theorem dX12_findUndone_13 : decode cX12_findUndone 13 = .ok (.iconst 0, 1) := by decide +kernel
theorem dX12_findUndone_14 : decode cX12_findUndone 14 = .ok (.istore_n 3, 1) := by decide +kernel
theorem dX12_findUndone_15 : decode cX12_findUndone 15 = .ok (.iload_n 3, 1) := by decide +kernel
theorem dX12_findUndone_16 : decode cX12_findUndone 16 = .ok (.aload_n 0, 1) := by decide +kernel
theorem dX12_findUndone_17 : decode cX12_findUndone 17 = .ok (.getfield 23, 3) := by decide +kernel
theorem dX12_findUndone_20 : decode cX12_findUndone 20 = .ok (.iload_n 1, 1) := by decide +kernel
theorem dX12_findUndone_21 : decode cX12_findUndone 21 = .ok (.iaload, 1) := by decide +kernel
theorem dX12_findUndone_22 : decode cX12_findUndone 22 = .ok (.if_icmp .ge 52, 3) := by decide +kernel
theorem dX12_findUndone_25 : decode cX12_findUndone 25 = .ok (.sipush 250, 3) := by decide +kernel
theorem dX12_findUndone_28 : decode cX12_findUndone 28 = .ok (.iload_n 1, 1) := by decide +kernel
theorem dX12_findUndone_29 : decode cX12_findUndone 29 = .ok (.imul, 1) := by decide +kernel
theorem dX12_findUndone_30 : decode cX12_findUndone 30 = .ok (.iload_n 3, 1) := by decide +kernel
theorem dX12_findUndone_31 : decode cX12_findUndone 31 = .ok (.iadd, 1) := by decide +kernel
theorem dX12_findUndone_32 : decode cX12_findUndone 32 = .ok (.istore 4, 2) := by decide +kernel
theorem dX12_findUndone_34 : decode cX12_findUndone 34 = .ok (.aload_n 0, 1) := by decide +kernel
theorem dX12_findUndone_35 : decode cX12_findUndone 35 = .ok (.getfield 133, 3) := by decide +kernel
theorem dX12_findUndone_38 : decode cX12_findUndone 38 = .ok (.iload 4, 2) := by decide +kernel
theorem dX12_findUndone_40 : decode cX12_findUndone 40 = .ok (.baload, 1) := by decide +kernel
theorem dX12_findUndone_41 : decode cX12_findUndone 41 = .ok (.ifCond .ne 27, 3) := by decide +kernel
theorem dX12_findUndone_44 : decode cX12_findUndone 44 = .ok (.iload_n 2, 1) := by decide +kernel
theorem dX12_findUndone_45 : decode cX12_findUndone 45 = .ok (.iconst (-1), 1) := by decide +kernel
theorem dX12_findUndone_46 : decode cX12_findUndone 46 = .ok (.if_icmp .eq 19, 3) := by decide +kernel
theorem dX12_findUndone_49 : decode cX12_findUndone 49 = .ok (.aload_n 0, 1) := by decide +kernel
theorem dX12_findUndone_50 : decode cX12_findUndone 50 = .ok (.getfield 136, 3) := by decide +kernel
theorem dX12_findUndone_53 : decode cX12_findUndone 53 = .ok (.iload 4, 2) := by decide +kernel
theorem dX12_findUndone_55 : decode cX12_findUndone 55 = .ok (.iaload, 1) := by decide +kernel
theorem dX12_findUndone_56 : decode cX12_findUndone 56 = .ok (.aload_n 0, 1) := by decide +kernel
theorem dX12_findUndone_57 : decode cX12_findUndone 57 = .ok (.getfield 136, 3) := by decide +kernel
theorem dX12_findUndone_60 : decode cX12_findUndone 60 = .ok (.iload_n 2, 1) := by decide +kernel
theorem dX12_findUndone_61 : decode cX12_findUndone 61 = .ok (.iaload, 1) := by decide +kernel
theorem dX12_findUndone_62 : decode cX12_findUndone 62 = .ok (.if_icmp .le 6, 3) := by decide +kernel
theorem dX12_findUndone_65 : decode cX12_findUndone 65 = .ok (.iload 4, 2) := by decide +kernel
theorem dX12_findUndone_67 : decode cX12_findUndone 67 = .ok (.istore_n 2, 1) := by decide +kernel
theorem dX12_findUndone_68 : decode cX12_findUndone 68 = .ok (.iinc 3 1, 3) := by decide +kernel
theorem dX12_findUndone_71 : decode cX12_findUndone 71 = .ok (.goto (-56), 3) := by decide +kernel
theorem dX12_findUndone_74 : decode cX12_findUndone 74 = .ok (.iload_n 2, 1) := by decide +kernel
theorem dX12_findUndone_75 : decode cX12_findUndone 75 = .ok (.iconst (-1), 1) := by decide +kernel
theorem dX12_findUndone_76 : decode cX12_findUndone 76 = .ok (.if_icmp .ne 5, 3) := by decide +kernel
theorem dX12_findUndone_79 : decode cX12_findUndone 79 = .ok (.iconst 5, 1) := by decide +kernel
theorem dX12_findUndone_80 : decode cX12_findUndone 80 = .ok (.ireturn, 1) := by decide +kernel
theorem dX12_findUndone_81 : decode cX12_findUndone 81 = .ok (.aload_n 0, 1) := by decide +kernel
theorem dX12_findUndone_82 : decode cX12_findUndone 82 = .ok (.iload_n 2, 1) := by decide +kernel
theorem dX12_findUndone_83 : decode cX12_findUndone 83 = .ok (.invokestatic 303, 3) := by decide +kernel
theorem dX12_findUndone_86 : decode cX12_findUndone 86 = .ok (.putfield 381, 3) := by decide +kernel
theorem dX12_findUndone_89 : decode cX12_findUndone 89 = .ok (.iconst 0, 1) := by decide +kernel
theorem dX12_findUndone_90 : decode cX12_findUndone 90 = .ok (.ireturn, 1) := by decide +kernel
theorem cd_findUndone : Cond.code yX12_findUndone cX12_findUndone 5 (some .int) ∈ lw_g := mt_at 2115 (by decide +kernel) rfl
theorem mw_findUndone : mCw 390 yX12_findUndone cX12_findUndone 5 (some .int) 1 := ⟨cd_findUndone, mt_at 2112 (by decide +kernel) rfl, in_M, by decide +kernel⟩
theorem im_findUndone : Cond.instanceMethod yX12_findUndone ∈ lw_g := mt_at 2114 (by decide +kernel) rfl
theorem sl_findUndone : Cond.selects RX12 yX12_findUndone yX12_findUndone ∈ lw_g := mt_sel 74 (by decide +kernel) rfl
section
variable {p : Program} {l : Launch} {e : Env} {R : Room} {s : State} {m : MethodId} {args : Array Value} {below : List Frame} {meth : Method} {c : Code} {cM : ClassId} {iS : Nat → Nat} {cI cZ : ClassId} {mo : Nat} {ad : Nat → Nat} {r : Int32} {S9 : mSt}
noncomputable def fm_findUndone_68 (g_15 : mSt → Int32 → Int32 → Int32 → Option (Int32 × mSt)) (S : mSt) (v1 : Int32) (v2 : Int32) (v3 : Int32) : Option (Int32 × mSt) :=
lt (v3 + (1 : Int32)) fun x1 =>
g_15 S v1 v2 x1
set_option maxRecDepth 100000 in
set_option maxHeartbeats 4000000 in
theorem wm_findUndone_68 (C : mY p R s m args meth c cX12_findUndone 5 3 69 (some .int)) (X : mX s cM iS cI cZ mo ad) {g_15 : mSt → Int32 → Int32 → Int32 → Option (Int32 × mSt)} (hg_15 : ∀ {S : mSt} {v1 : Int32} {v2 : Int32} {v3 : Int32} {H : Heap} {locs : List Loc} {ls : Array Slot}, g_15 S v1 v2 v3 = some (r, S9) → mW cM iS cI cZ mo ad S H → mS (mA mo ad) s.heap H locs → lv_has ls 5 [(0, .ref mo), (1, .int v1), (2, .int v2), (3, .int v3)] → W p l e R s m args below meth c H locs 0 0 (MQ below (mQw (some (.int r)) cM iS cI cZ mo ad S9) args s 0 0 (mA mo ad)) (F0 m 15 ls [])) : ∀ {S : mSt} {v1 : Int32} {v2 : Int32} {v3 : Int32} {H : Heap} {locs : List Loc} {ls : Array Slot}, fm_findUndone_68 g_15 S v1 v2 v3 = some (r, S9) → mW cM iS cI cZ mo ad S H → mS (mA mo ad) s.heap H locs → lv_has ls 5 [(0, .ref mo), (1, .int v1), (2, .int v2), (3, .int v3)] → W p l e R s m args below meth c H locs 0 0 (MQ below (mQw (some (.int r)) cM iS cI cZ mo ad S9) args s 0 0 (mA mo ad)) (F0 m 68 ls []) := by
  intro S v1 v2 v3 H locs ls h hW hS hl
  unfold fm_findUndone_68 at h
  refine lt_ok h (fun x1 e_x1 h => ?_)
  refine lv_iinc (v := x1) (lv' := [(3, .int x1), (0, .ref mo), (1, .int v1), (2, .int v2)]) C.1 C.2.1 dX12_findUndone_68 hl (k := 3) rfl (by rw [← e_x1]; rfl) (by decide) rfl (fun ls hl => ?_)
  refine lv_goto (tgt := 15) C.1 C.2.1 dX12_findUndone_71 (by decide) ?_
  exact hg_15 h hW hS (lv_sub hl [1, 2, 3, 0] rfl)
noncomputable def fm_findUndone_65 (g_15 : mSt → Int32 → Int32 → Int32 → Option (Int32 × mSt)) (S : mSt) (v1 : Int32) (v3 : Int32) (v4 : Int32) : Option (Int32 × mSt) :=
fm_findUndone_68 g_15 S v1 v4 v3
set_option maxRecDepth 100000 in
set_option maxHeartbeats 4000000 in
theorem wm_findUndone_65 (C : mY p R s m args meth c cX12_findUndone 5 3 69 (some .int)) (X : mX s cM iS cI cZ mo ad) {g_15 : mSt → Int32 → Int32 → Int32 → Option (Int32 × mSt)} (hg_15 : ∀ {S : mSt} {v1 : Int32} {v2 : Int32} {v3 : Int32} {H : Heap} {locs : List Loc} {ls : Array Slot}, g_15 S v1 v2 v3 = some (r, S9) → mW cM iS cI cZ mo ad S H → mS (mA mo ad) s.heap H locs → lv_has ls 5 [(0, .ref mo), (1, .int v1), (2, .int v2), (3, .int v3)] → W p l e R s m args below meth c H locs 0 0 (MQ below (mQw (some (.int r)) cM iS cI cZ mo ad S9) args s 0 0 (mA mo ad)) (F0 m 15 ls [])) : ∀ {S : mSt} {v1 : Int32} {v3 : Int32} {v4 : Int32} {H : Heap} {locs : List Loc} {ls : Array Slot}, fm_findUndone_65 g_15 S v1 v3 v4 = some (r, S9) → mW cM iS cI cZ mo ad S H → mS (mA mo ad) s.heap H locs → lv_has ls 5 [(0, .ref mo), (1, .int v1), (3, .int v3), (4, .int v4)] → W p l e R s m args below meth c H locs 0 0 (MQ below (mQw (some (.int r)) cM iS cI cZ mo ad S9) args s 0 0 (mA mo ad)) (F0 m 65 ls []) := by
  intro S v1 v3 v4 H locs ls h hW hS hl
  unfold fm_findUndone_65 at h
  refine lv_iload C.1 C.2.1 dX12_findUndone_65 (lv_at hl 3 rfl) ?_
  refine lv_istore_n (lv' := [(2, .int v4), (0, .ref mo), (1, .int v1), (3, .int v3), (4, .int v4)]) C.1 C.2.1 dX12_findUndone_67 rfl hl (by decide) rfl (fun ls hl => ?_)
  exact wm_findUndone_68 C X hg_15 h hW hS (lv_sub hl [1, 2, 0, 3] rfl)
noncomputable def fm_findUndone_15 : Nat → mSt → Int32 → Int32 → Int32 → Option (Int32 × mSt)
  | 0, _, _, _, _ => none
  | n + 1, S, v1, v2, v3 =>
    ck v1 4 (
    if (rd S 7 v1) ≤ v3 then (
    if v2 = (-1 : Int32) then (
    some ((5 : Int32), S))
    else (
    bd (fm_nameOf v2) fun r3 =>
    lt (pu S 70 r3) fun S4 =>
    some ((0 : Int32), S4)))
    else (
    lt (((250 : Int32) * v1) + v3) fun x5 =>
    ck x5 1000 (
    if (rd S 47 x5) = 0 then (
    if v2 = (-1 : Int32) then (
    fm_findUndone_65 (fm_findUndone_15 n) S v1 v3 x5)
    else (
    ck x5 1000 (
    ck v2 1000 (
    if (rd S 48 x5) ≤ (rd S 48 v2) then (
    fm_findUndone_68 (fm_findUndone_15 n) S v1 v2 v3)
    else (
    fm_findUndone_65 (fm_findUndone_15 n) S v1 v3 x5)))))
    else (
    fm_findUndone_68 (fm_findUndone_15 n) S v1 v2 v3))))
set_option maxRecDepth 100000 in
set_option maxHeartbeats 4000000 in
theorem wm_findUndone_15 (C : mY p R s m args meth c cX12_findUndone 5 3 69 (some .int)) (X : mX s cM iS cI cZ mo ad) : ∀ (n : Nat), ∀ {S : mSt} {v1 : Int32} {v2 : Int32} {v3 : Int32} {H : Heap} {locs : List Loc} {ls : Array Slot}, fm_findUndone_15 n S v1 v2 v3 = some (r, S9) → mW cM iS cI cZ mo ad S H → mS (mA mo ad) s.heap H locs → lv_has ls 5 [(0, .ref mo), (1, .int v1), (2, .int v2), (3, .int v3)] → W p l e R s m args below meth c H locs 0 0 (MQ below (mQw (some (.int r)) cM iS cI cZ mo ad S9) args s 0 0 (mA mo ad)) (F0 m 15 ls []) := by
  intro n
  induction n with
  | zero =>
    intro S v1 v2 v3 H locs ls h hW hS hl
    exact absurd (show (none : Option (Int32 × mSt)) = _ from h) (fun q => by cases q)
  | succ n ih =>
    intro S v1 v2 v3 H locs ls h hW hS hl
    rw [fm_findUndone_15] at h
    refine lv_iload_n C.1 C.2.1 dX12_findUndone_15 rfl (lv_at hl 3 rfl) ?_
    refine lv_aload_n C.1 C.2.1 dX12_findUndone_16 rfl (lv_at hl 0 rfl) ?_
    refine gf_7 C X hW dX12_findUndone_17 ?_
    refine lv_iload_n C.1 C.2.1 dX12_findUndone_20 rfl (lv_at hl 1 rfl) ?_
    obtain ⟨hin, h⟩ := ck_ok h
    refine l_7 C X hW hin dX12_findUndone_21 ?_
    refine lv_icmp_ge (tgt := 74) C.1 C.2.1 dX12_findUndone_22 (by decide) (fun c1 => ?_) (fun c1 => ?_)
    · have h := if_t h c1
      refine lv_iload_n C.1 C.2.1 dX12_findUndone_74 rfl (lv_at hl 2 rfl) ?_
      refine lv_iconst (v := -1) C.1 C.2.1 dX12_findUndone_75 (by decide) ?_
      refine lv_icmp_ne (tgt := 81) C.1 C.2.1 dX12_findUndone_76 (by decide) (fun c2 => ?_) (fun c2 => ?_)
      · have h := if_f h c2
        refine lv_aload_n C.1 C.2.1 dX12_findUndone_81 rfl (lv_at hl 0 rfl) ?_
        refine lv_iload_n C.1 C.2.1 dX12_findUndone_82 rfl (lv_at hl 2 rfl) ?_
        obtain ⟨r3, h_r3, h⟩ := bd_ok h
        refine m_callS (rest := [.ref mo]) C hl.1 [.int v2] (tm_nameOf l h_r3) mw_nameOf st_nameOf rfl ⟨by decide, by decide⟩ rfl (Nat.le_of_ble_eq_true rfl) dX12_findUndone_83 ?_
        refine p_70 C X hW hS dX12_findUndone_86 (fun H locs hW hS => ?_)
        refine lt_ok h (fun S4 e_S4 h => ?_)
        rw [e_S4] at hW
        refine lv_iconst (v := 0) C.1 C.2.1 dX12_findUndone_89 (by decide) ?_
        cases h
        exact m_retiW C hW hS dX12_findUndone_90
      · have h := if_t h c2
        refine lv_iconst (v := 5) C.1 C.2.1 dX12_findUndone_79 (by decide) ?_
        cases h
        exact m_retiW C hW hS dX12_findUndone_80
    · have h := if_f h c1
      refine lv_sipush (v := 250) C.1 C.2.1 dX12_findUndone_25 (by decide) ?_
      refine lv_iload_n C.1 C.2.1 dX12_findUndone_28 rfl (lv_at hl 1 rfl) ?_
      refine lv_imul C.1 C.2.1 dX12_findUndone_29 ?_
      refine lv_iload_n C.1 C.2.1 dX12_findUndone_30 rfl (lv_at hl 3 rfl) ?_
      refine lv_iadd C.1 C.2.1 dX12_findUndone_31 ?_
      refine lt_ok h (fun x5 e_x5 h => ?_)
      refine lv_nm e_x5 ?_
      refine lv_istore (lv' := [(4, .int x5), (0, .ref mo), (1, .int v1), (2, .int v2), (3, .int v3)]) C.1 C.2.1 dX12_findUndone_32 hl (by decide) rfl (fun ls hl => ?_)
      refine lv_aload_n C.1 C.2.1 dX12_findUndone_34 rfl (lv_at hl 1 rfl) ?_
      refine gf_47 C X hW dX12_findUndone_35 ?_
      refine lv_iload C.1 C.2.1 dX12_findUndone_38 (lv_at hl 0 rfl) ?_
      obtain ⟨hin, h⟩ := ck_ok h
      refine l_47 C X hW hin dX12_findUndone_40 ?_
      refine lv_if_ne (tgt := 68) C.1 C.2.1 dX12_findUndone_41 (by decide) (fun c6 => ?_) (fun c6 => ?_)
      · have h := if_f h c6
        exact wm_findUndone_68 C X ih h hW hS (lv_sub hl [1, 2, 3, 4] rfl)
      · have h := if_t h c6
        refine lv_iload_n C.1 C.2.1 dX12_findUndone_44 rfl (lv_at hl 3 rfl) ?_
        refine lv_iconst (v := -1) C.1 C.2.1 dX12_findUndone_45 (by decide) ?_
        refine lv_icmp_eq (tgt := 65) C.1 C.2.1 dX12_findUndone_46 (by decide) (fun c7 => ?_) (fun c7 => ?_)
        · have h := if_t h c7
          exact wm_findUndone_65 C X ih h hW hS (lv_sub hl [1, 2, 4, 0] rfl)
        · have h := if_f h c7
          refine lv_aload_n C.1 C.2.1 dX12_findUndone_49 rfl (lv_at hl 1 rfl) ?_
          refine gf_48 C X hW dX12_findUndone_50 ?_
          refine lv_iload C.1 C.2.1 dX12_findUndone_53 (lv_at hl 0 rfl) ?_
          obtain ⟨hin, h⟩ := ck_ok h
          refine l_48 C X hW hin dX12_findUndone_55 ?_
          refine lv_aload_n C.1 C.2.1 dX12_findUndone_56 rfl (lv_at hl 1 rfl) ?_
          refine gf_48 C X hW dX12_findUndone_57 ?_
          refine lv_iload_n C.1 C.2.1 dX12_findUndone_60 rfl (lv_at hl 3 rfl) ?_
          obtain ⟨hin, h⟩ := ck_ok h
          refine l_48 C X hW hin dX12_findUndone_61 ?_
          refine lv_icmp_le (tgt := 68) C.1 C.2.1 dX12_findUndone_62 (by decide) (fun c8 => ?_) (fun c8 => ?_)
          · have h := if_t h c8
            exact wm_findUndone_68 C X ih h hW hS (lv_sub hl [1, 2, 3, 4] rfl)
          · have h := if_f h c8
            exact wm_findUndone_65 C X ih h hW hS (lv_sub hl [1, 2, 4, 0] rfl)
noncomputable def fm_findUndone (S : mSt) (v1 : Int32) : Option (Int32 × mSt) :=
ck v1 4 (
bd (fm_judge S v1 (rd S 23 v1)) fun S1 =>
fm_findUndone_15 mFU S1 v1 (-1 : Int32) (0 : Int32))
set_option maxRecDepth 100000 in
set_option maxHeartbeats 4000000 in
theorem tm_findUndone (l : Launch) {cM : ClassId} {iS : Nat → Nat} {cI cZ : ClassId} {mo : Nat} {ad : Nat → Nat} {S : mSt} {v1 : Int32} {r : Int32} {S9 : mSt} (h : fm_findUndone S v1 = some (r, S9)) : Met l yX12_findUndone (Cond.code yX12_findUndone cX12_findUndone 5 (some .int) :: lw_g) { frames := 3, cells := 0, slots := 0, locals := 69 } (mPi [.int v1] cM iS cI cZ mo ad S) (mQw (some (.int r)) cM iS cI cZ mo ad S9) 0 0 (mA mo ad) := by
  refine Met.ofW (cc := cX12_findUndone) (maxL := 5) (ret := (some .int)) (by decide) rfl ?_
  intro p e s m args below meth c s₁ B hml hv
  obtain ⟨rfl, hW, X⟩ := hv
  have C : mY p (headSpec (Cond.code yX12_findUndone cX12_findUndone 5 (some .int) :: lw_g) { frames := 3, cells := 0, slots := 0, locals := 69 }).room s m _ meth c cX12_findUndone 5 3 69 (some .int) := ⟨B.exec, B.bytes, hml, findClass_of_methodNamed B.named, fun w hw => atoms_spec (ws := Cond.code yX12_findUndone cX12_findUndone 5 (some .int) :: lw_g) B.pre w (List.mem_cons_of_mem _ hw), ⟨Nat.le_refl _, Nat.le_refl _⟩, B.returns, B.notSynchronized⟩
  have hl := lv_entry ([.ref mo, .int v1]) (n := 5) (Nat.le_of_ble_eq_true rfl)
  rw [lg_entry_eq]
  generalize (lg_sl ([.ref mo, .int v1]) ++ List.replicate (5 - (lg_sl ([.ref mo, .int v1])).length) Slot.unset).toArray = ls at hl ⊢
  have hl : lv_has ls 5 [(0, .ref mo), (1, .int v1)] := hl
  have hS : mS (mA mo ad) s.heap s.heap [] := mS.rf
  unfold fm_findUndone at h
  refine lv_aload_n C.1 C.2.1 dX12_findUndone_0 rfl (lv_at hl 0 rfl) ?_
  refine lv_iload_n C.1 C.2.1 dX12_findUndone_1 rfl (lv_at hl 1 rfl) ?_
  refine lv_aload_n C.1 C.2.1 dX12_findUndone_2 rfl (lv_at hl 0 rfl) ?_
  refine gf_23 C X hW dX12_findUndone_3 ?_
  refine lv_iload_n C.1 C.2.1 dX12_findUndone_6 rfl (lv_at hl 1 rfl) ?_
  obtain ⟨hin, h⟩ := ck_ok h
  refine l_23 C X hW hin dX12_findUndone_7 ?_
  obtain ⟨S1, h_S1, h⟩ := bd_ok h
  refine m_callW (rest := []) (ov := none) C X hW hS hl.1 [.int v1, .int (rd S 23 v1)] (tm_judge l h_S1) mw_judge im_judge sl_judge rfl ⟨by decide, by decide⟩ rfl (Nat.le_of_ble_eq_true rfl) dX12_findUndone_8 (fun H locs hW hS => ?_)
  refine W.eq (g2 := F0 m 11 ls []) rfl ?_
  refine lv_iconst (v := -1) C.1 C.2.1 dX12_findUndone_11 (by decide) ?_
  refine lv_istore_n (lv' := [(2, .int (-1 : Int32)), (0, .ref mo), (1, .int v1)]) C.1 C.2.1 dX12_findUndone_12 rfl hl (by decide) rfl (fun ls hl => ?_)
  refine lv_iconst (v := 0) C.1 C.2.1 dX12_findUndone_13 (by decide) ?_
  refine lv_istore_n (lv' := [(3, .int (0 : Int32)), (2, .int (-1 : Int32)), (0, .ref mo), (1, .int v1)]) C.1 C.2.1 dX12_findUndone_14 rfl hl (by decide) rfl (fun ls hl => ?_)
  exact wm_findUndone_15 C X mFU h hW hS (lv_sub hl [2, 3, 1, 0] rfl)
end
theorem dX12_refusal_0 : decode cX12_refusal 0 = .ok (.aload_n 0, 1) := by decide +kernel
theorem dX12_refusal_1 : decode cX12_refusal 1 = .ok (.iconst 0, 1) := by decide +kernel
theorem dX12_refusal_2 : decode cX12_refusal 2 = .ok (.putfield 378, 3) := by decide +kernel
theorem dX12_refusal_5 : decode cX12_refusal 5 = .ok (.aload_n 0, 1) := by decide +kernel
theorem dX12_refusal_6 : decode cX12_refusal 6 = .ok (.iconst 0, 1) := by decide +kernel
theorem dX12_refusal_7 : decode cX12_refusal 7 = .ok (.putfield 381, 3) := by decide +kernel
theorem dX12_refusal_10 : decode cX12_refusal 10 = .ok (.iload_n 2, 1) := by decide +kernel
theorem dX12_refusal_11 : decode cX12_refusal 11 = .ok (.tableswitch 498 0 18 #[89, 89, 89, 89, 97, 121, 121, 210, 233, 287, 361, 89, 496, 498, 498, 408, 233, 437, 480], 89) := by decide +kernel
theorem dX12_refusal_100 : decode cX12_refusal 100 = .ok (.aload_n 0, 1) := by decide +kernel
theorem dX12_refusal_101 : decode cX12_refusal 101 = .ok (.iload 5, 2) := by decide +kernel
theorem dX12_refusal_103 : decode cX12_refusal 103 = .ok (.putfield 378, 3) := by decide +kernel
theorem dX12_refusal_106 : decode cX12_refusal 106 = .ok (.iconst 0, 1) := by decide +kernel
theorem dX12_refusal_107 : decode cX12_refusal 107 = .ok (.ireturn, 1) := by decide +kernel
theorem dX12_refusal_108 : decode cX12_refusal 108 = .ok (.aload_n 0, 1) := by decide +kernel
theorem dX12_refusal_109 : decode cX12_refusal 109 = .ok (.iload 5, 2) := by decide +kernel
theorem dX12_refusal_111 : decode cX12_refusal 111 = .ok (.putfield 378, 3) := by decide +kernel
theorem dX12_refusal_114 : decode cX12_refusal 114 = .ok (.iload 5, 2) := by decide +kernel
theorem dX12_refusal_116 : decode cX12_refusal 116 = .ok (.iconst 1, 1) := by decide +kernel
theorem dX12_refusal_117 : decode cX12_refusal 117 = .ok (.sipush 1000, 3) := by decide +kernel
theorem dX12_refusal_120 : decode cX12_refusal 120 = .ok (.invokestatic 215, 3) := by decide +kernel
theorem dX12_refusal_123 : decode cX12_refusal 123 = .ok (.ifCond .eq 7, 3) := by decide +kernel
theorem dX12_refusal_126 : decode cX12_refusal 126 = .ok (.iconst 0, 1) := by decide +kernel
theorem dX12_refusal_127 : decode cX12_refusal 127 = .ok (.goto 4, 3) := by decide +kernel
theorem dX12_refusal_130 : decode cX12_refusal 130 = .ok (.iconst 5, 1) := by decide +kernel
theorem dX12_refusal_131 : decode cX12_refusal 131 = .ok (.ireturn, 1) := by decide +kernel
theorem dX12_refusal_132 : decode cX12_refusal 132 = .ok (.aload_n 0, 1) := by decide +kernel
theorem dX12_refusal_133 : decode cX12_refusal 133 = .ok (.iload 5, 2) := by decide +kernel
theorem dX12_refusal_135 : decode cX12_refusal 135 = .ok (.putfield 378, 3) := by decide +kernel
theorem dX12_refusal_138 : decode cX12_refusal 138 = .ok (.aload_n 0, 1) := by decide +kernel
theorem dX12_refusal_139 : decode cX12_refusal 139 = .ok (.iload_n 2, 1) := by decide +kernel
theorem dX12_refusal_140 : decode cX12_refusal 140 = .ok (.bipush 6, 2) := by decide +kernel
theorem dX12_refusal_142 : decode cX12_refusal 142 = .ok (.if_icmp .ne 8, 3) := by decide +kernel
theorem dX12_refusal_145 : decode cX12_refusal 145 = .ok (.iload 6, 2) := by decide +kernel
theorem dX12_refusal_147 : decode cX12_refusal 147 = .ok (.goto 4, 3) := by decide +kernel
theorem dX12_refusal_150 : decode cX12_refusal 150 = .ok (.iconst 0, 1) := by decide +kernel
theorem dX12_refusal_151 : decode cX12_refusal 151 = .ok (.putfield 381, 3) := by decide +kernel
theorem dX12_refusal_154 : decode cX12_refusal 154 = .ok (.iload 5, 2) := by decide +kernel
theorem dX12_refusal_156 : decode cX12_refusal 156 = .ok (.iconst 1, 1) := by decide +kernel
theorem dX12_refusal_157 : decode cX12_refusal 157 = .ok (.sipush 1000, 3) := by decide +kernel
theorem dX12_refusal_160 : decode cX12_refusal 160 = .ok (.invokestatic 215, 3) := by decide +kernel
theorem dX12_refusal_163 : decode cX12_refusal 163 = .ok (.ifCond .eq 25, 3) := by decide +kernel
theorem dX12_refusal_166 : decode cX12_refusal 166 = .ok (.iload_n 2, 1) := by decide +kernel
theorem dX12_refusal_167 : decode cX12_refusal 167 = .ok (.bipush 6, 2) := by decide +kernel
theorem dX12_refusal_169 : decode cX12_refusal 169 = .ok (.if_icmp .ne 21, 3) := by decide +kernel
theorem dX12_refusal_172 : decode cX12_refusal 172 = .ok (.iload 6, 2) := by decide +kernel
theorem dX12_refusal_174 : decode cX12_refusal 174 = .ok (.iconst 0, 1) := by decide +kernel
theorem dX12_refusal_175 : decode cX12_refusal 175 = .ok (.iconst 3, 1) := by decide +kernel
theorem dX12_refusal_176 : decode cX12_refusal 176 = .ok (.invokestatic 215, 3) := by decide +kernel
theorem dX12_refusal_179 : decode cX12_refusal 179 = .ok (.ifCond .eq 9, 3) := by decide +kernel
theorem dX12_refusal_182 : decode cX12_refusal 182 = .ok (.iload 6, 2) := by decide +kernel
theorem dX12_refusal_184 : decode cX12_refusal 184 = .ok (.iload_n 1, 1) := by decide +kernel
theorem dX12_refusal_185 : decode cX12_refusal 185 = .ok (.if_icmp .ne 5, 3) := by decide +kernel
theorem dX12_refusal_188 : decode cX12_refusal 188 = .ok (.iconst 5, 1) := by decide +kernel
theorem dX12_refusal_189 : decode cX12_refusal 189 = .ok (.ireturn, 1) := by decide +kernel
theorem dX12_refusal_190 : decode cX12_refusal 190 = .ok (.aload_n 0, 1) := by decide +kernel
theorem dX12_refusal_191 : decode cX12_refusal 191 = .ok (.iload_n 1, 1) := by decide +kernel
theorem dX12_refusal_192 : decode cX12_refusal 192 = .ok (.aload_n 0, 1) := by decide +kernel
theorem dX12_refusal_193 : decode cX12_refusal 193 = .ok (.getfield 71, 3) := by decide +kernel
theorem dX12_refusal_196 : decode cX12_refusal 196 = .ok (.iload_n 1, 1) := by decide +kernel
theorem dX12_refusal_197 : decode cX12_refusal 197 = .ok (.iaload, 1) := by decide +kernel
theorem dX12_refusal_198 : decode cX12_refusal 198 = .ok (.iload_n 3, 1) := by decide +kernel
theorem dX12_refusal_199 : decode cX12_refusal 199 = .ok (.iload 4, 2) := by decide +kernel
theorem dX12_refusal_201 : decode cX12_refusal 201 = .ok (.invokevirtual 340, 3) := by decide +kernel
theorem dX12_refusal_204 : decode cX12_refusal 204 = .ok (.iload 5, 2) := by decide +kernel
theorem dX12_refusal_206 : decode cX12_refusal 206 = .ok (.aload_n 0, 1) := by decide +kernel
theorem dX12_refusal_207 : decode cX12_refusal 207 = .ok (.getfield 139, 3) := by decide +kernel
theorem dX12_refusal_210 : decode cX12_refusal 210 = .ok (.iload_n 1, 1) := by decide +kernel
theorem dX12_refusal_211 : decode cX12_refusal 211 = .ok (.iaload, 1) := by decide +kernel
theorem dX12_refusal_212 : decode cX12_refusal 212 = .ok (.if_icmp .gt 7, 3) := by decide +kernel
theorem dX12_refusal_215 : decode cX12_refusal 215 = .ok (.iconst 0, 1) := by decide +kernel
theorem dX12_refusal_216 : decode cX12_refusal 216 = .ok (.goto 4, 3) := by decide +kernel
theorem dX12_refusal_219 : decode cX12_refusal 219 = .ok (.iconst 5, 1) := by decide +kernel
theorem dX12_refusal_220 : decode cX12_refusal 220 = .ok (.ireturn, 1) := by decide +kernel
theorem dX12_refusal_221 : decode cX12_refusal 221 = .ok (.aload_n 0, 1) := by decide +kernel
theorem dX12_refusal_222 : decode cX12_refusal 222 = .ok (.iload 5, 2) := by decide +kernel
theorem dX12_refusal_224 : decode cX12_refusal 224 = .ok (.putfield 378, 3) := by decide +kernel
theorem dX12_refusal_227 : decode cX12_refusal 227 = .ok (.iload 5, 2) := by decide +kernel
theorem dX12_refusal_229 : decode cX12_refusal 229 = .ok (.iconst 0, 1) := by decide +kernel
theorem dX12_refusal_230 : decode cX12_refusal 230 = .ok (.bipush 63, 2) := by decide +kernel
theorem dX12_refusal_232 : decode cX12_refusal 232 = .ok (.invokestatic 215, 3) := by decide +kernel
theorem dX12_refusal_235 : decode cX12_refusal 235 = .ok (.ifCond .eq 7, 3) := by decide +kernel
theorem dX12_refusal_238 : decode cX12_refusal 238 = .ok (.iconst 0, 1) := by decide +kernel
theorem dX12_refusal_239 : decode cX12_refusal 239 = .ok (.goto 4, 3) := by decide +kernel
theorem dX12_refusal_242 : decode cX12_refusal 242 = .ok (.iconst 5, 1) := by decide +kernel
theorem dX12_refusal_243 : decode cX12_refusal 243 = .ok (.ireturn, 1) := by decide +kernel
theorem dX12_refusal_244 : decode cX12_refusal 244 = .ok (.aload_n 0, 1) := by decide +kernel
theorem dX12_refusal_245 : decode cX12_refusal 245 = .ok (.iload 5, 2) := by decide +kernel
theorem dX12_refusal_247 : decode cX12_refusal 247 = .ok (.putfield 378, 3) := by decide +kernel
theorem dX12_refusal_250 : decode cX12_refusal 250 = .ok (.aload_n 0, 1) := by decide +kernel
theorem dX12_refusal_251 : decode cX12_refusal 251 = .ok (.iload_n 1, 1) := by decide +kernel
theorem dX12_refusal_252 : decode cX12_refusal 252 = .ok (.aload_n 0, 1) := by decide +kernel
theorem dX12_refusal_253 : decode cX12_refusal 253 = .ok (.getfield 71, 3) := by decide +kernel
theorem dX12_refusal_256 : decode cX12_refusal 256 = .ok (.iload_n 1, 1) := by decide +kernel
theorem dX12_refusal_257 : decode cX12_refusal 257 = .ok (.iaload, 1) := by decide +kernel
theorem dX12_refusal_258 : decode cX12_refusal 258 = .ok (.iload_n 3, 1) := by decide +kernel
theorem dX12_refusal_259 : decode cX12_refusal 259 = .ok (.iload 4, 2) := by decide +kernel
theorem dX12_refusal_261 : decode cX12_refusal 261 = .ok (.invokevirtual 340, 3) := by decide +kernel
theorem dX12_refusal_264 : decode cX12_refusal 264 = .ok (.iconst 0, 1) := by decide +kernel
theorem dX12_refusal_265 : decode cX12_refusal 265 = .ok (.istore 7, 2) := by decide +kernel
theorem dX12_refusal_267 : decode cX12_refusal 267 = .ok (.iload 7, 2) := by decide +kernel
theorem dX12_refusal_269 : decode cX12_refusal 269 = .ok (.aload_n 0, 1) := by decide +kernel
theorem dX12_refusal_270 : decode cX12_refusal 270 = .ok (.getfield 253, 3) := by decide +kernel
theorem dX12_refusal_273 : decode cX12_refusal 273 = .ok (.if_icmp .ge 23, 3) := by decide +kernel
theorem dX12_refusal_276 : decode cX12_refusal 276 = .ok (.aload_n 0, 1) := by decide +kernel
theorem dX12_refusal_277 : decode cX12_refusal 277 = .ok (.getfield 139, 3) := by decide +kernel
theorem dX12_refusal_280 : decode cX12_refusal 280 = .ok (.iload 7, 2) := by decide +kernel
theorem dX12_refusal_282 : decode cX12_refusal 282 = .ok (.iaload, 1) := by decide +kernel
theorem dX12_refusal_283 : decode cX12_refusal 283 = .ok (.iload 5, 2) := by decide +kernel
theorem dX12_refusal_285 : decode cX12_refusal 285 = .ok (.if_icmp .ne 5, 3) := by decide +kernel
theorem dX12_refusal_288 : decode cX12_refusal 288 = .ok (.iconst 0, 1) := by decide +kernel
theorem dX12_refusal_289 : decode cX12_refusal 289 = .ok (.ireturn, 1) := by decide +kernel
theorem dX12_refusal_290 : decode cX12_refusal 290 = .ok (.iinc 7 1, 3) := by decide +kernel
theorem dX12_refusal_293 : decode cX12_refusal 293 = .ok (.goto (-26), 3) := by decide +kernel
theorem dX12_refusal_296 : decode cX12_refusal 296 = .ok (.iconst 5, 1) := by decide +kernel
theorem dX12_refusal_297 : decode cX12_refusal 297 = .ok (.ireturn, 1) := by decide +kernel
theorem dX12_refusal_298 : decode cX12_refusal 298 = .ok (.aload_n 0, 1) := by decide +kernel
theorem dX12_refusal_299 : decode cX12_refusal 299 = .ok (.iload 5, 2) := by decide +kernel
theorem dX12_refusal_301 : decode cX12_refusal 301 = .ok (.putfield 378, 3) := by decide +kernel
theorem dX12_refusal_304 : decode cX12_refusal 304 = .ok (.aload_n 0, 1) := by decide +kernel
theorem dX12_refusal_305 : decode cX12_refusal 305 = .ok (.iload_n 1, 1) := by decide +kernel
theorem dX12_refusal_306 : decode cX12_refusal 306 = .ok (.aload_n 0, 1) := by decide +kernel
theorem dX12_refusal_307 : decode cX12_refusal 307 = .ok (.getfield 71, 3) := by decide +kernel
theorem dX12_refusal_310 : decode cX12_refusal 310 = .ok (.iload_n 1, 1) := by decide +kernel
theorem dX12_refusal_311 : decode cX12_refusal 311 = .ok (.iaload, 1) := by decide +kernel
theorem dX12_refusal_312 : decode cX12_refusal 312 = .ok (.iload_n 3, 1) := by decide +kernel
theorem dX12_refusal_313 : decode cX12_refusal 313 = .ok (.iload 4, 2) := by decide +kernel
theorem dX12_refusal_315 : decode cX12_refusal 315 = .ok (.invokevirtual 340, 3) := by decide +kernel
theorem dX12_refusal_318 : decode cX12_refusal 318 = .ok (.iload 5, 2) := by decide +kernel
theorem dX12_refusal_320 : decode cX12_refusal 320 = .ok (.bipush 32, 2) := by decide +kernel
theorem dX12_refusal_322 : decode cX12_refusal 322 = .ok (.bipush 126, 2) := by decide +kernel
theorem dX12_refusal_324 : decode cX12_refusal 324 = .ok (.invokestatic 215, 3) := by decide +kernel
theorem dX12_refusal_327 : decode cX12_refusal 327 = .ok (.ifCond .eq 16, 3) := by decide +kernel
theorem dX12_refusal_330 : decode cX12_refusal 330 = .ok (.iload 6, 2) := by decide +kernel
theorem dX12_refusal_332 : decode cX12_refusal 332 = .ok (.iconst 0, 1) := by decide +kernel
theorem dX12_refusal_333 : decode cX12_refusal 333 = .ok (.aload_n 0, 1) := by decide +kernel
theorem dX12_refusal_334 : decode cX12_refusal 334 = .ok (.getfield 253, 3) := by decide +kernel
theorem dX12_refusal_337 : decode cX12_refusal 337 = .ok (.invokestatic 215, 3) := by decide +kernel
theorem dX12_refusal_340 : decode cX12_refusal 340 = .ok (.ifCond .ne 5, 3) := by decide +kernel
theorem dX12_refusal_343 : decode cX12_refusal 343 = .ok (.iconst 5, 1) := by decide +kernel
theorem dX12_refusal_344 : decode cX12_refusal 344 = .ok (.ireturn, 1) := by decide +kernel
theorem dX12_refusal_345 : decode cX12_refusal 345 = .ok (.aload_n 0, 1) := by decide +kernel
theorem dX12_refusal_346 : decode cX12_refusal 346 = .ok (.iload 6, 2) := by decide +kernel
theorem dX12_refusal_348 : decode cX12_refusal 348 = .ok (.ifCond .ne 7, 3) := by decide +kernel
theorem dX12_refusal_351 : decode cX12_refusal 351 = .ok (.iconst 0, 1) := by decide +kernel
theorem dX12_refusal_352 : decode cX12_refusal 352 = .ok (.goto 15, 3) := by decide +kernel
theorem dX12_refusal_355 : decode cX12_refusal 355 = .ok (.aload_n 0, 1) := by decide +kernel
theorem dX12_refusal_356 : decode cX12_refusal 356 = .ok (.getfield 142, 3) := by decide +kernel
theorem dX12_refusal_359 : decode cX12_refusal 359 = .ok (.iload 6, 2) := by decide +kernel
theorem dX12_refusal_361 : decode cX12_refusal 361 = .ok (.iconst 1, 1) := by decide +kernel
theorem dX12_refusal_362 : decode cX12_refusal 362 = .ok (.isub, 1) := by decide +kernel
theorem dX12_refusal_363 : decode cX12_refusal 363 = .ok (.iaload, 1) := by decide +kernel
theorem dX12_refusal_364 : decode cX12_refusal 364 = .ok (.invokestatic 303, 3) := by decide +kernel
theorem dX12_refusal_367 : decode cX12_refusal 367 = .ok (.putfield 381, 3) := by decide +kernel
theorem dX12_refusal_370 : decode cX12_refusal 370 = .ok (.iconst 0, 1) := by decide +kernel
theorem dX12_refusal_371 : decode cX12_refusal 371 = .ok (.ireturn, 1) := by decide +kernel
theorem dX12_refusal_372 : decode cX12_refusal 372 = .ok (.aload_n 0, 1) := by decide +kernel
theorem dX12_refusal_373 : decode cX12_refusal 373 = .ok (.iload_n 1, 1) := by decide +kernel
theorem dX12_refusal_374 : decode cX12_refusal 374 = .ok (.aload_n 0, 1) := by decide +kernel
theorem dX12_refusal_375 : decode cX12_refusal 375 = .ok (.getfield 71, 3) := by decide +kernel
theorem dX12_refusal_378 : decode cX12_refusal 378 = .ok (.iload_n 1, 1) := by decide +kernel
theorem dX12_refusal_379 : decode cX12_refusal 379 = .ok (.iaload, 1) := by decide +kernel
theorem dX12_refusal_380 : decode cX12_refusal 380 = .ok (.iload_n 3, 1) := by decide +kernel
theorem dX12_refusal_381 : decode cX12_refusal 381 = .ok (.iload 4, 2) := by decide +kernel
theorem dX12_refusal_383 : decode cX12_refusal 383 = .ok (.invokevirtual 340, 3) := by decide +kernel
theorem dX12_refusal_386 : decode cX12_refusal 386 = .ok (.iload 6, 2) := by decide +kernel
theorem dX12_refusal_388 : decode cX12_refusal 388 = .ok (.iconst 0, 1) := by decide +kernel
theorem dX12_refusal_389 : decode cX12_refusal 389 = .ok (.aload_n 0, 1) := by decide +kernel
theorem dX12_refusal_390 : decode cX12_refusal 390 = .ok (.getfield 253, 3) := by decide +kernel
theorem dX12_refusal_393 : decode cX12_refusal 393 = .ok (.iconst 1, 1) := by decide +kernel
theorem dX12_refusal_394 : decode cX12_refusal 394 = .ok (.isub, 1) := by decide +kernel
theorem dX12_refusal_395 : decode cX12_refusal 395 = .ok (.invokestatic 215, 3) := by decide +kernel
theorem dX12_refusal_398 : decode cX12_refusal 398 = .ok (.ifCond .ne 5, 3) := by decide +kernel
theorem dX12_refusal_401 : decode cX12_refusal 401 = .ok (.iconst 5, 1) := by decide +kernel
theorem dX12_refusal_402 : decode cX12_refusal 402 = .ok (.ireturn, 1) := by decide +kernel
theorem dX12_refusal_403 : decode cX12_refusal 403 = .ok (.aload_n 0, 1) := by decide +kernel
theorem dX12_refusal_404 : decode cX12_refusal 404 = .ok (.aload_n 0, 1) := by decide +kernel
theorem dX12_refusal_405 : decode cX12_refusal 405 = .ok (.getfield 142, 3) := by decide +kernel
theorem dX12_refusal_408 : decode cX12_refusal 408 = .ok (.iload 6, 2) := by decide +kernel
theorem dX12_refusal_410 : decode cX12_refusal 410 = .ok (.iaload, 1) := by decide +kernel
theorem dX12_refusal_411 : decode cX12_refusal 411 = .ok (.invokestatic 303, 3) := by decide +kernel
theorem dX12_refusal_414 : decode cX12_refusal 414 = .ok (.putfield 381, 3) := by decide +kernel
theorem dX12_refusal_417 : decode cX12_refusal 417 = .ok (.iconst 0, 1) := by decide +kernel
theorem dX12_refusal_418 : decode cX12_refusal 418 = .ok (.ireturn, 1) := by decide +kernel
theorem dX12_refusal_419 : decode cX12_refusal 419 = .ok (.aload_n 0, 1) := by decide +kernel
theorem dX12_refusal_420 : decode cX12_refusal 420 = .ok (.iload 5, 2) := by decide +kernel
theorem dX12_refusal_422 : decode cX12_refusal 422 = .ok (.putfield 378, 3) := by decide +kernel
theorem dX12_refusal_425 : decode cX12_refusal 425 = .ok (.aload_n 0, 1) := by decide +kernel
theorem dX12_refusal_426 : decode cX12_refusal 426 = .ok (.iload 6, 2) := by decide +kernel
theorem dX12_refusal_428 : decode cX12_refusal 428 = .ok (.putfield 381, 3) := by decide +kernel
theorem dX12_refusal_431 : decode cX12_refusal 431 = .ok (.iload 5, 2) := by decide +kernel
theorem dX12_refusal_433 : decode cX12_refusal 433 = .ok (.iconst 0, 1) := by decide +kernel
theorem dX12_refusal_434 : decode cX12_refusal 434 = .ok (.bipush 63, 2) := by decide +kernel
theorem dX12_refusal_436 : decode cX12_refusal 436 = .ok (.invokestatic 215, 3) := by decide +kernel
theorem dX12_refusal_439 : decode cX12_refusal 439 = .ok (.ifCond .eq 7, 3) := by decide +kernel
theorem dX12_refusal_442 : decode cX12_refusal 442 = .ok (.iconst 0, 1) := by decide +kernel
theorem dX12_refusal_443 : decode cX12_refusal 443 = .ok (.goto 4, 3) := by decide +kernel
theorem dX12_refusal_446 : decode cX12_refusal 446 = .ok (.iconst 5, 1) := by decide +kernel
theorem dX12_refusal_447 : decode cX12_refusal 447 = .ok (.ireturn, 1) := by decide +kernel
theorem dX12_refusal_448 : decode cX12_refusal 448 = .ok (.aload_n 0, 1) := by decide +kernel
theorem dX12_refusal_449 : decode cX12_refusal 449 = .ok (.iload 5, 2) := by decide +kernel
theorem dX12_refusal_451 : decode cX12_refusal 451 = .ok (.putfield 378, 3) := by decide +kernel
theorem dX12_refusal_454 : decode cX12_refusal 454 = .ok (.aload_n 0, 1) := by decide +kernel
theorem dX12_refusal_455 : decode cX12_refusal 455 = .ok (.iload_n 1, 1) := by decide +kernel
theorem dX12_refusal_456 : decode cX12_refusal 456 = .ok (.iload_n 3, 1) := by decide +kernel
theorem dX12_refusal_457 : decode cX12_refusal 457 = .ok (.invokevirtual 384, 3) := by decide +kernel
theorem dX12_refusal_460 : decode cX12_refusal 460 = .ok (.istore 7, 2) := by decide +kernel
theorem dX12_refusal_462 : decode cX12_refusal 462 = .ok (.iload 5, 2) := by decide +kernel
theorem dX12_refusal_464 : decode cX12_refusal 464 = .ok (.iconst 1, 1) := by decide +kernel
theorem dX12_refusal_465 : decode cX12_refusal 465 = .ok (.bipush 100, 2) := by decide +kernel
theorem dX12_refusal_467 : decode cX12_refusal 467 = .ok (.invokestatic 215, 3) := by decide +kernel
theorem dX12_refusal_470 : decode cX12_refusal 470 = .ok (.ifCond .eq 19, 3) := by decide +kernel
theorem dX12_refusal_473 : decode cX12_refusal 473 = .ok (.iload 7, 2) := by decide +kernel
theorem dX12_refusal_475 : decode cX12_refusal 475 = .ok (.iconst (-1), 1) := by decide +kernel
theorem dX12_refusal_476 : decode cX12_refusal 476 = .ok (.if_icmp .eq 9, 3) := by decide +kernel
theorem dX12_refusal_479 : decode cX12_refusal 479 = .ok (.iload 7, 2) := by decide +kernel
theorem dX12_refusal_481 : decode cX12_refusal 481 = .ok (.iload_n 1, 1) := by decide +kernel
theorem dX12_refusal_482 : decode cX12_refusal 482 = .ok (.if_icmp .ne 7, 3) := by decide +kernel
theorem dX12_refusal_485 : decode cX12_refusal 485 = .ok (.iconst 0, 1) := by decide +kernel
theorem dX12_refusal_486 : decode cX12_refusal 486 = .ok (.goto 4, 3) := by decide +kernel
theorem dX12_refusal_489 : decode cX12_refusal 489 = .ok (.iconst 5, 1) := by decide +kernel
theorem dX12_refusal_490 : decode cX12_refusal 490 = .ok (.ireturn, 1) := by decide +kernel
theorem dX12_refusal_491 : decode cX12_refusal 491 = .ok (.aload_n 0, 1) := by decide +kernel
theorem dX12_refusal_492 : decode cX12_refusal 492 = .ok (.iload_n 1, 1) := by decide +kernel
theorem dX12_refusal_493 : decode cX12_refusal 493 = .ok (.iload_n 3, 1) := by decide +kernel
theorem dX12_refusal_494 : decode cX12_refusal 494 = .ok (.invokevirtual 384, 3) := by decide +kernel
theorem dX12_refusal_497 : decode cX12_refusal 497 = .ok (.iload_n 1, 1) := by decide +kernel
theorem dX12_refusal_498 : decode cX12_refusal 498 = .ok (.if_icmp .ne 7, 3) := by decide +kernel
theorem dX12_refusal_501 : decode cX12_refusal 501 = .ok (.iconst 0, 1) := by decide +kernel
theorem dX12_refusal_502 : decode cX12_refusal 502 = .ok (.goto 4, 3) := by decide +kernel
theorem dX12_refusal_505 : decode cX12_refusal 505 = .ok (.iconst 5, 1) := by decide +kernel
theorem dX12_refusal_506 : decode cX12_refusal 506 = .ok (.ireturn, 1) := by decide +kernel
theorem dX12_refusal_507 : decode cX12_refusal 507 = .ok (.iconst 0, 1) := by decide +kernel
theorem dX12_refusal_508 : decode cX12_refusal 508 = .ok (.ireturn, 1) := by decide +kernel
theorem dX12_refusal_509 : decode cX12_refusal 509 = .ok (.iload_n 2, 1) := by decide +kernel
theorem dX12_refusal_510 : decode cX12_refusal 510 = .ok (.bipush 13, 2) := by decide +kernel
theorem dX12_refusal_512 : decode cX12_refusal 512 = .ok (.if_icmp .ne 11, 3) := by decide +kernel
theorem dX12_refusal_515 : decode cX12_refusal 515 = .ok (.aload_n 0, 1) := by decide +kernel
theorem dX12_refusal_516 : decode cX12_refusal 516 = .ok (.iload_n 1, 1) := by decide +kernel
theorem dX12_refusal_517 : decode cX12_refusal 517 = .ok (.invokevirtual 387, 3) := by decide +kernel
theorem dX12_refusal_520 : decode cX12_refusal 520 = .ok (.goto 8, 3) := by decide +kernel
theorem dX12_refusal_523 : decode cX12_refusal 523 = .ok (.aload_n 0, 1) := by decide +kernel
theorem dX12_refusal_524 : decode cX12_refusal 524 = .ok (.iload_n 1, 1) := by decide +kernel
theorem dX12_refusal_525 : decode cX12_refusal 525 = .ok (.invokevirtual 390, 3) := by decide +kernel
theorem dX12_refusal_528 : decode cX12_refusal 528 = .ok (.ireturn, 1) := by decide +kernel
theorem cd_refusal : Cond.code yX12_refusal cX12_refusal 8 (some .int) ∈ lw_g := mt_at 2025 (by decide +kernel) rfl
theorem mw_refusal : mCw 405 yX12_refusal cX12_refusal 8 (some .int) 6 := ⟨cd_refusal, mt_at 2022 (by decide +kernel) rfl, in_M, by decide +kernel⟩
theorem im_refusal : Cond.instanceMethod yX12_refusal ∈ lw_g := mt_at 2024 (by decide +kernel) rfl
theorem sl_refusal : Cond.selects RX12 yX12_refusal yX12_refusal ∈ lw_g := mt_sel 53 (by decide +kernel) rfl
section
variable {p : Program} {l : Launch} {e : Env} {R : Room} {s : State} {m : MethodId} {args : Array Value} {below : List Frame} {meth : Method} {c : Code} {cM : ClassId} {iS : Nat → Nat} {cI cZ : ClassId} {mo : Nat} {ad : Nat → Nat} {r : Int32} {S9 : mSt}
noncomputable def fm_refusal_528 (S : mSt) (s0 : Int32) : Option (Int32 × mSt) :=
some (s0, S)
set_option maxRecDepth 100000 in
set_option maxHeartbeats 4000000 in
theorem wm_refusal_528 (C : mY p R s m args meth c cX12_refusal 8 5 119 (some .int)) (X : mX s cM iS cI cZ mo ad) : ∀ {S : mSt} {s0 : Int32} {H : Heap} {locs : List Loc} {ls : Array Slot}, fm_refusal_528 S s0 = some (r, S9) → mW cM iS cI cZ mo ad S H → mS (mA mo ad) s.heap H locs → lv_has ls 8 [] → W p l e R s m args below meth c H locs 0 0 (MQ below (mQw (some (.int r)) cM iS cI cZ mo ad S9) args s 0 0 (mA mo ad)) (F0 m 528 ls [.int s0]) := by
  intro S s0 H locs ls h hW hS hl
  unfold fm_refusal_528 at h
  cases h
  exact m_retiW C hW hS dX12_refusal_528
noncomputable def fm_refusal_509 (S : mSt) (v1 : Int32) (v2 : Int32) : Option (Int32 × mSt) :=
if v2 = (13 : Int32) then (
bd (fm_findGood S v1) fun q_r5 => lt q_r5.1 fun r5 => lt q_r5.2 fun S4 =>
fm_refusal_528 S4 r5)
else (
bd (fm_findUndone S v1) fun q_r3 => lt q_r3.1 fun r3 => lt q_r3.2 fun S2 =>
fm_refusal_528 S2 r3)
set_option maxRecDepth 100000 in
set_option maxHeartbeats 4000000 in
theorem wm_refusal_509 (C : mY p R s m args meth c cX12_refusal 8 5 119 (some .int)) (X : mX s cM iS cI cZ mo ad) : ∀ {S : mSt} {v1 : Int32} {v2 : Int32} {H : Heap} {locs : List Loc} {ls : Array Slot}, fm_refusal_509 S v1 v2 = some (r, S9) → mW cM iS cI cZ mo ad S H → mS (mA mo ad) s.heap H locs → lv_has ls 8 [(0, .ref mo), (1, .int v1), (2, .int v2)] → W p l e R s m args below meth c H locs 0 0 (MQ below (mQw (some (.int r)) cM iS cI cZ mo ad S9) args s 0 0 (mA mo ad)) (F0 m 509 ls []) := by
  intro S v1 v2 H locs ls h hW hS hl
  unfold fm_refusal_509 at h
  refine lv_iload_n C.1 C.2.1 dX12_refusal_509 rfl (lv_at hl 2 rfl) ?_
  refine lv_bipush (v := 13) C.1 C.2.1 dX12_refusal_510 (by decide) ?_
  refine lv_icmp_ne (tgt := 523) C.1 C.2.1 dX12_refusal_512 (by decide) (fun c1 => ?_) (fun c1 => ?_)
  · have h := if_f h c1
    refine lv_aload_n C.1 C.2.1 dX12_refusal_523 rfl (lv_at hl 0 rfl) ?_
    refine lv_iload_n C.1 C.2.1 dX12_refusal_524 rfl (lv_at hl 1 rfl) ?_
    obtain ⟨⟨r3, S2⟩, h_S2, h⟩ := bd_ok h
    refine m_callW (rest := []) (ov := some (.int r3)) C X hW hS hl.1 [.int v1] (tm_findUndone l h_S2) mw_findUndone im_findUndone sl_findUndone rfl ⟨by decide, by decide⟩ rfl (Nat.le_of_ble_eq_true rfl) dX12_refusal_525 (fun H locs hW hS => ?_)
    refine W.eq (g2 := F0 m 528 ls [.int r3]) rfl ?_
    exact wm_refusal_528 C X h hW hS (lv_sub hl [] rfl)
  · have h := if_t h c1
    refine lv_aload_n C.1 C.2.1 dX12_refusal_515 rfl (lv_at hl 0 rfl) ?_
    refine lv_iload_n C.1 C.2.1 dX12_refusal_516 rfl (lv_at hl 1 rfl) ?_
    obtain ⟨⟨r5, S4⟩, h_S4, h⟩ := bd_ok h
    refine m_callW (rest := []) (ov := some (.int r5)) C X hW hS hl.1 [.int v1] (tm_findGood l h_S4) mw_findGood im_findGood sl_findGood rfl ⟨by decide, by decide⟩ rfl (Nat.le_of_ble_eq_true rfl) dX12_refusal_517 (fun H locs hW hS => ?_)
    refine W.eq (g2 := F0 m 520 ls [.int r5]) rfl ?_
    refine lv_goto (tgt := 528) C.1 C.2.1 dX12_refusal_520 (by decide) ?_
    exact wm_refusal_528 C X h hW hS (lv_sub hl [] rfl)
noncomputable def fm_refusal_100 (S : mSt) (v5 : Int32) : Option (Int32 × mSt) :=
lt (pu S 69 v5) fun S1 =>
some ((0 : Int32), S1)
set_option maxRecDepth 100000 in
set_option maxHeartbeats 4000000 in
theorem wm_refusal_100 (C : mY p R s m args meth c cX12_refusal 8 5 119 (some .int)) (X : mX s cM iS cI cZ mo ad) : ∀ {S : mSt} {v5 : Int32} {H : Heap} {locs : List Loc} {ls : Array Slot}, fm_refusal_100 S v5 = some (r, S9) → mW cM iS cI cZ mo ad S H → mS (mA mo ad) s.heap H locs → lv_has ls 8 [(0, .ref mo), (5, .int v5)] → W p l e R s m args below meth c H locs 0 0 (MQ below (mQw (some (.int r)) cM iS cI cZ mo ad S9) args s 0 0 (mA mo ad)) (F0 m 100 ls []) := by
  intro S v5 H locs ls h hW hS hl
  unfold fm_refusal_100 at h
  refine lv_aload_n C.1 C.2.1 dX12_refusal_100 rfl (lv_at hl 0 rfl) ?_
  refine lv_iload C.1 C.2.1 dX12_refusal_101 (lv_at hl 1 rfl) ?_
  refine p_69 C X hW hS dX12_refusal_103 (fun H locs hW hS => ?_)
  refine lt_ok h (fun S1 e_S1 h => ?_)
  rw [e_S1] at hW
  refine lv_iconst (v := 0) C.1 C.2.1 dX12_refusal_106 (by decide) ?_
  cases h
  exact m_retiW C hW hS dX12_refusal_107
noncomputable def fm_refusal_131 (S : mSt) (s0 : Int32) : Option (Int32 × mSt) :=
some (s0, S)
set_option maxRecDepth 100000 in
set_option maxHeartbeats 4000000 in
theorem wm_refusal_131 (C : mY p R s m args meth c cX12_refusal 8 5 119 (some .int)) (X : mX s cM iS cI cZ mo ad) : ∀ {S : mSt} {s0 : Int32} {H : Heap} {locs : List Loc} {ls : Array Slot}, fm_refusal_131 S s0 = some (r, S9) → mW cM iS cI cZ mo ad S H → mS (mA mo ad) s.heap H locs → lv_has ls 8 [] → W p l e R s m args below meth c H locs 0 0 (MQ below (mQw (some (.int r)) cM iS cI cZ mo ad S9) args s 0 0 (mA mo ad)) (F0 m 131 ls [.int s0]) := by
  intro S s0 H locs ls h hW hS hl
  unfold fm_refusal_131 at h
  cases h
  exact m_retiW C hW hS dX12_refusal_131
noncomputable def fm_refusal_188 (S : mSt) : Option (Int32 × mSt) :=
some ((5 : Int32), S)
set_option maxRecDepth 100000 in
set_option maxHeartbeats 4000000 in
theorem wm_refusal_188 (C : mY p R s m args meth c cX12_refusal 8 5 119 (some .int)) (X : mX s cM iS cI cZ mo ad) : ∀ {S : mSt} {H : Heap} {locs : List Loc} {ls : Array Slot}, fm_refusal_188 S = some (r, S9) → mW cM iS cI cZ mo ad S H → mS (mA mo ad) s.heap H locs → lv_has ls 8 [] → W p l e R s m args below meth c H locs 0 0 (MQ below (mQw (some (.int r)) cM iS cI cZ mo ad S9) args s 0 0 (mA mo ad)) (F0 m 188 ls []) := by
  intro S H locs ls h hW hS hl
  unfold fm_refusal_188 at h
  refine lv_iconst (v := 5) C.1 C.2.1 dX12_refusal_188 (by decide) ?_
  cases h
  exact m_retiW C hW hS dX12_refusal_189
noncomputable def fm_refusal_220 (S : mSt) (s0 : Int32) : Option (Int32 × mSt) :=
some (s0, S)
set_option maxRecDepth 100000 in
set_option maxHeartbeats 4000000 in
theorem wm_refusal_220 (C : mY p R s m args meth c cX12_refusal 8 5 119 (some .int)) (X : mX s cM iS cI cZ mo ad) : ∀ {S : mSt} {s0 : Int32} {H : Heap} {locs : List Loc} {ls : Array Slot}, fm_refusal_220 S s0 = some (r, S9) → mW cM iS cI cZ mo ad S H → mS (mA mo ad) s.heap H locs → lv_has ls 8 [] → W p l e R s m args below meth c H locs 0 0 (MQ below (mQw (some (.int r)) cM iS cI cZ mo ad S9) args s 0 0 (mA mo ad)) (F0 m 220 ls [.int s0]) := by
  intro S s0 H locs ls h hW hS hl
  unfold fm_refusal_220 at h
  cases h
  exact m_retiW C hW hS dX12_refusal_220
noncomputable def fm_refusal_190 (S : mSt) (v1 : Int32) (v3 : Int32) (v4 : Int32) (v5 : Int32) : Option (Int32 × mSt) :=
ck v1 4 (
bd (fm_look S v1 (rd S 23 v1) v3 v4) fun S1 =>
ck v1 1000 (
if (rd S1 50 v1) < v5 then (
fm_refusal_220 S1 (5 : Int32))
else (
fm_refusal_220 S1 (0 : Int32))))
set_option maxRecDepth 100000 in
set_option maxHeartbeats 4000000 in
theorem wm_refusal_190 (C : mY p R s m args meth c cX12_refusal 8 5 119 (some .int)) (X : mX s cM iS cI cZ mo ad) : ∀ {S : mSt} {v1 : Int32} {v3 : Int32} {v4 : Int32} {v5 : Int32} {H : Heap} {locs : List Loc} {ls : Array Slot}, fm_refusal_190 S v1 v3 v4 v5 = some (r, S9) → mW cM iS cI cZ mo ad S H → mS (mA mo ad) s.heap H locs → lv_has ls 8 [(0, .ref mo), (1, .int v1), (3, .int v3), (4, .int v4), (5, .int v5)] → W p l e R s m args below meth c H locs 0 0 (MQ below (mQw (some (.int r)) cM iS cI cZ mo ad S9) args s 0 0 (mA mo ad)) (F0 m 190 ls []) := by
  intro S v1 v3 v4 v5 H locs ls h hW hS hl
  unfold fm_refusal_190 at h
  refine lv_aload_n C.1 C.2.1 dX12_refusal_190 rfl (lv_at hl 0 rfl) ?_
  refine lv_iload_n C.1 C.2.1 dX12_refusal_191 rfl (lv_at hl 1 rfl) ?_
  refine lv_aload_n C.1 C.2.1 dX12_refusal_192 rfl (lv_at hl 0 rfl) ?_
  refine gf_23 C X hW dX12_refusal_193 ?_
  refine lv_iload_n C.1 C.2.1 dX12_refusal_196 rfl (lv_at hl 1 rfl) ?_
  obtain ⟨hin, h⟩ := ck_ok h
  refine l_23 C X hW hin dX12_refusal_197 ?_
  refine lv_iload_n C.1 C.2.1 dX12_refusal_198 rfl (lv_at hl 2 rfl) ?_
  refine lv_iload C.1 C.2.1 dX12_refusal_199 (lv_at hl 3 rfl) ?_
  obtain ⟨S1, h_S1, h⟩ := bd_ok h
  refine m_callW (rest := []) (ov := none) C X hW hS hl.1 [.int v1, .int (rd S 23 v1), .int v3, .int v4] (tm_look l h_S1) mw_look im_look sl_look rfl ⟨by decide, by decide⟩ rfl (Nat.le_of_ble_eq_true rfl) dX12_refusal_201 (fun H locs hW hS => ?_)
  refine W.eq (g2 := F0 m 204 ls []) rfl ?_
  refine lv_iload C.1 C.2.1 dX12_refusal_204 (lv_at hl 4 rfl) ?_
  refine lv_aload_n C.1 C.2.1 dX12_refusal_206 rfl (lv_at hl 0 rfl) ?_
  refine gf_50 C X hW dX12_refusal_207 ?_
  refine lv_iload_n C.1 C.2.1 dX12_refusal_210 rfl (lv_at hl 1 rfl) ?_
  obtain ⟨hin, h⟩ := ck_ok h
  refine l_50 C X hW hin dX12_refusal_211 ?_
  refine lv_icmp_gt (tgt := 219) C.1 C.2.1 dX12_refusal_212 (by decide) (fun c2 => ?_) (fun c2 => ?_)
  · have h := if_t h c2
    refine lv_iconst (v := 5) C.1 C.2.1 dX12_refusal_219 (by decide) ?_
    exact wm_refusal_220 C X h hW hS (lv_sub hl [] rfl)
  · have h := if_f h c2
    refine lv_iconst (v := 0) C.1 C.2.1 dX12_refusal_215 (by decide) ?_
    refine lv_goto (tgt := 220) C.1 C.2.1 dX12_refusal_216 (by decide) ?_
    exact wm_refusal_220 C X h hW hS (lv_sub hl [] rfl)
noncomputable def fm_refusal_151 (S : mSt) (v1 : Int32) (v2 : Int32) (v3 : Int32) (v4 : Int32) (v5 : Int32) (v6 : Int32) (s1 : Int32) : Option (Int32 × mSt) :=
lt (pu S 70 s1) fun S1 =>
bd (fm_within v5 (1 : Int32) (1000 : Int32)) fun r2 =>
if r2 = 0 then (
fm_refusal_188 S1)
else (
if v2 = (6 : Int32) then (
bd (fm_within v6 (0 : Int32) (3 : Int32)) fun r5 =>
if r5 = 0 then (
fm_refusal_188 S1)
else (
if v6 = v1 then (
fm_refusal_188 S1)
else (
fm_refusal_190 S1 v1 v3 v4 v5)))
else (
fm_refusal_190 S1 v1 v3 v4 v5))
set_option maxRecDepth 100000 in
set_option maxHeartbeats 4000000 in
theorem wm_refusal_151 (C : mY p R s m args meth c cX12_refusal 8 5 119 (some .int)) (X : mX s cM iS cI cZ mo ad) : ∀ {S : mSt} {v1 : Int32} {v2 : Int32} {v3 : Int32} {v4 : Int32} {v5 : Int32} {v6 : Int32} {s1 : Int32} {H : Heap} {locs : List Loc} {ls : Array Slot}, fm_refusal_151 S v1 v2 v3 v4 v5 v6 s1 = some (r, S9) → mW cM iS cI cZ mo ad S H → mS (mA mo ad) s.heap H locs → lv_has ls 8 [(0, .ref mo), (1, .int v1), (2, .int v2), (3, .int v3), (4, .int v4), (5, .int v5), (6, .int v6)] → W p l e R s m args below meth c H locs 0 0 (MQ below (mQw (some (.int r)) cM iS cI cZ mo ad S9) args s 0 0 (mA mo ad)) (F0 m 151 ls [.int s1, .ref mo]) := by
  intro S v1 v2 v3 v4 v5 v6 s1 H locs ls h hW hS hl
  unfold fm_refusal_151 at h
  refine p_70 C X hW hS dX12_refusal_151 (fun H locs hW hS => ?_)
  refine lt_ok h (fun S1 e_S1 h => ?_)
  rw [e_S1] at hW
  refine lv_iload C.1 C.2.1 dX12_refusal_154 (lv_at hl 5 rfl) ?_
  refine lv_iconst (v := 1) C.1 C.2.1 dX12_refusal_156 (by decide) ?_
  refine lv_sipush (v := 1000) C.1 C.2.1 dX12_refusal_157 (by decide) ?_
  obtain ⟨r2, h_r2, h⟩ := bd_ok h
  refine m_callS (rest := []) C hl.1 [.int v5, .int (1 : Int32), .int (1000 : Int32)] (tm_within l h_r2) mw_within st_within rfl ⟨by decide, by decide⟩ rfl (Nat.le_of_ble_eq_true rfl) dX12_refusal_160 ?_
  refine lv_if_eq (tgt := 188) C.1 C.2.1 dX12_refusal_163 (by decide) (fun c3 => ?_) (fun c3 => ?_)
  · have h := if_t h c3
    exact wm_refusal_188 C X h hW hS (lv_sub hl [] rfl)
  · have h := if_f h c3
    refine lv_iload_n C.1 C.2.1 dX12_refusal_166 rfl (lv_at hl 2 rfl) ?_
    refine lv_bipush (v := 6) C.1 C.2.1 dX12_refusal_167 (by decide) ?_
    refine lv_icmp_ne (tgt := 190) C.1 C.2.1 dX12_refusal_169 (by decide) (fun c4 => ?_) (fun c4 => ?_)
    · have h := if_f h c4
      exact wm_refusal_190 C X h hW hS (lv_sub hl [0, 1, 3, 4, 5] rfl)
    · have h := if_t h c4
      refine lv_iload C.1 C.2.1 dX12_refusal_172 (lv_at hl 6 rfl) ?_
      refine lv_iconst (v := 0) C.1 C.2.1 dX12_refusal_174 (by decide) ?_
      refine lv_iconst (v := 3) C.1 C.2.1 dX12_refusal_175 (by decide) ?_
      obtain ⟨r5, h_r5, h⟩ := bd_ok h
      refine m_callS (rest := []) C hl.1 [.int v6, .int (0 : Int32), .int (3 : Int32)] (tm_within l h_r5) mw_within st_within rfl ⟨by decide, by decide⟩ rfl (Nat.le_of_ble_eq_true rfl) dX12_refusal_176 ?_
      refine lv_if_eq (tgt := 188) C.1 C.2.1 dX12_refusal_179 (by decide) (fun c6 => ?_) (fun c6 => ?_)
      · have h := if_t h c6
        exact wm_refusal_188 C X h hW hS (lv_sub hl [] rfl)
      · have h := if_f h c6
        refine lv_iload C.1 C.2.1 dX12_refusal_182 (lv_at hl 6 rfl) ?_
        refine lv_iload_n C.1 C.2.1 dX12_refusal_184 rfl (lv_at hl 1 rfl) ?_
        refine lv_icmp_ne (tgt := 190) C.1 C.2.1 dX12_refusal_185 (by decide) (fun c7 => ?_) (fun c7 => ?_)
        · have h := if_f h c7
          exact wm_refusal_190 C X h hW hS (lv_sub hl [0, 1, 3, 4, 5] rfl)
        · have h := if_t h c7
          exact wm_refusal_188 C X h hW hS (lv_sub hl [] rfl)
noncomputable def fm_refusal_132 (S : mSt) (v1 : Int32) (v2 : Int32) (v3 : Int32) (v4 : Int32) (v5 : Int32) (v6 : Int32) : Option (Int32 × mSt) :=
lt (pu S 69 v5) fun S1 =>
if v2 = (6 : Int32) then (
fm_refusal_151 S1 v1 v2 v3 v4 v5 v6 v6)
else (
fm_refusal_151 S1 v1 v2 v3 v4 v5 v6 (0 : Int32))
set_option maxRecDepth 100000 in
set_option maxHeartbeats 4000000 in
theorem wm_refusal_132 (C : mY p R s m args meth c cX12_refusal 8 5 119 (some .int)) (X : mX s cM iS cI cZ mo ad) : ∀ {S : mSt} {v1 : Int32} {v2 : Int32} {v3 : Int32} {v4 : Int32} {v5 : Int32} {v6 : Int32} {H : Heap} {locs : List Loc} {ls : Array Slot}, fm_refusal_132 S v1 v2 v3 v4 v5 v6 = some (r, S9) → mW cM iS cI cZ mo ad S H → mS (mA mo ad) s.heap H locs → lv_has ls 8 [(0, .ref mo), (1, .int v1), (2, .int v2), (3, .int v3), (4, .int v4), (5, .int v5), (6, .int v6)] → W p l e R s m args below meth c H locs 0 0 (MQ below (mQw (some (.int r)) cM iS cI cZ mo ad S9) args s 0 0 (mA mo ad)) (F0 m 132 ls []) := by
  intro S v1 v2 v3 v4 v5 v6 H locs ls h hW hS hl
  unfold fm_refusal_132 at h
  refine lv_aload_n C.1 C.2.1 dX12_refusal_132 rfl (lv_at hl 0 rfl) ?_
  refine lv_iload C.1 C.2.1 dX12_refusal_133 (lv_at hl 5 rfl) ?_
  refine p_69 C X hW hS dX12_refusal_135 (fun H locs hW hS => ?_)
  refine lt_ok h (fun S1 e_S1 h => ?_)
  rw [e_S1] at hW
  refine lv_aload_n C.1 C.2.1 dX12_refusal_138 rfl (lv_at hl 0 rfl) ?_
  refine lv_iload_n C.1 C.2.1 dX12_refusal_139 rfl (lv_at hl 2 rfl) ?_
  refine lv_bipush (v := 6) C.1 C.2.1 dX12_refusal_140 (by decide) ?_
  refine lv_icmp_ne (tgt := 150) C.1 C.2.1 dX12_refusal_142 (by decide) (fun c2 => ?_) (fun c2 => ?_)
  · have h := if_f h c2
    refine lv_iconst (v := 0) C.1 C.2.1 dX12_refusal_150 (by decide) ?_
    exact wm_refusal_151 C X h hW hS (lv_sub hl [0, 1, 2, 3, 4, 5, 6] rfl)
  · have h := if_t h c2
    refine lv_iload C.1 C.2.1 dX12_refusal_145 (lv_at hl 6 rfl) ?_
    refine lv_goto (tgt := 151) C.1 C.2.1 dX12_refusal_147 (by decide) ?_
    exact wm_refusal_151 C X h hW hS (lv_sub hl [0, 1, 2, 3, 4, 5, 6] rfl)
noncomputable def fm_refusal_243 (S : mSt) (s0 : Int32) : Option (Int32 × mSt) :=
some (s0, S)
set_option maxRecDepth 100000 in
set_option maxHeartbeats 4000000 in
theorem wm_refusal_243 (C : mY p R s m args meth c cX12_refusal 8 5 119 (some .int)) (X : mX s cM iS cI cZ mo ad) : ∀ {S : mSt} {s0 : Int32} {H : Heap} {locs : List Loc} {ls : Array Slot}, fm_refusal_243 S s0 = some (r, S9) → mW cM iS cI cZ mo ad S H → mS (mA mo ad) s.heap H locs → lv_has ls 8 [] → W p l e R s m args below meth c H locs 0 0 (MQ below (mQw (some (.int r)) cM iS cI cZ mo ad S9) args s 0 0 (mA mo ad)) (F0 m 243 ls [.int s0]) := by
  intro S s0 H locs ls h hW hS hl
  unfold fm_refusal_243 at h
  cases h
  exact m_retiW C hW hS dX12_refusal_243
noncomputable def fm_refusal_267 : Nat → mSt → Int32 → Int32 → Option (Int32 × mSt)
  | 0, _, _, _ => none
  | n + 1, S, v5, v7 =>
    if (S.1 49) ≤ v7 then (
    some ((5 : Int32), S))
    else (
    ck v7 1000 (
    if (rd S 50 v7) = v5 then (
    some ((0 : Int32), S))
    else (
    lt (v7 + (1 : Int32)) fun x3 =>
    fm_refusal_267 n S v5 x3)))
set_option maxRecDepth 100000 in
set_option maxHeartbeats 4000000 in
theorem wm_refusal_267 (C : mY p R s m args meth c cX12_refusal 8 5 119 (some .int)) (X : mX s cM iS cI cZ mo ad) : ∀ (n : Nat), ∀ {S : mSt} {v5 : Int32} {v7 : Int32} {H : Heap} {locs : List Loc} {ls : Array Slot}, fm_refusal_267 n S v5 v7 = some (r, S9) → mW cM iS cI cZ mo ad S H → mS (mA mo ad) s.heap H locs → lv_has ls 8 [(0, .ref mo), (5, .int v5), (7, .int v7)] → W p l e R s m args below meth c H locs 0 0 (MQ below (mQw (some (.int r)) cM iS cI cZ mo ad S9) args s 0 0 (mA mo ad)) (F0 m 267 ls []) := by
  intro n
  induction n with
  | zero =>
    intro S v5 v7 H locs ls h hW hS hl
    exact absurd (show (none : Option (Int32 × mSt)) = _ from h) (fun q => by cases q)
  | succ n ih =>
    intro S v5 v7 H locs ls h hW hS hl
    rw [fm_refusal_267] at h
    refine lv_iload C.1 C.2.1 dX12_refusal_267 (lv_at hl 2 rfl) ?_
    refine lv_aload_n C.1 C.2.1 dX12_refusal_269 rfl (lv_at hl 0 rfl) ?_
    refine gf_49 C X hW dX12_refusal_270 ?_
    refine lv_icmp_ge (tgt := 296) C.1 C.2.1 dX12_refusal_273 (by decide) (fun c1 => ?_) (fun c1 => ?_)
    · have h := if_t h c1
      refine lv_iconst (v := 5) C.1 C.2.1 dX12_refusal_296 (by decide) ?_
      cases h
      exact m_retiW C hW hS dX12_refusal_297
    · have h := if_f h c1
      refine lv_aload_n C.1 C.2.1 dX12_refusal_276 rfl (lv_at hl 0 rfl) ?_
      refine gf_50 C X hW dX12_refusal_277 ?_
      refine lv_iload C.1 C.2.1 dX12_refusal_280 (lv_at hl 2 rfl) ?_
      obtain ⟨hin, h⟩ := ck_ok h
      refine l_50 C X hW hin dX12_refusal_282 ?_
      refine lv_iload C.1 C.2.1 dX12_refusal_283 (lv_at hl 1 rfl) ?_
      refine lv_icmp_ne (tgt := 290) C.1 C.2.1 dX12_refusal_285 (by decide) (fun c2 => ?_) (fun c2 => ?_)
      · have h := if_f h c2
        refine lt_ok h (fun x3 e_x3 h => ?_)
        refine lv_iinc (v := x3) (lv' := [(7, .int x3), (0, .ref mo), (5, .int v5)]) C.1 C.2.1 dX12_refusal_290 hl (k := 2) rfl (by rw [← e_x3]; rfl) (by decide) rfl (fun ls hl => ?_)
        refine lv_goto (tgt := 267) C.1 C.2.1 dX12_refusal_293 (by decide) ?_
        exact ih h hW hS (lv_sub hl [1, 2, 0] rfl)
      · have h := if_t h c2
        refine lv_iconst (v := 0) C.1 C.2.1 dX12_refusal_288 (by decide) ?_
        cases h
        exact m_retiW C hW hS dX12_refusal_289
noncomputable def fm_refusal_244 (S : mSt) (v1 : Int32) (v3 : Int32) (v4 : Int32) (v5 : Int32) : Option (Int32 × mSt) :=
lt (pu S 69 v5) fun S1 =>
ck v1 4 (
bd (fm_look S1 v1 (rd S1 23 v1) v3 v4) fun S2 =>
fm_refusal_267 mFU S2 v5 (0 : Int32))
set_option maxRecDepth 100000 in
set_option maxHeartbeats 4000000 in
theorem wm_refusal_244 (C : mY p R s m args meth c cX12_refusal 8 5 119 (some .int)) (X : mX s cM iS cI cZ mo ad) : ∀ {S : mSt} {v1 : Int32} {v3 : Int32} {v4 : Int32} {v5 : Int32} {H : Heap} {locs : List Loc} {ls : Array Slot}, fm_refusal_244 S v1 v3 v4 v5 = some (r, S9) → mW cM iS cI cZ mo ad S H → mS (mA mo ad) s.heap H locs → lv_has ls 8 [(0, .ref mo), (1, .int v1), (3, .int v3), (4, .int v4), (5, .int v5)] → W p l e R s m args below meth c H locs 0 0 (MQ below (mQw (some (.int r)) cM iS cI cZ mo ad S9) args s 0 0 (mA mo ad)) (F0 m 244 ls []) := by
  intro S v1 v3 v4 v5 H locs ls h hW hS hl
  unfold fm_refusal_244 at h
  refine lv_aload_n C.1 C.2.1 dX12_refusal_244 rfl (lv_at hl 0 rfl) ?_
  refine lv_iload C.1 C.2.1 dX12_refusal_245 (lv_at hl 4 rfl) ?_
  refine p_69 C X hW hS dX12_refusal_247 (fun H locs hW hS => ?_)
  refine lt_ok h (fun S1 e_S1 h => ?_)
  rw [e_S1] at hW
  refine lv_aload_n C.1 C.2.1 dX12_refusal_250 rfl (lv_at hl 0 rfl) ?_
  refine lv_iload_n C.1 C.2.1 dX12_refusal_251 rfl (lv_at hl 1 rfl) ?_
  refine lv_aload_n C.1 C.2.1 dX12_refusal_252 rfl (lv_at hl 0 rfl) ?_
  refine gf_23 C X hW dX12_refusal_253 ?_
  refine lv_iload_n C.1 C.2.1 dX12_refusal_256 rfl (lv_at hl 1 rfl) ?_
  obtain ⟨hin, h⟩ := ck_ok h
  refine l_23 C X hW hin dX12_refusal_257 ?_
  refine lv_iload_n C.1 C.2.1 dX12_refusal_258 rfl (lv_at hl 2 rfl) ?_
  refine lv_iload C.1 C.2.1 dX12_refusal_259 (lv_at hl 3 rfl) ?_
  obtain ⟨S2, h_S2, h⟩ := bd_ok h
  refine m_callW (rest := []) (ov := none) C X hW hS hl.1 [.int v1, .int (rd S1 23 v1), .int v3, .int v4] (tm_look l h_S2) mw_look im_look sl_look rfl ⟨by decide, by decide⟩ rfl (Nat.le_of_ble_eq_true rfl) dX12_refusal_261 (fun H locs hW hS => ?_)
  refine W.eq (g2 := F0 m 264 ls []) rfl ?_
  refine lv_iconst (v := 0) C.1 C.2.1 dX12_refusal_264 (by decide) ?_
  refine lv_istore (lv' := [(7, .int (0 : Int32)), (0, .ref mo), (1, .int v1), (3, .int v3), (4, .int v4), (5, .int v5)]) C.1 C.2.1 dX12_refusal_265 hl (by decide) rfl (fun ls hl => ?_)
  exact wm_refusal_267 C X mFU h hW hS (lv_sub hl [1, 5, 0] rfl)
noncomputable def fm_refusal_343 (S : mSt) : Option (Int32 × mSt) :=
some ((5 : Int32), S)
set_option maxRecDepth 100000 in
set_option maxHeartbeats 4000000 in
theorem wm_refusal_343 (C : mY p R s m args meth c cX12_refusal 8 5 119 (some .int)) (X : mX s cM iS cI cZ mo ad) : ∀ {S : mSt} {H : Heap} {locs : List Loc} {ls : Array Slot}, fm_refusal_343 S = some (r, S9) → mW cM iS cI cZ mo ad S H → mS (mA mo ad) s.heap H locs → lv_has ls 8 [] → W p l e R s m args below meth c H locs 0 0 (MQ below (mQw (some (.int r)) cM iS cI cZ mo ad S9) args s 0 0 (mA mo ad)) (F0 m 343 ls []) := by
  intro S H locs ls h hW hS hl
  unfold fm_refusal_343 at h
  refine lv_iconst (v := 5) C.1 C.2.1 dX12_refusal_343 (by decide) ?_
  cases h
  exact m_retiW C hW hS dX12_refusal_344
noncomputable def fm_refusal_367 (S : mSt) (s1 : Int32) : Option (Int32 × mSt) :=
lt (pu S 70 s1) fun S1 =>
some ((0 : Int32), S1)
set_option maxRecDepth 100000 in
set_option maxHeartbeats 4000000 in
theorem wm_refusal_367 (C : mY p R s m args meth c cX12_refusal 8 5 119 (some .int)) (X : mX s cM iS cI cZ mo ad) : ∀ {S : mSt} {s1 : Int32} {H : Heap} {locs : List Loc} {ls : Array Slot}, fm_refusal_367 S s1 = some (r, S9) → mW cM iS cI cZ mo ad S H → mS (mA mo ad) s.heap H locs → lv_has ls 8 [] → W p l e R s m args below meth c H locs 0 0 (MQ below (mQw (some (.int r)) cM iS cI cZ mo ad S9) args s 0 0 (mA mo ad)) (F0 m 367 ls [.int s1, .ref mo]) := by
  intro S s1 H locs ls h hW hS hl
  unfold fm_refusal_367 at h
  refine p_70 C X hW hS dX12_refusal_367 (fun H locs hW hS => ?_)
  refine lt_ok h (fun S1 e_S1 h => ?_)
  rw [e_S1] at hW
  refine lv_iconst (v := 0) C.1 C.2.1 dX12_refusal_370 (by decide) ?_
  cases h
  exact m_retiW C hW hS dX12_refusal_371
noncomputable def fm_refusal_447 (S : mSt) (s0 : Int32) : Option (Int32 × mSt) :=
some (s0, S)
set_option maxRecDepth 100000 in
set_option maxHeartbeats 4000000 in
theorem wm_refusal_447 (C : mY p R s m args meth c cX12_refusal 8 5 119 (some .int)) (X : mX s cM iS cI cZ mo ad) : ∀ {S : mSt} {s0 : Int32} {H : Heap} {locs : List Loc} {ls : Array Slot}, fm_refusal_447 S s0 = some (r, S9) → mW cM iS cI cZ mo ad S H → mS (mA mo ad) s.heap H locs → lv_has ls 8 [] → W p l e R s m args below meth c H locs 0 0 (MQ below (mQw (some (.int r)) cM iS cI cZ mo ad S9) args s 0 0 (mA mo ad)) (F0 m 447 ls [.int s0]) := by
  intro S s0 H locs ls h hW hS hl
  unfold fm_refusal_447 at h
  cases h
  exact m_retiW C hW hS dX12_refusal_447
noncomputable def fm_refusal_490 (S : mSt) (s0 : Int32) : Option (Int32 × mSt) :=
some (s0, S)
set_option maxRecDepth 100000 in
set_option maxHeartbeats 4000000 in
theorem wm_refusal_490 (C : mY p R s m args meth c cX12_refusal 8 5 119 (some .int)) (X : mX s cM iS cI cZ mo ad) : ∀ {S : mSt} {s0 : Int32} {H : Heap} {locs : List Loc} {ls : Array Slot}, fm_refusal_490 S s0 = some (r, S9) → mW cM iS cI cZ mo ad S H → mS (mA mo ad) s.heap H locs → lv_has ls 8 [] → W p l e R s m args below meth c H locs 0 0 (MQ below (mQw (some (.int r)) cM iS cI cZ mo ad S9) args s 0 0 (mA mo ad)) (F0 m 490 ls [.int s0]) := by
  intro S s0 H locs ls h hW hS hl
  unfold fm_refusal_490 at h
  cases h
  exact m_retiW C hW hS dX12_refusal_490
noncomputable def fm_refusal_489 (S : mSt) : Option (Int32 × mSt) :=
fm_refusal_490 S (5 : Int32)
set_option maxRecDepth 100000 in
set_option maxHeartbeats 4000000 in
theorem wm_refusal_489 (C : mY p R s m args meth c cX12_refusal 8 5 119 (some .int)) (X : mX s cM iS cI cZ mo ad) : ∀ {S : mSt} {H : Heap} {locs : List Loc} {ls : Array Slot}, fm_refusal_489 S = some (r, S9) → mW cM iS cI cZ mo ad S H → mS (mA mo ad) s.heap H locs → lv_has ls 8 [] → W p l e R s m args below meth c H locs 0 0 (MQ below (mQw (some (.int r)) cM iS cI cZ mo ad S9) args s 0 0 (mA mo ad)) (F0 m 489 ls []) := by
  intro S H locs ls h hW hS hl
  unfold fm_refusal_489 at h
  refine lv_iconst (v := 5) C.1 C.2.1 dX12_refusal_489 (by decide) ?_
  exact wm_refusal_490 C X h hW hS (lv_sub hl [] rfl)
noncomputable def fm_refusal_485 (S : mSt) : Option (Int32 × mSt) :=
fm_refusal_490 S (0 : Int32)
set_option maxRecDepth 100000 in
set_option maxHeartbeats 4000000 in
theorem wm_refusal_485 (C : mY p R s m args meth c cX12_refusal 8 5 119 (some .int)) (X : mX s cM iS cI cZ mo ad) : ∀ {S : mSt} {H : Heap} {locs : List Loc} {ls : Array Slot}, fm_refusal_485 S = some (r, S9) → mW cM iS cI cZ mo ad S H → mS (mA mo ad) s.heap H locs → lv_has ls 8 [] → W p l e R s m args below meth c H locs 0 0 (MQ below (mQw (some (.int r)) cM iS cI cZ mo ad S9) args s 0 0 (mA mo ad)) (F0 m 485 ls []) := by
  intro S H locs ls h hW hS hl
  unfold fm_refusal_485 at h
  refine lv_iconst (v := 0) C.1 C.2.1 dX12_refusal_485 (by decide) ?_
  refine lv_goto (tgt := 490) C.1 C.2.1 dX12_refusal_486 (by decide) ?_
  exact wm_refusal_490 C X h hW hS (lv_sub hl [] rfl)
noncomputable def fm_refusal_506 (S : mSt) (s0 : Int32) : Option (Int32 × mSt) :=
some (s0, S)
set_option maxRecDepth 100000 in
set_option maxHeartbeats 4000000 in
theorem wm_refusal_506 (C : mY p R s m args meth c cX12_refusal 8 5 119 (some .int)) (X : mX s cM iS cI cZ mo ad) : ∀ {S : mSt} {s0 : Int32} {H : Heap} {locs : List Loc} {ls : Array Slot}, fm_refusal_506 S s0 = some (r, S9) → mW cM iS cI cZ mo ad S H → mS (mA mo ad) s.heap H locs → lv_has ls 8 [] → W p l e R s m args below meth c H locs 0 0 (MQ below (mQw (some (.int r)) cM iS cI cZ mo ad S9) args s 0 0 (mA mo ad)) (F0 m 506 ls [.int s0]) := by
  intro S s0 H locs ls h hW hS hl
  unfold fm_refusal_506 at h
  cases h
  exact m_retiW C hW hS dX12_refusal_506
noncomputable def fm_refusal (S : mSt) (v1 : Int32) (v2 : Int32) (v3 : Int32) (v4 : Int32) (v5 : Int32) (v6 : Int32) : Option (Int32 × mSt) :=
lt (pu S 69 (0 : Int32)) fun S1 =>
lt (pu S1 70 (0 : Int32)) fun S2 =>
if v2 = (0 : Int32) then (
fm_refusal_100 S2 v5)
else if v2 = (1 : Int32) then (
fm_refusal_100 S2 v5)
else if v2 = (2 : Int32) then (
fm_refusal_100 S2 v5)
else if v2 = (3 : Int32) then (
fm_refusal_100 S2 v5)
else if v2 = (4 : Int32) then (
lt (pu S2 69 v5) fun S8 =>
bd (fm_within v5 (1 : Int32) (1000 : Int32)) fun r9 =>
if r9 = 0 then (
fm_refusal_131 S8 (5 : Int32))
else (
fm_refusal_131 S8 (0 : Int32)))
else if v2 = (5 : Int32) then (
fm_refusal_132 S2 v1 v2 v3 v4 v5 v6)
else if v2 = (6 : Int32) then (
fm_refusal_132 S2 v1 v2 v3 v4 v5 v6)
else if v2 = (7 : Int32) then (
lt (pu S2 69 v5) fun S14 =>
bd (fm_within v5 (0 : Int32) (63 : Int32)) fun r15 =>
if r15 = 0 then (
fm_refusal_243 S14 (5 : Int32))
else (
fm_refusal_243 S14 (0 : Int32)))
else if v2 = (8 : Int32) then (
fm_refusal_244 S2 v1 v3 v4 v5)
else if v2 = (9 : Int32) then (
lt (pu S2 69 v5) fun S19 =>
ck v1 4 (
bd (fm_look S19 v1 (rd S19 23 v1) v3 v4) fun S20 =>
bd (fm_within v5 (32 : Int32) (126 : Int32)) fun r21 =>
if r21 = 0 then (
fm_refusal_343 S20)
else (
bd (fm_within v6 (0 : Int32) (S20.1 49)) fun r23 =>
if r23 = 0 then (
fm_refusal_343 S20)
else (
if v6 = 0 then (
fm_refusal_367 S20 (0 : Int32))
else (
ck (v6 - (1 : Int32)) 1000 (
bd (fm_nameOf (rd S20 51 (v6 - (1 : Int32)))) fun r26 =>
fm_refusal_367 S20 r26))))))
else if v2 = (10 : Int32) then (
ck v1 4 (
bd (fm_look S2 v1 (rd S2 23 v1) v3 v4) fun S28 =>
bd (fm_within v6 (0 : Int32) ((S28.1 49) - (1 : Int32))) fun r29 =>
if r29 = 0 then (
some ((5 : Int32), S28))
else (
ck v6 1000 (
bd (fm_nameOf (rd S28 51 v6)) fun r31 =>
lt (pu S28 70 r31) fun S32 =>
some ((0 : Int32), S32)))))
else if v2 = (11 : Int32) then (
fm_refusal_100 S2 v5)
else if v2 = (12 : Int32) then (
some ((0 : Int32), S2))
else if v2 = (13 : Int32) then (
fm_refusal_509 S2 v1 v2)
else if v2 = (14 : Int32) then (
fm_refusal_509 S2 v1 v2)
else if v2 = (15 : Int32) then (
lt (pu S2 69 v5) fun S38 =>
lt (pu S38 70 v6) fun S39 =>
bd (fm_within v5 (0 : Int32) (63 : Int32)) fun r40 =>
if r40 = 0 then (
fm_refusal_447 S39 (5 : Int32))
else (
fm_refusal_447 S39 (0 : Int32)))
else if v2 = (16 : Int32) then (
fm_refusal_244 S2 v1 v3 v4 v5)
else if v2 = (17 : Int32) then (
lt (pu S2 69 v5) fun S44 =>
bd (fm_holder S44 v1 v3) fun q_r46 => lt q_r46.1 fun r46 => lt q_r46.2 fun S45 =>
bd (fm_within v5 (1 : Int32) (100 : Int32)) fun r47 =>
if r47 = 0 then (
fm_refusal_489 S45)
else (
if r46 = (-1 : Int32) then (
fm_refusal_485 S45)
else (
if r46 = v1 then (
fm_refusal_485 S45)
else (
fm_refusal_489 S45))))
else if v2 = (18 : Int32) then (
bd (fm_holder S2 v1 v3) fun q_r53 => lt q_r53.1 fun r53 => lt q_r53.2 fun S52 =>
if r53 = v1 then (
fm_refusal_506 S52 (0 : Int32))
else (
fm_refusal_506 S52 (5 : Int32)))
else (
fm_refusal_509 S2 v1 v2)
set_option maxRecDepth 100000 in
set_option maxHeartbeats 4000000 in
theorem tm_refusal (l : Launch) {cM : ClassId} {iS : Nat → Nat} {cI cZ : ClassId} {mo : Nat} {ad : Nat → Nat} {S : mSt} {v1 : Int32} {v2 : Int32} {v3 : Int32} {v4 : Int32} {v5 : Int32} {v6 : Int32} {r : Int32} {S9 : mSt} (h : fm_refusal S v1 v2 v3 v4 v5 v6 = some (r, S9)) : Met l yX12_refusal (Cond.code yX12_refusal cX12_refusal 8 (some .int) :: lw_g) { frames := 5, cells := 0, slots := 0, locals := 119 } (mPi [.int v1, .int v2, .int v3, .int v4, .int v5, .int v6] cM iS cI cZ mo ad S) (mQw (some (.int r)) cM iS cI cZ mo ad S9) 0 0 (mA mo ad) := by
  refine Met.ofW (cc := cX12_refusal) (maxL := 8) (ret := (some .int)) (by decide) rfl ?_
  intro p e s m args below meth c s₁ B hml hv
  obtain ⟨rfl, hW, X⟩ := hv
  have C : mY p (headSpec (Cond.code yX12_refusal cX12_refusal 8 (some .int) :: lw_g) { frames := 5, cells := 0, slots := 0, locals := 119 }).room s m _ meth c cX12_refusal 8 5 119 (some .int) := ⟨B.exec, B.bytes, hml, findClass_of_methodNamed B.named, fun w hw => atoms_spec (ws := Cond.code yX12_refusal cX12_refusal 8 (some .int) :: lw_g) B.pre w (List.mem_cons_of_mem _ hw), ⟨Nat.le_refl _, Nat.le_refl _⟩, B.returns, B.notSynchronized⟩
  have hl := lv_entry ([.ref mo, .int v1, .int v2, .int v3, .int v4, .int v5, .int v6]) (n := 8) (Nat.le_of_ble_eq_true rfl)
  rw [lg_entry_eq]
  generalize (lg_sl ([.ref mo, .int v1, .int v2, .int v3, .int v4, .int v5, .int v6]) ++ List.replicate (8 - (lg_sl ([.ref mo, .int v1, .int v2, .int v3, .int v4, .int v5, .int v6])).length) Slot.unset).toArray = ls at hl ⊢
  have hl : lv_has ls 8 [(0, .ref mo), (1, .int v1), (2, .int v2), (3, .int v3), (4, .int v4), (5, .int v5), (6, .int v6)] := hl
  have hS : mS (mA mo ad) s.heap s.heap [] := mS.rf
  unfold fm_refusal at h
  refine lv_aload_n C.1 C.2.1 dX12_refusal_0 rfl (lv_at hl 0 rfl) ?_
  refine lv_iconst (v := 0) C.1 C.2.1 dX12_refusal_1 (by decide) ?_
  refine p_69 C X hW hS dX12_refusal_2 (fun H locs hW hS => ?_)
  refine lt_ok h (fun S1 e_S1 h => ?_)
  rw [e_S1] at hW
  refine lv_aload_n C.1 C.2.1 dX12_refusal_5 rfl (lv_at hl 0 rfl) ?_
  refine lv_iconst (v := 0) C.1 C.2.1 dX12_refusal_6 (by decide) ?_
  refine p_70 C X hW hS dX12_refusal_7 (fun H locs hW hS => ?_)
  refine lt_ok h (fun S2 e_S2 h => ?_)
  rw [e_S2] at hW
  refine lv_iload_n C.1 C.2.1 dX12_refusal_10 rfl (lv_at hl 2 rfl) ?_
  by_cases c3 : v2 = (0 : Int32)
  · have h := if_t h c3
    refine lv_tableIn (off := 89) (tgt := 100) C.1 C.2.1 dX12_refusal_11 (by rw [c3]; decide) (by rw [c3]; decide) (by rw [c3]; rfl) (by decide) ?_
    exact wm_refusal_100 C X h hW hS (lv_sub hl [0, 5] rfl)
  · have h := if_f h c3
    by_cases c4 : v2 = (1 : Int32)
    · have h := if_t h c4
      refine lv_tableIn (off := 89) (tgt := 100) C.1 C.2.1 dX12_refusal_11 (by rw [c4]; decide) (by rw [c4]; decide) (by rw [c4]; rfl) (by decide) ?_
      exact wm_refusal_100 C X h hW hS (lv_sub hl [0, 5] rfl)
    · have h := if_f h c4
      by_cases c5 : v2 = (2 : Int32)
      · have h := if_t h c5
        refine lv_tableIn (off := 89) (tgt := 100) C.1 C.2.1 dX12_refusal_11 (by rw [c5]; decide) (by rw [c5]; decide) (by rw [c5]; rfl) (by decide) ?_
        exact wm_refusal_100 C X h hW hS (lv_sub hl [0, 5] rfl)
      · have h := if_f h c5
        by_cases c6 : v2 = (3 : Int32)
        · have h := if_t h c6
          refine lv_tableIn (off := 89) (tgt := 100) C.1 C.2.1 dX12_refusal_11 (by rw [c6]; decide) (by rw [c6]; decide) (by rw [c6]; rfl) (by decide) ?_
          exact wm_refusal_100 C X h hW hS (lv_sub hl [0, 5] rfl)
        · have h := if_f h c6
          by_cases c7 : v2 = (4 : Int32)
          · have h := if_t h c7
            refine lv_tableIn (off := 97) (tgt := 108) C.1 C.2.1 dX12_refusal_11 (by rw [c7]; decide) (by rw [c7]; decide) (by rw [c7]; rfl) (by decide) ?_
            refine lv_aload_n C.1 C.2.1 dX12_refusal_108 rfl (lv_at hl 0 rfl) ?_
            refine lv_iload C.1 C.2.1 dX12_refusal_109 (lv_at hl 5 rfl) ?_
            refine p_69 C X hW hS dX12_refusal_111 (fun H locs hW hS => ?_)
            refine lt_ok h (fun S8 e_S8 h => ?_)
            rw [e_S8] at hW
            refine lv_iload C.1 C.2.1 dX12_refusal_114 (lv_at hl 5 rfl) ?_
            refine lv_iconst (v := 1) C.1 C.2.1 dX12_refusal_116 (by decide) ?_
            refine lv_sipush (v := 1000) C.1 C.2.1 dX12_refusal_117 (by decide) ?_
            obtain ⟨r9, h_r9, h⟩ := bd_ok h
            refine m_callS (rest := []) C hl.1 [.int v5, .int (1 : Int32), .int (1000 : Int32)] (tm_within l h_r9) mw_within st_within rfl ⟨by decide, by decide⟩ rfl (Nat.le_of_ble_eq_true rfl) dX12_refusal_120 ?_
            refine lv_if_eq (tgt := 130) C.1 C.2.1 dX12_refusal_123 (by decide) (fun c10 => ?_) (fun c10 => ?_)
            · have h := if_t h c10
              refine lv_iconst (v := 5) C.1 C.2.1 dX12_refusal_130 (by decide) ?_
              exact wm_refusal_131 C X h hW hS (lv_sub hl [] rfl)
            · have h := if_f h c10
              refine lv_iconst (v := 0) C.1 C.2.1 dX12_refusal_126 (by decide) ?_
              refine lv_goto (tgt := 131) C.1 C.2.1 dX12_refusal_127 (by decide) ?_
              exact wm_refusal_131 C X h hW hS (lv_sub hl [] rfl)
          · have h := if_f h c7
            by_cases c11 : v2 = (5 : Int32)
            · have h := if_t h c11
              refine lv_tableIn (off := 121) (tgt := 132) C.1 C.2.1 dX12_refusal_11 (by rw [c11]; decide) (by rw [c11]; decide) (by rw [c11]; rfl) (by decide) ?_
              exact wm_refusal_132 C X h hW hS (lv_sub hl [0, 1, 2, 3, 4, 5, 6] rfl)
            · have h := if_f h c11
              by_cases c12 : v2 = (6 : Int32)
              · have h := if_t h c12
                refine lv_tableIn (off := 121) (tgt := 132) C.1 C.2.1 dX12_refusal_11 (by rw [c12]; decide) (by rw [c12]; decide) (by rw [c12]; rfl) (by decide) ?_
                exact wm_refusal_132 C X h hW hS (lv_sub hl [0, 1, 2, 3, 4, 5, 6] rfl)
              · have h := if_f h c12
                by_cases c13 : v2 = (7 : Int32)
                · have h := if_t h c13
                  refine lv_tableIn (off := 210) (tgt := 221) C.1 C.2.1 dX12_refusal_11 (by rw [c13]; decide) (by rw [c13]; decide) (by rw [c13]; rfl) (by decide) ?_
                  refine lv_aload_n C.1 C.2.1 dX12_refusal_221 rfl (lv_at hl 0 rfl) ?_
                  refine lv_iload C.1 C.2.1 dX12_refusal_222 (lv_at hl 5 rfl) ?_
                  refine p_69 C X hW hS dX12_refusal_224 (fun H locs hW hS => ?_)
                  refine lt_ok h (fun S14 e_S14 h => ?_)
                  rw [e_S14] at hW
                  refine lv_iload C.1 C.2.1 dX12_refusal_227 (lv_at hl 5 rfl) ?_
                  refine lv_iconst (v := 0) C.1 C.2.1 dX12_refusal_229 (by decide) ?_
                  refine lv_bipush (v := 63) C.1 C.2.1 dX12_refusal_230 (by decide) ?_
                  obtain ⟨r15, h_r15, h⟩ := bd_ok h
                  refine m_callS (rest := []) C hl.1 [.int v5, .int (0 : Int32), .int (63 : Int32)] (tm_within l h_r15) mw_within st_within rfl ⟨by decide, by decide⟩ rfl (Nat.le_of_ble_eq_true rfl) dX12_refusal_232 ?_
                  refine lv_if_eq (tgt := 242) C.1 C.2.1 dX12_refusal_235 (by decide) (fun c16 => ?_) (fun c16 => ?_)
                  · have h := if_t h c16
                    refine lv_iconst (v := 5) C.1 C.2.1 dX12_refusal_242 (by decide) ?_
                    exact wm_refusal_243 C X h hW hS (lv_sub hl [] rfl)
                  · have h := if_f h c16
                    refine lv_iconst (v := 0) C.1 C.2.1 dX12_refusal_238 (by decide) ?_
                    refine lv_goto (tgt := 243) C.1 C.2.1 dX12_refusal_239 (by decide) ?_
                    exact wm_refusal_243 C X h hW hS (lv_sub hl [] rfl)
                · have h := if_f h c13
                  by_cases c17 : v2 = (8 : Int32)
                  · have h := if_t h c17
                    refine lv_tableIn (off := 233) (tgt := 244) C.1 C.2.1 dX12_refusal_11 (by rw [c17]; decide) (by rw [c17]; decide) (by rw [c17]; rfl) (by decide) ?_
                    exact wm_refusal_244 C X h hW hS (lv_sub hl [0, 1, 3, 4, 5] rfl)
                  · have h := if_f h c17
                    by_cases c18 : v2 = (9 : Int32)
                    · have h := if_t h c18
                      refine lv_tableIn (off := 287) (tgt := 298) C.1 C.2.1 dX12_refusal_11 (by rw [c18]; decide) (by rw [c18]; decide) (by rw [c18]; rfl) (by decide) ?_
                      refine lv_aload_n C.1 C.2.1 dX12_refusal_298 rfl (lv_at hl 0 rfl) ?_
                      refine lv_iload C.1 C.2.1 dX12_refusal_299 (lv_at hl 5 rfl) ?_
                      refine p_69 C X hW hS dX12_refusal_301 (fun H locs hW hS => ?_)
                      refine lt_ok h (fun S19 e_S19 h => ?_)
                      rw [e_S19] at hW
                      refine lv_aload_n C.1 C.2.1 dX12_refusal_304 rfl (lv_at hl 0 rfl) ?_
                      refine lv_iload_n C.1 C.2.1 dX12_refusal_305 rfl (lv_at hl 1 rfl) ?_
                      refine lv_aload_n C.1 C.2.1 dX12_refusal_306 rfl (lv_at hl 0 rfl) ?_
                      refine gf_23 C X hW dX12_refusal_307 ?_
                      refine lv_iload_n C.1 C.2.1 dX12_refusal_310 rfl (lv_at hl 1 rfl) ?_
                      obtain ⟨hin, h⟩ := ck_ok h
                      refine l_23 C X hW hin dX12_refusal_311 ?_
                      refine lv_iload_n C.1 C.2.1 dX12_refusal_312 rfl (lv_at hl 3 rfl) ?_
                      refine lv_iload C.1 C.2.1 dX12_refusal_313 (lv_at hl 4 rfl) ?_
                      obtain ⟨S20, h_S20, h⟩ := bd_ok h
                      refine m_callW (rest := []) (ov := none) C X hW hS hl.1 [.int v1, .int (rd S19 23 v1), .int v3, .int v4] (tm_look l h_S20) mw_look im_look sl_look rfl ⟨by decide, by decide⟩ rfl (Nat.le_of_ble_eq_true rfl) dX12_refusal_315 (fun H locs hW hS => ?_)
                      refine W.eq (g2 := F0 m 318 ls []) rfl ?_
                      refine lv_iload C.1 C.2.1 dX12_refusal_318 (lv_at hl 5 rfl) ?_
                      refine lv_bipush (v := 32) C.1 C.2.1 dX12_refusal_320 (by decide) ?_
                      refine lv_bipush (v := 126) C.1 C.2.1 dX12_refusal_322 (by decide) ?_
                      obtain ⟨r21, h_r21, h⟩ := bd_ok h
                      refine m_callS (rest := []) C hl.1 [.int v5, .int (32 : Int32), .int (126 : Int32)] (tm_within l h_r21) mw_within st_within rfl ⟨by decide, by decide⟩ rfl (Nat.le_of_ble_eq_true rfl) dX12_refusal_324 ?_
                      refine lv_if_eq (tgt := 343) C.1 C.2.1 dX12_refusal_327 (by decide) (fun c22 => ?_) (fun c22 => ?_)
                      · have h := if_t h c22
                        exact wm_refusal_343 C X h hW hS (lv_sub hl [] rfl)
                      · have h := if_f h c22
                        refine lv_iload C.1 C.2.1 dX12_refusal_330 (lv_at hl 6 rfl) ?_
                        refine lv_iconst (v := 0) C.1 C.2.1 dX12_refusal_332 (by decide) ?_
                        refine lv_aload_n C.1 C.2.1 dX12_refusal_333 rfl (lv_at hl 0 rfl) ?_
                        refine gf_49 C X hW dX12_refusal_334 ?_
                        obtain ⟨r23, h_r23, h⟩ := bd_ok h
                        refine m_callS (rest := []) C hl.1 [.int v6, .int (0 : Int32), .int (S20.1 49)] (tm_within l h_r23) mw_within st_within rfl ⟨by decide, by decide⟩ rfl (Nat.le_of_ble_eq_true rfl) dX12_refusal_337 ?_
                        refine lv_if_ne (tgt := 345) C.1 C.2.1 dX12_refusal_340 (by decide) (fun c24 => ?_) (fun c24 => ?_)
                        · have h := if_f h c24
                          refine lv_aload_n C.1 C.2.1 dX12_refusal_345 rfl (lv_at hl 0 rfl) ?_
                          refine lv_iload C.1 C.2.1 dX12_refusal_346 (lv_at hl 6 rfl) ?_
                          refine lv_if_ne (tgt := 355) C.1 C.2.1 dX12_refusal_348 (by decide) (fun c25 => ?_) (fun c25 => ?_)
                          · have h := if_f h c25
                            refine lv_aload_n C.1 C.2.1 dX12_refusal_355 rfl (lv_at hl 0 rfl) ?_
                            refine gf_51 C X hW dX12_refusal_356 ?_
                            refine lv_iload C.1 C.2.1 dX12_refusal_359 (lv_at hl 6 rfl) ?_
                            refine lv_iconst (v := 1) C.1 C.2.1 dX12_refusal_361 (by decide) ?_
                            refine lv_isub C.1 C.2.1 dX12_refusal_362 ?_
                            obtain ⟨hin, h⟩ := ck_ok h
                            refine l_51 C X hW hin dX12_refusal_363 ?_
                            obtain ⟨r26, h_r26, h⟩ := bd_ok h
                            refine m_callS (rest := [.ref mo]) C hl.1 [.int (rd S20 51 (v6 - (1 : Int32)))] (tm_nameOf l h_r26) mw_nameOf st_nameOf rfl ⟨by decide, by decide⟩ rfl (Nat.le_of_ble_eq_true rfl) dX12_refusal_364 ?_
                            exact wm_refusal_367 C X h hW hS (lv_sub hl [] rfl)
                          · have h := if_t h c25
                            refine lv_iconst (v := 0) C.1 C.2.1 dX12_refusal_351 (by decide) ?_
                            refine lv_goto (tgt := 367) C.1 C.2.1 dX12_refusal_352 (by decide) ?_
                            exact wm_refusal_367 C X h hW hS (lv_sub hl [] rfl)
                        · have h := if_t h c24
                          exact wm_refusal_343 C X h hW hS (lv_sub hl [] rfl)
                    · have h := if_f h c18
                      by_cases c27 : v2 = (10 : Int32)
                      · have h := if_t h c27
                        refine lv_tableIn (off := 361) (tgt := 372) C.1 C.2.1 dX12_refusal_11 (by rw [c27]; decide) (by rw [c27]; decide) (by rw [c27]; rfl) (by decide) ?_
                        refine lv_aload_n C.1 C.2.1 dX12_refusal_372 rfl (lv_at hl 0 rfl) ?_
                        refine lv_iload_n C.1 C.2.1 dX12_refusal_373 rfl (lv_at hl 1 rfl) ?_
                        refine lv_aload_n C.1 C.2.1 dX12_refusal_374 rfl (lv_at hl 0 rfl) ?_
                        refine gf_23 C X hW dX12_refusal_375 ?_
                        refine lv_iload_n C.1 C.2.1 dX12_refusal_378 rfl (lv_at hl 1 rfl) ?_
                        obtain ⟨hin, h⟩ := ck_ok h
                        refine l_23 C X hW hin dX12_refusal_379 ?_
                        refine lv_iload_n C.1 C.2.1 dX12_refusal_380 rfl (lv_at hl 3 rfl) ?_
                        refine lv_iload C.1 C.2.1 dX12_refusal_381 (lv_at hl 4 rfl) ?_
                        obtain ⟨S28, h_S28, h⟩ := bd_ok h
                        refine m_callW (rest := []) (ov := none) C X hW hS hl.1 [.int v1, .int (rd S2 23 v1), .int v3, .int v4] (tm_look l h_S28) mw_look im_look sl_look rfl ⟨by decide, by decide⟩ rfl (Nat.le_of_ble_eq_true rfl) dX12_refusal_383 (fun H locs hW hS => ?_)
                        refine W.eq (g2 := F0 m 386 ls []) rfl ?_
                        refine lv_iload C.1 C.2.1 dX12_refusal_386 (lv_at hl 6 rfl) ?_
                        refine lv_iconst (v := 0) C.1 C.2.1 dX12_refusal_388 (by decide) ?_
                        refine lv_aload_n C.1 C.2.1 dX12_refusal_389 rfl (lv_at hl 0 rfl) ?_
                        refine gf_49 C X hW dX12_refusal_390 ?_
                        refine lv_iconst (v := 1) C.1 C.2.1 dX12_refusal_393 (by decide) ?_
                        refine lv_isub C.1 C.2.1 dX12_refusal_394 ?_
                        obtain ⟨r29, h_r29, h⟩ := bd_ok h
                        refine m_callS (rest := []) C hl.1 [.int v6, .int (0 : Int32), .int ((S28.1 49) - (1 : Int32))] (tm_within l h_r29) mw_within st_within rfl ⟨by decide, by decide⟩ rfl (Nat.le_of_ble_eq_true rfl) dX12_refusal_395 ?_
                        refine lv_if_ne (tgt := 403) C.1 C.2.1 dX12_refusal_398 (by decide) (fun c30 => ?_) (fun c30 => ?_)
                        · have h := if_f h c30
                          refine lv_aload_n C.1 C.2.1 dX12_refusal_403 rfl (lv_at hl 0 rfl) ?_
                          refine lv_aload_n C.1 C.2.1 dX12_refusal_404 rfl (lv_at hl 0 rfl) ?_
                          refine gf_51 C X hW dX12_refusal_405 ?_
                          refine lv_iload C.1 C.2.1 dX12_refusal_408 (lv_at hl 6 rfl) ?_
                          obtain ⟨hin, h⟩ := ck_ok h
                          refine l_51 C X hW hin dX12_refusal_410 ?_
                          obtain ⟨r31, h_r31, h⟩ := bd_ok h
                          refine m_callS (rest := [.ref mo]) C hl.1 [.int (rd S28 51 v6)] (tm_nameOf l h_r31) mw_nameOf st_nameOf rfl ⟨by decide, by decide⟩ rfl (Nat.le_of_ble_eq_true rfl) dX12_refusal_411 ?_
                          refine p_70 C X hW hS dX12_refusal_414 (fun H locs hW hS => ?_)
                          refine lt_ok h (fun S32 e_S32 h => ?_)
                          rw [e_S32] at hW
                          refine lv_iconst (v := 0) C.1 C.2.1 dX12_refusal_417 (by decide) ?_
                          cases h
                          exact m_retiW C hW hS dX12_refusal_418
                        · have h := if_t h c30
                          refine lv_iconst (v := 5) C.1 C.2.1 dX12_refusal_401 (by decide) ?_
                          cases h
                          exact m_retiW C hW hS dX12_refusal_402
                      · have h := if_f h c27
                        by_cases c33 : v2 = (11 : Int32)
                        · have h := if_t h c33
                          refine lv_tableIn (off := 89) (tgt := 100) C.1 C.2.1 dX12_refusal_11 (by rw [c33]; decide) (by rw [c33]; decide) (by rw [c33]; rfl) (by decide) ?_
                          exact wm_refusal_100 C X h hW hS (lv_sub hl [0, 5] rfl)
                        · have h := if_f h c33
                          by_cases c34 : v2 = (12 : Int32)
                          · have h := if_t h c34
                            refine lv_tableIn (off := 496) (tgt := 507) C.1 C.2.1 dX12_refusal_11 (by rw [c34]; decide) (by rw [c34]; decide) (by rw [c34]; rfl) (by decide) ?_
                            refine lv_iconst (v := 0) C.1 C.2.1 dX12_refusal_507 (by decide) ?_
                            cases h
                            exact m_retiW C hW hS dX12_refusal_508
                          · have h := if_f h c34
                            by_cases c35 : v2 = (13 : Int32)
                            · have h := if_t h c35
                              refine lv_tableIn (off := 498) (tgt := 509) C.1 C.2.1 dX12_refusal_11 (by rw [c35]; decide) (by rw [c35]; decide) (by rw [c35]; rfl) (by decide) ?_
                              exact wm_refusal_509 C X h hW hS (lv_sub hl [0, 1, 2] rfl)
                            · have h := if_f h c35
                              by_cases c36 : v2 = (14 : Int32)
                              · have h := if_t h c36
                                refine lv_tableIn (off := 498) (tgt := 509) C.1 C.2.1 dX12_refusal_11 (by rw [c36]; decide) (by rw [c36]; decide) (by rw [c36]; rfl) (by decide) ?_
                                exact wm_refusal_509 C X h hW hS (lv_sub hl [0, 1, 2] rfl)
                              · have h := if_f h c36
                                by_cases c37 : v2 = (15 : Int32)
                                · have h := if_t h c37
                                  refine lv_tableIn (off := 408) (tgt := 419) C.1 C.2.1 dX12_refusal_11 (by rw [c37]; decide) (by rw [c37]; decide) (by rw [c37]; rfl) (by decide) ?_
                                  refine lv_aload_n C.1 C.2.1 dX12_refusal_419 rfl (lv_at hl 0 rfl) ?_
                                  refine lv_iload C.1 C.2.1 dX12_refusal_420 (lv_at hl 5 rfl) ?_
                                  refine p_69 C X hW hS dX12_refusal_422 (fun H locs hW hS => ?_)
                                  refine lt_ok h (fun S38 e_S38 h => ?_)
                                  rw [e_S38] at hW
                                  refine lv_aload_n C.1 C.2.1 dX12_refusal_425 rfl (lv_at hl 0 rfl) ?_
                                  refine lv_iload C.1 C.2.1 dX12_refusal_426 (lv_at hl 6 rfl) ?_
                                  refine p_70 C X hW hS dX12_refusal_428 (fun H locs hW hS => ?_)
                                  refine lt_ok h (fun S39 e_S39 h => ?_)
                                  rw [e_S39] at hW
                                  refine lv_iload C.1 C.2.1 dX12_refusal_431 (lv_at hl 5 rfl) ?_
                                  refine lv_iconst (v := 0) C.1 C.2.1 dX12_refusal_433 (by decide) ?_
                                  refine lv_bipush (v := 63) C.1 C.2.1 dX12_refusal_434 (by decide) ?_
                                  obtain ⟨r40, h_r40, h⟩ := bd_ok h
                                  refine m_callS (rest := []) C hl.1 [.int v5, .int (0 : Int32), .int (63 : Int32)] (tm_within l h_r40) mw_within st_within rfl ⟨by decide, by decide⟩ rfl (Nat.le_of_ble_eq_true rfl) dX12_refusal_436 ?_
                                  refine lv_if_eq (tgt := 446) C.1 C.2.1 dX12_refusal_439 (by decide) (fun c41 => ?_) (fun c41 => ?_)
                                  · have h := if_t h c41
                                    refine lv_iconst (v := 5) C.1 C.2.1 dX12_refusal_446 (by decide) ?_
                                    exact wm_refusal_447 C X h hW hS (lv_sub hl [] rfl)
                                  · have h := if_f h c41
                                    refine lv_iconst (v := 0) C.1 C.2.1 dX12_refusal_442 (by decide) ?_
                                    refine lv_goto (tgt := 447) C.1 C.2.1 dX12_refusal_443 (by decide) ?_
                                    exact wm_refusal_447 C X h hW hS (lv_sub hl [] rfl)
                                · have h := if_f h c37
                                  by_cases c42 : v2 = (16 : Int32)
                                  · have h := if_t h c42
                                    refine lv_tableIn (off := 233) (tgt := 244) C.1 C.2.1 dX12_refusal_11 (by rw [c42]; decide) (by rw [c42]; decide) (by rw [c42]; rfl) (by decide) ?_
                                    exact wm_refusal_244 C X h hW hS (lv_sub hl [0, 1, 3, 4, 5] rfl)
                                  · have h := if_f h c42
                                    by_cases c43 : v2 = (17 : Int32)
                                    · have h := if_t h c43
                                      refine lv_tableIn (off := 437) (tgt := 448) C.1 C.2.1 dX12_refusal_11 (by rw [c43]; decide) (by rw [c43]; decide) (by rw [c43]; rfl) (by decide) ?_
                                      refine lv_aload_n C.1 C.2.1 dX12_refusal_448 rfl (lv_at hl 0 rfl) ?_
                                      refine lv_iload C.1 C.2.1 dX12_refusal_449 (lv_at hl 5 rfl) ?_
                                      refine p_69 C X hW hS dX12_refusal_451 (fun H locs hW hS => ?_)
                                      refine lt_ok h (fun S44 e_S44 h => ?_)
                                      rw [e_S44] at hW
                                      refine lv_aload_n C.1 C.2.1 dX12_refusal_454 rfl (lv_at hl 0 rfl) ?_
                                      refine lv_iload_n C.1 C.2.1 dX12_refusal_455 rfl (lv_at hl 1 rfl) ?_
                                      refine lv_iload_n C.1 C.2.1 dX12_refusal_456 rfl (lv_at hl 3 rfl) ?_
                                      obtain ⟨⟨r46, S45⟩, h_S45, h⟩ := bd_ok h
                                      refine m_callW (rest := []) (ov := some (.int r46)) C X hW hS hl.1 [.int v1, .int v3] (tm_holder l h_S45) mw_holder im_holder sl_holder rfl ⟨by decide, by decide⟩ rfl (Nat.le_of_ble_eq_true rfl) dX12_refusal_457 (fun H locs hW hS => ?_)
                                      refine W.eq (g2 := F0 m 460 ls [.int r46]) rfl ?_
                                      refine lv_istore (lv' := [(7, .int r46), (0, .ref mo), (1, .int v1), (2, .int v2), (3, .int v3), (4, .int v4), (5, .int v5), (6, .int v6)]) C.1 C.2.1 dX12_refusal_460 hl (by decide) rfl (fun ls hl => ?_)
                                      refine lv_iload C.1 C.2.1 dX12_refusal_462 (lv_at hl 6 rfl) ?_
                                      refine lv_iconst (v := 1) C.1 C.2.1 dX12_refusal_464 (by decide) ?_
                                      refine lv_bipush (v := 100) C.1 C.2.1 dX12_refusal_465 (by decide) ?_
                                      obtain ⟨r47, h_r47, h⟩ := bd_ok h
                                      refine m_callS (rest := []) C hl.1 [.int v5, .int (1 : Int32), .int (100 : Int32)] (tm_within l h_r47) mw_within st_within rfl ⟨by decide, by decide⟩ rfl (Nat.le_of_ble_eq_true rfl) dX12_refusal_467 ?_
                                      refine lv_if_eq (tgt := 489) C.1 C.2.1 dX12_refusal_470 (by decide) (fun c48 => ?_) (fun c48 => ?_)
                                      · have h := if_t h c48
                                        exact wm_refusal_489 C X h hW hS (lv_sub hl [] rfl)
                                      · have h := if_f h c48
                                        refine lv_iload C.1 C.2.1 dX12_refusal_473 (lv_at hl 0 rfl) ?_
                                        refine lv_iconst (v := -1) C.1 C.2.1 dX12_refusal_475 (by decide) ?_
                                        refine lv_icmp_eq (tgt := 485) C.1 C.2.1 dX12_refusal_476 (by decide) (fun c49 => ?_) (fun c49 => ?_)
                                        · have h := if_t h c49
                                          exact wm_refusal_485 C X h hW hS (lv_sub hl [] rfl)
                                        · have h := if_f h c49
                                          refine lv_iload C.1 C.2.1 dX12_refusal_479 (lv_at hl 0 rfl) ?_
                                          refine lv_iload_n C.1 C.2.1 dX12_refusal_481 rfl (lv_at hl 2 rfl) ?_
                                          refine lv_icmp_ne (tgt := 489) C.1 C.2.1 dX12_refusal_482 (by decide) (fun c50 => ?_) (fun c50 => ?_)
                                          · have h := if_f h c50
                                            exact wm_refusal_489 C X h hW hS (lv_sub hl [] rfl)
                                          · have h := if_t h c50
                                            exact wm_refusal_485 C X h hW hS (lv_sub hl [] rfl)
                                    · have h := if_f h c43
                                      by_cases c51 : v2 = (18 : Int32)
                                      · have h := if_t h c51
                                        refine lv_tableIn (off := 480) (tgt := 491) C.1 C.2.1 dX12_refusal_11 (by rw [c51]; decide) (by rw [c51]; decide) (by rw [c51]; rfl) (by decide) ?_
                                        refine lv_aload_n C.1 C.2.1 dX12_refusal_491 rfl (lv_at hl 0 rfl) ?_
                                        refine lv_iload_n C.1 C.2.1 dX12_refusal_492 rfl (lv_at hl 1 rfl) ?_
                                        refine lv_iload_n C.1 C.2.1 dX12_refusal_493 rfl (lv_at hl 3 rfl) ?_
                                        obtain ⟨⟨r53, S52⟩, h_S52, h⟩ := bd_ok h
                                        refine m_callW (rest := []) (ov := some (.int r53)) C X hW hS hl.1 [.int v1, .int v3] (tm_holder l h_S52) mw_holder im_holder sl_holder rfl ⟨by decide, by decide⟩ rfl (Nat.le_of_ble_eq_true rfl) dX12_refusal_494 (fun H locs hW hS => ?_)
                                        refine W.eq (g2 := F0 m 497 ls [.int r53]) rfl ?_
                                        refine lv_iload_n C.1 C.2.1 dX12_refusal_497 rfl (lv_at hl 1 rfl) ?_
                                        refine lv_icmp_ne (tgt := 505) C.1 C.2.1 dX12_refusal_498 (by decide) (fun c54 => ?_) (fun c54 => ?_)
                                        · have h := if_f h c54
                                          refine lv_iconst (v := 5) C.1 C.2.1 dX12_refusal_505 (by decide) ?_
                                          exact wm_refusal_506 C X h hW hS (lv_sub hl [] rfl)
                                        · have h := if_t h c54
                                          refine lv_iconst (v := 0) C.1 C.2.1 dX12_refusal_501 (by decide) ?_
                                          refine lv_goto (tgt := 506) C.1 C.2.1 dX12_refusal_502 (by decide) ?_
                                          exact wm_refusal_506 C X h hW hS (lv_sub hl [] rfl)
                                      · have h := if_f h c51
                                        have n_c3 := lv_neT c3 (a := 0) rfl
                                        have n_c4 := lv_neT c4 (a := 1) rfl
                                        have n_c5 := lv_neT c5 (a := 2) rfl
                                        have n_c6 := lv_neT c6 (a := 3) rfl
                                        have n_c7 := lv_neT c7 (a := 4) rfl
                                        have n_c11 := lv_neT c11 (a := 5) rfl
                                        have n_c12 := lv_neT c12 (a := 6) rfl
                                        have n_c13 := lv_neT c13 (a := 7) rfl
                                        have n_c17 := lv_neT c17 (a := 8) rfl
                                        have n_c18 := lv_neT c18 (a := 9) rfl
                                        have n_c27 := lv_neT c27 (a := 10) rfl
                                        have n_c33 := lv_neT c33 (a := 11) rfl
                                        have n_c34 := lv_neT c34 (a := 12) rfl
                                        have n_c35 := lv_neT c35 (a := 13) rfl
                                        have n_c36 := lv_neT c36 (a := 14) rfl
                                        have n_c37 := lv_neT c37 (a := 15) rfl
                                        have n_c42 := lv_neT c42 (a := 16) rfl
                                        have n_c43 := lv_neT c43 (a := 17) rfl
                                        have n_c51 := lv_neT c51 (a := 18) rfl
                                        refine lv_tableOut (tgt := 509) C.1 C.2.1 dX12_refusal_11 (by omega) (by decide) ?_
                                        exact wm_refusal_509 C X h hW hS (lv_sub hl [0, 1, 2] rfl)
end
