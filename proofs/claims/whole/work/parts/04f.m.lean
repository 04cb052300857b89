-- made by wip/whole/walk.py: the reference's keepLists, turn, tellLists
theorem dX12_keepLists_0 : decode cX12_keepLists 0 = .ok (.iconst 0, 1) := by decide +kernel
theorem dX12_keepLists_1 : decode cX12_keepLists 1 = .ok (.istore_n 2, 1) := by decide +kernel
theorem dX12_keepLists_2 : decode cX12_keepLists 2 = .ok (.iload_n 2, 1) := by decide +kernel
theorem dX12_keepLists_3 : decode cX12_keepLists 3 = .ok (.iconst 4, 1) := by decide +kernel
theorem dX12_keepLists_4 : decode cX12_keepLists 4 = .ok (.if_icmp .ge 58, 3) := by decide +kernel
theorem dX12_keepLists_7 : decode cX12_keepLists 7 = .ok (.aload_n 0, 1) := by decide +kernel
theorem dX12_keepLists_8 : decode cX12_keepLists 8 = .ok (.iload_n 1, 1) := by decide +kernel
theorem dX12_keepLists_9 : decode cX12_keepLists 9 = .ok (.iload_n 2, 1) := by decide +kernel
theorem dX12_keepLists_10 : decode cX12_keepLists 10 = .ok (.invokevirtual 371, 3) := by decide +kernel
theorem dX12_keepLists_13 : decode cX12_keepLists 13 = .ok (.aload_n 0, 1) := by decide +kernel
theorem dX12_keepLists_14 : decode cX12_keepLists 14 = .ok (.getfield 172, 3) := by decide +kernel
theorem dX12_keepLists_17 : decode cX12_keepLists 17 = .ok (.iload_n 2, 1) := by decide +kernel
theorem dX12_keepLists_18 : decode cX12_keepLists 18 = .ok (.aload_n 0, 1) := by decide +kernel
theorem dX12_keepLists_19 : decode cX12_keepLists 19 = .ok (.getfield 362, 3) := by decide +kernel
theorem dX12_keepLists_22 : decode cX12_keepLists 22 = .ok (.iastore, 1) := by decide +kernel
theorem dX12_keepLists_23 : decode cX12_keepLists 23 = .ok (.iconst 0, 1) := by decide +kernel
theorem dX12_keepLists_24 : decode cX12_keepLists 24 = .ok (.istore_n 3, 1) := by decide +kernel
theorem dX12_keepLists_25 : decode cX12_keepLists 25 = .ok (.iload_n 3, 1) := by decide +kernel
theorem dX12_keepLists_26 : decode cX12_keepLists 26 = .ok (.aload_n 0, 1) := by decide +kernel
theorem dX12_keepLists_27 : decode cX12_keepLists 27 = .ok (.getfield 362, 3) := by decide +kernel
theorem dX12_keepLists_30 : decode cX12_keepLists 30 = .ok (.if_icmp .ge 26, 3) := by decide +kernel
theorem dX12_keepLists_33 : decode cX12_keepLists 33 = .ok (.aload_n 0, 1) := by decide +kernel
theorem dX12_keepLists_34 : decode cX12_keepLists 34 = .ok (.getfield 169, 3) := by decide +kernel
theorem dX12_keepLists_37 : decode cX12_keepLists 37 = .ok (.bipush 48, 2) := by decide +kernel
theorem dX12_keepLists_39 : decode cX12_keepLists 39 = .ok (.iload_n 2, 1) := by decide +kernel
theorem dX12_keepLists_40 : decode cX12_keepLists 40 = .ok (.imul, 1) := by decide +kernel
theorem dX12_keepLists_41 : decode cX12_keepLists 41 = .ok (.iload_n 3, 1) := by decide +kernel
theorem dX12_keepLists_42 : decode cX12_keepLists 42 = .ok (.iadd, 1) := by decide +kernel
theorem dX12_keepLists_43 : decode cX12_keepLists 43 = .ok (.aload_n 0, 1) := by decide +kernel
theorem dX12_keepLists_44 : decode cX12_keepLists 44 = .ok (.getfield 175, 3) := by decide +kernel
theorem dX12_keepLists_47 : decode cX12_keepLists 47 = .ok (.iload_n 3, 1) := by decide +kernel
theorem dX12_keepLists_48 : decode cX12_keepLists 48 = .ok (.iaload, 1) := by decide +kernel
theorem dX12_keepLists_49 : decode cX12_keepLists 49 = .ok (.iastore, 1) := by decide +kernel
theorem dX12_keepLists_50 : decode cX12_keepLists 50 = .ok (.iinc 3 1, 3) := by decide +kernel
theorem dX12_keepLists_53 : decode cX12_keepLists 53 = .ok (.goto (-28), 3) := by decide +kernel
theorem dX12_keepLists_56 : decode cX12_keepLists 56 = .ok (.iinc 2 1, 3) := by decide +kernel
theorem dX12_keepLists_59 : decode cX12_keepLists 59 = .ok (.goto (-57), 3) := by decide +kernel
theorem dX12_keepLists_62 : decode cX12_keepLists 62 = .ok (.return_, 1) := by decide +kernel
theorem cd_keepLists : Cond.code yX12_keepLists cX12_keepLists 4 none ∈ lw_g := mt_at 2147 (by decide +kernel) rfl
theorem mw_keepLists : mCw 349 yX12_keepLists cX12_keepLists 4 none 1 := ⟨cd_keepLists, mt_at 2144 (by decide +kernel) rfl, in_M, by decide +kernel⟩
theorem im_keepLists : Cond.instanceMethod yX12_keepLists ∈ lw_g := mt_at 2146 (by decide +kernel) rfl
theorem sl_keepLists : Cond.selects RX12 yX12_keepLists yX12_keepLists ∈ lw_g := mt_sel 82 (by decide +kernel) rfl
section
variable {p : Program} {l : Launch} {e : Env} {R : Room} {s : State} {m : MethodId} {args : Array Value} {below : List Frame} {meth : Method} {c : Code} {cM : ClassId} {iS : Nat → Nat} {cI cZ : ClassId} {mo : Nat} {ad : Nat → Nat} {r : Int32} {S9 : mSt}
noncomputable def fm_keepLists_25 (g_2 : mSt → Int32 → Int32 → Option (mSt)) : Nat → mSt → Int32 → Int32 → Int32 → Option (mSt)
  | 0, _, _, _, _ => none
  | n + 1, S, v1, v2, v3 =>
    if (S.1 67) ≤ v3 then (
    lt (v2 + (1 : Int32)) fun x2 =>
    g_2 S v1 x2)
    else (
    ck v3 48 (
    ck (((48 : Int32) * v2) + v3) 192 (lt (wr S 65 (((48 : Int32) * v2) + v3) (rd S 68 v3)) fun S3 =>
    lt (v3 + (1 : Int32)) fun x4 =>
    fm_keepLists_25 g_2 n S3 v1 v2 x4)))
set_option maxRecDepth 100000 in
set_option maxHeartbeats 4000000 in
theorem wm_keepLists_25 (C : mY p R s m args meth c cX12_keepLists 4 7 167 none) (X : mX s cM iS cI cZ mo ad) {g_2 : mSt → Int32 → Int32 → Option (mSt)} (hg_2 : ∀ {S : mSt} {v1 : Int32} {v2 : Int32} {H : Heap} {locs : List Loc} {ls : Array Slot}, g_2 S v1 v2 = some S9 → mW cM iS cI cZ mo ad S H → mS (mA mo ad) s.heap H locs → lv_has ls 4 [(0, .ref mo), (1, .int v1), (2, .int v2)] → W p l e R s m args below meth c H locs 0 0 (MQ below (mQw none cM iS cI cZ mo ad S9) args s 0 0 (mA mo ad)) (F0 m 2 ls [])) : ∀ (n : Nat), ∀ {S : mSt} {v1 : Int32} {v2 : Int32} {v3 : Int32} {H : Heap} {locs : List Loc} {ls : Array Slot}, fm_keepLists_25 g_2 n S v1 v2 v3 = some S9 → mW cM iS cI cZ mo ad S H → mS (mA mo ad) s.heap H locs → lv_has ls 4 [(0, .ref mo), (1, .int v1), (2, .int v2), (3, .int v3)] → W p l e R s m args below meth c H locs 0 0 (MQ below (mQw none cM iS cI cZ mo ad S9) args s 0 0 (mA mo ad)) (F0 m 25 ls []) := by
  intro n
  induction n with
  | zero =>
    intro S v1 v2 v3 H locs ls h hW hS hl
    exact absurd (show (none : Option (mSt)) = _ from h) (fun q => by cases q)
  | succ n ih =>
    intro S v1 v2 v3 H locs ls h hW hS hl
    rw [fm_keepLists_25] at h
    refine lv_iload_n C.1 C.2.1 dX12_keepLists_25 rfl (lv_at hl 3 rfl) ?_
    refine lv_aload_n C.1 C.2.1 dX12_keepLists_26 rfl (lv_at hl 0 rfl) ?_
    refine gf_67 C X hW dX12_keepLists_27 ?_
    refine lv_icmp_ge (tgt := 56) C.1 C.2.1 dX12_keepLists_30 (by decide) (fun c1 => ?_) (fun c1 => ?_)
    · have h := if_t h c1
      refine lt_ok h (fun x2 e_x2 h => ?_)
      refine lv_iinc (v := x2) (lv' := [(2, .int x2), (0, .ref mo), (1, .int v1), (3, .int v3)]) C.1 C.2.1 dX12_keepLists_56 hl (k := 2) rfl (by rw [← e_x2]; rfl) (by decide) rfl (fun ls hl => ?_)
      refine lv_goto (tgt := 2) C.1 C.2.1 dX12_keepLists_59 (by decide) ?_
      exact hg_2 h hW hS (lv_sub hl [1, 2, 0] rfl)
    · have h := if_f h c1
      refine lv_aload_n C.1 C.2.1 dX12_keepLists_33 rfl (lv_at hl 0 rfl) ?_
      refine gf_65 C X hW dX12_keepLists_34 ?_
      refine lv_bipush (v := 48) C.1 C.2.1 dX12_keepLists_37 (by decide) ?_
      refine lv_iload_n C.1 C.2.1 dX12_keepLists_39 rfl (lv_at hl 2 rfl) ?_
      refine lv_imul C.1 C.2.1 dX12_keepLists_40 ?_
      refine lv_iload_n C.1 C.2.1 dX12_keepLists_41 rfl (lv_at hl 3 rfl) ?_
      refine lv_iadd C.1 C.2.1 dX12_keepLists_42 ?_
      refine lv_aload_n C.1 C.2.1 dX12_keepLists_43 rfl (lv_at hl 0 rfl) ?_
      refine gf_68 C X hW dX12_keepLists_44 ?_
      refine lv_iload_n C.1 C.2.1 dX12_keepLists_47 rfl (lv_at hl 3 rfl) ?_
      obtain ⟨hin, h⟩ := ck_ok h
      refine l_68 C X hW hin dX12_keepLists_48 ?_
      obtain ⟨hin, h⟩ := ck_ok h
      refine s_65 C X hW hS hin dX12_keepLists_49 (fun H locs hW hS => ?_)
      refine lt_ok h (fun S3 e_S3 h => ?_)
      rw [e_S3] at hW
      refine lt_ok h (fun x4 e_x4 h => ?_)
      refine lv_iinc (v := x4) (lv' := [(3, .int x4), (0, .ref mo), (1, .int v1), (2, .int v2)]) C.1 C.2.1 dX12_keepLists_50 hl (k := 3) rfl (by rw [← e_x4]; rfl) (by decide) rfl (fun ls hl => ?_)
      refine lv_goto (tgt := 25) C.1 C.2.1 dX12_keepLists_53 (by decide) ?_
      exact ih h hW hS (lv_sub hl [1, 2, 3, 0] rfl)
noncomputable def fm_keepLists_2 : Nat → mSt → Int32 → Int32 → Option (mSt)
  | 0, _, _, _ => none
  | n + 1, S, v1, v2 =>
    if (4 : Int32) ≤ v2 then (
    some S)
    else (
    bd (fm_findList S v1 v2) fun S2 =>
    ck v2 4 (lt (wr S2 66 v2 (S2.1 67)) fun S3 =>
    fm_keepLists_25 (fm_keepLists_2 n) mFU S3 v1 v2 (0 : Int32)))
set_option maxRecDepth 100000 in
set_option maxHeartbeats 4000000 in
theorem wm_keepLists_2 (C : mY p R s m args meth c cX12_keepLists 4 7 167 none) (X : mX s cM iS cI cZ mo ad) : ∀ (n : Nat), ∀ {S : mSt} {v1 : Int32} {v2 : Int32} {H : Heap} {locs : List Loc} {ls : Array Slot}, fm_keepLists_2 n S v1 v2 = some S9 → mW cM iS cI cZ mo ad S H → mS (mA mo ad) s.heap H locs → lv_has ls 4 [(0, .ref mo), (1, .int v1), (2, .int v2)] → W p l e R s m args below meth c H locs 0 0 (MQ below (mQw none cM iS cI cZ mo ad S9) args s 0 0 (mA mo ad)) (F0 m 2 ls []) := by
  intro n
  induction n with
  | zero =>
    intro S v1 v2 H locs ls h hW hS hl
    exact absurd (show (none : Option (mSt)) = _ from h) (fun q => by cases q)
  | succ n ih =>
    intro S v1 v2 H locs ls h hW hS hl
    rw [fm_keepLists_2] at h
    refine lv_iload_n C.1 C.2.1 dX12_keepLists_2 rfl (lv_at hl 2 rfl) ?_
    refine lv_iconst (v := 4) C.1 C.2.1 dX12_keepLists_3 (by decide) ?_
    refine lv_icmp_ge (tgt := 62) C.1 C.2.1 dX12_keepLists_4 (by decide) (fun c1 => ?_) (fun c1 => ?_)
    · have h := if_t h c1
      cases h
      exact m_retvW C hW hS dX12_keepLists_62
    · have h := if_f h c1
      refine lv_aload_n C.1 C.2.1 dX12_keepLists_7 rfl (lv_at hl 0 rfl) ?_
      refine lv_iload_n C.1 C.2.1 dX12_keepLists_8 rfl (lv_at hl 1 rfl) ?_
      refine lv_iload_n C.1 C.2.1 dX12_keepLists_9 rfl (lv_at hl 2 rfl) ?_
      obtain ⟨S2, h_S2, h⟩ := bd_ok h
      refine m_callW (rest := []) (ov := none) C X hW hS hl.1 [.int v1, .int v2] (tm_findList l h_S2) mw_findList im_findList sl_findList rfl ⟨by decide, by decide⟩ rfl (Nat.le_of_ble_eq_true rfl) dX12_keepLists_10 (fun H locs hW hS => ?_)
      refine W.eq (g2 := F0 m 13 ls []) rfl ?_
      refine lv_aload_n C.1 C.2.1 dX12_keepLists_13 rfl (lv_at hl 0 rfl) ?_
      refine gf_66 C X hW dX12_keepLists_14 ?_
      refine lv_iload_n C.1 C.2.1 dX12_keepLists_17 rfl (lv_at hl 2 rfl) ?_
      refine lv_aload_n C.1 C.2.1 dX12_keepLists_18 rfl (lv_at hl 0 rfl) ?_
      refine gf_67 C X hW dX12_keepLists_19 ?_
      obtain ⟨hin, h⟩ := ck_ok h
      refine s_66 C X hW hS hin dX12_keepLists_22 (fun H locs hW hS => ?_)
      refine lt_ok h (fun S3 e_S3 h => ?_)
      rw [e_S3] at hW
      refine lv_iconst (v := 0) C.1 C.2.1 dX12_keepLists_23 (by decide) ?_
      refine lv_istore_n (lv' := [(3, .int (0 : Int32)), (0, .ref mo), (1, .int v1), (2, .int v2)]) C.1 C.2.1 dX12_keepLists_24 rfl hl (by decide) rfl (fun ls hl => ?_)
      exact wm_keepLists_25 C X ih mFU h hW hS (lv_sub hl [1, 2, 3, 0] rfl)
noncomputable def fm_keepLists (S : mSt) (v1 : Int32) : Option (mSt) :=
fm_keepLists_2 mFU S v1 (0 : Int32)
set_option maxRecDepth 100000 in
set_option maxHeartbeats 4000000 in
theorem tm_keepLists (l : Launch) {cM : ClassId} {iS : Nat → Nat} {cI cZ : ClassId} {mo : Nat} {ad : Nat → Nat} {S : mSt} {v1 : Int32} {S9 : mSt} (h : fm_keepLists S v1 = some S9) : Met l yX12_keepLists (Cond.code yX12_keepLists cX12_keepLists 4 none :: lw_g) { frames := 7, cells := 0, slots := 0, locals := 167 } (mPi [.int v1] cM iS cI cZ mo ad S) (mQw none cM iS cI cZ mo ad S9) 0 0 (mA mo ad) := by
  refine Met.ofW (cc := cX12_keepLists) (maxL := 4) (ret := none) (by decide) rfl ?_
  intro p e s m args below meth c s₁ B hml hv
  obtain ⟨rfl, hW, X⟩ := hv
  have C : mY p (headSpec (Cond.code yX12_keepLists cX12_keepLists 4 none :: lw_g) { frames := 7, cells := 0, slots := 0, locals := 167 }).room s m _ meth c cX12_keepLists 4 7 167 none := ⟨B.exec, B.bytes, hml, findClass_of_methodNamed B.named, fun w hw => atoms_spec (ws := Cond.code yX12_keepLists cX12_keepLists 4 none :: lw_g) B.pre w (List.mem_cons_of_mem _ hw), ⟨Nat.le_refl _, Nat.le_refl _⟩, B.returns, B.notSynchronized⟩
  have hl := lv_entry ([.ref mo, .int v1]) (n := 4) (Nat.le_of_ble_eq_true rfl)
  rw [lg_entry_eq]
  generalize (lg_sl ([.ref mo, .int v1]) ++ List.replicate (4 - (lg_sl ([.ref mo, .int v1])).length) Slot.unset).toArray = ls at hl ⊢
  have hl : lv_has ls 4 [(0, .ref mo), (1, .int v1)] := hl
  have hS : mS (mA mo ad) s.heap s.heap [] := mS.rf
  unfold fm_keepLists at h
  refine lv_iconst (v := 0) C.1 C.2.1 dX12_keepLists_0 (by decide) ?_
  refine lv_istore_n (lv' := [(2, .int (0 : Int32)), (0, .ref mo), (1, .int v1)]) C.1 C.2.1 dX12_keepLists_1 rfl hl (by decide) rfl (fun ls hl => ?_)
  exact wm_keepLists_2 C X mFU h hW hS (lv_sub hl [1, 2, 0] rfl)
end
theorem dX12_turn_0 : decode cX12_turn 0 = .ok (.aload_n 0, 1) := by decide +kernel
theorem dX12_turn_1 : decode cX12_turn 1 = .ok (.getfield 114, 3) := by decide +kernel
theorem dX12_turn_4 : decode cX12_turn 4 = .ok (.iload_n 1, 1) := by decide +kernel
theorem dX12_turn_5 : decode cX12_turn 5 = .ok (.iaload, 1) := by decide +kernel
theorem dX12_turn_6 : decode cX12_turn 6 = .ok (.sipush 200, 3) := by decide +kernel
theorem dX12_turn_9 : decode cX12_turn 9 = .ok (.if_icmp .ne 4, 3) := by decide +kernel
theorem dX12_turn_12 : decode cX12_turn 12 = .ok (.return_, 1) := by decide +kernel
theorem dX12_turn_13 : decode cX12_turn 13 = .ok (.sipush 200, 3) := by decide +kernel
theorem dX12_turn_16 : decode cX12_turn 16 = .ok (.iload_n 1, 1) := by decide +kernel
theorem dX12_turn_17 : decode cX12_turn 17 = .ok (.imul, 1) := by decide +kernel
theorem dX12_turn_18 : decode cX12_turn 18 = .ok (.aload_n 0, 1) := by decide +kernel
theorem dX12_turn_19 : decode cX12_turn 19 = .ok (.getfield 114, 3) := by decide +kernel
theorem dX12_turn_22 : decode cX12_turn 22 = .ok (.iload_n 1, 1) := by decide +kernel
theorem dX12_turn_23 : decode cX12_turn 23 = .ok (.iaload, 1) := by decide +kernel
theorem dX12_turn_24 : decode cX12_turn 24 = .ok (.iadd, 1) := by decide +kernel
theorem dX12_turn_25 : decode cX12_turn 25 = .ok (.istore 6, 2) := by decide +kernel
theorem dX12_turn_27 : decode cX12_turn 27 = .ok (.aload_n 0, 1) := by decide +kernel
theorem dX12_turn_28 : decode cX12_turn 28 = .ok (.getfield 117, 3) := by decide +kernel
theorem dX12_turn_31 : decode cX12_turn 31 = .ok (.iload 6, 2) := by decide +kernel
theorem dX12_turn_33 : decode cX12_turn 33 = .ok (.iload_n 2, 1) := by decide +kernel
theorem dX12_turn_34 : decode cX12_turn 34 = .ok (.invokestatic 303, 3) := by decide +kernel
theorem dX12_turn_37 : decode cX12_turn 37 = .ok (.iastore, 1) := by decide +kernel
theorem dX12_turn_38 : decode cX12_turn 38 = .ok (.aload_n 0, 1) := by decide +kernel
theorem dX12_turn_39 : decode cX12_turn 39 = .ok (.getfield 120, 3) := by decide +kernel
theorem dX12_turn_42 : decode cX12_turn 42 = .ok (.iload 6, 2) := by decide +kernel
theorem dX12_turn_44 : decode cX12_turn 44 = .ok (.iload_n 3, 1) := by decide +kernel
theorem dX12_turn_45 : decode cX12_turn 45 = .ok (.iastore, 1) := by decide +kernel
theorem dX12_turn_46 : decode cX12_turn 46 = .ok (.aload_n 0, 1) := by decide +kernel
theorem dX12_turn_47 : decode cX12_turn 47 = .ok (.getfield 123, 3) := by decide +kernel
theorem dX12_turn_50 : decode cX12_turn 50 = .ok (.iload 6, 2) := by decide +kernel
theorem dX12_turn_52 : decode cX12_turn 52 = .ok (.iload 4, 2) := by decide +kernel
theorem dX12_turn_54 : decode cX12_turn 54 = .ok (.iastore, 1) := by decide +kernel
theorem dX12_turn_55 : decode cX12_turn 55 = .ok (.aload_n 0, 1) := by decide +kernel
theorem dX12_turn_56 : decode cX12_turn 56 = .ok (.getfield 126, 3) := by decide +kernel
theorem dX12_turn_59 : decode cX12_turn 59 = .ok (.iload 6, 2) := by decide +kernel
theorem dX12_turn_61 : decode cX12_turn 61 = .ok (.iload 5, 2) := by decide +kernel
theorem dX12_turn_63 : decode cX12_turn 63 = .ok (.iastore, 1) := by decide +kernel
theorem dX12_turn_64 : decode cX12_turn 64 = .ok (.aload_n 0, 1) := by decide +kernel
theorem dX12_turn_65 : decode cX12_turn 65 = .ok (.getfield 114, 3) := by decide +kernel
theorem dX12_turn_68 : decode cX12_turn 68 = .ok (.iload_n 1, 1) := by decide +kernel
theorem dX12_turn_69 : decode cX12_turn 69 = .ok (.dup2, 1) := by decide +kernel
theorem dX12_turn_70 : decode cX12_turn 70 = .ok (.iaload, 1) := by decide +kernel
theorem dX12_turn_71 : decode cX12_turn 71 = .ok (.iconst 1, 1) := by decide +kernel
theorem dX12_turn_72 : decode cX12_turn 72 = .ok (.iadd, 1) := by decide +kernel
theorem dX12_turn_73 : decode cX12_turn 73 = .ok (.iastore, 1) := by decide +kernel
theorem dX12_turn_74 : decode cX12_turn 74 = .ok (.return_, 1) := by decide +kernel
theorem cd_turn : Cond.code yX12_turn cX12_turn 7 none ∈ lw_g := mt_at 2171 (by decide +kernel) rfl
theorem mw_turn : mCw 374 yX12_turn cX12_turn 7 none 5 := ⟨cd_turn, mt_at 2168 (by decide +kernel) rfl, in_M, by decide +kernel⟩
theorem im_turn : Cond.instanceMethod yX12_turn ∈ lw_g := mt_at 2170 (by decide +kernel) rfl
theorem sl_turn : Cond.selects RX12 yX12_turn yX12_turn ∈ lw_g := mt_sel 88 (by decide +kernel) rfl
section
variable {p : Program} {l : Launch} {e : Env} {R : Room} {s : State} {m : MethodId} {args : Array Value} {below : List Frame} {meth : Method} {c : Code} {cM : ClassId} {iS : Nat → Nat} {cI cZ : ClassId} {mo : Nat} {ad : Nat → Nat} {r : Int32} {S9 : mSt}
noncomputable def fm_turn (S : mSt) (v1 : Int32) (v2 : Int32) (v3 : Int32) (v4 : Int32) (v5 : Int32) : Option (mSt) :=
ck v1 4 (
if (rd S 37 v1) = (200 : Int32) then (
some S)
else (
ck v1 4 (
lt (((200 : Int32) * v1) + (rd S 37 v1)) fun x2 =>
bd (fm_nameOf v2) fun r3 =>
ck x2 800 (lt (wr S 38 x2 r3) fun S4 =>
ck x2 800 (lt (wr S4 39 x2 v3) fun S5 =>
ck x2 800 (lt (wr S5 40 x2 v4) fun S6 =>
ck x2 800 (lt (wr S6 41 x2 v5) fun S7 =>
ck v1 4 (
ck v1 4 (lt (wr S7 37 v1 ((rd S7 37 v1) + (1 : Int32))) fun S8 =>
some S8)))))))))
set_option maxRecDepth 100000 in
set_option maxHeartbeats 4000000 in
theorem tm_turn (l : Launch) {cM : ClassId} {iS : Nat → Nat} {cI cZ : ClassId} {mo : Nat} {ad : Nat → Nat} {S : mSt} {v1 : Int32} {v2 : Int32} {v3 : Int32} {v4 : Int32} {v5 : Int32} {S9 : mSt} (h : fm_turn S v1 v2 v3 v4 v5 = some S9) : Met l yX12_turn (Cond.code yX12_turn cX12_turn 7 none :: lw_g) { frames := 2, cells := 0, slots := 0, locals := 40 } (mPi [.int v1, .int v2, .int v3, .int v4, .int v5] cM iS cI cZ mo ad S) (mQw none cM iS cI cZ mo ad S9) 0 0 (mA mo ad) := by
  refine Met.ofW (cc := cX12_turn) (maxL := 7) (ret := none) (by decide) rfl ?_
  intro p e s m args below meth c s₁ B hml hv
  obtain ⟨rfl, hW, X⟩ := hv
  have C : mY p (headSpec (Cond.code yX12_turn cX12_turn 7 none :: lw_g) { frames := 2, cells := 0, slots := 0, locals := 40 }).room s m _ meth c cX12_turn 7 2 40 none := ⟨B.exec, B.bytes, hml, findClass_of_methodNamed B.named, fun w hw => atoms_spec (ws := Cond.code yX12_turn cX12_turn 7 none :: lw_g) B.pre w (List.mem_cons_of_mem _ hw), ⟨Nat.le_refl _, Nat.le_refl _⟩, B.returns, B.notSynchronized⟩
  have hl := lv_entry ([.ref mo, .int v1, .int v2, .int v3, .int v4, .int v5]) (n := 7) (Nat.le_of_ble_eq_true rfl)
  rw [lg_entry_eq]
  generalize (lg_sl ([.ref mo, .int v1, .int v2, .int v3, .int v4, .int v5]) ++ List.replicate (7 - (lg_sl ([.ref mo, .int v1, .int v2, .int v3, .int v4, .int v5])).length) Slot.unset).toArray = ls at hl ⊢
  have hl : lv_has ls 7 [(0, .ref mo), (1, .int v1), (2, .int v2), (3, .int v3), (4, .int v4), (5, .int v5)] := hl
  have hS : mS (mA mo ad) s.heap s.heap [] := mS.rf
  unfold fm_turn at h
  refine lv_aload_n C.1 C.2.1 dX12_turn_0 rfl (lv_at hl 0 rfl) ?_
  refine gf_37 C X hW dX12_turn_1 ?_
  refine lv_iload_n C.1 C.2.1 dX12_turn_4 rfl (lv_at hl 1 rfl) ?_
  obtain ⟨hin, h⟩ := ck_ok h
  refine l_37 C X hW hin dX12_turn_5 ?_
  refine lv_sipush (v := 200) C.1 C.2.1 dX12_turn_6 (by decide) ?_
  refine lv_icmp_ne (tgt := 13) C.1 C.2.1 dX12_turn_9 (by decide) (fun c1 => ?_) (fun c1 => ?_)
  · have h := if_f h c1
    refine lv_sipush (v := 200) C.1 C.2.1 dX12_turn_13 (by decide) ?_
    refine lv_iload_n C.1 C.2.1 dX12_turn_16 rfl (lv_at hl 1 rfl) ?_
    refine lv_imul C.1 C.2.1 dX12_turn_17 ?_
    refine lv_aload_n C.1 C.2.1 dX12_turn_18 rfl (lv_at hl 0 rfl) ?_
    refine gf_37 C X hW dX12_turn_19 ?_
    refine lv_iload_n C.1 C.2.1 dX12_turn_22 rfl (lv_at hl 1 rfl) ?_
    obtain ⟨hin, h⟩ := ck_ok h
    refine l_37 C X hW hin dX12_turn_23 ?_
    refine lv_iadd C.1 C.2.1 dX12_turn_24 ?_
    refine lt_ok h (fun x2 e_x2 h => ?_)
    refine lv_nm e_x2 ?_
    refine lv_istore (lv' := [(6, .int x2), (0, .ref mo), (1, .int v1), (2, .int v2), (3, .int v3), (4, .int v4), (5, .int v5)]) C.1 C.2.1 dX12_turn_25 hl (by decide) rfl (fun ls hl => ?_)
    refine lv_aload_n C.1 C.2.1 dX12_turn_27 rfl (lv_at hl 1 rfl) ?_
    refine gf_38 C X hW dX12_turn_28 ?_
    refine lv_iload C.1 C.2.1 dX12_turn_31 (lv_at hl 0 rfl) ?_
    refine lv_iload_n C.1 C.2.1 dX12_turn_33 rfl (lv_at hl 3 rfl) ?_
    obtain ⟨r3, h_r3, h⟩ := bd_ok h
    refine m_callS (rest := [.int x2, .ref (ad 38)]) C hl.1 [.int v2] (tm_nameOf l h_r3) mw_nameOf st_nameOf rfl ⟨by decide, by decide⟩ rfl (Nat.le_of_ble_eq_true rfl) dX12_turn_34 ?_
    obtain ⟨hin, h⟩ := ck_ok h
    refine s_38 C X hW hS hin dX12_turn_37 (fun H locs hW hS => ?_)
    refine lt_ok h (fun S4 e_S4 h => ?_)
    rw [e_S4] at hW
    refine lv_aload_n C.1 C.2.1 dX12_turn_38 rfl (lv_at hl 1 rfl) ?_
    refine gf_39 C X hW dX12_turn_39 ?_
    refine lv_iload C.1 C.2.1 dX12_turn_42 (lv_at hl 0 rfl) ?_
    refine lv_iload_n C.1 C.2.1 dX12_turn_44 rfl (lv_at hl 4 rfl) ?_
    obtain ⟨hin, h⟩ := ck_ok h
    refine s_39 C X hW hS hin dX12_turn_45 (fun H locs hW hS => ?_)
    refine lt_ok h (fun S5 e_S5 h => ?_)
    rw [e_S5] at hW
    refine lv_aload_n C.1 C.2.1 dX12_turn_46 rfl (lv_at hl 1 rfl) ?_
    refine gf_40 C X hW dX12_turn_47 ?_
    refine lv_iload C.1 C.2.1 dX12_turn_50 (lv_at hl 0 rfl) ?_
    refine lv_iload C.1 C.2.1 dX12_turn_52 (lv_at hl 5 rfl) ?_
    obtain ⟨hin, h⟩ := ck_ok h
    refine s_40 C X hW hS hin dX12_turn_54 (fun H locs hW hS => ?_)
    refine lt_ok h (fun S6 e_S6 h => ?_)
    rw [e_S6] at hW
    refine lv_aload_n C.1 C.2.1 dX12_turn_55 rfl (lv_at hl 1 rfl) ?_
    refine gf_41 C X hW dX12_turn_56 ?_
    refine lv_iload C.1 C.2.1 dX12_turn_59 (lv_at hl 0 rfl) ?_
    refine lv_iload C.1 C.2.1 dX12_turn_61 (lv_at hl 6 rfl) ?_
    obtain ⟨hin, h⟩ := ck_ok h
    refine s_41 C X hW hS hin dX12_turn_63 (fun H locs hW hS => ?_)
    refine lt_ok h (fun S7 e_S7 h => ?_)
    rw [e_S7] at hW
    refine lv_aload_n C.1 C.2.1 dX12_turn_64 rfl (lv_at hl 1 rfl) ?_
    refine gf_37 C X hW dX12_turn_65 ?_
    refine lv_iload_n C.1 C.2.1 dX12_turn_68 rfl (lv_at hl 2 rfl) ?_
    refine lv_dup2_11 C.1 C.2.1 dX12_turn_69 rfl rfl ?_
    obtain ⟨hin, h⟩ := ck_ok h
    refine l_37 C X hW hin dX12_turn_70 ?_
    refine lv_iconst (v := 1) C.1 C.2.1 dX12_turn_71 (by decide) ?_
    refine lv_iadd C.1 C.2.1 dX12_turn_72 ?_
    obtain ⟨hin, h⟩ := ck_ok h
    refine s_37 C X hW hS hin dX12_turn_73 (fun H locs hW hS => ?_)
    refine lt_ok h (fun S8 e_S8 h => ?_)
    rw [e_S8] at hW
    cases h
    exact m_retvW C hW hS dX12_turn_74
  · have h := if_t h c1
    cases h
    exact m_retvW C hW hS dX12_turn_12
end
theorem dX12_tellLists_0 : decode cX12_tellLists 0 = .ok (.iconst 0, 1) := by decide +kernel
theorem dX12_tellLists_1 : decode cX12_tellLists 1 = .ok (.istore_n 3, 1) := by decide +kernel
theorem dX12_tellLists_2 : decode cX12_tellLists 2 = .ok (.iload_n 3, 1) := by decide +kernel
theorem dX12_tellLists_3 : decode cX12_tellLists 3 = .ok (.iconst 4, 1) := by decide +kernel
theorem dX12_tellLists_4 : decode cX12_tellLists 4 = .ok (.if_icmp .ge 167, 3) := by decide +kernel
theorem dX12_tellLists_7 : decode cX12_tellLists 7 = .ok (.aload_n 0, 1) := by decide +kernel
theorem dX12_tellLists_8 : decode cX12_tellLists 8 = .ok (.iload_n 1, 1) := by decide +kernel
theorem dX12_tellLists_9 : decode cX12_tellLists 9 = .ok (.iload_n 3, 1) := by decide +kernel
theorem dX12_tellLists_10 : decode cX12_tellLists 10 = .ok (.invokevirtual 371, 3) := by decide +kernel
theorem dX12_tellLists_13 : decode cX12_tellLists 13 = .ok (.iconst 0, 1) := by decide +kernel
theorem dX12_tellLists_14 : decode cX12_tellLists 14 = .ok (.istore 4, 2) := by decide +kernel
theorem dX12_tellLists_16 : decode cX12_tellLists 16 = .ok (.iconst 0, 1) := by decide +kernel
theorem dX12_tellLists_17 : decode cX12_tellLists 17 = .ok (.istore 5, 2) := by decide +kernel
theorem dX12_tellLists_19 : decode cX12_tellLists 19 = .ok (.iload 4, 2) := by decide +kernel
theorem dX12_tellLists_21 : decode cX12_tellLists 21 = .ok (.aload_n 0, 1) := by decide +kernel
theorem dX12_tellLists_22 : decode cX12_tellLists 22 = .ok (.getfield 172, 3) := by decide +kernel
theorem dX12_tellLists_25 : decode cX12_tellLists 25 = .ok (.iload_n 3, 1) := by decide +kernel
theorem dX12_tellLists_26 : decode cX12_tellLists 26 = .ok (.iaload, 1) := by decide +kernel
theorem dX12_tellLists_27 : decode cX12_tellLists 27 = .ok (.if_icmp .lt 12, 3) := by decide +kernel
theorem dX12_tellLists_30 : decode cX12_tellLists 30 = .ok (.iload 5, 2) := by decide +kernel
theorem dX12_tellLists_32 : decode cX12_tellLists 32 = .ok (.aload_n 0, 1) := by decide +kernel
theorem dX12_tellLists_33 : decode cX12_tellLists 33 = .ok (.getfield 362, 3) := by decide +kernel
theorem dX12_tellLists_36 : decode cX12_tellLists 36 = .ok (.if_icmp .ge 129, 3) := by decide +kernel
theorem dX12_tellLists_39 : decode cX12_tellLists 39 = .ok (.iload 4, 2) := by decide +kernel
theorem dX12_tellLists_41 : decode cX12_tellLists 41 = .ok (.aload_n 0, 1) := by decide +kernel
theorem dX12_tellLists_42 : decode cX12_tellLists 42 = .ok (.getfield 172, 3) := by decide +kernel
theorem dX12_tellLists_45 : decode cX12_tellLists 45 = .ok (.iload_n 3, 1) := by decide +kernel
theorem dX12_tellLists_46 : decode cX12_tellLists 46 = .ok (.iaload, 1) := by decide +kernel
theorem dX12_tellLists_47 : decode cX12_tellLists 47 = .ok (.if_icmp .ge 18, 3) := by decide +kernel
theorem dX12_tellLists_50 : decode cX12_tellLists 50 = .ok (.aload_n 0, 1) := by decide +kernel
theorem dX12_tellLists_51 : decode cX12_tellLists 51 = .ok (.getfield 169, 3) := by decide +kernel
theorem dX12_tellLists_54 : decode cX12_tellLists 54 = .ok (.bipush 48, 2) := by decide +kernel
theorem dX12_tellLists_56 : decode cX12_tellLists 56 = .ok (.iload_n 3, 1) := by decide +kernel
theorem dX12_tellLists_57 : decode cX12_tellLists 57 = .ok (.imul, 1) := by decide +kernel
theorem dX12_tellLists_58 : decode cX12_tellLists 58 = .ok (.iload 4, 2) := by decide +kernel
theorem dX12_tellLists_60 : decode cX12_tellLists 60 = .ok (.iadd, 1) := by decide +kernel
theorem dX12_tellLists_61 : decode cX12_tellLists 61 = .ok (.iaload, 1) := by decide +kernel
theorem dX12_tellLists_62 : decode cX12_tellLists 62 = .ok (.goto 6, 3) := by decide +kernel
theorem dX12_tellLists_65 : decode cX12_tellLists 65 = .ok (.sipush 10000, 3) := by decide +kernel
theorem dX12_tellLists_68 : decode cX12_tellLists 68 = .ok (.istore 6, 2) := by decide +kernel
theorem dX12_tellLists_70 : decode cX12_tellLists 70 = .ok (.iload 5, 2) := by decide +kernel
theorem dX12_tellLists_72 : decode cX12_tellLists 72 = .ok (.aload_n 0, 1) := by decide +kernel
theorem dX12_tellLists_73 : decode cX12_tellLists 73 = .ok (.getfield 362, 3) := by decide +kernel
theorem dX12_tellLists_76 : decode cX12_tellLists 76 = .ok (.if_icmp .ge 13, 3) := by decide +kernel
theorem dX12_tellLists_79 : decode cX12_tellLists 79 = .ok (.aload_n 0, 1) := by decide +kernel
theorem dX12_tellLists_80 : decode cX12_tellLists 80 = .ok (.getfield 175, 3) := by decide +kernel
theorem dX12_tellLists_83 : decode cX12_tellLists 83 = .ok (.iload 5, 2) := by decide +kernel
theorem dX12_tellLists_85 : decode cX12_tellLists 85 = .ok (.iaload, 1) := by decide +kernel
theorem dX12_tellLists_86 : decode cX12_tellLists 86 = .ok (.goto 6, 3) := by decide +kernel
theorem dX12_tellLists_89 : decode cX12_tellLists 89 = .ok (.sipush 10000, 3) := by decide +kernel
theorem dX12_tellLists_92 : decode cX12_tellLists 92 = .ok (.istore 7, 2) := by decide +kernel
theorem dX12_tellLists_94 : decode cX12_tellLists 94 = .ok (.iload 6, 2) := by decide +kernel
theorem dX12_tellLists_96 : decode cX12_tellLists 96 = .ok (.iload 7, 2) := by decide +kernel
theorem dX12_tellLists_98 : decode cX12_tellLists 98 = .ok (.if_icmp .ge 13, 3) := by decide +kernel
theorem dX12_tellLists_101 : decode cX12_tellLists 101 = .ok (.aload_n 0, 1) := by decide +kernel
theorem dX12_tellLists_102 : decode cX12_tellLists 102 = .ok (.iload_n 1, 1) := by decide +kernel
theorem dX12_tellLists_103 : decode cX12_tellLists 103 = .ok (.iload_n 2, 1) := by decide +kernel
theorem dX12_tellLists_104 : decode cX12_tellLists 104 = .ok (.iload_n 3, 1) := by decide +kernel
theorem dX12_tellLists_105 : decode cX12_tellLists 105 = .ok (.iload 6, 2) := by decide +kernel
theorem dX12_tellLists_107 : decode cX12_tellLists 107 = .ok (.iconst 0, 1) := by decide +kernel
theorem dX12_tellLists_108 : decode cX12_tellLists 108 = .ok (.invokevirtual 374, 3) := by decide +kernel
theorem dX12_tellLists_111 : decode cX12_tellLists 111 = .ok (.iload 7, 2) := by decide +kernel
theorem dX12_tellLists_113 : decode cX12_tellLists 113 = .ok (.iload 6, 2) := by decide +kernel
theorem dX12_tellLists_115 : decode cX12_tellLists 115 = .ok (.if_icmp .ge 13, 3) := by decide +kernel
theorem dX12_tellLists_118 : decode cX12_tellLists 118 = .ok (.aload_n 0, 1) := by decide +kernel
theorem dX12_tellLists_119 : decode cX12_tellLists 119 = .ok (.iload_n 1, 1) := by decide +kernel
theorem dX12_tellLists_120 : decode cX12_tellLists 120 = .ok (.iload_n 2, 1) := by decide +kernel
theorem dX12_tellLists_121 : decode cX12_tellLists 121 = .ok (.iload_n 3, 1) := by decide +kernel
theorem dX12_tellLists_122 : decode cX12_tellLists 122 = .ok (.iload 7, 2) := by decide +kernel
theorem dX12_tellLists_124 : decode cX12_tellLists 124 = .ok (.iconst 1, 1) := by decide +kernel
theorem dX12_tellLists_125 : decode cX12_tellLists 125 = .ok (.invokevirtual 374, 3) := by decide +kernel
theorem dX12_tellLists_128 : decode cX12_tellLists 128 = .ok (.iload 4, 2) := by decide +kernel
theorem dX12_tellLists_130 : decode cX12_tellLists 130 = .ok (.iload 6, 2) := by decide +kernel
theorem dX12_tellLists_132 : decode cX12_tellLists 132 = .ok (.iload 7, 2) := by decide +kernel
theorem dX12_tellLists_134 : decode cX12_tellLists 134 = .ok (.if_icmp .gt 7, 3) := by decide +kernel
theorem dX12_tellLists_137 : decode cX12_tellLists 137 = .ok (.iconst 1, 1) := by decide +kernel
theorem dX12_tellLists_138 : decode cX12_tellLists 138 = .ok (.goto 4, 3) := by decide +kernel
theorem dX12_tellLists_141 : decode cX12_tellLists 141 = .ok (.iconst 0, 1) := by decide +kernel
theorem dX12_tellLists_142 : decode cX12_tellLists 142 = .ok (.iadd, 1) := by decide +kernel
theorem dX12_tellLists_143 : decode cX12_tellLists 143 = .ok (.istore 4, 2) := by decide +kernel
theorem dX12_tellLists_145 : decode cX12_tellLists 145 = .ok (.iload 5, 2) := by decide +kernel
theorem dX12_tellLists_147 : decode cX12_tellLists 147 = .ok (.iload 7, 2) := by decide +kernel
theorem dX12_tellLists_149 : decode cX12_tellLists 149 = .ok (.iload 6, 2) := by decide +kernel
theorem dX12_tellLists_151 : decode cX12_tellLists 151 = .ok (.if_icmp .gt 7, 3) := by decide +kernel
theorem dX12_tellLists_154 : decode cX12_tellLists 154 = .ok (.iconst 1, 1) := by decide +kernel
theorem dX12_tellLists_155 : decode cX12_tellLists 155 = .ok (.goto 4, 3) := by decide +kernel
theorem dX12_tellLists_158 : decode cX12_tellLists 158 = .ok (.iconst 0, 1) := by decide +kernel
theorem dX12_tellLists_159 : decode cX12_tellLists 159 = .ok (.iadd, 1) := by decide +kernel
theorem dX12_tellLists_160 : decode cX12_tellLists 160 = .ok (.istore 5, 2) := by decide +kernel
theorem dX12_tellLists_162 : decode cX12_tellLists 162 = .ok (.goto (-143), 3) := by decide +kernel
theorem dX12_tellLists_165 : decode cX12_tellLists 165 = .ok (.iinc 3 1, 3) := by decide +kernel
theorem dX12_tellLists_168 : decode cX12_tellLists 168 = .ok (.goto (-166), 3) := by decide +kernel
theorem dX12_tellLists_171 : decode cX12_tellLists 171 = .ok (.return_, 1) := by decide +kernel
theorem cd_tellLists : Cond.code yX12_tellLists cX12_tellLists 8 none ∈ lw_g := mt_at 2167 (by decide +kernel) rfl
theorem mw_tellLists : mCw 359 yX12_tellLists cX12_tellLists 8 none 2 := ⟨cd_tellLists, mt_at 2164 (by decide +kernel) rfl, in_M, by decide +kernel⟩
theorem im_tellLists : Cond.instanceMethod yX12_tellLists ∈ lw_g := mt_at 2166 (by decide +kernel) rfl
theorem sl_tellLists : Cond.selects RX12 yX12_tellLists yX12_tellLists ∈ lw_g := mt_sel 87 (by decide +kernel) rfl
section
variable {p : Program} {l : Launch} {e : Env} {R : Room} {s : State} {m : MethodId} {args : Array Value} {below : List Frame} {meth : Method} {c : Code} {cM : ClassId} {iS : Nat → Nat} {cI cZ : ClassId} {mo : Nat} {ad : Nat → Nat} {r : Int32} {S9 : mSt}
noncomputable def fm_tellLists_159 (g_2 : mSt → Int32 → Int32 → Int32 → Option (mSt)) (g_19 : mSt → Int32 → Int32 → Int32 → Int32 → Int32 → Option (mSt)) (S : mSt) (v1 : Int32) (v2 : Int32) (v3 : Int32) (v4 : Int32) (s0 : Int32) (s1 : Int32) : Option (mSt) :=
lt (s0 + s1) fun x1 =>
g_19 S v1 v2 v3 v4 x1
set_option maxRecDepth 100000 in
set_option maxHeartbeats 4000000 in
theorem wm_tellLists_159 (C : mY p R s m args meth c cX12_tellLists 8 7 167 none) (X : mX s cM iS cI cZ mo ad) {g_2 : mSt → Int32 → Int32 → Int32 → Option (mSt)} {g_19 : mSt → Int32 → Int32 → Int32 → Int32 → Int32 → Option (mSt)} (hg_2 : ∀ {S : mSt} {v1 : Int32} {v2 : Int32} {v3 : Int32} {H : Heap} {locs : List Loc} {ls : Array Slot}, g_2 S v1 v2 v3 = some S9 → mW cM iS cI cZ mo ad S H → mS (mA mo ad) s.heap H locs → lv_has ls 8 [(0, .ref mo), (1, .int v1), (2, .int v2), (3, .int v3)] → W p l e R s m args below meth c H locs 0 0 (MQ below (mQw none cM iS cI cZ mo ad S9) args s 0 0 (mA mo ad)) (F0 m 2 ls [])) (hg_19 : ∀ {S : mSt} {v1 : Int32} {v2 : Int32} {v3 : Int32} {v4 : Int32} {v5 : Int32} {H : Heap} {locs : List Loc} {ls : Array Slot}, g_19 S v1 v2 v3 v4 v5 = some S9 → mW cM iS cI cZ mo ad S H → mS (mA mo ad) s.heap H locs → lv_has ls 8 [(0, .ref mo), (1, .int v1), (2, .int v2), (3, .int v3), (4, .int v4), (5, .int v5)] → W p l e R s m args below meth c H locs 0 0 (MQ below (mQw none cM iS cI cZ mo ad S9) args s 0 0 (mA mo ad)) (F0 m 19 ls [])) : ∀ {S : mSt} {v1 : Int32} {v2 : Int32} {v3 : Int32} {v4 : Int32} {s0 : Int32} {s1 : Int32} {H : Heap} {locs : List Loc} {ls : Array Slot}, fm_tellLists_159 g_2 g_19 S v1 v2 v3 v4 s0 s1 = some S9 → mW cM iS cI cZ mo ad S H → mS (mA mo ad) s.heap H locs → lv_has ls 8 [(0, .ref mo), (1, .int v1), (2, .int v2), (3, .int v3), (4, .int v4)] → W p l e R s m args below meth c H locs 0 0 (MQ below (mQw none cM iS cI cZ mo ad S9) args s 0 0 (mA mo ad)) (F0 m 159 ls [.int s1, .int s0]) := by
  intro S v1 v2 v3 v4 s0 s1 H locs ls h hW hS hl
  unfold fm_tellLists_159 at h
  refine lv_iadd C.1 C.2.1 dX12_tellLists_159 ?_
  refine lt_ok h (fun x1 e_x1 h => ?_)
  refine lv_nm e_x1 ?_
  refine lv_istore (lv' := [(5, .int x1), (0, .ref mo), (1, .int v1), (2, .int v2), (3, .int v3), (4, .int v4)]) C.1 C.2.1 dX12_tellLists_160 hl (by decide) rfl (fun ls hl => ?_)
  refine lv_goto (tgt := 19) C.1 C.2.1 dX12_tellLists_162 (by decide) ?_
  exact hg_19 h hW hS (lv_sub hl [1, 2, 3, 4, 5, 0] rfl)
noncomputable def fm_tellLists_142 (g_2 : mSt → Int32 → Int32 → Int32 → Option (mSt)) (g_19 : mSt → Int32 → Int32 → Int32 → Int32 → Int32 → Option (mSt)) (S : mSt) (v1 : Int32) (v2 : Int32) (v3 : Int32) (v5 : Int32) (v6 : Int32) (v7 : Int32) (s0 : Int32) (s1 : Int32) : Option (mSt) :=
lt (s0 + s1) fun x1 =>
if v6 < v7 then (
fm_tellLists_159 g_2 g_19 S v1 v2 v3 x1 v5 (0 : Int32))
else (
fm_tellLists_159 g_2 g_19 S v1 v2 v3 x1 v5 (1 : Int32))
set_option maxRecDepth 100000 in
set_option maxHeartbeats 4000000 in
theorem wm_tellLists_142 (C : mY p R s m args meth c cX12_tellLists 8 7 167 none) (X : mX s cM iS cI cZ mo ad) {g_2 : mSt → Int32 → Int32 → Int32 → Option (mSt)} {g_19 : mSt → Int32 → Int32 → Int32 → Int32 → Int32 → Option (mSt)} (hg_2 : ∀ {S : mSt} {v1 : Int32} {v2 : Int32} {v3 : Int32} {H : Heap} {locs : List Loc} {ls : Array Slot}, g_2 S v1 v2 v3 = some S9 → mW cM iS cI cZ mo ad S H → mS (mA mo ad) s.heap H locs → lv_has ls 8 [(0, .ref mo), (1, .int v1), (2, .int v2), (3, .int v3)] → W p l e R s m args below meth c H locs 0 0 (MQ below (mQw none cM iS cI cZ mo ad S9) args s 0 0 (mA mo ad)) (F0 m 2 ls [])) (hg_19 : ∀ {S : mSt} {v1 : Int32} {v2 : Int32} {v3 : Int32} {v4 : Int32} {v5 : Int32} {H : Heap} {locs : List Loc} {ls : Array Slot}, g_19 S v1 v2 v3 v4 v5 = some S9 → mW cM iS cI cZ mo ad S H → mS (mA mo ad) s.heap H locs → lv_has ls 8 [(0, .ref mo), (1, .int v1), (2, .int v2), (3, .int v3), (4, .int v4), (5, .int v5)] → W p l e R s m args below meth c H locs 0 0 (MQ below (mQw none cM iS cI cZ mo ad S9) args s 0 0 (mA mo ad)) (F0 m 19 ls [])) : ∀ {S : mSt} {v1 : Int32} {v2 : Int32} {v3 : Int32} {v5 : Int32} {v6 : Int32} {v7 : Int32} {s0 : Int32} {s1 : Int32} {H : Heap} {locs : List Loc} {ls : Array Slot}, fm_tellLists_142 g_2 g_19 S v1 v2 v3 v5 v6 v7 s0 s1 = some S9 → mW cM iS cI cZ mo ad S H → mS (mA mo ad) s.heap H locs → lv_has ls 8 [(0, .ref mo), (1, .int v1), (2, .int v2), (3, .int v3), (5, .int v5), (6, .int v6), (7, .int v7)] → W p l e R s m args below meth c H locs 0 0 (MQ below (mQw none cM iS cI cZ mo ad S9) args s 0 0 (mA mo ad)) (F0 m 142 ls [.int s1, .int s0]) := by
  intro S v1 v2 v3 v5 v6 v7 s0 s1 H locs ls h hW hS hl
  unfold fm_tellLists_142 at h
  refine lv_iadd C.1 C.2.1 dX12_tellLists_142 ?_
  refine lt_ok h (fun x1 e_x1 h => ?_)
  refine lv_nm e_x1 ?_
  refine lv_istore (lv' := [(4, .int x1), (0, .ref mo), (1, .int v1), (2, .int v2), (3, .int v3), (5, .int v5), (6, .int v6), (7, .int v7)]) C.1 C.2.1 dX12_tellLists_143 hl (by decide) rfl (fun ls hl => ?_)
  refine lv_iload C.1 C.2.1 dX12_tellLists_145 (lv_at hl 5 rfl) ?_
  refine lv_iload C.1 C.2.1 dX12_tellLists_147 (lv_at hl 7 rfl) ?_
  refine lv_iload C.1 C.2.1 dX12_tellLists_149 (lv_at hl 6 rfl) ?_
  refine lv_icmp_gt (tgt := 158) C.1 C.2.1 dX12_tellLists_151 (by decide) (fun c2 => ?_) (fun c2 => ?_)
  · have h := if_t h c2
    refine lv_iconst (v := 0) C.1 C.2.1 dX12_tellLists_158 (by decide) ?_
    exact wm_tellLists_159 C X hg_2 hg_19 h hW hS (lv_sub hl [1, 2, 3, 4, 0] rfl)
  · have h := if_f h c2
    refine lv_iconst (v := 1) C.1 C.2.1 dX12_tellLists_154 (by decide) ?_
    refine lv_goto (tgt := 159) C.1 C.2.1 dX12_tellLists_155 (by decide) ?_
    exact wm_tellLists_159 C X hg_2 hg_19 h hW hS (lv_sub hl [1, 2, 3, 4, 0] rfl)
noncomputable def fm_tellLists_128 (g_2 : mSt → Int32 → Int32 → Int32 → Option (mSt)) (g_19 : mSt → Int32 → Int32 → Int32 → Int32 → Int32 → Option (mSt)) (S : mSt) (v1 : Int32) (v2 : Int32) (v3 : Int32) (v4 : Int32) (v5 : Int32) (v6 : Int32) (v7 : Int32) : Option (mSt) :=
if v7 < v6 then (
fm_tellLists_142 g_2 g_19 S v1 v2 v3 v5 v6 v7 v4 (0 : Int32))
else (
fm_tellLists_142 g_2 g_19 S v1 v2 v3 v5 v6 v7 v4 (1 : Int32))
set_option maxRecDepth 100000 in
set_option maxHeartbeats 4000000 in
theorem wm_tellLists_128 (C : mY p R s m args meth c cX12_tellLists 8 7 167 none) (X : mX s cM iS cI cZ mo ad) {g_2 : mSt → Int32 → Int32 → Int32 → Option (mSt)} {g_19 : mSt → Int32 → Int32 → Int32 → Int32 → Int32 → Option (mSt)} (hg_2 : ∀ {S : mSt} {v1 : Int32} {v2 : Int32} {v3 : Int32} {H : Heap} {locs : List Loc} {ls : Array Slot}, g_2 S v1 v2 v3 = some S9 → mW cM iS cI cZ mo ad S H → mS (mA mo ad) s.heap H locs → lv_has ls 8 [(0, .ref mo), (1, .int v1), (2, .int v2), (3, .int v3)] → W p l e R s m args below meth c H locs 0 0 (MQ below (mQw none cM iS cI cZ mo ad S9) args s 0 0 (mA mo ad)) (F0 m 2 ls [])) (hg_19 : ∀ {S : mSt} {v1 : Int32} {v2 : Int32} {v3 : Int32} {v4 : Int32} {v5 : Int32} {H : Heap} {locs : List Loc} {ls : Array Slot}, g_19 S v1 v2 v3 v4 v5 = some S9 → mW cM iS cI cZ mo ad S H → mS (mA mo ad) s.heap H locs → lv_has ls 8 [(0, .ref mo), (1, .int v1), (2, .int v2), (3, .int v3), (4, .int v4), (5, .int v5)] → W p l e R s m args below meth c H locs 0 0 (MQ below (mQw none cM iS cI cZ mo ad S9) args s 0 0 (mA mo ad)) (F0 m 19 ls [])) : ∀ {S : mSt} {v1 : Int32} {v2 : Int32} {v3 : Int32} {v4 : Int32} {v5 : Int32} {v6 : Int32} {v7 : Int32} {H : Heap} {locs : List Loc} {ls : Array Slot}, fm_tellLists_128 g_2 g_19 S v1 v2 v3 v4 v5 v6 v7 = some S9 → mW cM iS cI cZ mo ad S H → mS (mA mo ad) s.heap H locs → lv_has ls 8 [(0, .ref mo), (1, .int v1), (2, .int v2), (3, .int v3), (4, .int v4), (5, .int v5), (6, .int v6), (7, .int v7)] → W p l e R s m args below meth c H locs 0 0 (MQ below (mQw none cM iS cI cZ mo ad S9) args s 0 0 (mA mo ad)) (F0 m 128 ls []) := by
  intro S v1 v2 v3 v4 v5 v6 v7 H locs ls h hW hS hl
  unfold fm_tellLists_128 at h
  refine lv_iload C.1 C.2.1 dX12_tellLists_128 (lv_at hl 4 rfl) ?_
  refine lv_iload C.1 C.2.1 dX12_tellLists_130 (lv_at hl 6 rfl) ?_
  refine lv_iload C.1 C.2.1 dX12_tellLists_132 (lv_at hl 7 rfl) ?_
  refine lv_icmp_gt (tgt := 141) C.1 C.2.1 dX12_tellLists_134 (by decide) (fun c1 => ?_) (fun c1 => ?_)
  · have h := if_t h c1
    refine lv_iconst (v := 0) C.1 C.2.1 dX12_tellLists_141 (by decide) ?_
    exact wm_tellLists_142 C X hg_2 hg_19 h hW hS (lv_sub hl [0, 1, 2, 3, 5, 6, 7] rfl)
  · have h := if_f h c1
    refine lv_iconst (v := 1) C.1 C.2.1 dX12_tellLists_137 (by decide) ?_
    refine lv_goto (tgt := 142) C.1 C.2.1 dX12_tellLists_138 (by decide) ?_
    exact wm_tellLists_142 C X hg_2 hg_19 h hW hS (lv_sub hl [0, 1, 2, 3, 5, 6, 7] rfl)
noncomputable def fm_tellLists_111 (g_2 : mSt → Int32 → Int32 → Int32 → Option (mSt)) (g_19 : mSt → Int32 → Int32 → Int32 → Int32 → Int32 → Option (mSt)) (S : mSt) (v1 : Int32) (v2 : Int32) (v3 : Int32) (v4 : Int32) (v5 : Int32) (v6 : Int32) (v7 : Int32) : Option (mSt) :=
if v6 ≤ v7 then (
fm_tellLists_128 g_2 g_19 S v1 v2 v3 v4 v5 v6 v7)
else (
bd (fm_turn S v1 v2 v3 v7 (1 : Int32)) fun S2 =>
fm_tellLists_128 g_2 g_19 S2 v1 v2 v3 v4 v5 v6 v7)
set_option maxRecDepth 100000 in
set_option maxHeartbeats 4000000 in
theorem wm_tellLists_111 (C : mY p R s m args meth c cX12_tellLists 8 7 167 none) (X : mX s cM iS cI cZ mo ad) {g_2 : mSt → Int32 → Int32 → Int32 → Option (mSt)} {g_19 : mSt → Int32 → Int32 → Int32 → Int32 → Int32 → Option (mSt)} (hg_2 : ∀ {S : mSt} {v1 : Int32} {v2 : Int32} {v3 : Int32} {H : Heap} {locs : List Loc} {ls : Array Slot}, g_2 S v1 v2 v3 = some S9 → mW cM iS cI cZ mo ad S H → mS (mA mo ad) s.heap H locs → lv_has ls 8 [(0, .ref mo), (1, .int v1), (2, .int v2), (3, .int v3)] → W p l e R s m args below meth c H locs 0 0 (MQ below (mQw none cM iS cI cZ mo ad S9) args s 0 0 (mA mo ad)) (F0 m 2 ls [])) (hg_19 : ∀ {S : mSt} {v1 : Int32} {v2 : Int32} {v3 : Int32} {v4 : Int32} {v5 : Int32} {H : Heap} {locs : List Loc} {ls : Array Slot}, g_19 S v1 v2 v3 v4 v5 = some S9 → mW cM iS cI cZ mo ad S H → mS (mA mo ad) s.heap H locs → lv_has ls 8 [(0, .ref mo), (1, .int v1), (2, .int v2), (3, .int v3), (4, .int v4), (5, .int v5)] → W p l e R s m args below meth c H locs 0 0 (MQ below (mQw none cM iS cI cZ mo ad S9) args s 0 0 (mA mo ad)) (F0 m 19 ls [])) : ∀ {S : mSt} {v1 : Int32} {v2 : Int32} {v3 : Int32} {v4 : Int32} {v5 : Int32} {v6 : Int32} {v7 : Int32} {H : Heap} {locs : List Loc} {ls : Array Slot}, fm_tellLists_111 g_2 g_19 S v1 v2 v3 v4 v5 v6 v7 = some S9 → mW cM iS cI cZ mo ad S H → mS (mA mo ad) s.heap H locs → lv_has ls 8 [(0, .ref mo), (1, .int v1), (2, .int v2), (3, .int v3), (4, .int v4), (5, .int v5), (6, .int v6), (7, .int v7)] → W p l e R s m args below meth c H locs 0 0 (MQ below (mQw none cM iS cI cZ mo ad S9) args s 0 0 (mA mo ad)) (F0 m 111 ls []) := by
  intro S v1 v2 v3 v4 v5 v6 v7 H locs ls h hW hS hl
  unfold fm_tellLists_111 at h
  refine lv_iload C.1 C.2.1 dX12_tellLists_111 (lv_at hl 7 rfl) ?_
  refine lv_iload C.1 C.2.1 dX12_tellLists_113 (lv_at hl 6 rfl) ?_
  refine lv_icmp_ge (tgt := 128) C.1 C.2.1 dX12_tellLists_115 (by decide) (fun c1 => ?_) (fun c1 => ?_)
  · have h := if_t h c1
    exact wm_tellLists_128 C X hg_2 hg_19 h hW hS (lv_sub hl [0, 1, 2, 3, 4, 5, 6, 7] rfl)
  · have h := if_f h c1
    refine lv_aload_n C.1 C.2.1 dX12_tellLists_118 rfl (lv_at hl 0 rfl) ?_
    refine lv_iload_n C.1 C.2.1 dX12_tellLists_119 rfl (lv_at hl 1 rfl) ?_
    refine lv_iload_n C.1 C.2.1 dX12_tellLists_120 rfl (lv_at hl 2 rfl) ?_
    refine lv_iload_n C.1 C.2.1 dX12_tellLists_121 rfl (lv_at hl 3 rfl) ?_
    refine lv_iload C.1 C.2.1 dX12_tellLists_122 (lv_at hl 7 rfl) ?_
    refine lv_iconst (v := 1) C.1 C.2.1 dX12_tellLists_124 (by decide) ?_
    obtain ⟨S2, h_S2, h⟩ := bd_ok h
    refine m_callW (rest := []) (ov := none) C X hW hS hl.1 [.int v1, .int v2, .int v3, .int v7, .int (1 : Int32)] (tm_turn l h_S2) mw_turn im_turn sl_turn rfl ⟨by decide, by decide⟩ rfl (Nat.le_of_ble_eq_true rfl) dX12_tellLists_125 (fun H locs hW hS => ?_)
    refine W.eq (g2 := F0 m 128 ls []) rfl ?_
    exact wm_tellLists_128 C X hg_2 hg_19 h hW hS (lv_sub hl [0, 1, 2, 3, 4, 5, 6, 7] rfl)
noncomputable def fm_tellLists_92 (g_2 : mSt → Int32 → Int32 → Int32 → Option (mSt)) (g_19 : mSt → Int32 → Int32 → Int32 → Int32 → Int32 → Option (mSt)) (S : mSt) (v1 : Int32) (v2 : Int32) (v3 : Int32) (v4 : Int32) (v5 : Int32) (v6 : Int32) (s0 : Int32) : Option (mSt) :=
if s0 ≤ v6 then (
fm_tellLists_111 g_2 g_19 S v1 v2 v3 v4 v5 v6 s0)
else (
bd (fm_turn S v1 v2 v3 v6 (0 : Int32)) fun S2 =>
fm_tellLists_111 g_2 g_19 S2 v1 v2 v3 v4 v5 v6 s0)
set_option maxRecDepth 100000 in
set_option maxHeartbeats 4000000 in
theorem wm_tellLists_92 (C : mY p R s m args meth c cX12_tellLists 8 7 167 none) (X : mX s cM iS cI cZ mo ad) {g_2 : mSt → Int32 → Int32 → Int32 → Option (mSt)} {g_19 : mSt → Int32 → Int32 → Int32 → Int32 → Int32 → Option (mSt)} (hg_2 : ∀ {S : mSt} {v1 : Int32} {v2 : Int32} {v3 : Int32} {H : Heap} {locs : List Loc} {ls : Array Slot}, g_2 S v1 v2 v3 = some S9 → mW cM iS cI cZ mo ad S H → mS (mA mo ad) s.heap H locs → lv_has ls 8 [(0, .ref mo), (1, .int v1), (2, .int v2), (3, .int v3)] → W p l e R s m args below meth c H locs 0 0 (MQ below (mQw none cM iS cI cZ mo ad S9) args s 0 0 (mA mo ad)) (F0 m 2 ls [])) (hg_19 : ∀ {S : mSt} {v1 : Int32} {v2 : Int32} {v3 : Int32} {v4 : Int32} {v5 : Int32} {H : Heap} {locs : List Loc} {ls : Array Slot}, g_19 S v1 v2 v3 v4 v5 = some S9 → mW cM iS cI cZ mo ad S H → mS (mA mo ad) s.heap H locs → lv_has ls 8 [(0, .ref mo), (1, .int v1), (2, .int v2), (3, .int v3), (4, .int v4), (5, .int v5)] → W p l e R s m args below meth c H locs 0 0 (MQ below (mQw none cM iS cI cZ mo ad S9) args s 0 0 (mA mo ad)) (F0 m 19 ls [])) : ∀ {S : mSt} {v1 : Int32} {v2 : Int32} {v3 : Int32} {v4 : Int32} {v5 : Int32} {v6 : Int32} {s0 : Int32} {H : Heap} {locs : List Loc} {ls : Array Slot}, fm_tellLists_92 g_2 g_19 S v1 v2 v3 v4 v5 v6 s0 = some S9 → mW cM iS cI cZ mo ad S H → mS (mA mo ad) s.heap H locs → lv_has ls 8 [(0, .ref mo), (1, .int v1), (2, .int v2), (3, .int v3), (4, .int v4), (5, .int v5), (6, .int v6)] → W p l e R s m args below meth c H locs 0 0 (MQ below (mQw none cM iS cI cZ mo ad S9) args s 0 0 (mA mo ad)) (F0 m 92 ls [.int s0]) := by
  intro S v1 v2 v3 v4 v5 v6 s0 H locs ls h hW hS hl
  unfold fm_tellLists_92 at h
  refine lv_istore (lv' := [(7, .int s0), (0, .ref mo), (1, .int v1), (2, .int v2), (3, .int v3), (4, .int v4), (5, .int v5), (6, .int v6)]) C.1 C.2.1 dX12_tellLists_92 hl (by decide) rfl (fun ls hl => ?_)
  refine lv_iload C.1 C.2.1 dX12_tellLists_94 (lv_at hl 7 rfl) ?_
  refine lv_iload C.1 C.2.1 dX12_tellLists_96 (lv_at hl 0 rfl) ?_
  refine lv_icmp_ge (tgt := 111) C.1 C.2.1 dX12_tellLists_98 (by decide) (fun c1 => ?_) (fun c1 => ?_)
  · have h := if_t h c1
    exact wm_tellLists_111 C X hg_2 hg_19 h hW hS (lv_sub hl [1, 2, 3, 4, 5, 6, 7, 0] rfl)
  · have h := if_f h c1
    refine lv_aload_n C.1 C.2.1 dX12_tellLists_101 rfl (lv_at hl 1 rfl) ?_
    refine lv_iload_n C.1 C.2.1 dX12_tellLists_102 rfl (lv_at hl 2 rfl) ?_
    refine lv_iload_n C.1 C.2.1 dX12_tellLists_103 rfl (lv_at hl 3 rfl) ?_
    refine lv_iload_n C.1 C.2.1 dX12_tellLists_104 rfl (lv_at hl 4 rfl) ?_
    refine lv_iload C.1 C.2.1 dX12_tellLists_105 (lv_at hl 7 rfl) ?_
    refine lv_iconst (v := 0) C.1 C.2.1 dX12_tellLists_107 (by decide) ?_
    obtain ⟨S2, h_S2, h⟩ := bd_ok h
    refine m_callW (rest := []) (ov := none) C X hW hS hl.1 [.int v1, .int v2, .int v3, .int v6, .int (0 : Int32)] (tm_turn l h_S2) mw_turn im_turn sl_turn rfl ⟨by decide, by decide⟩ rfl (Nat.le_of_ble_eq_true rfl) dX12_tellLists_108 (fun H locs hW hS => ?_)
    refine W.eq (g2 := F0 m 111 ls []) rfl ?_
    exact wm_tellLists_111 C X hg_2 hg_19 h hW hS (lv_sub hl [1, 2, 3, 4, 5, 6, 7, 0] rfl)
noncomputable def fm_tellLists_68 (g_2 : mSt → Int32 → Int32 → Int32 → Option (mSt)) (g_19 : mSt → Int32 → Int32 → Int32 → Int32 → Int32 → Option (mSt)) (S : mSt) (v1 : Int32) (v2 : Int32) (v3 : Int32) (v4 : Int32) (v5 : Int32) (s0 : Int32) : Option (mSt) :=
if (S.1 67) ≤ v5 then (
fm_tellLists_92 g_2 g_19 S v1 v2 v3 v4 v5 s0 (10000 : Int32))
else (
ck v5 48 (
fm_tellLists_92 g_2 g_19 S v1 v2 v3 v4 v5 s0 (rd S 68 v5)))
set_option maxRecDepth 100000 in
set_option maxHeartbeats 4000000 in
theorem wm_tellLists_68 (C : mY p R s m args meth c cX12_tellLists 8 7 167 none) (X : mX s cM iS cI cZ mo ad) {g_2 : mSt → Int32 → Int32 → Int32 → Option (mSt)} {g_19 : mSt → Int32 → Int32 → Int32 → Int32 → Int32 → Option (mSt)} (hg_2 : ∀ {S : mSt} {v1 : Int32} {v2 : Int32} {v3 : Int32} {H : Heap} {locs : List Loc} {ls : Array Slot}, g_2 S v1 v2 v3 = some S9 → mW cM iS cI cZ mo ad S H → mS (mA mo ad) s.heap H locs → lv_has ls 8 [(0, .ref mo), (1, .int v1), (2, .int v2), (3, .int v3)] → W p l e R s m args below meth c H locs 0 0 (MQ below (mQw none cM iS cI cZ mo ad S9) args s 0 0 (mA mo ad)) (F0 m 2 ls [])) (hg_19 : ∀ {S : mSt} {v1 : Int32} {v2 : Int32} {v3 : Int32} {v4 : Int32} {v5 : Int32} {H : Heap} {locs : List Loc} {ls : Array Slot}, g_19 S v1 v2 v3 v4 v5 = some S9 → mW cM iS cI cZ mo ad S H → mS (mA mo ad) s.heap H locs → lv_has ls 8 [(0, .ref mo), (1, .int v1), (2, .int v2), (3, .int v3), (4, .int v4), (5, .int v5)] → W p l e R s m args below meth c H locs 0 0 (MQ below (mQw none cM iS cI cZ mo ad S9) args s 0 0 (mA mo ad)) (F0 m 19 ls [])) : ∀ {S : mSt} {v1 : Int32} {v2 : Int32} {v3 : Int32} {v4 : Int32} {v5 : Int32} {s0 : Int32} {H : Heap} {locs : List Loc} {ls : Array Slot}, fm_tellLists_68 g_2 g_19 S v1 v2 v3 v4 v5 s0 = some S9 → mW cM iS cI cZ mo ad S H → mS (mA mo ad) s.heap H locs → lv_has ls 8 [(0, .ref mo), (1, .int v1), (2, .int v2), (3, .int v3), (4, .int v4), (5, .int v5)] → W p l e R s m args below meth c H locs 0 0 (MQ below (mQw none cM iS cI cZ mo ad S9) args s 0 0 (mA mo ad)) (F0 m 68 ls [.int s0]) := by
  intro S v1 v2 v3 v4 v5 s0 H locs ls h hW hS hl
  unfold fm_tellLists_68 at h
  refine lv_istore (lv' := [(6, .int s0), (0, .ref mo), (1, .int v1), (2, .int v2), (3, .int v3), (4, .int v4), (5, .int v5)]) C.1 C.2.1 dX12_tellLists_68 hl (by decide) rfl (fun ls hl => ?_)
  refine lv_iload C.1 C.2.1 dX12_tellLists_70 (lv_at hl 6 rfl) ?_
  refine lv_aload_n C.1 C.2.1 dX12_tellLists_72 rfl (lv_at hl 1 rfl) ?_
  refine gf_67 C X hW dX12_tellLists_73 ?_
  refine lv_icmp_ge (tgt := 89) C.1 C.2.1 dX12_tellLists_76 (by decide) (fun c1 => ?_) (fun c1 => ?_)
  · have h := if_t h c1
    refine lv_sipush (v := 10000) C.1 C.2.1 dX12_tellLists_89 (by decide) ?_
    exact wm_tellLists_92 C X hg_2 hg_19 h hW hS (lv_sub hl [1, 2, 3, 4, 5, 6, 0] rfl)
  · have h := if_f h c1
    refine lv_aload_n C.1 C.2.1 dX12_tellLists_79 rfl (lv_at hl 1 rfl) ?_
    refine gf_68 C X hW dX12_tellLists_80 ?_
    refine lv_iload C.1 C.2.1 dX12_tellLists_83 (lv_at hl 6 rfl) ?_
    obtain ⟨hin, h⟩ := ck_ok h
    refine l_68 C X hW hin dX12_tellLists_85 ?_
    refine lv_goto (tgt := 92) C.1 C.2.1 dX12_tellLists_86 (by decide) ?_
    exact wm_tellLists_92 C X hg_2 hg_19 h hW hS (lv_sub hl [1, 2, 3, 4, 5, 6, 0] rfl)
noncomputable def fm_tellLists_39 (g_2 : mSt → Int32 → Int32 → Int32 → Option (mSt)) (g_19 : mSt → Int32 → Int32 → Int32 → Int32 → Int32 → Option (mSt)) (S : mSt) (v1 : Int32) (v2 : Int32) (v3 : Int32) (v4 : Int32) (v5 : Int32) : Option (mSt) :=
ck v3 4 (
if (rd S 66 v3) ≤ v4 then (
fm_tellLists_68 g_2 g_19 S v1 v2 v3 v4 v5 (10000 : Int32))
else (
ck (((48 : Int32) * v3) + v4) 192 (
fm_tellLists_68 g_2 g_19 S v1 v2 v3 v4 v5 (rd S 65 (((48 : Int32) * v3) + v4)))))
set_option maxRecDepth 100000 in
set_option maxHeartbeats 4000000 in
theorem wm_tellLists_39 (C : mY p R s m args meth c cX12_tellLists 8 7 167 none) (X : mX s cM iS cI cZ mo ad) {g_2 : mSt → Int32 → Int32 → Int32 → Option (mSt)} {g_19 : mSt → Int32 → Int32 → Int32 → Int32 → Int32 → Option (mSt)} (hg_2 : ∀ {S : mSt} {v1 : Int32} {v2 : Int32} {v3 : Int32} {H : Heap} {locs : List Loc} {ls : Array Slot}, g_2 S v1 v2 v3 = some S9 → mW cM iS cI cZ mo ad S H → mS (mA mo ad) s.heap H locs → lv_has ls 8 [(0, .ref mo), (1, .int v1), (2, .int v2), (3, .int v3)] → W p l e R s m args below meth c H locs 0 0 (MQ below (mQw none cM iS cI cZ mo ad S9) args s 0 0 (mA mo ad)) (F0 m 2 ls [])) (hg_19 : ∀ {S : mSt} {v1 : Int32} {v2 : Int32} {v3 : Int32} {v4 : Int32} {v5 : Int32} {H : Heap} {locs : List Loc} {ls : Array Slot}, g_19 S v1 v2 v3 v4 v5 = some S9 → mW cM iS cI cZ mo ad S H → mS (mA mo ad) s.heap H locs → lv_has ls 8 [(0, .ref mo), (1, .int v1), (2, .int v2), (3, .int v3), (4, .int v4), (5, .int v5)] → W p l e R s m args below meth c H locs 0 0 (MQ below (mQw none cM iS cI cZ mo ad S9) args s 0 0 (mA mo ad)) (F0 m 19 ls [])) : ∀ {S : mSt} {v1 : Int32} {v2 : Int32} {v3 : Int32} {v4 : Int32} {v5 : Int32} {H : Heap} {locs : List Loc} {ls : Array Slot}, fm_tellLists_39 g_2 g_19 S v1 v2 v3 v4 v5 = some S9 → mW cM iS cI cZ mo ad S H → mS (mA mo ad) s.heap H locs → lv_has ls 8 [(0, .ref mo), (1, .int v1), (2, .int v2), (3, .int v3), (4, .int v4), (5, .int v5)] → W p l e R s m args below meth c H locs 0 0 (MQ below (mQw none cM iS cI cZ mo ad S9) args s 0 0 (mA mo ad)) (F0 m 39 ls []) := by
  intro S v1 v2 v3 v4 v5 H locs ls h hW hS hl
  unfold fm_tellLists_39 at h
  refine lv_iload C.1 C.2.1 dX12_tellLists_39 (lv_at hl 4 rfl) ?_
  refine lv_aload_n C.1 C.2.1 dX12_tellLists_41 rfl (lv_at hl 0 rfl) ?_
  refine gf_66 C X hW dX12_tellLists_42 ?_
  refine lv_iload_n C.1 C.2.1 dX12_tellLists_45 rfl (lv_at hl 3 rfl) ?_
  obtain ⟨hin, h⟩ := ck_ok h
  refine l_66 C X hW hin dX12_tellLists_46 ?_
  refine lv_icmp_ge (tgt := 65) C.1 C.2.1 dX12_tellLists_47 (by decide) (fun c1 => ?_) (fun c1 => ?_)
  · have h := if_t h c1
    refine lv_sipush (v := 10000) C.1 C.2.1 dX12_tellLists_65 (by decide) ?_
    exact wm_tellLists_68 C X hg_2 hg_19 h hW hS (lv_sub hl [0, 1, 2, 3, 4, 5] rfl)
  · have h := if_f h c1
    refine lv_aload_n C.1 C.2.1 dX12_tellLists_50 rfl (lv_at hl 0 rfl) ?_
    refine gf_65 C X hW dX12_tellLists_51 ?_
    refine lv_bipush (v := 48) C.1 C.2.1 dX12_tellLists_54 (by decide) ?_
    refine lv_iload_n C.1 C.2.1 dX12_tellLists_56 rfl (lv_at hl 3 rfl) ?_
    refine lv_imul C.1 C.2.1 dX12_tellLists_57 ?_
    refine lv_iload C.1 C.2.1 dX12_tellLists_58 (lv_at hl 4 rfl) ?_
    refine lv_iadd C.1 C.2.1 dX12_tellLists_60 ?_
    obtain ⟨hin, h⟩ := ck_ok h
    refine l_65 C X hW hin dX12_tellLists_61 ?_
    refine lv_goto (tgt := 68) C.1 C.2.1 dX12_tellLists_62 (by decide) ?_
    exact wm_tellLists_68 C X hg_2 hg_19 h hW hS (lv_sub hl [0, 1, 2, 3, 4, 5] rfl)
noncomputable def fm_tellLists_19 (g_2 : mSt → Int32 → Int32 → Int32 → Option (mSt)) : Nat → mSt → Int32 → Int32 → Int32 → Int32 → Int32 → Option (mSt)
  | 0, _, _, _, _, _, _ => none
  | n + 1, S, v1, v2, v3, v4, v5 =>
    ck v3 4 (
    if v4 < (rd S 66 v3) then (
    fm_tellLists_39 g_2 (fm_tellLists_19 g_2 n) S v1 v2 v3 v4 v5)
    else (
    if (S.1 67) ≤ v5 then (
    lt (v3 + (1 : Int32)) fun x3 =>
    g_2 S v1 v2 x3)
    else (
    fm_tellLists_39 g_2 (fm_tellLists_19 g_2 n) S v1 v2 v3 v4 v5)))
set_option maxRecDepth 100000 in
set_option maxHeartbeats 4000000 in
theorem wm_tellLists_19 (C : mY p R s m args meth c cX12_tellLists 8 7 167 none) (X : mX s cM iS cI cZ mo ad) {g_2 : mSt → Int32 → Int32 → Int32 → Option (mSt)} (hg_2 : ∀ {S : mSt} {v1 : Int32} {v2 : Int32} {v3 : Int32} {H : Heap} {locs : List Loc} {ls : Array Slot}, g_2 S v1 v2 v3 = some S9 → mW cM iS cI cZ mo ad S H → mS (mA mo ad) s.heap H locs → lv_has ls 8 [(0, .ref mo), (1, .int v1), (2, .int v2), (3, .int v3)] → W p l e R s m args below meth c H locs 0 0 (MQ below (mQw none cM iS cI cZ mo ad S9) args s 0 0 (mA mo ad)) (F0 m 2 ls [])) : ∀ (n : Nat), ∀ {S : mSt} {v1 : Int32} {v2 : Int32} {v3 : Int32} {v4 : Int32} {v5 : Int32} {H : Heap} {locs : List Loc} {ls : Array Slot}, fm_tellLists_19 g_2 n S v1 v2 v3 v4 v5 = some S9 → mW cM iS cI cZ mo ad S H → mS (mA mo ad) s.heap H locs → lv_has ls 8 [(0, .ref mo), (1, .int v1), (2, .int v2), (3, .int v3), (4, .int v4), (5, .int v5)] → W p l e R s m args below meth c H locs 0 0 (MQ below (mQw none cM iS cI cZ mo ad S9) args s 0 0 (mA mo ad)) (F0 m 19 ls []) := by
  intro n
  induction n with
  | zero =>
    intro S v1 v2 v3 v4 v5 H locs ls h hW hS hl
    exact absurd (show (none : Option (mSt)) = _ from h) (fun q => by cases q)
  | succ n ih =>
    intro S v1 v2 v3 v4 v5 H locs ls h hW hS hl
    rw [fm_tellLists_19] at h
    refine lv_iload C.1 C.2.1 dX12_tellLists_19 (lv_at hl 4 rfl) ?_
    refine lv_aload_n C.1 C.2.1 dX12_tellLists_21 rfl (lv_at hl 0 rfl) ?_
    refine gf_66 C X hW dX12_tellLists_22 ?_
    refine lv_iload_n C.1 C.2.1 dX12_tellLists_25 rfl (lv_at hl 3 rfl) ?_
    obtain ⟨hin, h⟩ := ck_ok h
    refine l_66 C X hW hin dX12_tellLists_26 ?_
    refine lv_icmp_lt (tgt := 39) C.1 C.2.1 dX12_tellLists_27 (by decide) (fun c1 => ?_) (fun c1 => ?_)
    · have h := if_t h c1
      exact wm_tellLists_39 C X hg_2 ih h hW hS (lv_sub hl [0, 1, 2, 3, 4, 5] rfl)
    · have h := if_f h c1
      refine lv_iload C.1 C.2.1 dX12_tellLists_30 (lv_at hl 5 rfl) ?_
      refine lv_aload_n C.1 C.2.1 dX12_tellLists_32 rfl (lv_at hl 0 rfl) ?_
      refine gf_67 C X hW dX12_tellLists_33 ?_
      refine lv_icmp_ge (tgt := 165) C.1 C.2.1 dX12_tellLists_36 (by decide) (fun c2 => ?_) (fun c2 => ?_)
      · have h := if_t h c2
        refine lt_ok h (fun x3 e_x3 h => ?_)
        refine lv_iinc (v := x3) (lv' := [(3, .int x3), (0, .ref mo), (1, .int v1), (2, .int v2), (4, .int v4), (5, .int v5)]) C.1 C.2.1 dX12_tellLists_165 hl (k := 3) rfl (by rw [← e_x3]; rfl) (by decide) rfl (fun ls hl => ?_)
        refine lv_goto (tgt := 2) C.1 C.2.1 dX12_tellLists_168 (by decide) ?_
        exact hg_2 h hW hS (lv_sub hl [1, 2, 3, 0] rfl)
      · have h := if_f h c2
        exact wm_tellLists_39 C X hg_2 ih h hW hS (lv_sub hl [0, 1, 2, 3, 4, 5] rfl)
noncomputable def fm_tellLists_2 : Nat → mSt → Int32 → Int32 → Int32 → Option (mSt)
  | 0, _, _, _, _ => none
  | n + 1, S, v1, v2, v3 =>
    if (4 : Int32) ≤ v3 then (
    some S)
    else (
    bd (fm_findList S v1 v3) fun S2 =>
    fm_tellLists_19 (fm_tellLists_2 n) mFU S2 v1 v2 v3 (0 : Int32) (0 : Int32))
set_option maxRecDepth 100000 in
set_option maxHeartbeats 4000000 in
theorem wm_tellLists_2 (C : mY p R s m args meth c cX12_tellLists 8 7 167 none) (X : mX s cM iS cI cZ mo ad) : ∀ (n : Nat), ∀ {S : mSt} {v1 : Int32} {v2 : Int32} {v3 : Int32} {H : Heap} {locs : List Loc} {ls : Array Slot}, fm_tellLists_2 n S v1 v2 v3 = some S9 → mW cM iS cI cZ mo ad S H → mS (mA mo ad) s.heap H locs → lv_has ls 8 [(0, .ref mo), (1, .int v1), (2, .int v2), (3, .int v3)] → W p l e R s m args below meth c H locs 0 0 (MQ below (mQw none cM iS cI cZ mo ad S9) args s 0 0 (mA mo ad)) (F0 m 2 ls []) := by
  intro n
  induction n with
  | zero =>
    intro S v1 v2 v3 H locs ls h hW hS hl
    exact absurd (show (none : Option (mSt)) = _ from h) (fun q => by cases q)
  | succ n ih =>
    intro S v1 v2 v3 H locs ls h hW hS hl
    rw [fm_tellLists_2] at h
    refine lv_iload_n C.1 C.2.1 dX12_tellLists_2 rfl (lv_at hl 3 rfl) ?_
    refine lv_iconst (v := 4) C.1 C.2.1 dX12_tellLists_3 (by decide) ?_
    refine lv_icmp_ge (tgt := 171) C.1 C.2.1 dX12_tellLists_4 (by decide) (fun c1 => ?_) (fun c1 => ?_)
    · have h := if_t h c1
      cases h
      exact m_retvW C hW hS dX12_tellLists_171
    · have h := if_f h c1
      refine lv_aload_n C.1 C.2.1 dX12_tellLists_7 rfl (lv_at hl 0 rfl) ?_
      refine lv_iload_n C.1 C.2.1 dX12_tellLists_8 rfl (lv_at hl 1 rfl) ?_
      refine lv_iload_n C.1 C.2.1 dX12_tellLists_9 rfl (lv_at hl 3 rfl) ?_
      obtain ⟨S2, h_S2, h⟩ := bd_ok h
      refine m_callW (rest := []) (ov := none) C X hW hS hl.1 [.int v1, .int v3] (tm_findList l h_S2) mw_findList im_findList sl_findList rfl ⟨by decide, by decide⟩ rfl (Nat.le_of_ble_eq_true rfl) dX12_tellLists_10 (fun H locs hW hS => ?_)
      refine W.eq (g2 := F0 m 13 ls []) rfl ?_
      refine lv_iconst (v := 0) C.1 C.2.1 dX12_tellLists_13 (by decide) ?_
      refine lv_istore (lv' := [(4, .int (0 : Int32)), (0, .ref mo), (1, .int v1), (2, .int v2), (3, .int v3)]) C.1 C.2.1 dX12_tellLists_14 hl (by decide) rfl (fun ls hl => ?_)
      refine lv_iconst (v := 0) C.1 C.2.1 dX12_tellLists_16 (by decide) ?_
      refine lv_istore (lv' := [(5, .int (0 : Int32)), (4, .int (0 : Int32)), (0, .ref mo), (1, .int v1), (2, .int v2), (3, .int v3)]) C.1 C.2.1 dX12_tellLists_17 hl (by decide) rfl (fun ls hl => ?_)
      exact wm_tellLists_19 C X ih mFU h hW hS (lv_sub hl [2, 3, 4, 5, 1, 0] rfl)
noncomputable def fm_tellLists (S : mSt) (v1 : Int32) (v2 : Int32) : Option (mSt) :=
fm_tellLists_2 mFU S v1 v2 (0 : Int32)
set_option maxRecDepth 100000 in
set_option maxHeartbeats 4000000 in
theorem tm_tellLists (l : Launch) {cM : ClassId} {iS : Nat → Nat} {cI cZ : ClassId} {mo : Nat} {ad : Nat → Nat} {S : mSt} {v1 : Int32} {v2 : Int32} {S9 : mSt} (h : fm_tellLists S v1 v2 = some S9) : Met l yX12_tellLists (Cond.code yX12_tellLists cX12_tellLists 8 none :: lw_g) { frames := 7, cells := 0, slots := 0, locals := 167 } (mPi [.int v1, .int v2] cM iS cI cZ mo ad S) (mQw none cM iS cI cZ mo ad S9) 0 0 (mA mo ad) := by
  refine Met.ofW (cc := cX12_tellLists) (maxL := 8) (ret := none) (by decide) rfl ?_
  intro p e s m args below meth c s₁ B hml hv
  obtain ⟨rfl, hW, X⟩ := hv
  have C : mY p (headSpec (Cond.code yX12_tellLists cX12_tellLists 8 none :: lw_g) { frames := 7, cells := 0, slots := 0, locals := 167 }).room s m _ meth c cX12_tellLists 8 7 167 none := ⟨B.exec, B.bytes, hml, findClass_of_methodNamed B.named, fun w hw => atoms_spec (ws := Cond.code yX12_tellLists cX12_tellLists 8 none :: lw_g) B.pre w (List.mem_cons_of_mem _ hw), ⟨Nat.le_refl _, Nat.le_refl _⟩, B.returns, B.notSynchronized⟩
  have hl := lv_entry ([.ref mo, .int v1, .int v2]) (n := 8) (Nat.le_of_ble_eq_true rfl)
  rw [lg_entry_eq]
  generalize (lg_sl ([.ref mo, .int v1, .int v2]) ++ List.replicate (8 - (lg_sl ([.ref mo, .int v1, .int v2])).length) Slot.unset).toArray = ls at hl ⊢
  have hl : lv_has ls 8 [(0, .ref mo), (1, .int v1), (2, .int v2)] := hl
  have hS : mS (mA mo ad) s.heap s.heap [] := mS.rf
  unfold fm_tellLists at h
  refine lv_iconst (v := 0) C.1 C.2.1 dX12_tellLists_0 (by decide) ?_
  refine lv_istore_n (lv' := [(3, .int (0 : Int32)), (0, .ref mo), (1, .int v1), (2, .int v2)]) C.1 C.2.1 dX12_tellLists_1 rfl hl (by decide) rfl (fun ls hl => ?_)
  exact wm_tellLists_2 C X mFU h hW hS (lv_sub hl [1, 2, 3, 0] rfl)
end
