-- made by wip/whole/walk.py: the reference's list, count, ranked, past, was
theorem lt2_ok {α β γ : Type} {a : α} {b : β} {K : α → β → Option γ} {r : γ} (h : lt (a, b).1 (fun x => lt (a, b).2 (fun y => K x y)) = some r) : K a b = some r := h
theorem dX12_list_0 : decode cX12_list 0 = .ok (.aload_n 0, 1) := by decide +kernel
theorem dX12_list_1 : decode cX12_list 1 = .ok (.iconst 0, 1) := by decide +kernel
theorem dX12_list_2 : decode cX12_list 2 = .ok (.putfield 200, 3) := by decide +kernel
theorem dX12_list_5 : decode cX12_list 5 = .ok (.iload_n 1, 1) := by decide +kernel
theorem dX12_list_6 : decode cX12_list 6 = .ok (.iconst 0, 1) := by decide +kernel
theorem dX12_list_7 : decode cX12_list 7 = .ok (.iconst 3, 1) := by decide +kernel
theorem dX12_list_8 : decode cX12_list 8 = .ok (.invokestatic 215, 3) := by decide +kernel
theorem dX12_list_11 : decode cX12_list 11 = .ok (.ifCond .eq 7, 3) := by decide +kernel
theorem dX12_list_14 : decode cX12_list 14 = .ok (.iload_n 2, 1) := by decide +kernel
theorem dX12_list_15 : decode cX12_list 15 = .ok (.ifCond .ge 5, 3) := by decide +kernel
theorem dX12_list_18 : decode cX12_list 18 = .ok (.iconst (-1), 1) := by decide +kernel
theorem dX12_list_19 : decode cX12_list 19 = .ok (.ireturn, 1) := by decide +kernel
theorem dX12_list_20 : decode cX12_list 20 = .ok (.aload_n 0, 1) := by decide +kernel
theorem dX12_list_21 : decode cX12_list 21 = .ok (.iload_n 1, 1) := by decide +kernel
theorem dX12_list_22 : decode cX12_list 22 = .ok (.aload_n 0, 1) := by decide +kernel
theorem dX12_list_23 : decode cX12_list 23 = .ok (.getfield 71, 3) := by decide +kernel
theorem dX12_list_26 : decode cX12_list 26 = .ok (.iload_n 1, 1) := by decide +kernel
theorem dX12_list_27 : decode cX12_list 27 = .ok (.iaload, 1) := by decide +kernel
theorem dX12_list_28 : decode cX12_list 28 = .ok (.invokevirtual 312, 3) := by decide +kernel
theorem dX12_list_31 : decode cX12_list 31 = .ok (.iload_n 2, 1) := by decide +kernel
theorem dX12_list_32 : decode cX12_list 32 = .ok (.istore_n 3, 1) := by decide +kernel
theorem dX12_list_33 : decode cX12_list 33 = .ok (.iconst 0, 1) := by decide +kernel
theorem dX12_list_34 : decode cX12_list 34 = .ok (.istore 4, 2) := by decide +kernel
theorem dX12_list_36 : decode cX12_list 36 = .ok (.iload 4, 2) := by decide +kernel
theorem dX12_list_38 : decode cX12_list 38 = .ok (.aload_n 0, 1) := by decide +kernel
theorem dX12_list_39 : decode cX12_list 39 = .ok (.getfield 309, 3) := by decide +kernel
theorem dX12_list_42 : decode cX12_list 42 = .ok (.if_icmp .ge 42, 3) := by decide +kernel
theorem dX12_list_45 : decode cX12_list 45 = .ok (.aload_n 0, 1) := by decide +kernel
theorem dX12_list_46 : decode cX12_list 46 = .ok (.iload_n 1, 1) := by decide +kernel
theorem dX12_list_47 : decode cX12_list 47 = .ok (.aload_n 0, 1) := by decide +kernel
theorem dX12_list_48 : decode cX12_list 48 = .ok (.getfield 148, 3) := by decide +kernel
theorem dX12_list_51 : decode cX12_list 51 = .ok (.iload 4, 2) := by decide +kernel
theorem dX12_list_53 : decode cX12_list 53 = .ok (.iaload, 1) := by decide +kernel
theorem dX12_list_54 : decode cX12_list 54 = .ok (.invokevirtual 365, 3) := by decide +kernel
theorem dX12_list_57 : decode cX12_list 57 = .ok (.ifCond .ne 6, 3) := by decide +kernel
theorem dX12_list_60 : decode cX12_list 60 = .ok (.goto 18, 3) := by decide +kernel
theorem dX12_list_63 : decode cX12_list 63 = .ok (.iload_n 3, 1) := by decide +kernel
theorem dX12_list_64 : decode cX12_list 64 = .ok (.ifCond .ne 11, 3) := by decide +kernel
theorem dX12_list_67 : decode cX12_list 67 = .ok (.aload_n 0, 1) := by decide +kernel
theorem dX12_list_68 : decode cX12_list 68 = .ok (.getfield 148, 3) := by decide +kernel
theorem dX12_list_71 : decode cX12_list 71 = .ok (.iload 4, 2) := by decide +kernel
theorem dX12_list_73 : decode cX12_list 73 = .ok (.iaload, 1) := by decide +kernel
theorem dX12_list_74 : decode cX12_list 74 = .ok (.ireturn, 1) := by decide +kernel
theorem dX12_list_75 : decode cX12_list 75 = .ok (.iinc 3 (-1), 3) := by decide +kernel
theorem dX12_list_78 : decode cX12_list 78 = .ok (.iinc 4 1, 3) := by decide +kernel
theorem dX12_list_81 : decode cX12_list 81 = .ok (.goto (-45), 3) := by decide +kernel
theorem dX12_list_84 : decode cX12_list 84 = .ok (.iconst (-1), 1) := by decide +kernel
theorem dX12_list_85 : decode cX12_list 85 = .ok (.ireturn, 1) := by decide +kernel
theorem cd_list : Cond.code yX12_list cX12_list 5 (some .int) ∈ lw_g := mt_at 2332 (by decide +kernel) rfl
section
variable {p : Program} {l : Launch} {e : Env} {R : Room} {s : State} {m : MethodId} {args : Array Value} {below : List Frame} {meth : Method} {c : Code} {cM : ClassId} {iS : Nat → Nat} {cI cZ : ClassId} {mo : Nat} {ad : Nat → Nat} {r : Int32} {S9 : mSt}
noncomputable def fm_list_18 (S : mSt) : Option (Int32 × mSt) :=
some ((-1 : Int32), S)
set_option maxRecDepth 100000 in
set_option maxHeartbeats 4000000 in
theorem wm_list_18 (C : mY p R s m args meth c cX12_list 5 5 116 (some .int)) (X : mX s cM iS cI cZ mo ad) : ∀ {S : mSt} {H : Heap} {locs : List Loc} {ls : Array Slot}, fm_list_18 S = some (r, S9) → mW cM iS cI cZ mo ad S H → mS (mA mo ad) s.heap H locs → lv_has ls 5 [] → W p l e R s m args below meth c H locs 0 0 (MQ below (mQw (some (.int r)) cM iS cI cZ mo ad S9) args s 0 0 (mA mo ad)) (F0 m 18 ls []) := by
  intro S H locs ls h hW hS hl
  unfold fm_list_18 at h
  refine lv_iconst (v := -1) C.1 C.2.1 dX12_list_18 (by decide) ?_
  cases h
  exact m_retiW C hW hS dX12_list_19
noncomputable def fm_list_78 (g_36 : mSt → Int32 → Int32 → Int32 → Option (Int32 × mSt)) (S : mSt) (v1 : Int32) (v3 : Int32) (v4 : Int32) : Option (Int32 × mSt) :=
lt (v4 + (1 : Int32)) fun x1 =>
g_36 S v1 v3 x1
set_option maxRecDepth 100000 in
set_option maxHeartbeats 4000000 in
theorem wm_list_78 (C : mY p R s m args meth c cX12_list 5 5 116 (some .int)) (X : mX s cM iS cI cZ mo ad) {g_36 : mSt → Int32 → Int32 → Int32 → Option (Int32 × mSt)} (hg_36 : ∀ {S : mSt} {v1 : Int32} {v3 : Int32} {v4 : Int32} {H : Heap} {locs : List Loc} {ls : Array Slot}, g_36 S v1 v3 v4 = some (r, S9) → mW cM iS cI cZ mo ad S H → mS (mA mo ad) s.heap H locs → lv_has ls 5 [(0, .ref mo), (1, .int v1), (3, .int v3), (4, .int v4)] → W p l e R s m args below meth c H locs 0 0 (MQ below (mQw (some (.int r)) cM iS cI cZ mo ad S9) args s 0 0 (mA mo ad)) (F0 m 36 ls [])) : ∀ {S : mSt} {v1 : Int32} {v3 : Int32} {v4 : Int32} {H : Heap} {locs : List Loc} {ls : Array Slot}, fm_list_78 g_36 S v1 v3 v4 = some (r, S9) → mW cM iS cI cZ mo ad S H → mS (mA mo ad) s.heap H locs → lv_has ls 5 [(0, .ref mo), (1, .int v1), (3, .int v3), (4, .int v4)] → W p l e R s m args below meth c H locs 0 0 (MQ below (mQw (some (.int r)) cM iS cI cZ mo ad S9) args s 0 0 (mA mo ad)) (F0 m 78 ls []) := by
  intro S v1 v3 v4 H locs ls h hW hS hl
  unfold fm_list_78 at h
  refine lt_ok h (fun x1 e_x1 h => ?_)
  refine lv_iinc (v := x1) (lv' := [(4, .int x1), (0, .ref mo), (1, .int v1), (3, .int v3)]) C.1 C.2.1 dX12_list_78 hl (k := 3) rfl (by rw [← e_x1]; rfl) (by decide) rfl (fun ls hl => ?_)
  refine lv_goto (tgt := 36) C.1 C.2.1 dX12_list_81 (by decide) ?_
  exact hg_36 h hW hS (lv_sub hl [1, 2, 3, 0] rfl)
noncomputable def fm_list_36 : Nat → mSt → Int32 → Int32 → Int32 → Option (Int32 × mSt)
  | 0, _, _, _, _ => none
  | n + 1, S, v1, v3, v4 =>
    if (S.1 54) ≤ v4 then (
    some ((-1 : Int32), S))
    else (
    ck v4 48 (
    bd (fm_isThereNow S v1 (rd S 55 v4)) fun q_r3 => lt q_r3.1 fun r3 => lt q_r3.2 fun S2 =>
    if r3 = 0 then (
    fm_list_78 (fm_list_36 n) S2 v1 v3 v4)
    else (
    if v3 = 0 then (
    ck v4 48 (
    some (rd S2 55 v4, S2)))
    else (
    lt (v3 + (-1 : Int32)) fun x6 =>
    fm_list_78 (fm_list_36 n) S2 v1 x6 v4))))
set_option maxRecDepth 100000 in
set_option maxHeartbeats 4000000 in
theorem wm_list_36 (C : mY p R s m args meth c cX12_list 5 5 116 (some .int)) (X : mX s cM iS cI cZ mo ad) : ∀ (n : Nat), ∀ {S : mSt} {v1 : Int32} {v3 : Int32} {v4 : Int32} {H : Heap} {locs : List Loc} {ls : Array Slot}, fm_list_36 n S v1 v3 v4 = some (r, S9) → mW cM iS cI cZ mo ad S H → mS (mA mo ad) s.heap H locs → lv_has ls 5 [(0, .ref mo), (1, .int v1), (3, .int v3), (4, .int v4)] → W p l e R s m args below meth c H locs 0 0 (MQ below (mQw (some (.int r)) cM iS cI cZ mo ad S9) args s 0 0 (mA mo ad)) (F0 m 36 ls []) := by
  intro n
  induction n with
  | zero =>
    intro S v1 v3 v4 H locs ls h hW hS hl
    exact absurd (show (none : Option (Int32 × mSt)) = _ from h) (fun q => by cases q)
  | succ n ih =>
    intro S v1 v3 v4 H locs ls h hW hS hl
    rw [fm_list_36] at h
    refine lv_iload C.1 C.2.1 dX12_list_36 (lv_at hl 3 rfl) ?_
    refine lv_aload_n C.1 C.2.1 dX12_list_38 rfl (lv_at hl 0 rfl) ?_
    refine gf_54 C X hW dX12_list_39 ?_
    refine lv_icmp_ge (tgt := 84) C.1 C.2.1 dX12_list_42 (by decide) (fun c1 => ?_) (fun c1 => ?_)
    · have h := if_t h c1
      refine lv_iconst (v := -1) C.1 C.2.1 dX12_list_84 (by decide) ?_
      cases h
      exact m_retiW C hW hS dX12_list_85
    · have h := if_f h c1
      refine lv_aload_n C.1 C.2.1 dX12_list_45 rfl (lv_at hl 0 rfl) ?_
      refine lv_iload_n C.1 C.2.1 dX12_list_46 rfl (lv_at hl 1 rfl) ?_
      refine lv_aload_n C.1 C.2.1 dX12_list_47 rfl (lv_at hl 0 rfl) ?_
      refine gf_55 C X hW dX12_list_48 ?_
      refine lv_iload C.1 C.2.1 dX12_list_51 (lv_at hl 3 rfl) ?_
      obtain ⟨hin, h⟩ := ck_ok h
      refine l_55 C X hW hin dX12_list_53 ?_
      obtain ⟨⟨r3, S2⟩, h_S2, h⟩ := bd_ok h
      replace h := lt2_ok h
      refine m_callW (rest := []) (ov := some (.int r3)) C X hW hS hl.1 [.int v1, .int (rd S 55 v4)] (tm_isThereNow l h_S2) mw_isThereNow im_isThereNow sl_isThereNow rfl ⟨by decide, by decide⟩ rfl (Nat.le_of_ble_eq_true rfl) dX12_list_54 (fun H locs hW hS => ?_)
      refine W.eq (g2 := F0 m 57 ls [.int r3]) rfl ?_
      refine lv_if_ne (tgt := 63) C.1 C.2.1 dX12_list_57 (by decide) (fun c4 => ?_) (fun c4 => ?_)
      · have h := if_f h c4
        refine lv_iload_n C.1 C.2.1 dX12_list_63 rfl (lv_at hl 2 rfl) ?_
        refine lv_if_ne (tgt := 75) C.1 C.2.1 dX12_list_64 (by decide) (fun c5 => ?_) (fun c5 => ?_)
        · have h := if_f h c5
          refine lt_ok h (fun x6 e_x6 h => ?_)
          refine lv_iinc (v := x6) (lv' := [(3, .int x6), (0, .ref mo), (1, .int v1), (4, .int v4)]) C.1 C.2.1 dX12_list_75 hl (k := 2) rfl (by rw [← e_x6]; rfl) (by decide) rfl (fun ls hl => ?_)
          exact wm_list_78 C X ih h hW hS (lv_sub hl [1, 2, 0, 3] rfl)
        · have h := if_t h c5
          refine lv_aload_n C.1 C.2.1 dX12_list_67 rfl (lv_at hl 0 rfl) ?_
          refine gf_55 C X hW dX12_list_68 ?_
          refine lv_iload C.1 C.2.1 dX12_list_71 (lv_at hl 3 rfl) ?_
          obtain ⟨hin, h⟩ := ck_ok h
          refine l_55 C X hW hin dX12_list_73 ?_
          cases h
          exact m_retiW C hW hS dX12_list_74
      · have h := if_t h c4
        refine lv_goto (tgt := 78) C.1 C.2.1 dX12_list_60 (by decide) ?_
        exact wm_list_78 C X ih h hW hS (lv_sub hl [0, 1, 2, 3] rfl)
noncomputable def fm_list (S : mSt) (v1 : Int32) (v2 : Int32) : Option (Int32 × mSt) :=
lt (pu S 0 (0 : Int32)) fun S1 =>
bd (fm_within v1 (0 : Int32) (3 : Int32)) fun r2 =>
if r2 = 0 then (
fm_list_18 S1)
else (
if 0 ≤ v2 then (
ck v1 4 (
bd (fm_findObjects S1 v1 (rd S1 23 v1)) fun S5 =>
fm_list_36 mFU S5 v1 v2 (0 : Int32)))
else (
fm_list_18 S1))
set_option maxRecDepth 100000 in
set_option maxHeartbeats 4000000 in
theorem tm_list (l : Launch) {cM : ClassId} {iS : Nat → Nat} {cI cZ : ClassId} {mo : Nat} {ad : Nat → Nat} {S : mSt} {v1 : Int32} {v2 : Int32} {r : Int32} {S9 : mSt} (h : fm_list S v1 v2 = some (r, S9)) : Met l yX12_list (Cond.code yX12_list cX12_list 5 (some .int) :: lw_g) { frames := 5, cells := 0, slots := 0, locals := 116 } (mPi [.int v1, .int v2] cM iS cI cZ mo ad S) (mQw (some (.int r)) cM iS cI cZ mo ad S9) 0 0 (mA mo ad) := by
  refine Met.ofW (cc := cX12_list) (maxL := 5) (ret := (some .int)) (by decide) rfl ?_
  intro p e s m args below meth c s₁ B hml hv
  obtain ⟨rfl, hW, X⟩ := hv
  have C : mY p (headSpec (Cond.code yX12_list cX12_list 5 (some .int) :: lw_g) { frames := 5, cells := 0, slots := 0, locals := 116 }).room s m _ meth c cX12_list 5 5 116 (some .int) := ⟨B.exec, B.bytes, hml, findClass_of_methodNamed B.named, fun w hw => atoms_spec (ws := Cond.code yX12_list cX12_list 5 (some .int) :: lw_g) B.pre w (List.mem_cons_of_mem _ hw), ⟨Nat.le_refl _, Nat.le_refl _⟩, B.returns, B.notSynchronized⟩
  have hl := lv_entry ([.ref mo, .int v1, .int v2]) (n := 5) (Nat.le_of_ble_eq_true rfl)
  rw [lg_entry_eq]
  generalize (lg_sl ([.ref mo, .int v1, .int v2]) ++ List.replicate (5 - (lg_sl ([.ref mo, .int v1, .int v2])).length) Slot.unset).toArray = ls at hl ⊢
  have hl : lv_has ls 5 [(0, .ref mo), (1, .int v1), (2, .int v2)] := hl
  have hS : mS (mA mo ad) s.heap s.heap [] := mS.rf
  unfold fm_list at h
  refine lv_aload_n C.1 C.2.1 dX12_list_0 rfl (lv_at hl 0 rfl) ?_
  refine lv_iconst (v := 0) C.1 C.2.1 dX12_list_1 (by decide) ?_
  refine p_0 C X hW hS dX12_list_2 (fun H locs hW hS => ?_)
  refine lt_ok h (fun S1 e_S1 h => ?_)
  rw [e_S1] at hW
  refine lv_iload_n C.1 C.2.1 dX12_list_5 rfl (lv_at hl 1 rfl) ?_
  refine lv_iconst (v := 0) C.1 C.2.1 dX12_list_6 (by decide) ?_
  refine lv_iconst (v := 3) C.1 C.2.1 dX12_list_7 (by decide) ?_
  obtain ⟨r2, h_r2, h⟩ := bd_ok h
  refine m_callS (rest := []) C hl.1 [.int v1, .int (0 : Int32), .int (3 : Int32)] (tm_within l h_r2) mw_within st_within rfl ⟨by decide, by decide⟩ rfl (Nat.le_of_ble_eq_true rfl) dX12_list_8 ?_
  refine lv_if_eq (tgt := 18) C.1 C.2.1 dX12_list_11 (by decide) (fun c3 => ?_) (fun c3 => ?_)
  · have h := if_t h c3
    exact wm_list_18 C X h hW hS (lv_sub hl [] rfl)
  · have h := if_f h c3
    refine lv_iload_n C.1 C.2.1 dX12_list_14 rfl (lv_at hl 2 rfl) ?_
    refine lv_if_ge (tgt := 20) C.1 C.2.1 dX12_list_15 (by decide) (fun c4 => ?_) (fun c4 => ?_)
    · have h := if_t h c4
      refine lv_aload_n C.1 C.2.1 dX12_list_20 rfl (lv_at hl 0 rfl) ?_
      refine lv_iload_n C.1 C.2.1 dX12_list_21 rfl (lv_at hl 1 rfl) ?_
      refine lv_aload_n C.1 C.2.1 dX12_list_22 rfl (lv_at hl 0 rfl) ?_
      refine gf_23 C X hW dX12_list_23 ?_
      refine lv_iload_n C.1 C.2.1 dX12_list_26 rfl (lv_at hl 1 rfl) ?_
      obtain ⟨hin, h⟩ := ck_ok h
      refine l_23 C X hW hin dX12_list_27 ?_
      obtain ⟨S5, h_S5, h⟩ := bd_ok h
      refine m_callW (rest := []) (ov := none) C X hW hS hl.1 [.int v1, .int (rd S1 23 v1)] (tm_findObjects l h_S5) mw_findObjects im_findObjects sl_findObjects rfl ⟨by decide, by decide⟩ rfl (Nat.le_of_ble_eq_true rfl) dX12_list_28 (fun H locs hW hS => ?_)
      refine W.eq (g2 := F0 m 31 ls []) rfl ?_
      refine lv_iload_n C.1 C.2.1 dX12_list_31 rfl (lv_at hl 2 rfl) ?_
      refine lv_istore_n (lv' := [(3, .int v2), (0, .ref mo), (1, .int v1), (2, .int v2)]) C.1 C.2.1 dX12_list_32 rfl hl (by decide) rfl (fun ls hl => ?_)
      refine lv_iconst (v := 0) C.1 C.2.1 dX12_list_33 (by decide) ?_
      refine lv_istore (lv' := [(4, .int (0 : Int32)), (3, .int v2), (0, .ref mo), (1, .int v1), (2, .int v2)]) C.1 C.2.1 dX12_list_34 hl (by decide) rfl (fun ls hl => ?_)
      exact wm_list_36 C X mFU h hW hS (lv_sub hl [2, 3, 1, 0] rfl)
    · have h := if_f h c4
      exact wm_list_18 C X h hW hS (lv_sub hl [] rfl)
end
theorem dX12_count_0 : decode cX12_count 0 = .ok (.aload_n 0, 1) := by decide +kernel
theorem dX12_count_1 : decode cX12_count 1 = .ok (.iconst 0, 1) := by decide +kernel
theorem dX12_count_2 : decode cX12_count 2 = .ok (.putfield 200, 3) := by decide +kernel
theorem dX12_count_5 : decode cX12_count 5 = .ok (.aload_n 0, 1) := by decide +kernel
theorem dX12_count_6 : decode cX12_count 6 = .ok (.iload_n 1, 1) := by decide +kernel
theorem dX12_count_7 : decode cX12_count 7 = .ok (.iload_n 2, 1) := by decide +kernel
theorem dX12_count_8 : decode cX12_count 8 = .ok (.iload_n 3, 1) := by decide +kernel
theorem dX12_count_9 : decode cX12_count 9 = .ok (.invokevirtual 425, 3) := by decide +kernel
theorem dX12_count_12 : decode cX12_count 12 = .ok (.ifCond .ne 5, 3) := by decide +kernel
theorem dX12_count_15 : decode cX12_count 15 = .ok (.iconst (-1), 1) := by decide +kernel
theorem dX12_count_16 : decode cX12_count 16 = .ok (.ireturn, 1) := by decide +kernel
theorem dX12_count_17 : decode cX12_count 17 = .ok (.aload_n 0, 1) := by decide +kernel
theorem dX12_count_18 : decode cX12_count 18 = .ok (.iload_n 1, 1) := by decide +kernel
theorem dX12_count_19 : decode cX12_count 19 = .ok (.aload_n 0, 1) := by decide +kernel
theorem dX12_count_20 : decode cX12_count 20 = .ok (.getfield 71, 3) := by decide +kernel
theorem dX12_count_23 : decode cX12_count 23 = .ok (.iload_n 1, 1) := by decide +kernel
theorem dX12_count_24 : decode cX12_count 24 = .ok (.iaload, 1) := by decide +kernel
theorem dX12_count_25 : decode cX12_count 25 = .ok (.invokevirtual 312, 3) := by decide +kernel
theorem dX12_count_28 : decode cX12_count 28 = .ok (.iconst 0, 1) := by decide +kernel
theorem dX12_count_29 : decode cX12_count 29 = .ok (.istore 6, 2) := by decide +kernel
theorem dX12_count_31 : decode cX12_count 31 = .ok (.iconst 0, 1) := by decide +kernel
theorem dX12_count_32 : decode cX12_count 32 = .ok (.istore 7, 2) := by decide +kernel
theorem dX12_count_34 : decode cX12_count 34 = .ok (.iload 7, 2) := by decide +kernel
theorem dX12_count_36 : decode cX12_count 36 = .ok (.aload_n 0, 1) := by decide +kernel
theorem dX12_count_37 : decode cX12_count 37 = .ok (.getfield 309, 3) := by decide +kernel
theorem dX12_count_40 : decode cX12_count 40 = .ok (.if_icmp .ge 65, 3) := by decide +kernel
theorem dX12_count_43 : decode cX12_count 43 = .ok (.aload_n 0, 1) := by decide +kernel
theorem dX12_count_44 : decode cX12_count 44 = .ok (.aload_n 0, 1) := by decide +kernel
theorem dX12_count_45 : decode cX12_count 45 = .ok (.getfield 148, 3) := by decide +kernel
theorem dX12_count_48 : decode cX12_count 48 = .ok (.iload 7, 2) := by decide +kernel
theorem dX12_count_50 : decode cX12_count 50 = .ok (.iaload, 1) := by decide +kernel
theorem dX12_count_51 : decode cX12_count 51 = .ok (.invokevirtual 250, 3) := by decide +kernel
theorem dX12_count_54 : decode cX12_count 54 = .ok (.iload_n 2, 1) := by decide +kernel
theorem dX12_count_55 : decode cX12_count 55 = .ok (.if_icmp .ne 44, 3) := by decide +kernel
theorem dX12_count_58 : decode cX12_count 58 = .ok (.aload_n 0, 1) := by decide +kernel
theorem dX12_count_59 : decode cX12_count 59 = .ok (.iload_n 1, 1) := by decide +kernel
theorem dX12_count_60 : decode cX12_count 60 = .ok (.aload_n 0, 1) := by decide +kernel
theorem dX12_count_61 : decode cX12_count 61 = .ok (.getfield 148, 3) := by decide +kernel
theorem dX12_count_64 : decode cX12_count 64 = .ok (.iload 7, 2) := by decide +kernel
theorem dX12_count_66 : decode cX12_count 66 = .ok (.iaload, 1) := by decide +kernel
theorem dX12_count_67 : decode cX12_count 67 = .ok (.invokevirtual 365, 3) := by decide +kernel
theorem dX12_count_70 : decode cX12_count 70 = .ok (.ifCond .eq 29, 3) := by decide +kernel
theorem dX12_count_73 : decode cX12_count 73 = .ok (.aload_n 0, 1) := by decide +kernel
theorem dX12_count_74 : decode cX12_count 74 = .ok (.iload_n 1, 1) := by decide +kernel
theorem dX12_count_75 : decode cX12_count 75 = .ok (.aload_n 0, 1) := by decide +kernel
theorem dX12_count_76 : decode cX12_count 76 = .ok (.getfield 148, 3) := by decide +kernel
theorem dX12_count_79 : decode cX12_count 79 = .ok (.iload 7, 2) := by decide +kernel
theorem dX12_count_81 : decode cX12_count 81 = .ok (.iaload, 1) := by decide +kernel
theorem dX12_count_82 : decode cX12_count 82 = .ok (.iload_n 3, 1) := by decide +kernel
theorem dX12_count_83 : decode cX12_count 83 = .ok (.invokevirtual 368, 3) := by decide +kernel
theorem dX12_count_86 : decode cX12_count 86 = .ok (.iload 4, 2) := by decide +kernel
theorem dX12_count_88 : decode cX12_count 88 = .ok (.iload 5, 2) := by decide +kernel
theorem dX12_count_90 : decode cX12_count 90 = .ok (.invokestatic 215, 3) := by decide +kernel
theorem dX12_count_93 : decode cX12_count 93 = .ok (.ifCond .eq 6, 3) := by decide +kernel
theorem dX12_count_96 : decode cX12_count 96 = .ok (.iinc 6 1, 3) := by decide +kernel
theorem dX12_count_99 : decode cX12_count 99 = .ok (.iinc 7 1, 3) := by decide +kernel
theorem dX12_count_102 : decode cX12_count 102 = .ok (.goto (-68), 3) := by decide +kernel
theorem dX12_count_105 : decode cX12_count 105 = .ok (.iload 6, 2) := by decide +kernel
theorem dX12_count_107 : decode cX12_count 107 = .ok (.ireturn, 1) := by decide +kernel
theorem cd_count : Cond.code yX12_count cX12_count 8 (some .int) ∈ lw_g := mt_at 2336 (by decide +kernel) rfl
section
variable {p : Program} {l : Launch} {e : Env} {R : Room} {s : State} {m : MethodId} {args : Array Value} {below : List Frame} {meth : Method} {c : Code} {cM : ClassId} {iS : Nat → Nat} {cI cZ : ClassId} {mo : Nat} {ad : Nat → Nat} {r : Int32} {S9 : mSt}
noncomputable def fm_count_99 (g_34 : mSt → Int32 → Int32 → Int32 → Int32 → Int32 → Int32 → Int32 → Option (Int32 × mSt)) (S : mSt) (v1 : Int32) (v2 : Int32) (v3 : Int32) (v4 : Int32) (v5 : Int32) (v6 : Int32) (v7 : Int32) : Option (Int32 × mSt) :=
lt (v7 + (1 : Int32)) fun x1 =>
g_34 S v1 v2 v3 v4 v5 v6 x1
set_option maxRecDepth 100000 in
set_option maxHeartbeats 4000000 in
theorem wm_count_99 (C : mY p R s m args meth c cX12_count 8 6 142 (some .int)) (X : mX s cM iS cI cZ mo ad) {g_34 : mSt → Int32 → Int32 → Int32 → Int32 → Int32 → Int32 → Int32 → Option (Int32 × mSt)} (hg_34 : ∀ {S : mSt} {v1 : Int32} {v2 : Int32} {v3 : Int32} {v4 : Int32} {v5 : Int32} {v6 : Int32} {v7 : Int32} {H : Heap} {locs : List Loc} {ls : Array Slot}, g_34 S v1 v2 v3 v4 v5 v6 v7 = some (r, S9) → mW cM iS cI cZ mo ad S H → mS (mA mo ad) s.heap H locs → lv_has ls 8 [(0, .ref mo), (1, .int v1), (2, .int v2), (3, .int v3), (4, .int v4), (5, .int v5), (6, .int v6), (7, .int v7)] → W p l e R s m args below meth c H locs 0 0 (MQ below (mQw (some (.int r)) cM iS cI cZ mo ad S9) args s 0 0 (mA mo ad)) (F0 m 34 ls [])) : ∀ {S : mSt} {v1 : Int32} {v2 : Int32} {v3 : Int32} {v4 : Int32} {v5 : Int32} {v6 : Int32} {v7 : Int32} {H : Heap} {locs : List Loc} {ls : Array Slot}, fm_count_99 g_34 S v1 v2 v3 v4 v5 v6 v7 = some (r, S9) → mW cM iS cI cZ mo ad S H → mS (mA mo ad) s.heap H locs → lv_has ls 8 [(0, .ref mo), (1, .int v1), (2, .int v2), (3, .int v3), (4, .int v4), (5, .int v5), (6, .int v6), (7, .int v7)] → W p l e R s m args below meth c H locs 0 0 (MQ below (mQw (some (.int r)) cM iS cI cZ mo ad S9) args s 0 0 (mA mo ad)) (F0 m 99 ls []) := by
  intro S v1 v2 v3 v4 v5 v6 v7 H locs ls h hW hS hl
  unfold fm_count_99 at h
  refine lt_ok h (fun x1 e_x1 h => ?_)
  refine lv_iinc (v := x1) (lv' := [(7, .int x1), (0, .ref mo), (1, .int v1), (2, .int v2), (3, .int v3), (4, .int v4), (5, .int v5), (6, .int v6)]) C.1 C.2.1 dX12_count_99 hl (k := 7) rfl (by rw [← e_x1]; rfl) (by decide) rfl (fun ls hl => ?_)
  refine lv_goto (tgt := 34) C.1 C.2.1 dX12_count_102 (by decide) ?_
  exact hg_34 h hW hS (lv_sub hl [1, 2, 3, 4, 5, 6, 7, 0] rfl)
noncomputable def fm_count_34 : Nat → mSt → Int32 → Int32 → Int32 → Int32 → Int32 → Int32 → Int32 → Option (Int32 × mSt)
  | 0, _, _, _, _, _, _, _, _ => none
  | n + 1, S, v1, v2, v3, v4, v5, v6, v7 =>
    if (S.1 54) ≤ v7 then (
    some (v6, S))
    else (
    ck v7 48 (
    bd (fm_kindOf S (rd S 55 v7)) fun r2 =>
    if r2 = v2 then (
    ck v7 48 (
    bd (fm_isThereNow S v1 (rd S 55 v7)) fun q_r5 => lt q_r5.1 fun r5 => lt q_r5.2 fun S4 =>
    if r5 = 0 then (
    fm_count_99 (fm_count_34 n) S4 v1 v2 v3 v4 v5 v6 v7)
    else (
    ck v7 48 (
    bd (fm_latestOf S4 v1 (rd S4 55 v7) v3) fun q_r8 => lt q_r8.1 fun r8 => lt q_r8.2 fun S7 =>
    bd (fm_within r8 v4 v5) fun r9 =>
    if r9 = 0 then (
    fm_count_99 (fm_count_34 n) S7 v1 v2 v3 v4 v5 v6 v7)
    else (
    lt (v6 + (1 : Int32)) fun x11 =>
    fm_count_99 (fm_count_34 n) S7 v1 v2 v3 v4 v5 x11 v7)))))
    else (
    fm_count_99 (fm_count_34 n) S v1 v2 v3 v4 v5 v6 v7)))
set_option maxRecDepth 100000 in
set_option maxHeartbeats 4000000 in
theorem wm_count_34 (C : mY p R s m args meth c cX12_count 8 6 142 (some .int)) (X : mX s cM iS cI cZ mo ad) : ∀ (n : Nat), ∀ {S : mSt} {v1 : Int32} {v2 : Int32} {v3 : Int32} {v4 : Int32} {v5 : Int32} {v6 : Int32} {v7 : Int32} {H : Heap} {locs : List Loc} {ls : Array Slot}, fm_count_34 n S v1 v2 v3 v4 v5 v6 v7 = some (r, S9) → mW cM iS cI cZ mo ad S H → mS (mA mo ad) s.heap H locs → lv_has ls 8 [(0, .ref mo), (1, .int v1), (2, .int v2), (3, .int v3), (4, .int v4), (5, .int v5), (6, .int v6), (7, .int v7)] → W p l e R s m args below meth c H locs 0 0 (MQ below (mQw (some (.int r)) cM iS cI cZ mo ad S9) args s 0 0 (mA mo ad)) (F0 m 34 ls []) := by
  intro n
  induction n with
  | zero =>
    intro S v1 v2 v3 v4 v5 v6 v7 H locs ls h hW hS hl
    exact absurd (show (none : Option (Int32 × mSt)) = _ from h) (fun q => by cases q)
  | succ n ih =>
    intro S v1 v2 v3 v4 v5 v6 v7 H locs ls h hW hS hl
    rw [fm_count_34] at h
    refine lv_iload C.1 C.2.1 dX12_count_34 (lv_at hl 7 rfl) ?_
    refine lv_aload_n C.1 C.2.1 dX12_count_36 rfl (lv_at hl 0 rfl) ?_
    refine gf_54 C X hW dX12_count_37 ?_
    refine lv_icmp_ge (tgt := 105) C.1 C.2.1 dX12_count_40 (by decide) (fun c1 => ?_) (fun c1 => ?_)
    · have h := if_t h c1
      refine lv_iload C.1 C.2.1 dX12_count_105 (lv_at hl 6 rfl) ?_
      cases h
      exact m_retiW C hW hS dX12_count_107
    · have h := if_f h c1
      refine lv_aload_n C.1 C.2.1 dX12_count_43 rfl (lv_at hl 0 rfl) ?_
      refine lv_aload_n C.1 C.2.1 dX12_count_44 rfl (lv_at hl 0 rfl) ?_
      refine gf_55 C X hW dX12_count_45 ?_
      refine lv_iload C.1 C.2.1 dX12_count_48 (lv_at hl 7 rfl) ?_
      obtain ⟨hin, h⟩ := ck_ok h
      refine l_55 C X hW hin dX12_count_50 ?_
      obtain ⟨r2, h_r2, h⟩ := bd_ok h
      refine m_callR (rest := []) C X hW hl.1 [.int (rd S 55 v7)] (tm_kindOf l h_r2) mw_kindOf im_kindOf sl_kindOf rfl ⟨by decide, by decide⟩ rfl (Nat.le_of_ble_eq_true rfl) dX12_count_51 ?_
      refine lv_iload_n C.1 C.2.1 dX12_count_54 rfl (lv_at hl 2 rfl) ?_
      refine lv_icmp_ne (tgt := 99) C.1 C.2.1 dX12_count_55 (by decide) (fun c3 => ?_) (fun c3 => ?_)
      · have h := if_f h c3
        exact wm_count_99 C X ih h hW hS (lv_sub hl [0, 1, 2, 3, 4, 5, 6, 7] rfl)
      · have h := if_t h c3
        refine lv_aload_n C.1 C.2.1 dX12_count_58 rfl (lv_at hl 0 rfl) ?_
        refine lv_iload_n C.1 C.2.1 dX12_count_59 rfl (lv_at hl 1 rfl) ?_
        refine lv_aload_n C.1 C.2.1 dX12_count_60 rfl (lv_at hl 0 rfl) ?_
        refine gf_55 C X hW dX12_count_61 ?_
        refine lv_iload C.1 C.2.1 dX12_count_64 (lv_at hl 7 rfl) ?_
        obtain ⟨hin, h⟩ := ck_ok h
        refine l_55 C X hW hin dX12_count_66 ?_
        obtain ⟨⟨r5, S4⟩, h_S4, h⟩ := bd_ok h
        replace h := lt2_ok h
        refine m_callW (rest := []) (ov := some (.int r5)) C X hW hS hl.1 [.int v1, .int (rd S 55 v7)] (tm_isThereNow l h_S4) mw_isThereNow im_isThereNow sl_isThereNow rfl ⟨by decide, by decide⟩ rfl (Nat.le_of_ble_eq_true rfl) dX12_count_67 (fun H locs hW hS => ?_)
        refine W.eq (g2 := F0 m 70 ls [.int r5]) rfl ?_
        refine lv_if_eq (tgt := 99) C.1 C.2.1 dX12_count_70 (by decide) (fun c6 => ?_) (fun c6 => ?_)
        · have h := if_t h c6
          exact wm_count_99 C X ih h hW hS (lv_sub hl [0, 1, 2, 3, 4, 5, 6, 7] rfl)
        · have h := if_f h c6
          refine lv_aload_n C.1 C.2.1 dX12_count_73 rfl (lv_at hl 0 rfl) ?_
          refine lv_iload_n C.1 C.2.1 dX12_count_74 rfl (lv_at hl 1 rfl) ?_
          refine lv_aload_n C.1 C.2.1 dX12_count_75 rfl (lv_at hl 0 rfl) ?_
          refine gf_55 C X hW dX12_count_76 ?_
          refine lv_iload C.1 C.2.1 dX12_count_79 (lv_at hl 7 rfl) ?_
          obtain ⟨hin, h⟩ := ck_ok h
          refine l_55 C X hW hin dX12_count_81 ?_
          refine lv_iload_n C.1 C.2.1 dX12_count_82 rfl (lv_at hl 3 rfl) ?_
          obtain ⟨⟨r8, S7⟩, h_S7, h⟩ := bd_ok h
          replace h := lt2_ok h
          refine m_callW (rest := []) (ov := some (.int r8)) C X hW hS hl.1 [.int v1, .int (rd S4 55 v7), .int v3] (tm_latestOf l h_S7) mw_latestOf im_latestOf sl_latestOf rfl ⟨by decide, by decide⟩ rfl (Nat.le_of_ble_eq_true rfl) dX12_count_83 (fun H locs hW hS => ?_)
          refine W.eq (g2 := F0 m 86 ls [.int r8]) rfl ?_
          refine lv_iload C.1 C.2.1 dX12_count_86 (lv_at hl 4 rfl) ?_
          refine lv_iload C.1 C.2.1 dX12_count_88 (lv_at hl 5 rfl) ?_
          obtain ⟨r9, h_r9, h⟩ := bd_ok h
          refine m_callS (rest := []) C hl.1 [.int r8, .int v4, .int v5] (tm_within l h_r9) mw_within st_within rfl ⟨by decide, by decide⟩ rfl (Nat.le_of_ble_eq_true rfl) dX12_count_90 ?_
          refine lv_if_eq (tgt := 99) C.1 C.2.1 dX12_count_93 (by decide) (fun c10 => ?_) (fun c10 => ?_)
          · have h := if_t h c10
            exact wm_count_99 C X ih h hW hS (lv_sub hl [0, 1, 2, 3, 4, 5, 6, 7] rfl)
          · have h := if_f h c10
            refine lt_ok h (fun x11 e_x11 h => ?_)
            refine lv_iinc (v := x11) (lv' := [(6, .int x11), (0, .ref mo), (1, .int v1), (2, .int v2), (3, .int v3), (4, .int v4), (5, .int v5), (7, .int v7)]) C.1 C.2.1 dX12_count_96 hl (k := 6) rfl (by rw [← e_x11]; rfl) (by decide) rfl (fun ls hl => ?_)
            exact wm_count_99 C X ih h hW hS (lv_sub hl [1, 2, 3, 4, 5, 6, 0, 7] rfl)
noncomputable def fm_count (S : mSt) (v1 : Int32) (v2 : Int32) (v3 : Int32) (v4 : Int32) (v5 : Int32) : Option (Int32 × mSt) :=
lt (pu S 0 (0 : Int32)) fun S1 =>
bd (fm_canBeAsked S1 v1 v2 v3) fun r2 =>
if r2 = 0 then (
some ((-1 : Int32), S1))
else (
ck v1 4 (
bd (fm_findObjects S1 v1 (rd S1 23 v1)) fun S4 =>
fm_count_34 mFU S4 v1 v2 v3 v4 v5 (0 : Int32) (0 : Int32)))
set_option maxRecDepth 100000 in
set_option maxHeartbeats 4000000 in
theorem tm_count (l : Launch) {cM : ClassId} {iS : Nat → Nat} {cI cZ : ClassId} {mo : Nat} {ad : Nat → Nat} {S : mSt} {v1 : Int32} {v2 : Int32} {v3 : Int32} {v4 : Int32} {v5 : Int32} {r : Int32} {S9 : mSt} (h : fm_count S v1 v2 v3 v4 v5 = some (r, S9)) : Met l yX12_count (Cond.code yX12_count cX12_count 8 (some .int) :: lw_g) { frames := 6, cells := 0, slots := 0, locals := 142 } (mPi [.int v1, .int v2, .int v3, .int v4, .int v5] cM iS cI cZ mo ad S) (mQw (some (.int r)) cM iS cI cZ mo ad S9) 0 0 (mA mo ad) := by
  refine Met.ofW (cc := cX12_count) (maxL := 8) (ret := (some .int)) (by decide) rfl ?_
  intro p e s m args below meth c s₁ B hml hv
  obtain ⟨rfl, hW, X⟩ := hv
  have C : mY p (headSpec (Cond.code yX12_count cX12_count 8 (some .int) :: lw_g) { frames := 6, cells := 0, slots := 0, locals := 142 }).room s m _ meth c cX12_count 8 6 142 (some .int) := ⟨B.exec, B.bytes, hml, findClass_of_methodNamed B.named, fun w hw => atoms_spec (ws := Cond.code yX12_count cX12_count 8 (some .int) :: lw_g) B.pre w (List.mem_cons_of_mem _ hw), ⟨Nat.le_refl _, Nat.le_refl _⟩, B.returns, B.notSynchronized⟩
  have hl := lv_entry ([.ref mo, .int v1, .int v2, .int v3, .int v4, .int v5]) (n := 8) (Nat.le_of_ble_eq_true rfl)
  rw [lg_entry_eq]
  generalize (lg_sl ([.ref mo, .int v1, .int v2, .int v3, .int v4, .int v5]) ++ List.replicate (8 - (lg_sl ([.ref mo, .int v1, .int v2, .int v3, .int v4, .int v5])).length) Slot.unset).toArray = ls at hl ⊢
  have hl : lv_has ls 8 [(0, .ref mo), (1, .int v1), (2, .int v2), (3, .int v3), (4, .int v4), (5, .int v5)] := hl
  have hS : mS (mA mo ad) s.heap s.heap [] := mS.rf
  unfold fm_count at h
  refine lv_aload_n C.1 C.2.1 dX12_count_0 rfl (lv_at hl 0 rfl) ?_
  refine lv_iconst (v := 0) C.1 C.2.1 dX12_count_1 (by decide) ?_
  refine p_0 C X hW hS dX12_count_2 (fun H locs hW hS => ?_)
  refine lt_ok h (fun S1 e_S1 h => ?_)
  rw [e_S1] at hW
  refine lv_aload_n C.1 C.2.1 dX12_count_5 rfl (lv_at hl 0 rfl) ?_
  refine lv_iload_n C.1 C.2.1 dX12_count_6 rfl (lv_at hl 1 rfl) ?_
  refine lv_iload_n C.1 C.2.1 dX12_count_7 rfl (lv_at hl 2 rfl) ?_
  refine lv_iload_n C.1 C.2.1 dX12_count_8 rfl (lv_at hl 3 rfl) ?_
  obtain ⟨r2, h_r2, h⟩ := bd_ok h
  refine m_callR (rest := []) C X hW hl.1 [.int v1, .int v2, .int v3] (tm_canBeAsked l h_r2) mw_canBeAsked im_canBeAsked sl_canBeAsked rfl ⟨by decide, by decide⟩ rfl (Nat.le_of_ble_eq_true rfl) dX12_count_9 ?_
  refine lv_if_ne (tgt := 17) C.1 C.2.1 dX12_count_12 (by decide) (fun c3 => ?_) (fun c3 => ?_)
  · have h := if_f h c3
    refine lv_aload_n C.1 C.2.1 dX12_count_17 rfl (lv_at hl 0 rfl) ?_
    refine lv_iload_n C.1 C.2.1 dX12_count_18 rfl (lv_at hl 1 rfl) ?_
    refine lv_aload_n C.1 C.2.1 dX12_count_19 rfl (lv_at hl 0 rfl) ?_
    refine gf_23 C X hW dX12_count_20 ?_
    refine lv_iload_n C.1 C.2.1 dX12_count_23 rfl (lv_at hl 1 rfl) ?_
    obtain ⟨hin, h⟩ := ck_ok h
    refine l_23 C X hW hin dX12_count_24 ?_
    obtain ⟨S4, h_S4, h⟩ := bd_ok h
    refine m_callW (rest := []) (ov := none) C X hW hS hl.1 [.int v1, .int (rd S1 23 v1)] (tm_findObjects l h_S4) mw_findObjects im_findObjects sl_findObjects rfl ⟨by decide, by decide⟩ rfl (Nat.le_of_ble_eq_true rfl) dX12_count_25 (fun H locs hW hS => ?_)
    refine W.eq (g2 := F0 m 28 ls []) rfl ?_
    refine lv_iconst (v := 0) C.1 C.2.1 dX12_count_28 (by decide) ?_
    refine lv_istore (lv' := [(6, .int (0 : Int32)), (0, .ref mo), (1, .int v1), (2, .int v2), (3, .int v3), (4, .int v4), (5, .int v5)]) C.1 C.2.1 dX12_count_29 hl (by decide) rfl (fun ls hl => ?_)
    refine lv_iconst (v := 0) C.1 C.2.1 dX12_count_31 (by decide) ?_
    refine lv_istore (lv' := [(7, .int (0 : Int32)), (6, .int (0 : Int32)), (0, .ref mo), (1, .int v1), (2, .int v2), (3, .int v3), (4, .int v4), (5, .int v5)]) C.1 C.2.1 dX12_count_32 hl (by decide) rfl (fun ls hl => ?_)
    exact wm_count_34 C X mFU h hW hS (lv_sub hl [2, 3, 4, 5, 6, 7, 1, 0] rfl)
  · have h := if_t h c3
    refine lv_iconst (v := -1) C.1 C.2.1 dX12_count_15 (by decide) ?_
    cases h
    exact m_retiW C hW hS dX12_count_16
end
theorem dX12_ranked_0 : decode cX12_ranked 0 = .ok (.aload_n 0, 1) := by decide +kernel
theorem dX12_ranked_1 : decode cX12_ranked 1 = .ok (.iconst 0, 1) := by decide +kernel
theorem dX12_ranked_2 : decode cX12_ranked 2 = .ok (.putfield 200, 3) := by decide +kernel
theorem dX12_ranked_5 : decode cX12_ranked 5 = .ok (.aload_n 0, 1) := by decide +kernel
theorem dX12_ranked_6 : decode cX12_ranked 6 = .ok (.iload_n 1, 1) := by decide +kernel
theorem dX12_ranked_7 : decode cX12_ranked 7 = .ok (.iload_n 2, 1) := by decide +kernel
theorem dX12_ranked_8 : decode cX12_ranked 8 = .ok (.iload_n 3, 1) := by decide +kernel
theorem dX12_ranked_9 : decode cX12_ranked 9 = .ok (.invokevirtual 425, 3) := by decide +kernel
theorem dX12_ranked_12 : decode cX12_ranked 12 = .ok (.ifCond .ne 5, 3) := by decide +kernel
theorem dX12_ranked_15 : decode cX12_ranked 15 = .ok (.iconst (-1), 1) := by decide +kernel
theorem dX12_ranked_16 : decode cX12_ranked 16 = .ok (.ireturn, 1) := by decide +kernel
theorem dX12_ranked_17 : decode cX12_ranked 17 = .ok (.aload_n 0, 1) := by decide +kernel
theorem dX12_ranked_18 : decode cX12_ranked 18 = .ok (.iload_n 1, 1) := by decide +kernel
theorem dX12_ranked_19 : decode cX12_ranked 19 = .ok (.aload_n 0, 1) := by decide +kernel
theorem dX12_ranked_20 : decode cX12_ranked 20 = .ok (.getfield 71, 3) := by decide +kernel
theorem dX12_ranked_23 : decode cX12_ranked 23 = .ok (.iload_n 1, 1) := by decide +kernel
theorem dX12_ranked_24 : decode cX12_ranked 24 = .ok (.iaload, 1) := by decide +kernel
theorem dX12_ranked_25 : decode cX12_ranked 25 = .ok (.invokevirtual 312, 3) := by decide +kernel
theorem dX12_ranked_28 : decode cX12_ranked 28 = .ok (.aload_n 0, 1) := by decide +kernel
theorem dX12_ranked_29 : decode cX12_ranked 29 = .ok (.iconst 0, 1) := by decide +kernel
theorem dX12_ranked_30 : decode cX12_ranked 30 = .ok (.putfield 500, 3) := by decide +kernel
theorem dX12_ranked_33 : decode cX12_ranked 33 = .ok (.iconst 0, 1) := by decide +kernel
theorem dX12_ranked_34 : decode cX12_ranked 34 = .ok (.istore 5, 2) := by decide +kernel
theorem dX12_ranked_36 : decode cX12_ranked 36 = .ok (.iload 5, 2) := by decide +kernel
theorem dX12_ranked_38 : decode cX12_ranked 38 = .ok (.aload_n 0, 1) := by decide +kernel
theorem dX12_ranked_39 : decode cX12_ranked 39 = .ok (.getfield 309, 3) := by decide +kernel
theorem dX12_ranked_42 : decode cX12_ranked 42 = .ok (.if_icmp .ge 153, 3) := by decide +kernel
theorem dX12_ranked_45 : decode cX12_ranked 45 = .ok (.aload_n 0, 1) := by decide +kernel
theorem dX12_ranked_46 : decode cX12_ranked 46 = .ok (.aload_n 0, 1) := by decide +kernel
theorem dX12_ranked_47 : decode cX12_ranked 47 = .ok (.getfield 148, 3) := by decide +kernel
theorem dX12_ranked_50 : decode cX12_ranked 50 = .ok (.iload 5, 2) := by decide +kernel
theorem dX12_ranked_52 : decode cX12_ranked 52 = .ok (.iaload, 1) := by decide +kernel
theorem dX12_ranked_53 : decode cX12_ranked 53 = .ok (.invokevirtual 250, 3) := by decide +kernel
theorem dX12_ranked_56 : decode cX12_ranked 56 = .ok (.iload_n 2, 1) := by decide +kernel
theorem dX12_ranked_57 : decode cX12_ranked 57 = .ok (.if_icmp .ne 132, 3) := by decide +kernel
theorem dX12_ranked_60 : decode cX12_ranked 60 = .ok (.aload_n 0, 1) := by decide +kernel
theorem dX12_ranked_61 : decode cX12_ranked 61 = .ok (.iload_n 1, 1) := by decide +kernel
theorem dX12_ranked_62 : decode cX12_ranked 62 = .ok (.aload_n 0, 1) := by decide +kernel
theorem dX12_ranked_63 : decode cX12_ranked 63 = .ok (.getfield 148, 3) := by decide +kernel
theorem dX12_ranked_66 : decode cX12_ranked 66 = .ok (.iload 5, 2) := by decide +kernel
theorem dX12_ranked_68 : decode cX12_ranked 68 = .ok (.iaload, 1) := by decide +kernel
theorem dX12_ranked_69 : decode cX12_ranked 69 = .ok (.invokevirtual 365, 3) := by decide +kernel
theorem dX12_ranked_72 : decode cX12_ranked 72 = .ok (.ifCond .ne 6, 3) := by decide +kernel
theorem dX12_ranked_75 : decode cX12_ranked 75 = .ok (.goto 114, 3) := by decide +kernel
theorem dX12_ranked_78 : decode cX12_ranked 78 = .ok (.aload_n 0, 1) := by decide +kernel
theorem dX12_ranked_79 : decode cX12_ranked 79 = .ok (.iload_n 1, 1) := by decide +kernel
theorem dX12_ranked_80 : decode cX12_ranked 80 = .ok (.aload_n 0, 1) := by decide +kernel
theorem dX12_ranked_81 : decode cX12_ranked 81 = .ok (.getfield 148, 3) := by decide +kernel
theorem dX12_ranked_84 : decode cX12_ranked 84 = .ok (.iload 5, 2) := by decide +kernel
theorem dX12_ranked_86 : decode cX12_ranked 86 = .ok (.iaload, 1) := by decide +kernel
theorem dX12_ranked_87 : decode cX12_ranked 87 = .ok (.iload_n 3, 1) := by decide +kernel
theorem dX12_ranked_88 : decode cX12_ranked 88 = .ok (.invokevirtual 368, 3) := by decide +kernel
theorem dX12_ranked_91 : decode cX12_ranked 91 = .ok (.istore 6, 2) := by decide +kernel
theorem dX12_ranked_93 : decode cX12_ranked 93 = .ok (.aload_n 0, 1) := by decide +kernel
theorem dX12_ranked_94 : decode cX12_ranked 94 = .ok (.getfield 500, 3) := by decide +kernel
theorem dX12_ranked_97 : decode cX12_ranked 97 = .ok (.istore 7, 2) := by decide +kernel
theorem dX12_ranked_99 : decode cX12_ranked 99 = .ok (.iload 7, 2) := by decide +kernel
theorem dX12_ranked_101 : decode cX12_ranked 101 = .ok (.ifCond .le 55, 3) := by decide +kernel
theorem dX12_ranked_104 : decode cX12_ranked 104 = .ok (.aload_n 0, 1) := by decide +kernel
theorem dX12_ranked_105 : decode cX12_ranked 105 = .ok (.getfield 197, 3) := by decide +kernel
theorem dX12_ranked_108 : decode cX12_ranked 108 = .ok (.iload 7, 2) := by decide +kernel
theorem dX12_ranked_110 : decode cX12_ranked 110 = .ok (.iconst 1, 1) := by decide +kernel
theorem dX12_ranked_111 : decode cX12_ranked 111 = .ok (.isub, 1) := by decide +kernel
theorem dX12_ranked_112 : decode cX12_ranked 112 = .ok (.iaload, 1) := by decide +kernel
theorem dX12_ranked_113 : decode cX12_ranked 113 = .ok (.iload 6, 2) := by decide +kernel
theorem dX12_ranked_115 : decode cX12_ranked 115 = .ok (.if_icmp .le 41, 3) := by decide +kernel
theorem dX12_ranked_118 : decode cX12_ranked 118 = .ok (.aload_n 0, 1) := by decide +kernel
theorem dX12_ranked_119 : decode cX12_ranked 119 = .ok (.getfield 194, 3) := by decide +kernel
theorem dX12_ranked_122 : decode cX12_ranked 122 = .ok (.iload 7, 2) := by decide +kernel
theorem dX12_ranked_124 : decode cX12_ranked 124 = .ok (.aload_n 0, 1) := by decide +kernel
theorem dX12_ranked_125 : decode cX12_ranked 125 = .ok (.getfield 194, 3) := by decide +kernel
theorem dX12_ranked_128 : decode cX12_ranked 128 = .ok (.iload 7, 2) := by decide +kernel
theorem dX12_ranked_130 : decode cX12_ranked 130 = .ok (.iconst 1, 1) := by decide +kernel
theorem dX12_ranked_131 : decode cX12_ranked 131 = .ok (.isub, 1) := by decide +kernel
theorem dX12_ranked_132 : decode cX12_ranked 132 = .ok (.iaload, 1) := by decide +kernel
theorem dX12_ranked_133 : decode cX12_ranked 133 = .ok (.iastore, 1) := by decide +kernel
theorem dX12_ranked_134 : decode cX12_ranked 134 = .ok (.aload_n 0, 1) := by decide +kernel
theorem dX12_ranked_135 : decode cX12_ranked 135 = .ok (.getfield 197, 3) := by decide +kernel
theorem dX12_ranked_138 : decode cX12_ranked 138 = .ok (.iload 7, 2) := by decide +kernel
theorem dX12_ranked_140 : decode cX12_ranked 140 = .ok (.aload_n 0, 1) := by decide +kernel
theorem dX12_ranked_141 : decode cX12_ranked 141 = .ok (.getfield 197, 3) := by decide +kernel
theorem dX12_ranked_144 : decode cX12_ranked 144 = .ok (.iload 7, 2) := by decide +kernel
theorem dX12_ranked_146 : decode cX12_ranked 146 = .ok (.iconst 1, 1) := by decide +kernel
theorem dX12_ranked_147 : decode cX12_ranked 147 = .ok (.isub, 1) := by decide +kernel
theorem dX12_ranked_148 : decode cX12_ranked 148 = .ok (.iaload, 1) := by decide +kernel
theorem dX12_ranked_149 : decode cX12_ranked 149 = .ok (.iastore, 1) := by decide +kernel
theorem dX12_ranked_150 : decode cX12_ranked 150 = .ok (.iinc 7 (-1), 3) := by decide +kernel
theorem dX12_ranked_153 : decode cX12_ranked 153 = .ok (.goto (-54), 3) := by decide +kernel
theorem dX12_ranked_156 : decode cX12_ranked 156 = .ok (.aload_n 0, 1) := by decide +kernel
theorem dX12_ranked_157 : decode cX12_ranked 157 = .ok (.getfield 194, 3) := by decide +kernel
theorem dX12_ranked_160 : decode cX12_ranked 160 = .ok (.iload 7, 2) := by decide +kernel
theorem dX12_ranked_162 : decode cX12_ranked 162 = .ok (.aload_n 0, 1) := by decide +kernel
theorem dX12_ranked_163 : decode cX12_ranked 163 = .ok (.getfield 148, 3) := by decide +kernel
theorem dX12_ranked_166 : decode cX12_ranked 166 = .ok (.iload 5, 2) := by decide +kernel
theorem dX12_ranked_168 : decode cX12_ranked 168 = .ok (.iaload, 1) := by decide +kernel
theorem dX12_ranked_169 : decode cX12_ranked 169 = .ok (.iastore, 1) := by decide +kernel
theorem dX12_ranked_170 : decode cX12_ranked 170 = .ok (.aload_n 0, 1) := by decide +kernel
theorem dX12_ranked_171 : decode cX12_ranked 171 = .ok (.getfield 197, 3) := by decide +kernel
theorem dX12_ranked_174 : decode cX12_ranked 174 = .ok (.iload 7, 2) := by decide +kernel
theorem dX12_ranked_176 : decode cX12_ranked 176 = .ok (.iload 6, 2) := by decide +kernel
theorem dX12_ranked_178 : decode cX12_ranked 178 = .ok (.iastore, 1) := by decide +kernel
theorem dX12_ranked_179 : decode cX12_ranked 179 = .ok (.aload_n 0, 1) := by decide +kernel
theorem dX12_ranked_180 : decode cX12_ranked 180 = .ok (.dup, 1) := by decide +kernel
theorem dX12_ranked_181 : decode cX12_ranked 181 = .ok (.getfield 500, 3) := by decide +kernel
theorem dX12_ranked_184 : decode cX12_ranked 184 = .ok (.iconst 1, 1) := by decide +kernel
theorem dX12_ranked_185 : decode cX12_ranked 185 = .ok (.iadd, 1) := by decide +kernel
theorem dX12_ranked_186 : decode cX12_ranked 186 = .ok (.putfield 500, 3) := by decide +kernel
theorem dX12_ranked_189 : decode cX12_ranked 189 = .ok (.iinc 5 1, 3) := by decide +kernel
theorem dX12_ranked_192 : decode cX12_ranked 192 = .ok (.goto (-156), 3) := by decide +kernel
theorem dX12_ranked_195 : decode cX12_ranked 195 = .ok (.iload 4, 2) := by decide +kernel
theorem dX12_ranked_197 : decode cX12_ranked 197 = .ok (.iconst 0, 1) := by decide +kernel
theorem dX12_ranked_198 : decode cX12_ranked 198 = .ok (.aload_n 0, 1) := by decide +kernel
theorem dX12_ranked_199 : decode cX12_ranked 199 = .ok (.getfield 500, 3) := by decide +kernel
theorem dX12_ranked_202 : decode cX12_ranked 202 = .ok (.iconst 1, 1) := by decide +kernel
theorem dX12_ranked_203 : decode cX12_ranked 203 = .ok (.isub, 1) := by decide +kernel
theorem dX12_ranked_204 : decode cX12_ranked 204 = .ok (.invokestatic 215, 3) := by decide +kernel
theorem dX12_ranked_207 : decode cX12_ranked 207 = .ok (.ifCond .eq 13, 3) := by decide +kernel
theorem dX12_ranked_210 : decode cX12_ranked 210 = .ok (.aload_n 0, 1) := by decide +kernel
theorem dX12_ranked_211 : decode cX12_ranked 211 = .ok (.getfield 194, 3) := by decide +kernel
theorem dX12_ranked_214 : decode cX12_ranked 214 = .ok (.iload 4, 2) := by decide +kernel
theorem dX12_ranked_216 : decode cX12_ranked 216 = .ok (.iaload, 1) := by decide +kernel
theorem dX12_ranked_217 : decode cX12_ranked 217 = .ok (.goto 4, 3) := by decide +kernel
theorem dX12_ranked_220 : decode cX12_ranked 220 = .ok (.iconst (-1), 1) := by decide +kernel
theorem dX12_ranked_221 : decode cX12_ranked 221 = .ok (.ireturn, 1) := by decide +kernel
theorem cd_ranked : Cond.code yX12_ranked cX12_ranked 8 (some .int) ∈ lw_g := mt_at 2340 (by decide +kernel) rfl
section
variable {p : Program} {l : Launch} {e : Env} {R : Room} {s : State} {m : MethodId} {args : Array Value} {below : List Frame} {meth : Method} {c : Code} {cM : ClassId} {iS : Nat → Nat} {cI cZ : ClassId} {mo : Nat} {ad : Nat → Nat} {r : Int32} {S9 : mSt}
noncomputable def fm_ranked_221 (S : mSt) (s0 : Int32) : Option (Int32 × mSt) :=
some (s0, S)
set_option maxRecDepth 100000 in
set_option maxHeartbeats 4000000 in
theorem wm_ranked_221 (C : mY p R s m args meth c cX12_ranked 8 6 142 (some .int)) (X : mX s cM iS cI cZ mo ad) : ∀ {S : mSt} {s0 : Int32} {H : Heap} {locs : List Loc} {ls : Array Slot}, fm_ranked_221 S s0 = some (r, S9) → mW cM iS cI cZ mo ad S H → mS (mA mo ad) s.heap H locs → lv_has ls 8 [] → W p l e R s m args below meth c H locs 0 0 (MQ below (mQw (some (.int r)) cM iS cI cZ mo ad S9) args s 0 0 (mA mo ad)) (F0 m 221 ls [.int s0]) := by
  intro S s0 H locs ls h hW hS hl
  unfold fm_ranked_221 at h
  cases h
  exact m_retiW C hW hS dX12_ranked_221
noncomputable def fm_ranked_189 (g_36 : mSt → Int32 → Int32 → Int32 → Int32 → Int32 → Option (Int32 × mSt)) (S : mSt) (v1 : Int32) (v2 : Int32) (v3 : Int32) (v4 : Int32) (v5 : Int32) : Option (Int32 × mSt) :=
lt (v5 + (1 : Int32)) fun x1 =>
g_36 S v1 v2 v3 v4 x1
set_option maxRecDepth 100000 in
set_option maxHeartbeats 4000000 in
theorem wm_ranked_189 (C : mY p R s m args meth c cX12_ranked 8 6 142 (some .int)) (X : mX s cM iS cI cZ mo ad) {g_36 : mSt → Int32 → Int32 → Int32 → Int32 → Int32 → Option (Int32 × mSt)} (hg_36 : ∀ {S : mSt} {v1 : Int32} {v2 : Int32} {v3 : Int32} {v4 : Int32} {v5 : Int32} {H : Heap} {locs : List Loc} {ls : Array Slot}, g_36 S v1 v2 v3 v4 v5 = some (r, S9) → mW cM iS cI cZ mo ad S H → mS (mA mo ad) s.heap H locs → lv_has ls 8 [(0, .ref mo), (1, .int v1), (2, .int v2), (3, .int v3), (4, .int v4), (5, .int v5)] → W p l e R s m args below meth c H locs 0 0 (MQ below (mQw (some (.int r)) cM iS cI cZ mo ad S9) args s 0 0 (mA mo ad)) (F0 m 36 ls [])) : ∀ {S : mSt} {v1 : Int32} {v2 : Int32} {v3 : Int32} {v4 : Int32} {v5 : Int32} {H : Heap} {locs : List Loc} {ls : Array Slot}, fm_ranked_189 g_36 S v1 v2 v3 v4 v5 = some (r, S9) → mW cM iS cI cZ mo ad S H → mS (mA mo ad) s.heap H locs → lv_has ls 8 [(0, .ref mo), (1, .int v1), (2, .int v2), (3, .int v3), (4, .int v4), (5, .int v5)] → W p l e R s m args below meth c H locs 0 0 (MQ below (mQw (some (.int r)) cM iS cI cZ mo ad S9) args s 0 0 (mA mo ad)) (F0 m 189 ls []) := by
  intro S v1 v2 v3 v4 v5 H locs ls h hW hS hl
  unfold fm_ranked_189 at h
  refine lt_ok h (fun x1 e_x1 h => ?_)
  refine lv_iinc (v := x1) (lv' := [(5, .int x1), (0, .ref mo), (1, .int v1), (2, .int v2), (3, .int v3), (4, .int v4)]) C.1 C.2.1 dX12_ranked_189 hl (k := 5) rfl (by rw [← e_x1]; rfl) (by decide) rfl (fun ls hl => ?_)
  refine lv_goto (tgt := 36) C.1 C.2.1 dX12_ranked_192 (by decide) ?_
  exact hg_36 h hW hS (lv_sub hl [1, 2, 3, 4, 5, 0] rfl)
noncomputable def fm_ranked_156 (g_36 : mSt → Int32 → Int32 → Int32 → Int32 → Int32 → Option (Int32 × mSt)) (S : mSt) (v1 : Int32) (v2 : Int32) (v3 : Int32) (v4 : Int32) (v5 : Int32) (v6 : Int32) (v7 : Int32) : Option (Int32 × mSt) :=
ck v5 48 (
ck v7 48 (lt (wr S 78 v7 (rd S 55 v5)) fun S1 =>
ck v7 48 (lt (wr S1 79 v7 v6) fun S2 =>
lt (pu S2 77 ((S2.1 77) + (1 : Int32))) fun S3 =>
fm_ranked_189 g_36 S3 v1 v2 v3 v4 v5)))
set_option maxRecDepth 100000 in
set_option maxHeartbeats 4000000 in
theorem wm_ranked_156 (C : mY p R s m args meth c cX12_ranked 8 6 142 (some .int)) (X : mX s cM iS cI cZ mo ad) {g_36 : mSt → Int32 → Int32 → Int32 → Int32 → Int32 → Option (Int32 × mSt)} (hg_36 : ∀ {S : mSt} {v1 : Int32} {v2 : Int32} {v3 : Int32} {v4 : Int32} {v5 : Int32} {H : Heap} {locs : List Loc} {ls : Array Slot}, g_36 S v1 v2 v3 v4 v5 = some (r, S9) → mW cM iS cI cZ mo ad S H → mS (mA mo ad) s.heap H locs → lv_has ls 8 [(0, .ref mo), (1, .int v1), (2, .int v2), (3, .int v3), (4, .int v4), (5, .int v5)] → W p l e R s m args below meth c H locs 0 0 (MQ below (mQw (some (.int r)) cM iS cI cZ mo ad S9) args s 0 0 (mA mo ad)) (F0 m 36 ls [])) : ∀ {S : mSt} {v1 : Int32} {v2 : Int32} {v3 : Int32} {v4 : Int32} {v5 : Int32} {v6 : Int32} {v7 : Int32} {H : Heap} {locs : List Loc} {ls : Array Slot}, fm_ranked_156 g_36 S v1 v2 v3 v4 v5 v6 v7 = some (r, S9) → mW cM iS cI cZ mo ad S H → mS (mA mo ad) s.heap H locs → lv_has ls 8 [(0, .ref mo), (1, .int v1), (2, .int v2), (3, .int v3), (4, .int v4), (5, .int v5), (6, .int v6), (7, .int v7)] → W p l e R s m args below meth c H locs 0 0 (MQ below (mQw (some (.int r)) cM iS cI cZ mo ad S9) args s 0 0 (mA mo ad)) (F0 m 156 ls []) := by
  intro S v1 v2 v3 v4 v5 v6 v7 H locs ls h hW hS hl
  unfold fm_ranked_156 at h
  refine lv_aload_n C.1 C.2.1 dX12_ranked_156 rfl (lv_at hl 0 rfl) ?_
  refine gf_78 C X hW dX12_ranked_157 ?_
  refine lv_iload C.1 C.2.1 dX12_ranked_160 (lv_at hl 7 rfl) ?_
  refine lv_aload_n C.1 C.2.1 dX12_ranked_162 rfl (lv_at hl 0 rfl) ?_
  refine gf_55 C X hW dX12_ranked_163 ?_
  refine lv_iload C.1 C.2.1 dX12_ranked_166 (lv_at hl 5 rfl) ?_
  obtain ⟨hin, h⟩ := ck_ok h
  refine l_55 C X hW hin dX12_ranked_168 ?_
  obtain ⟨hin, h⟩ := ck_ok h
  refine s_78 C X hW hS hin dX12_ranked_169 (fun H locs hW hS => ?_)
  refine lt_ok h (fun S1 e_S1 h => ?_)
  rw [e_S1] at hW
  refine lv_aload_n C.1 C.2.1 dX12_ranked_170 rfl (lv_at hl 0 rfl) ?_
  refine gf_79 C X hW dX12_ranked_171 ?_
  refine lv_iload C.1 C.2.1 dX12_ranked_174 (lv_at hl 7 rfl) ?_
  refine lv_iload C.1 C.2.1 dX12_ranked_176 (lv_at hl 6 rfl) ?_
  obtain ⟨hin, h⟩ := ck_ok h
  refine s_79 C X hW hS hin dX12_ranked_178 (fun H locs hW hS => ?_)
  refine lt_ok h (fun S2 e_S2 h => ?_)
  rw [e_S2] at hW
  refine lv_aload_n C.1 C.2.1 dX12_ranked_179 rfl (lv_at hl 0 rfl) ?_
  refine lv_dup C.1 C.2.1 dX12_ranked_180 rfl ?_
  refine gf_77 C X hW dX12_ranked_181 ?_
  refine lv_iconst (v := 1) C.1 C.2.1 dX12_ranked_184 (by decide) ?_
  refine lv_iadd C.1 C.2.1 dX12_ranked_185 ?_
  refine p_77 C X hW hS dX12_ranked_186 (fun H locs hW hS => ?_)
  refine lt_ok h (fun S3 e_S3 h => ?_)
  rw [e_S3] at hW
  exact wm_ranked_189 C X hg_36 h hW hS (lv_sub hl [0, 1, 2, 3, 4, 5] rfl)
noncomputable def fm_ranked_99 (g_36 : mSt → Int32 → Int32 → Int32 → Int32 → Int32 → Option (Int32 × mSt)) : Nat → mSt → Int32 → Int32 → Int32 → Int32 → Int32 → Int32 → Int32 → Option (Int32 × mSt)
  | 0, _, _, _, _, _, _, _, _ => none
  | n + 1, S, v1, v2, v3, v4, v5, v6, v7 =>
    if v7 ≤ 0 then (
    fm_ranked_156 g_36 S v1 v2 v3 v4 v5 v6 v7)
    else (
    ck (v7 - (1 : Int32)) 48 (
    if (rd S 79 (v7 - (1 : Int32))) ≤ v6 then (
    fm_ranked_156 g_36 S v1 v2 v3 v4 v5 v6 v7)
    else (
    ck (v7 - (1 : Int32)) 48 (
    ck v7 48 (lt (wr S 78 v7 (rd S 78 (v7 - (1 : Int32)))) fun S3 =>
    ck (v7 - (1 : Int32)) 48 (
    ck v7 48 (lt (wr S3 79 v7 (rd S3 79 (v7 - (1 : Int32)))) fun S4 =>
    lt (v7 + (-1 : Int32)) fun x5 =>
    fm_ranked_99 g_36 n S4 v1 v2 v3 v4 v5 v6 x5)))))))
set_option maxRecDepth 100000 in
set_option maxHeartbeats 4000000 in
theorem wm_ranked_99 (C : mY p R s m args meth c cX12_ranked 8 6 142 (some .int)) (X : mX s cM iS cI cZ mo ad) {g_36 : mSt → Int32 → Int32 → Int32 → Int32 → Int32 → Option (Int32 × mSt)} (hg_36 : ∀ {S : mSt} {v1 : Int32} {v2 : Int32} {v3 : Int32} {v4 : Int32} {v5 : Int32} {H : Heap} {locs : List Loc} {ls : Array Slot}, g_36 S v1 v2 v3 v4 v5 = some (r, S9) → mW cM iS cI cZ mo ad S H → mS (mA mo ad) s.heap H locs → lv_has ls 8 [(0, .ref mo), (1, .int v1), (2, .int v2), (3, .int v3), (4, .int v4), (5, .int v5)] → W p l e R s m args below meth c H locs 0 0 (MQ below (mQw (some (.int r)) cM iS cI cZ mo ad S9) args s 0 0 (mA mo ad)) (F0 m 36 ls [])) : ∀ (n : Nat), ∀ {S : mSt} {v1 : Int32} {v2 : Int32} {v3 : Int32} {v4 : Int32} {v5 : Int32} {v6 : Int32} {v7 : Int32} {H : Heap} {locs : List Loc} {ls : Array Slot}, fm_ranked_99 g_36 n S v1 v2 v3 v4 v5 v6 v7 = some (r, S9) → mW cM iS cI cZ mo ad S H → mS (mA mo ad) s.heap H locs → lv_has ls 8 [(0, .ref mo), (1, .int v1), (2, .int v2), (3, .int v3), (4, .int v4), (5, .int v5), (6, .int v6), (7, .int v7)] → W p l e R s m args below meth c H locs 0 0 (MQ below (mQw (some (.int r)) cM iS cI cZ mo ad S9) args s 0 0 (mA mo ad)) (F0 m 99 ls []) := by
  intro n
  induction n with
  | zero =>
    intro S v1 v2 v3 v4 v5 v6 v7 H locs ls h hW hS hl
    exact absurd (show (none : Option (Int32 × mSt)) = _ from h) (fun q => by cases q)
  | succ n ih =>
    intro S v1 v2 v3 v4 v5 v6 v7 H locs ls h hW hS hl
    rw [fm_ranked_99] at h
    refine lv_iload C.1 C.2.1 dX12_ranked_99 (lv_at hl 7 rfl) ?_
    refine lv_if_le (tgt := 156) C.1 C.2.1 dX12_ranked_101 (by decide) (fun c1 => ?_) (fun c1 => ?_)
    · have h := if_t h c1
      exact wm_ranked_156 C X hg_36 h hW hS (lv_sub hl [0, 1, 2, 3, 4, 5, 6, 7] rfl)
    · have h := if_f h c1
      refine lv_aload_n C.1 C.2.1 dX12_ranked_104 rfl (lv_at hl 0 rfl) ?_
      refine gf_79 C X hW dX12_ranked_105 ?_
      refine lv_iload C.1 C.2.1 dX12_ranked_108 (lv_at hl 7 rfl) ?_
      refine lv_iconst (v := 1) C.1 C.2.1 dX12_ranked_110 (by decide) ?_
      refine lv_isub C.1 C.2.1 dX12_ranked_111 ?_
      obtain ⟨hin, h⟩ := ck_ok h
      refine l_79 C X hW hin dX12_ranked_112 ?_
      refine lv_iload C.1 C.2.1 dX12_ranked_113 (lv_at hl 6 rfl) ?_
      refine lv_icmp_le (tgt := 156) C.1 C.2.1 dX12_ranked_115 (by decide) (fun c2 => ?_) (fun c2 => ?_)
      · have h := if_t h c2
        exact wm_ranked_156 C X hg_36 h hW hS (lv_sub hl [0, 1, 2, 3, 4, 5, 6, 7] rfl)
      · have h := if_f h c2
        refine lv_aload_n C.1 C.2.1 dX12_ranked_118 rfl (lv_at hl 0 rfl) ?_
        refine gf_78 C X hW dX12_ranked_119 ?_
        refine lv_iload C.1 C.2.1 dX12_ranked_122 (lv_at hl 7 rfl) ?_
        refine lv_aload_n C.1 C.2.1 dX12_ranked_124 rfl (lv_at hl 0 rfl) ?_
        refine gf_78 C X hW dX12_ranked_125 ?_
        refine lv_iload C.1 C.2.1 dX12_ranked_128 (lv_at hl 7 rfl) ?_
        refine lv_iconst (v := 1) C.1 C.2.1 dX12_ranked_130 (by decide) ?_
        refine lv_isub C.1 C.2.1 dX12_ranked_131 ?_
        obtain ⟨hin, h⟩ := ck_ok h
        refine l_78 C X hW hin dX12_ranked_132 ?_
        obtain ⟨hin, h⟩ := ck_ok h
        refine s_78 C X hW hS hin dX12_ranked_133 (fun H locs hW hS => ?_)
        refine lt_ok h (fun S3 e_S3 h => ?_)
        rw [e_S3] at hW
        refine lv_aload_n C.1 C.2.1 dX12_ranked_134 rfl (lv_at hl 0 rfl) ?_
        refine gf_79 C X hW dX12_ranked_135 ?_
        refine lv_iload C.1 C.2.1 dX12_ranked_138 (lv_at hl 7 rfl) ?_
        refine lv_aload_n C.1 C.2.1 dX12_ranked_140 rfl (lv_at hl 0 rfl) ?_
        refine gf_79 C X hW dX12_ranked_141 ?_
        refine lv_iload C.1 C.2.1 dX12_ranked_144 (lv_at hl 7 rfl) ?_
        refine lv_iconst (v := 1) C.1 C.2.1 dX12_ranked_146 (by decide) ?_
        refine lv_isub C.1 C.2.1 dX12_ranked_147 ?_
        obtain ⟨hin, h⟩ := ck_ok h
        refine l_79 C X hW hin dX12_ranked_148 ?_
        obtain ⟨hin, h⟩ := ck_ok h
        refine s_79 C X hW hS hin dX12_ranked_149 (fun H locs hW hS => ?_)
        refine lt_ok h (fun S4 e_S4 h => ?_)
        rw [e_S4] at hW
        refine lt_ok h (fun x5 e_x5 h => ?_)
        refine lv_iinc (v := x5) (lv' := [(7, .int x5), (0, .ref mo), (1, .int v1), (2, .int v2), (3, .int v3), (4, .int v4), (5, .int v5), (6, .int v6)]) C.1 C.2.1 dX12_ranked_150 hl (k := 7) rfl (by rw [← e_x5]; rfl) (by decide) rfl (fun ls hl => ?_)
        refine lv_goto (tgt := 99) C.1 C.2.1 dX12_ranked_153 (by decide) ?_
        exact ih h hW hS (lv_sub hl [1, 2, 3, 4, 5, 6, 7, 0] rfl)
noncomputable def fm_ranked_36 : Nat → mSt → Int32 → Int32 → Int32 → Int32 → Int32 → Option (Int32 × mSt)
  | 0, _, _, _, _, _, _ => none
  | n + 1, S, v1, v2, v3, v4, v5 =>
    if (S.1 54) ≤ v5 then (
    bd (fm_within v4 (0 : Int32) ((S.1 77) - (1 : Int32))) fun r2 =>
    if r2 = 0 then (
    fm_ranked_221 S (-1 : Int32))
    else (
    ck v4 48 (
    fm_ranked_221 S (rd S 78 v4))))
    else (
    ck v5 48 (
    bd (fm_kindOf S (rd S 55 v5)) fun r4 =>
    if r4 = v2 then (
    ck v5 48 (
    bd (fm_isThereNow S v1 (rd S 55 v5)) fun q_r7 => lt q_r7.1 fun r7 => lt q_r7.2 fun S6 =>
    if r7 = 0 then (
    fm_ranked_189 (fm_ranked_36 n) S6 v1 v2 v3 v4 v5)
    else (
    ck v5 48 (
    bd (fm_latestOf S6 v1 (rd S6 55 v5) v3) fun q_r11 => lt q_r11.1 fun r11 => lt q_r11.2 fun S10 =>
    lt (S10.1 77) fun x12 =>
    fm_ranked_99 (fm_ranked_36 n) mFU S10 v1 v2 v3 v4 v5 r11 x12))))
    else (
    fm_ranked_189 (fm_ranked_36 n) S v1 v2 v3 v4 v5)))
set_option maxRecDepth 100000 in
set_option maxHeartbeats 4000000 in
theorem wm_ranked_36 (C : mY p R s m args meth c cX12_ranked 8 6 142 (some .int)) (X : mX s cM iS cI cZ mo ad) : ∀ (n : Nat), ∀ {S : mSt} {v1 : Int32} {v2 : Int32} {v3 : Int32} {v4 : Int32} {v5 : Int32} {H : Heap} {locs : List Loc} {ls : Array Slot}, fm_ranked_36 n S v1 v2 v3 v4 v5 = some (r, S9) → mW cM iS cI cZ mo ad S H → mS (mA mo ad) s.heap H locs → lv_has ls 8 [(0, .ref mo), (1, .int v1), (2, .int v2), (3, .int v3), (4, .int v4), (5, .int v5)] → W p l e R s m args below meth c H locs 0 0 (MQ below (mQw (some (.int r)) cM iS cI cZ mo ad S9) args s 0 0 (mA mo ad)) (F0 m 36 ls []) := by
  intro n
  induction n with
  | zero =>
    intro S v1 v2 v3 v4 v5 H locs ls h hW hS hl
    exact absurd (show (none : Option (Int32 × mSt)) = _ from h) (fun q => by cases q)
  | succ n ih =>
    intro S v1 v2 v3 v4 v5 H locs ls h hW hS hl
    rw [fm_ranked_36] at h
    refine lv_iload C.1 C.2.1 dX12_ranked_36 (lv_at hl 5 rfl) ?_
    refine lv_aload_n C.1 C.2.1 dX12_ranked_38 rfl (lv_at hl 0 rfl) ?_
    refine gf_54 C X hW dX12_ranked_39 ?_
    refine lv_icmp_ge (tgt := 195) C.1 C.2.1 dX12_ranked_42 (by decide) (fun c1 => ?_) (fun c1 => ?_)
    · have h := if_t h c1
      refine lv_iload C.1 C.2.1 dX12_ranked_195 (lv_at hl 4 rfl) ?_
      refine lv_iconst (v := 0) C.1 C.2.1 dX12_ranked_197 (by decide) ?_
      refine lv_aload_n C.1 C.2.1 dX12_ranked_198 rfl (lv_at hl 0 rfl) ?_
      refine gf_77 C X hW dX12_ranked_199 ?_
      refine lv_iconst (v := 1) C.1 C.2.1 dX12_ranked_202 (by decide) ?_
      refine lv_isub C.1 C.2.1 dX12_ranked_203 ?_
      obtain ⟨r2, h_r2, h⟩ := bd_ok h
      refine m_callS (rest := []) C hl.1 [.int v4, .int (0 : Int32), .int ((S.1 77) - (1 : Int32))] (tm_within l h_r2) mw_within st_within rfl ⟨by decide, by decide⟩ rfl (Nat.le_of_ble_eq_true rfl) dX12_ranked_204 ?_
      refine lv_if_eq (tgt := 220) C.1 C.2.1 dX12_ranked_207 (by decide) (fun c3 => ?_) (fun c3 => ?_)
      · have h := if_t h c3
        refine lv_iconst (v := -1) C.1 C.2.1 dX12_ranked_220 (by decide) ?_
        exact wm_ranked_221 C X h hW hS (lv_sub hl [] rfl)
      · have h := if_f h c3
        refine lv_aload_n C.1 C.2.1 dX12_ranked_210 rfl (lv_at hl 0 rfl) ?_
        refine gf_78 C X hW dX12_ranked_211 ?_
        refine lv_iload C.1 C.2.1 dX12_ranked_214 (lv_at hl 4 rfl) ?_
        obtain ⟨hin, h⟩ := ck_ok h
        refine l_78 C X hW hin dX12_ranked_216 ?_
        refine lv_goto (tgt := 221) C.1 C.2.1 dX12_ranked_217 (by decide) ?_
        exact wm_ranked_221 C X h hW hS (lv_sub hl [] rfl)
    · have h := if_f h c1
      refine lv_aload_n C.1 C.2.1 dX12_ranked_45 rfl (lv_at hl 0 rfl) ?_
      refine lv_aload_n C.1 C.2.1 dX12_ranked_46 rfl (lv_at hl 0 rfl) ?_
      refine gf_55 C X hW dX12_ranked_47 ?_
      refine lv_iload C.1 C.2.1 dX12_ranked_50 (lv_at hl 5 rfl) ?_
      obtain ⟨hin, h⟩ := ck_ok h
      refine l_55 C X hW hin dX12_ranked_52 ?_
      obtain ⟨r4, h_r4, h⟩ := bd_ok h
      refine m_callR (rest := []) C X hW hl.1 [.int (rd S 55 v5)] (tm_kindOf l h_r4) mw_kindOf im_kindOf sl_kindOf rfl ⟨by decide, by decide⟩ rfl (Nat.le_of_ble_eq_true rfl) dX12_ranked_53 ?_
      refine lv_iload_n C.1 C.2.1 dX12_ranked_56 rfl (lv_at hl 2 rfl) ?_
      refine lv_icmp_ne (tgt := 189) C.1 C.2.1 dX12_ranked_57 (by decide) (fun c5 => ?_) (fun c5 => ?_)
      · have h := if_f h c5
        exact wm_ranked_189 C X ih h hW hS (lv_sub hl [0, 1, 2, 3, 4, 5] rfl)
      · have h := if_t h c5
        refine lv_aload_n C.1 C.2.1 dX12_ranked_60 rfl (lv_at hl 0 rfl) ?_
        refine lv_iload_n C.1 C.2.1 dX12_ranked_61 rfl (lv_at hl 1 rfl) ?_
        refine lv_aload_n C.1 C.2.1 dX12_ranked_62 rfl (lv_at hl 0 rfl) ?_
        refine gf_55 C X hW dX12_ranked_63 ?_
        refine lv_iload C.1 C.2.1 dX12_ranked_66 (lv_at hl 5 rfl) ?_
        obtain ⟨hin, h⟩ := ck_ok h
        refine l_55 C X hW hin dX12_ranked_68 ?_
        obtain ⟨⟨r7, S6⟩, h_S6, h⟩ := bd_ok h
        replace h := lt2_ok h
        refine m_callW (rest := []) (ov := some (.int r7)) C X hW hS hl.1 [.int v1, .int (rd S 55 v5)] (tm_isThereNow l h_S6) mw_isThereNow im_isThereNow sl_isThereNow rfl ⟨by decide, by decide⟩ rfl (Nat.le_of_ble_eq_true rfl) dX12_ranked_69 (fun H locs hW hS => ?_)
        refine W.eq (g2 := F0 m 72 ls [.int r7]) rfl ?_
        refine lv_if_ne (tgt := 78) C.1 C.2.1 dX12_ranked_72 (by decide) (fun c8 => ?_) (fun c8 => ?_)
        · have h := if_f h c8
          refine lv_aload_n C.1 C.2.1 dX12_ranked_78 rfl (lv_at hl 0 rfl) ?_
          refine lv_iload_n C.1 C.2.1 dX12_ranked_79 rfl (lv_at hl 1 rfl) ?_
          refine lv_aload_n C.1 C.2.1 dX12_ranked_80 rfl (lv_at hl 0 rfl) ?_
          refine gf_55 C X hW dX12_ranked_81 ?_
          refine lv_iload C.1 C.2.1 dX12_ranked_84 (lv_at hl 5 rfl) ?_
          obtain ⟨hin, h⟩ := ck_ok h
          refine l_55 C X hW hin dX12_ranked_86 ?_
          refine lv_iload_n C.1 C.2.1 dX12_ranked_87 rfl (lv_at hl 3 rfl) ?_
          obtain ⟨⟨r11, S10⟩, h_S10, h⟩ := bd_ok h
          replace h := lt2_ok h
          refine m_callW (rest := []) (ov := some (.int r11)) C X hW hS hl.1 [.int v1, .int (rd S6 55 v5), .int v3] (tm_latestOf l h_S10) mw_latestOf im_latestOf sl_latestOf rfl ⟨by decide, by decide⟩ rfl (Nat.le_of_ble_eq_true rfl) dX12_ranked_88 (fun H locs hW hS => ?_)
          refine W.eq (g2 := F0 m 91 ls [.int r11]) rfl ?_
          refine lv_istore (lv' := [(6, .int r11), (0, .ref mo), (1, .int v1), (2, .int v2), (3, .int v3), (4, .int v4), (5, .int v5)]) C.1 C.2.1 dX12_ranked_91 hl (by decide) rfl (fun ls hl => ?_)
          refine lv_aload_n C.1 C.2.1 dX12_ranked_93 rfl (lv_at hl 1 rfl) ?_
          refine gf_77 C X hW dX12_ranked_94 ?_
          refine lt_ok h (fun x12 e_x12 h => ?_)
          refine lv_nm e_x12 ?_
          refine lv_istore (lv' := [(7, .int x12), (6, .int r11), (0, .ref mo), (1, .int v1), (2, .int v2), (3, .int v3), (4, .int v4), (5, .int v5)]) C.1 C.2.1 dX12_ranked_97 hl (by decide) rfl (fun ls hl => ?_)
          exact wm_ranked_99 C X ih mFU h hW hS (lv_sub hl [2, 3, 4, 5, 6, 7, 1, 0] rfl)
        · have h := if_t h c8
          refine lv_goto (tgt := 189) C.1 C.2.1 dX12_ranked_75 (by decide) ?_
          exact wm_ranked_189 C X ih h hW hS (lv_sub hl [0, 1, 2, 3, 4, 5] rfl)
noncomputable def fm_ranked (S : mSt) (v1 : Int32) (v2 : Int32) (v3 : Int32) (v4 : Int32) : Option (Int32 × mSt) :=
lt (pu S 0 (0 : Int32)) fun S1 =>
bd (fm_canBeAsked S1 v1 v2 v3) fun r2 =>
if r2 = 0 then (
some ((-1 : Int32), S1))
else (
ck v1 4 (
bd (fm_findObjects S1 v1 (rd S1 23 v1)) fun S4 =>
lt (pu S4 77 (0 : Int32)) fun S5 =>
fm_ranked_36 mFU S5 v1 v2 v3 v4 (0 : Int32)))
set_option maxRecDepth 100000 in
set_option maxHeartbeats 4000000 in
theorem tm_ranked (l : Launch) {cM : ClassId} {iS : Nat → Nat} {cI cZ : ClassId} {mo : Nat} {ad : Nat → Nat} {S : mSt} {v1 : Int32} {v2 : Int32} {v3 : Int32} {v4 : Int32} {r : Int32} {S9 : mSt} (h : fm_ranked S v1 v2 v3 v4 = some (r, S9)) : Met l yX12_ranked (Cond.code yX12_ranked cX12_ranked 8 (some .int) :: lw_g) { frames := 6, cells := 0, slots := 0, locals := 142 } (mPi [.int v1, .int v2, .int v3, .int v4] cM iS cI cZ mo ad S) (mQw (some (.int r)) cM iS cI cZ mo ad S9) 0 0 (mA mo ad) := by
  refine Met.ofW (cc := cX12_ranked) (maxL := 8) (ret := (some .int)) (by decide) rfl ?_
  intro p e s m args below meth c s₁ B hml hv
  obtain ⟨rfl, hW, X⟩ := hv
  have C : mY p (headSpec (Cond.code yX12_ranked cX12_ranked 8 (some .int) :: lw_g) { frames := 6, cells := 0, slots := 0, locals := 142 }).room s m _ meth c cX12_ranked 8 6 142 (some .int) := ⟨B.exec, B.bytes, hml, findClass_of_methodNamed B.named, fun w hw => atoms_spec (ws := Cond.code yX12_ranked cX12_ranked 8 (some .int) :: lw_g) B.pre w (List.mem_cons_of_mem _ hw), ⟨Nat.le_refl _, Nat.le_refl _⟩, B.returns, B.notSynchronized⟩
  have hl := lv_entry ([.ref mo, .int v1, .int v2, .int v3, .int v4]) (n := 8) (Nat.le_of_ble_eq_true rfl)
  rw [lg_entry_eq]
  generalize (lg_sl ([.ref mo, .int v1, .int v2, .int v3, .int v4]) ++ List.replicate (8 - (lg_sl ([.ref mo, .int v1, .int v2, .int v3, .int v4])).length) Slot.unset).toArray = ls at hl ⊢
  have hl : lv_has ls 8 [(0, .ref mo), (1, .int v1), (2, .int v2), (3, .int v3), (4, .int v4)] := hl
  have hS : mS (mA mo ad) s.heap s.heap [] := mS.rf
  unfold fm_ranked at h
  refine lv_aload_n C.1 C.2.1 dX12_ranked_0 rfl (lv_at hl 0 rfl) ?_
  refine lv_iconst (v := 0) C.1 C.2.1 dX12_ranked_1 (by decide) ?_
  refine p_0 C X hW hS dX12_ranked_2 (fun H locs hW hS => ?_)
  refine lt_ok h (fun S1 e_S1 h => ?_)
  rw [e_S1] at hW
  refine lv_aload_n C.1 C.2.1 dX12_ranked_5 rfl (lv_at hl 0 rfl) ?_
  refine lv_iload_n C.1 C.2.1 dX12_ranked_6 rfl (lv_at hl 1 rfl) ?_
  refine lv_iload_n C.1 C.2.1 dX12_ranked_7 rfl (lv_at hl 2 rfl) ?_
  refine lv_iload_n C.1 C.2.1 dX12_ranked_8 rfl (lv_at hl 3 rfl) ?_
  obtain ⟨r2, h_r2, h⟩ := bd_ok h
  refine m_callR (rest := []) C X hW hl.1 [.int v1, .int v2, .int v3] (tm_canBeAsked l h_r2) mw_canBeAsked im_canBeAsked sl_canBeAsked rfl ⟨by decide, by decide⟩ rfl (Nat.le_of_ble_eq_true rfl) dX12_ranked_9 ?_
  refine lv_if_ne (tgt := 17) C.1 C.2.1 dX12_ranked_12 (by decide) (fun c3 => ?_) (fun c3 => ?_)
  · have h := if_f h c3
    refine lv_aload_n C.1 C.2.1 dX12_ranked_17 rfl (lv_at hl 0 rfl) ?_
    refine lv_iload_n C.1 C.2.1 dX12_ranked_18 rfl (lv_at hl 1 rfl) ?_
    refine lv_aload_n C.1 C.2.1 dX12_ranked_19 rfl (lv_at hl 0 rfl) ?_
    refine gf_23 C X hW dX12_ranked_20 ?_
    refine lv_iload_n C.1 C.2.1 dX12_ranked_23 rfl (lv_at hl 1 rfl) ?_
    obtain ⟨hin, h⟩ := ck_ok h
    refine l_23 C X hW hin dX12_ranked_24 ?_
    obtain ⟨S4, h_S4, h⟩ := bd_ok h
    refine m_callW (rest := []) (ov := none) C X hW hS hl.1 [.int v1, .int (rd S1 23 v1)] (tm_findObjects l h_S4) mw_findObjects im_findObjects sl_findObjects rfl ⟨by decide, by decide⟩ rfl (Nat.le_of_ble_eq_true rfl) dX12_ranked_25 (fun H locs hW hS => ?_)
    refine W.eq (g2 := F0 m 28 ls []) rfl ?_
    refine lv_aload_n C.1 C.2.1 dX12_ranked_28 rfl (lv_at hl 0 rfl) ?_
    refine lv_iconst (v := 0) C.1 C.2.1 dX12_ranked_29 (by decide) ?_
    refine p_77 C X hW hS dX12_ranked_30 (fun H locs hW hS => ?_)
    refine lt_ok h (fun S5 e_S5 h => ?_)
    rw [e_S5] at hW
    refine lv_iconst (v := 0) C.1 C.2.1 dX12_ranked_33 (by decide) ?_
    refine lv_istore (lv' := [(5, .int (0 : Int32)), (0, .ref mo), (1, .int v1), (2, .int v2), (3, .int v3), (4, .int v4)]) C.1 C.2.1 dX12_ranked_34 hl (by decide) rfl (fun ls hl => ?_)
    exact wm_ranked_36 C X mFU h hW hS (lv_sub hl [1, 2, 3, 4, 5, 0] rfl)
  · have h := if_t h c3
    refine lv_iconst (v := -1) C.1 C.2.1 dX12_ranked_15 (by decide) ?_
    cases h
    exact m_retiW C hW hS dX12_ranked_16
end
theorem dX12_past_0 : decode cX12_past 0 = .ok (.aload_n 0, 1) := by decide +kernel
theorem dX12_past_1 : decode cX12_past 1 = .ok (.iconst 1, 1) := by decide +kernel
theorem dX12_past_2 : decode cX12_past 2 = .ok (.putfield 200, 3) := by decide +kernel
theorem dX12_past_5 : decode cX12_past 5 = .ok (.aload_n 0, 1) := by decide +kernel
theorem dX12_past_6 : decode cX12_past 6 = .ok (.iload_n 1, 1) := by decide +kernel
theorem dX12_past_7 : decode cX12_past 7 = .ok (.iload_n 3, 1) := by decide +kernel
theorem dX12_past_8 : decode cX12_past 8 = .ok (.iload 4, 2) := by decide +kernel
theorem dX12_past_10 : decode cX12_past 10 = .ok (.invokevirtual 415, 3) := by decide +kernel
theorem dX12_past_13 : decode cX12_past 13 = .ok (.ifCond .eq 17, 3) := by decide +kernel
theorem dX12_past_16 : decode cX12_past 16 = .ok (.iload_n 2, 1) := by decide +kernel
theorem dX12_past_17 : decode cX12_past 17 = .ok (.iconst 0, 1) := by decide +kernel
theorem dX12_past_18 : decode cX12_past 18 = .ok (.aload_n 0, 1) := by decide +kernel
theorem dX12_past_19 : decode cX12_past 19 = .ok (.getfield 71, 3) := by decide +kernel
theorem dX12_past_22 : decode cX12_past 22 = .ok (.iload_n 1, 1) := by decide +kernel
theorem dX12_past_23 : decode cX12_past 23 = .ok (.iaload, 1) := by decide +kernel
theorem dX12_past_24 : decode cX12_past 24 = .ok (.invokestatic 215, 3) := by decide +kernel
theorem dX12_past_27 : decode cX12_past 27 = .ok (.ifCond .ne 5, 3) := by decide +kernel
theorem dX12_past_30 : decode cX12_past 30 = .ok (.iconst 0, 1) := by decide +kernel
theorem dX12_past_31 : decode cX12_past 31 = .ok (.ireturn, 1) := by decide +kernel
theorem dX12_past_32 : decode cX12_past 32 = .ok (.aload_n 0, 1) := by decide +kernel
theorem dX12_past_33 : decode cX12_past 33 = .ok (.iload_n 3, 1) := by decide +kernel
theorem dX12_past_34 : decode cX12_past 34 = .ok (.iload 4, 2) := by decide +kernel
theorem dX12_past_36 : decode cX12_past 36 = .ok (.invokevirtual 256, 3) := by decide +kernel
theorem dX12_past_39 : decode cX12_past 39 = .ok (.istore 5, 2) := by decide +kernel
theorem dX12_past_41 : decode cX12_past 41 = .ok (.iload 5, 2) := by decide +kernel
theorem dX12_past_43 : decode cX12_past 43 = .ok (.bipush 76, 2) := by decide +kernel
theorem dX12_past_45 : decode cX12_past 45 = .ok (.if_icmp .eq 12, 3) := by decide +kernel
theorem dX12_past_48 : decode cX12_past 48 = .ok (.iload 5, 2) := by decide +kernel
theorem dX12_past_50 : decode cX12_past 50 = .ok (.bipush 67, 2) := by decide +kernel
theorem dX12_past_52 : decode cX12_past 52 = .ok (.if_icmp .eq 5, 3) := by decide +kernel
theorem dX12_past_55 : decode cX12_past 55 = .ok (.iconst 0, 1) := by decide +kernel
theorem dX12_past_56 : decode cX12_past 56 = .ok (.ireturn, 1) := by decide +kernel
theorem dX12_past_57 : decode cX12_past 57 = .ok (.aload_n 0, 1) := by decide +kernel
theorem dX12_past_58 : decode cX12_past 58 = .ok (.iconst 0, 1) := by decide +kernel
theorem dX12_past_59 : decode cX12_past 59 = .ok (.putfield 200, 3) := by decide +kernel
theorem dX12_past_62 : decode cX12_past 62 = .ok (.aload_n 0, 1) := by decide +kernel
theorem dX12_past_63 : decode cX12_past 63 = .ok (.iload_n 1, 1) := by decide +kernel
theorem dX12_past_64 : decode cX12_past 64 = .ok (.iload_n 3, 1) := by decide +kernel
theorem dX12_past_65 : decode cX12_past 65 = .ok (.iload_n 2, 1) := by decide +kernel
theorem dX12_past_66 : decode cX12_past 66 = .ok (.invokevirtual 240, 3) := by decide +kernel
theorem dX12_past_69 : decode cX12_past 69 = .ok (.ifCond .ne 5, 3) := by decide +kernel
theorem dX12_past_72 : decode cX12_past 72 = .ok (.iconst 0, 1) := by decide +kernel
theorem dX12_past_73 : decode cX12_past 73 = .ok (.ireturn, 1) := by decide +kernel
theorem dX12_past_74 : decode cX12_past 74 = .ok (.aload_n 0, 1) := by decide +kernel
theorem dX12_past_75 : decode cX12_past 75 = .ok (.iload_n 1, 1) := by decide +kernel
theorem dX12_past_76 : decode cX12_past 76 = .ok (.iload_n 2, 1) := by decide +kernel
theorem dX12_past_77 : decode cX12_past 77 = .ok (.iload_n 3, 1) := by decide +kernel
theorem dX12_past_78 : decode cX12_past 78 = .ok (.iload 4, 2) := by decide +kernel
theorem dX12_past_80 : decode cX12_past 80 = .ok (.invokevirtual 340, 3) := by decide +kernel
theorem dX12_past_83 : decode cX12_past 83 = .ok (.aload_n 0, 1) := by decide +kernel
theorem dX12_past_84 : decode cX12_past 84 = .ok (.getfield 139, 3) := by decide +kernel
theorem dX12_past_87 : decode cX12_past 87 = .ok (.iconst 0, 1) := by decide +kernel
theorem dX12_past_88 : decode cX12_past 88 = .ok (.iaload, 1) := by decide +kernel
theorem dX12_past_89 : decode cX12_past 89 = .ok (.ireturn, 1) := by decide +kernel
theorem cd_past : Cond.code yX12_past cX12_past 6 (some .int) ∈ lw_g := mt_at 2344 (by decide +kernel) rfl
section
variable {p : Program} {l : Launch} {e : Env} {R : Room} {s : State} {m : MethodId} {args : Array Value} {below : List Frame} {meth : Method} {c : Code} {cM : ClassId} {iS : Nat → Nat} {cI cZ : ClassId} {mo : Nat} {ad : Nat → Nat} {r : Int32} {S9 : mSt}
noncomputable def fm_past_30 (S : mSt) : Option (Int32 × mSt) :=
some ((0 : Int32), S)
set_option maxRecDepth 100000 in
set_option maxHeartbeats 4000000 in
theorem wm_past_30 (C : mY p R s m args meth c cX12_past 6 5 119 (some .int)) (X : mX s cM iS cI cZ mo ad) : ∀ {S : mSt} {H : Heap} {locs : List Loc} {ls : Array Slot}, fm_past_30 S = some (r, S9) → mW cM iS cI cZ mo ad S H → mS (mA mo ad) s.heap H locs → lv_has ls 6 [] → W p l e R s m args below meth c H locs 0 0 (MQ below (mQw (some (.int r)) cM iS cI cZ mo ad S9) args s 0 0 (mA mo ad)) (F0 m 30 ls []) := by
  intro S H locs ls h hW hS hl
  unfold fm_past_30 at h
  refine lv_iconst (v := 0) C.1 C.2.1 dX12_past_30 (by decide) ?_
  cases h
  exact m_retiW C hW hS dX12_past_31
noncomputable def fm_past_57 (S : mSt) (v1 : Int32) (v2 : Int32) (v3 : Int32) (v4 : Int32) : Option (Int32 × mSt) :=
lt (pu S 0 (0 : Int32)) fun S1 =>
bd (fm_isMade S1 v1 v3 v2) fun r2 =>
if r2 = 0 then (
some ((0 : Int32), S1))
else (
bd (fm_look S1 v1 v2 v3 v4) fun S4 =>
ck (0 : Int32) 1000 (
some (rd S4 50 (0 : Int32), S4)))
set_option maxRecDepth 100000 in
set_option maxHeartbeats 4000000 in
theorem wm_past_57 (C : mY p R s m args meth c cX12_past 6 5 119 (some .int)) (X : mX s cM iS cI cZ mo ad) : ∀ {S : mSt} {v1 : Int32} {v2 : Int32} {v3 : Int32} {v4 : Int32} {H : Heap} {locs : List Loc} {ls : Array Slot}, fm_past_57 S v1 v2 v3 v4 = some (r, S9) → mW cM iS cI cZ mo ad S H → mS (mA mo ad) s.heap H locs → lv_has ls 6 [(0, .ref mo), (1, .int v1), (2, .int v2), (3, .int v3), (4, .int v4)] → W p l e R s m args below meth c H locs 0 0 (MQ below (mQw (some (.int r)) cM iS cI cZ mo ad S9) args s 0 0 (mA mo ad)) (F0 m 57 ls []) := by
  intro S v1 v2 v3 v4 H locs ls h hW hS hl
  unfold fm_past_57 at h
  refine lv_aload_n C.1 C.2.1 dX12_past_57 rfl (lv_at hl 0 rfl) ?_
  refine lv_iconst (v := 0) C.1 C.2.1 dX12_past_58 (by decide) ?_
  refine p_0 C X hW hS dX12_past_59 (fun H locs hW hS => ?_)
  refine lt_ok h (fun S1 e_S1 h => ?_)
  rw [e_S1] at hW
  refine lv_aload_n C.1 C.2.1 dX12_past_62 rfl (lv_at hl 0 rfl) ?_
  refine lv_iload_n C.1 C.2.1 dX12_past_63 rfl (lv_at hl 1 rfl) ?_
  refine lv_iload_n C.1 C.2.1 dX12_past_64 rfl (lv_at hl 3 rfl) ?_
  refine lv_iload_n C.1 C.2.1 dX12_past_65 rfl (lv_at hl 2 rfl) ?_
  obtain ⟨r2, h_r2, h⟩ := bd_ok h
  refine m_callR (rest := []) C X hW hl.1 [.int v1, .int v3, .int v2] (tm_isMade l h_r2) mw_isMade im_isMade sl_isMade rfl ⟨by decide, by decide⟩ rfl (Nat.le_of_ble_eq_true rfl) dX12_past_66 ?_
  refine lv_if_ne (tgt := 74) C.1 C.2.1 dX12_past_69 (by decide) (fun c3 => ?_) (fun c3 => ?_)
  · have h := if_f h c3
    refine lv_aload_n C.1 C.2.1 dX12_past_74 rfl (lv_at hl 0 rfl) ?_
    refine lv_iload_n C.1 C.2.1 dX12_past_75 rfl (lv_at hl 1 rfl) ?_
    refine lv_iload_n C.1 C.2.1 dX12_past_76 rfl (lv_at hl 2 rfl) ?_
    refine lv_iload_n C.1 C.2.1 dX12_past_77 rfl (lv_at hl 3 rfl) ?_
    refine lv_iload C.1 C.2.1 dX12_past_78 (lv_at hl 4 rfl) ?_
    obtain ⟨S4, h_S4, h⟩ := bd_ok h
    refine m_callW (rest := []) (ov := none) C X hW hS hl.1 [.int v1, .int v2, .int v3, .int v4] (tm_look l h_S4) mw_look im_look sl_look rfl ⟨by decide, by decide⟩ rfl (Nat.le_of_ble_eq_true rfl) dX12_past_80 (fun H locs hW hS => ?_)
    refine W.eq (g2 := F0 m 83 ls []) rfl ?_
    refine lv_aload_n C.1 C.2.1 dX12_past_83 rfl (lv_at hl 0 rfl) ?_
    refine gf_50 C X hW dX12_past_84 ?_
    refine lv_iconst (v := 0) C.1 C.2.1 dX12_past_87 (by decide) ?_
    obtain ⟨hin, h⟩ := ck_ok h
    refine l_50 C X hW hin dX12_past_88 ?_
    cases h
    exact m_retiW C hW hS dX12_past_89
  · have h := if_t h c3
    refine lv_iconst (v := 0) C.1 C.2.1 dX12_past_72 (by decide) ?_
    cases h
    exact m_retiW C hW hS dX12_past_73
noncomputable def fm_past (S : mSt) (v1 : Int32) (v2 : Int32) (v3 : Int32) (v4 : Int32) : Option (Int32 × mSt) :=
lt (pu S 0 (1 : Int32)) fun S1 =>
bd (fm_hasPart S1 v1 v3 v4) fun r2 =>
if r2 = 0 then (
fm_past_30 S1)
else (
ck v1 4 (
bd (fm_within v2 (0 : Int32) (rd S1 23 v1)) fun r4 =>
if r4 = 0 then (
fm_past_30 S1)
else (
bd (fm_ruleOf S1 v3 v4) fun r6 =>
if r6 = (76 : Int32) then (
fm_past_57 S1 v1 v2 v3 v4)
else (
if r6 = (67 : Int32) then (
fm_past_57 S1 v1 v2 v3 v4)
else (
some ((0 : Int32), S1))))))
set_option maxRecDepth 100000 in
set_option maxHeartbeats 4000000 in
theorem tm_past (l : Launch) {cM : ClassId} {iS : Nat → Nat} {cI cZ : ClassId} {mo : Nat} {ad : Nat → Nat} {S : mSt} {v1 : Int32} {v2 : Int32} {v3 : Int32} {v4 : Int32} {r : Int32} {S9 : mSt} (h : fm_past S v1 v2 v3 v4 = some (r, S9)) : Met l yX12_past (Cond.code yX12_past cX12_past 6 (some .int) :: lw_g) { frames := 5, cells := 0, slots := 0, locals := 119 } (mPi [.int v1, .int v2, .int v3, .int v4] cM iS cI cZ mo ad S) (mQw (some (.int r)) cM iS cI cZ mo ad S9) 0 0 (mA mo ad) := by
  refine Met.ofW (cc := cX12_past) (maxL := 6) (ret := (some .int)) (by decide) rfl ?_
  intro p e s m args below meth c s₁ B hml hv
  obtain ⟨rfl, hW, X⟩ := hv
  have C : mY p (headSpec (Cond.code yX12_past cX12_past 6 (some .int) :: lw_g) { frames := 5, cells := 0, slots := 0, locals := 119 }).room s m _ meth c cX12_past 6 5 119 (some .int) := ⟨B.exec, B.bytes, hml, findClass_of_methodNamed B.named, fun w hw => atoms_spec (ws := Cond.code yX12_past cX12_past 6 (some .int) :: lw_g) B.pre w (List.mem_cons_of_mem _ hw), ⟨Nat.le_refl _, Nat.le_refl _⟩, B.returns, B.notSynchronized⟩
  have hl := lv_entry ([.ref mo, .int v1, .int v2, .int v3, .int v4]) (n := 6) (Nat.le_of_ble_eq_true rfl)
  rw [lg_entry_eq]
  generalize (lg_sl ([.ref mo, .int v1, .int v2, .int v3, .int v4]) ++ List.replicate (6 - (lg_sl ([.ref mo, .int v1, .int v2, .int v3, .int v4])).length) Slot.unset).toArray = ls at hl ⊢
  have hl : lv_has ls 6 [(0, .ref mo), (1, .int v1), (2, .int v2), (3, .int v3), (4, .int v4)] := hl
  have hS : mS (mA mo ad) s.heap s.heap [] := mS.rf
  unfold fm_past at h
  refine lv_aload_n C.1 C.2.1 dX12_past_0 rfl (lv_at hl 0 rfl) ?_
  refine lv_iconst (v := 1) C.1 C.2.1 dX12_past_1 (by decide) ?_
  refine p_0 C X hW hS dX12_past_2 (fun H locs hW hS => ?_)
  refine lt_ok h (fun S1 e_S1 h => ?_)
  rw [e_S1] at hW
  refine lv_aload_n C.1 C.2.1 dX12_past_5 rfl (lv_at hl 0 rfl) ?_
  refine lv_iload_n C.1 C.2.1 dX12_past_6 rfl (lv_at hl 1 rfl) ?_
  refine lv_iload_n C.1 C.2.1 dX12_past_7 rfl (lv_at hl 3 rfl) ?_
  refine lv_iload C.1 C.2.1 dX12_past_8 (lv_at hl 4 rfl) ?_
  obtain ⟨r2, h_r2, h⟩ := bd_ok h
  refine m_callR (rest := []) C X hW hl.1 [.int v1, .int v3, .int v4] (tm_hasPart l h_r2) mw_hasPart im_hasPart sl_hasPart rfl ⟨by decide, by decide⟩ rfl (Nat.le_of_ble_eq_true rfl) dX12_past_10 ?_
  refine lv_if_eq (tgt := 30) C.1 C.2.1 dX12_past_13 (by decide) (fun c3 => ?_) (fun c3 => ?_)
  · have h := if_t h c3
    exact wm_past_30 C X h hW hS (lv_sub hl [] rfl)
  · have h := if_f h c3
    refine lv_iload_n C.1 C.2.1 dX12_past_16 rfl (lv_at hl 2 rfl) ?_
    refine lv_iconst (v := 0) C.1 C.2.1 dX12_past_17 (by decide) ?_
    refine lv_aload_n C.1 C.2.1 dX12_past_18 rfl (lv_at hl 0 rfl) ?_
    refine gf_23 C X hW dX12_past_19 ?_
    refine lv_iload_n C.1 C.2.1 dX12_past_22 rfl (lv_at hl 1 rfl) ?_
    obtain ⟨hin, h⟩ := ck_ok h
    refine l_23 C X hW hin dX12_past_23 ?_
    obtain ⟨r4, h_r4, h⟩ := bd_ok h
    refine m_callS (rest := []) C hl.1 [.int v2, .int (0 : Int32), .int (rd S1 23 v1)] (tm_within l h_r4) mw_within st_within rfl ⟨by decide, by decide⟩ rfl (Nat.le_of_ble_eq_true rfl) dX12_past_24 ?_
    refine lv_if_ne (tgt := 32) C.1 C.2.1 dX12_past_27 (by decide) (fun c5 => ?_) (fun c5 => ?_)
    · have h := if_f h c5
      refine lv_aload_n C.1 C.2.1 dX12_past_32 rfl (lv_at hl 0 rfl) ?_
      refine lv_iload_n C.1 C.2.1 dX12_past_33 rfl (lv_at hl 3 rfl) ?_
      refine lv_iload C.1 C.2.1 dX12_past_34 (lv_at hl 4 rfl) ?_
      obtain ⟨r6, h_r6, h⟩ := bd_ok h
      refine m_callR (rest := []) C X hW hl.1 [.int v3, .int v4] (tm_ruleOf l h_r6) mw_ruleOf im_ruleOf sl_ruleOf rfl ⟨by decide, by decide⟩ rfl (Nat.le_of_ble_eq_true rfl) dX12_past_36 ?_
      refine lv_istore (lv' := [(5, .int r6), (0, .ref mo), (1, .int v1), (2, .int v2), (3, .int v3), (4, .int v4)]) C.1 C.2.1 dX12_past_39 hl (by decide) rfl (fun ls hl => ?_)
      refine lv_iload C.1 C.2.1 dX12_past_41 (lv_at hl 0 rfl) ?_
      refine lv_bipush (v := 76) C.1 C.2.1 dX12_past_43 (by decide) ?_
      refine lv_icmp_eq (tgt := 57) C.1 C.2.1 dX12_past_45 (by decide) (fun c7 => ?_) (fun c7 => ?_)
      · have h := if_t h c7
        exact wm_past_57 C X h hW hS (lv_sub hl [1, 2, 3, 4, 5] rfl)
      · have h := if_f h c7
        refine lv_iload C.1 C.2.1 dX12_past_48 (lv_at hl 0 rfl) ?_
        refine lv_bipush (v := 67) C.1 C.2.1 dX12_past_50 (by decide) ?_
        refine lv_icmp_eq (tgt := 57) C.1 C.2.1 dX12_past_52 (by decide) (fun c8 => ?_) (fun c8 => ?_)
        · have h := if_t h c8
          exact wm_past_57 C X h hW hS (lv_sub hl [1, 2, 3, 4, 5] rfl)
        · have h := if_f h c8
          refine lv_iconst (v := 0) C.1 C.2.1 dX12_past_55 (by decide) ?_
          cases h
          exact m_retiW C hW hS dX12_past_56
    · have h := if_t h c5
      exact wm_past_30 C X h hW hS (lv_sub hl [] rfl)
end
theorem dX12_was_0 : decode cX12_was 0 = .ok (.aload_n 0, 1) := by decide +kernel
theorem dX12_was_1 : decode cX12_was 1 = .ok (.iconst 0, 1) := by decide +kernel
theorem dX12_was_2 : decode cX12_was 2 = .ok (.putfield 200, 3) := by decide +kernel
theorem dX12_was_5 : decode cX12_was 5 = .ok (.aload_n 0, 1) := by decide +kernel
theorem dX12_was_6 : decode cX12_was 6 = .ok (.iload_n 1, 1) := by decide +kernel
theorem dX12_was_7 : decode cX12_was 7 = .ok (.iload_n 3, 1) := by decide +kernel
theorem dX12_was_8 : decode cX12_was 8 = .ok (.iload 4, 2) := by decide +kernel
theorem dX12_was_10 : decode cX12_was 10 = .ok (.invokevirtual 415, 3) := by decide +kernel
theorem dX12_was_13 : decode cX12_was 13 = .ok (.ifCond .eq 29, 3) := by decide +kernel
theorem dX12_was_16 : decode cX12_was 16 = .ok (.iload_n 2, 1) := by decide +kernel
theorem dX12_was_17 : decode cX12_was 17 = .ok (.iconst 0, 1) := by decide +kernel
theorem dX12_was_18 : decode cX12_was 18 = .ok (.aload_n 0, 1) := by decide +kernel
theorem dX12_was_19 : decode cX12_was 19 = .ok (.getfield 71, 3) := by decide +kernel
theorem dX12_was_22 : decode cX12_was 22 = .ok (.iload_n 1, 1) := by decide +kernel
theorem dX12_was_23 : decode cX12_was 23 = .ok (.iaload, 1) := by decide +kernel
theorem dX12_was_24 : decode cX12_was 24 = .ok (.invokestatic 215, 3) := by decide +kernel
theorem dX12_was_27 : decode cX12_was 27 = .ok (.ifCond .eq 15, 3) := by decide +kernel
theorem dX12_was_30 : decode cX12_was 30 = .ok (.aload_n 0, 1) := by decide +kernel
theorem dX12_was_31 : decode cX12_was 31 = .ok (.iload_n 3, 1) := by decide +kernel
theorem dX12_was_32 : decode cX12_was 32 = .ok (.iload 4, 2) := by decide +kernel
theorem dX12_was_34 : decode cX12_was 34 = .ok (.invokevirtual 256, 3) := by decide +kernel
theorem dX12_was_37 : decode cX12_was 37 = .ok (.bipush 84, 2) := by decide +kernel
theorem dX12_was_39 : decode cX12_was 39 = .ok (.if_icmp .eq 5, 3) := by decide +kernel
theorem dX12_was_42 : decode cX12_was 42 = .ok (.iconst (-1), 1) := by decide +kernel
theorem dX12_was_43 : decode cX12_was 43 = .ok (.ireturn, 1) := by decide +kernel
theorem dX12_was_44 : decode cX12_was 44 = .ok (.aload_n 0, 1) := by decide +kernel
theorem dX12_was_45 : decode cX12_was 45 = .ok (.iconst 0, 1) := by decide +kernel
theorem dX12_was_46 : decode cX12_was 46 = .ok (.putfield 253, 3) := by decide +kernel
theorem dX12_was_49 : decode cX12_was 49 = .ok (.aload_n 0, 1) := by decide +kernel
theorem dX12_was_50 : decode cX12_was 50 = .ok (.iload_n 1, 1) := by decide +kernel
theorem dX12_was_51 : decode cX12_was 51 = .ok (.iload_n 3, 1) := by decide +kernel
theorem dX12_was_52 : decode cX12_was 52 = .ok (.iload_n 2, 1) := by decide +kernel
theorem dX12_was_53 : decode cX12_was 53 = .ok (.invokevirtual 240, 3) := by decide +kernel
theorem dX12_was_56 : decode cX12_was 56 = .ok (.ifCond .eq 12, 3) := by decide +kernel
theorem dX12_was_59 : decode cX12_was 59 = .ok (.aload_n 0, 1) := by decide +kernel
theorem dX12_was_60 : decode cX12_was 60 = .ok (.iload_n 1, 1) := by decide +kernel
theorem dX12_was_61 : decode cX12_was 61 = .ok (.iload_n 2, 1) := by decide +kernel
theorem dX12_was_62 : decode cX12_was 62 = .ok (.iload_n 3, 1) := by decide +kernel
theorem dX12_was_63 : decode cX12_was 63 = .ok (.iload 4, 2) := by decide +kernel
theorem dX12_was_65 : decode cX12_was 65 = .ok (.invokevirtual 340, 3) := by decide +kernel
theorem dX12_was_68 : decode cX12_was 68 = .ok (.iload 5, 2) := by decide +kernel
theorem dX12_was_70 : decode cX12_was 70 = .ok (.iconst (-1), 1) := by decide +kernel
theorem dX12_was_71 : decode cX12_was 71 = .ok (.if_icmp .ne 10, 3) := by decide +kernel
theorem dX12_was_74 : decode cX12_was 74 = .ok (.aload_n 0, 1) := by decide +kernel
theorem dX12_was_75 : decode cX12_was 75 = .ok (.getfield 253, 3) := by decide +kernel
theorem dX12_was_78 : decode cX12_was 78 = .ok (.goto 29, 3) := by decide +kernel
theorem dX12_was_81 : decode cX12_was 81 = .ok (.iload 5, 2) := by decide +kernel
theorem dX12_was_83 : decode cX12_was 83 = .ok (.iconst 0, 1) := by decide +kernel
theorem dX12_was_84 : decode cX12_was 84 = .ok (.aload_n 0, 1) := by decide +kernel
theorem dX12_was_85 : decode cX12_was 85 = .ok (.getfield 253, 3) := by decide +kernel
theorem dX12_was_88 : decode cX12_was 88 = .ok (.iconst 1, 1) := by decide +kernel
theorem dX12_was_89 : decode cX12_was 89 = .ok (.isub, 1) := by decide +kernel
theorem dX12_was_90 : decode cX12_was 90 = .ok (.invokestatic 215, 3) := by decide +kernel
theorem dX12_was_93 : decode cX12_was 93 = .ok (.ifCond .eq 13, 3) := by decide +kernel
theorem dX12_was_96 : decode cX12_was 96 = .ok (.aload_n 0, 1) := by decide +kernel
theorem dX12_was_97 : decode cX12_was 97 = .ok (.getfield 139, 3) := by decide +kernel
theorem dX12_was_100 : decode cX12_was 100 = .ok (.iload 5, 2) := by decide +kernel
theorem dX12_was_102 : decode cX12_was 102 = .ok (.iaload, 1) := by decide +kernel
theorem dX12_was_103 : decode cX12_was 103 = .ok (.goto 4, 3) := by decide +kernel
theorem dX12_was_106 : decode cX12_was 106 = .ok (.iconst (-1), 1) := by decide +kernel
theorem dX12_was_107 : decode cX12_was 107 = .ok (.ireturn, 1) := by decide +kernel
theorem cd_was : Cond.code yX12_was cX12_was 6 (some .int) ∈ lw_g := mt_at 2348 (by decide +kernel) rfl
section
variable {p : Program} {l : Launch} {e : Env} {R : Room} {s : State} {m : MethodId} {args : Array Value} {below : List Frame} {meth : Method} {c : Code} {cM : ClassId} {iS : Nat → Nat} {cI cZ : ClassId} {mo : Nat} {ad : Nat → Nat} {r : Int32} {S9 : mSt}
noncomputable def fm_was_42 (S : mSt) : Option (Int32 × mSt) :=
some ((-1 : Int32), S)
set_option maxRecDepth 100000 in
set_option maxHeartbeats 4000000 in
theorem wm_was_42 (C : mY p R s m args meth c cX12_was 6 5 119 (some .int)) (X : mX s cM iS cI cZ mo ad) : ∀ {S : mSt} {H : Heap} {locs : List Loc} {ls : Array Slot}, fm_was_42 S = some (r, S9) → mW cM iS cI cZ mo ad S H → mS (mA mo ad) s.heap H locs → lv_has ls 6 [] → W p l e R s m args below meth c H locs 0 0 (MQ below (mQw (some (.int r)) cM iS cI cZ mo ad S9) args s 0 0 (mA mo ad)) (F0 m 42 ls []) := by
  intro S H locs ls h hW hS hl
  unfold fm_was_42 at h
  refine lv_iconst (v := -1) C.1 C.2.1 dX12_was_42 (by decide) ?_
  cases h
  exact m_retiW C hW hS dX12_was_43
noncomputable def fm_was_107 (S : mSt) (s0 : Int32) : Option (Int32 × mSt) :=
some (s0, S)
set_option maxRecDepth 100000 in
set_option maxHeartbeats 4000000 in
theorem wm_was_107 (C : mY p R s m args meth c cX12_was 6 5 119 (some .int)) (X : mX s cM iS cI cZ mo ad) : ∀ {S : mSt} {s0 : Int32} {H : Heap} {locs : List Loc} {ls : Array Slot}, fm_was_107 S s0 = some (r, S9) → mW cM iS cI cZ mo ad S H → mS (mA mo ad) s.heap H locs → lv_has ls 6 [] → W p l e R s m args below meth c H locs 0 0 (MQ below (mQw (some (.int r)) cM iS cI cZ mo ad S9) args s 0 0 (mA mo ad)) (F0 m 107 ls [.int s0]) := by
  intro S s0 H locs ls h hW hS hl
  unfold fm_was_107 at h
  cases h
  exact m_retiW C hW hS dX12_was_107
noncomputable def fm_was_68 (S : mSt) (v5 : Int32) : Option (Int32 × mSt) :=
if v5 = (-1 : Int32) then (
fm_was_107 S (S.1 49))
else (
bd (fm_within v5 (0 : Int32) ((S.1 49) - (1 : Int32))) fun r2 =>
if r2 = 0 then (
fm_was_107 S (-1 : Int32))
else (
ck v5 1000 (
fm_was_107 S (rd S 50 v5))))
set_option maxRecDepth 100000 in
set_option maxHeartbeats 4000000 in
theorem wm_was_68 (C : mY p R s m args meth c cX12_was 6 5 119 (some .int)) (X : mX s cM iS cI cZ mo ad) : ∀ {S : mSt} {v5 : Int32} {H : Heap} {locs : List Loc} {ls : Array Slot}, fm_was_68 S v5 = some (r, S9) → mW cM iS cI cZ mo ad S H → mS (mA mo ad) s.heap H locs → lv_has ls 6 [(0, .ref mo), (5, .int v5)] → W p l e R s m args below meth c H locs 0 0 (MQ below (mQw (some (.int r)) cM iS cI cZ mo ad S9) args s 0 0 (mA mo ad)) (F0 m 68 ls []) := by
  intro S v5 H locs ls h hW hS hl
  unfold fm_was_68 at h
  refine lv_iload C.1 C.2.1 dX12_was_68 (lv_at hl 1 rfl) ?_
  refine lv_iconst (v := -1) C.1 C.2.1 dX12_was_70 (by decide) ?_
  refine lv_icmp_ne (tgt := 81) C.1 C.2.1 dX12_was_71 (by decide) (fun c1 => ?_) (fun c1 => ?_)
  · have h := if_f h c1
    refine lv_iload C.1 C.2.1 dX12_was_81 (lv_at hl 1 rfl) ?_
    refine lv_iconst (v := 0) C.1 C.2.1 dX12_was_83 (by decide) ?_
    refine lv_aload_n C.1 C.2.1 dX12_was_84 rfl (lv_at hl 0 rfl) ?_
    refine gf_49 C X hW dX12_was_85 ?_
    refine lv_iconst (v := 1) C.1 C.2.1 dX12_was_88 (by decide) ?_
    refine lv_isub C.1 C.2.1 dX12_was_89 ?_
    obtain ⟨r2, h_r2, h⟩ := bd_ok h
    refine m_callS (rest := []) C hl.1 [.int v5, .int (0 : Int32), .int ((S.1 49) - (1 : Int32))] (tm_within l h_r2) mw_within st_within rfl ⟨by decide, by decide⟩ rfl (Nat.le_of_ble_eq_true rfl) dX12_was_90 ?_
    refine lv_if_eq (tgt := 106) C.1 C.2.1 dX12_was_93 (by decide) (fun c3 => ?_) (fun c3 => ?_)
    · have h := if_t h c3
      refine lv_iconst (v := -1) C.1 C.2.1 dX12_was_106 (by decide) ?_
      exact wm_was_107 C X h hW hS (lv_sub hl [] rfl)
    · have h := if_f h c3
      refine lv_aload_n C.1 C.2.1 dX12_was_96 rfl (lv_at hl 0 rfl) ?_
      refine gf_50 C X hW dX12_was_97 ?_
      refine lv_iload C.1 C.2.1 dX12_was_100 (lv_at hl 1 rfl) ?_
      obtain ⟨hin, h⟩ := ck_ok h
      refine l_50 C X hW hin dX12_was_102 ?_
      refine lv_goto (tgt := 107) C.1 C.2.1 dX12_was_103 (by decide) ?_
      exact wm_was_107 C X h hW hS (lv_sub hl [] rfl)
  · have h := if_t h c1
    refine lv_aload_n C.1 C.2.1 dX12_was_74 rfl (lv_at hl 0 rfl) ?_
    refine gf_49 C X hW dX12_was_75 ?_
    refine lv_goto (tgt := 107) C.1 C.2.1 dX12_was_78 (by decide) ?_
    exact wm_was_107 C X h hW hS (lv_sub hl [] rfl)
noncomputable def fm_was (S : mSt) (v1 : Int32) (v2 : Int32) (v3 : Int32) (v4 : Int32) (v5 : Int32) : Option (Int32 × mSt) :=
lt (pu S 0 (0 : Int32)) fun S1 =>
bd (fm_hasPart S1 v1 v3 v4) fun r2 =>
if r2 = 0 then (
fm_was_42 S1)
else (
ck v1 4 (
bd (fm_within v2 (0 : Int32) (rd S1 23 v1)) fun r4 =>
if r4 = 0 then (
fm_was_42 S1)
else (
bd (fm_ruleOf S1 v3 v4) fun r6 =>
if r6 = (84 : Int32) then (
lt (pu S1 49 (0 : Int32)) fun S8 =>
bd (fm_isMade S8 v1 v3 v2) fun r9 =>
if r9 = 0 then (
fm_was_68 S8 v5)
else (
bd (fm_look S8 v1 v2 v3 v4) fun S11 =>
fm_was_68 S11 v5))
else (
fm_was_42 S1))))
set_option maxRecDepth 100000 in
set_option maxHeartbeats 4000000 in
theorem tm_was (l : Launch) {cM : ClassId} {iS : Nat → Nat} {cI cZ : ClassId} {mo : Nat} {ad : Nat → Nat} {S : mSt} {v1 : Int32} {v2 : Int32} {v3 : Int32} {v4 : Int32} {v5 : Int32} {r : Int32} {S9 : mSt} (h : fm_was S v1 v2 v3 v4 v5 = some (r, S9)) : Met l yX12_was (Cond.code yX12_was cX12_was 6 (some .int) :: lw_g) { frames := 5, cells := 0, slots := 0, locals := 119 } (mPi [.int v1, .int v2, .int v3, .int v4, .int v5] cM iS cI cZ mo ad S) (mQw (some (.int r)) cM iS cI cZ mo ad S9) 0 0 (mA mo ad) := by
  refine Met.ofW (cc := cX12_was) (maxL := 6) (ret := (some .int)) (by decide) rfl ?_
  intro p e s m args below meth c s₁ B hml hv
  obtain ⟨rfl, hW, X⟩ := hv
  have C : mY p (headSpec (Cond.code yX12_was cX12_was 6 (some .int) :: lw_g) { frames := 5, cells := 0, slots := 0, locals := 119 }).room s m _ meth c cX12_was 6 5 119 (some .int) := ⟨B.exec, B.bytes, hml, findClass_of_methodNamed B.named, fun w hw => atoms_spec (ws := Cond.code yX12_was cX12_was 6 (some .int) :: lw_g) B.pre w (List.mem_cons_of_mem _ hw), ⟨Nat.le_refl _, Nat.le_refl _⟩, B.returns, B.notSynchronized⟩
  have hl := lv_entry ([.ref mo, .int v1, .int v2, .int v3, .int v4, .int v5]) (n := 6) (Nat.le_of_ble_eq_true rfl)
  rw [lg_entry_eq]
  generalize (lg_sl ([.ref mo, .int v1, .int v2, .int v3, .int v4, .int v5]) ++ List.replicate (6 - (lg_sl ([.ref mo, .int v1, .int v2, .int v3, .int v4, .int v5])).length) Slot.unset).toArray = ls at hl ⊢
  have hl : lv_has ls 6 [(0, .ref mo), (1, .int v1), (2, .int v2), (3, .int v3), (4, .int v4), (5, .int v5)] := hl
  have hS : mS (mA mo ad) s.heap s.heap [] := mS.rf
  unfold fm_was at h
  refine lv_aload_n C.1 C.2.1 dX12_was_0 rfl (lv_at hl 0 rfl) ?_
  refine lv_iconst (v := 0) C.1 C.2.1 dX12_was_1 (by decide) ?_
  refine p_0 C X hW hS dX12_was_2 (fun H locs hW hS => ?_)
  refine lt_ok h (fun S1 e_S1 h => ?_)
  rw [e_S1] at hW
  refine lv_aload_n C.1 C.2.1 dX12_was_5 rfl (lv_at hl 0 rfl) ?_
  refine lv_iload_n C.1 C.2.1 dX12_was_6 rfl (lv_at hl 1 rfl) ?_
  refine lv_iload_n C.1 C.2.1 dX12_was_7 rfl (lv_at hl 3 rfl) ?_
  refine lv_iload C.1 C.2.1 dX12_was_8 (lv_at hl 4 rfl) ?_
  obtain ⟨r2, h_r2, h⟩ := bd_ok h
  refine m_callR (rest := []) C X hW hl.1 [.int v1, .int v3, .int v4] (tm_hasPart l h_r2) mw_hasPart im_hasPart sl_hasPart rfl ⟨by decide, by decide⟩ rfl (Nat.le_of_ble_eq_true rfl) dX12_was_10 ?_
  refine lv_if_eq (tgt := 42) C.1 C.2.1 dX12_was_13 (by decide) (fun c3 => ?_) (fun c3 => ?_)
  · have h := if_t h c3
    exact wm_was_42 C X h hW hS (lv_sub hl [] rfl)
  · have h := if_f h c3
    refine lv_iload_n C.1 C.2.1 dX12_was_16 rfl (lv_at hl 2 rfl) ?_
    refine lv_iconst (v := 0) C.1 C.2.1 dX12_was_17 (by decide) ?_
    refine lv_aload_n C.1 C.2.1 dX12_was_18 rfl (lv_at hl 0 rfl) ?_
    refine gf_23 C X hW dX12_was_19 ?_
    refine lv_iload_n C.1 C.2.1 dX12_was_22 rfl (lv_at hl 1 rfl) ?_
    obtain ⟨hin, h⟩ := ck_ok h
    refine l_23 C X hW hin dX12_was_23 ?_
    obtain ⟨r4, h_r4, h⟩ := bd_ok h
    refine m_callS (rest := []) C hl.1 [.int v2, .int (0 : Int32), .int (rd S1 23 v1)] (tm_within l h_r4) mw_within st_within rfl ⟨by decide, by decide⟩ rfl (Nat.le_of_ble_eq_true rfl) dX12_was_24 ?_
    refine lv_if_eq (tgt := 42) C.1 C.2.1 dX12_was_27 (by decide) (fun c5 => ?_) (fun c5 => ?_)
    · have h := if_t h c5
      exact wm_was_42 C X h hW hS (lv_sub hl [] rfl)
    · have h := if_f h c5
      refine lv_aload_n C.1 C.2.1 dX12_was_30 rfl (lv_at hl 0 rfl) ?_
      refine lv_iload_n C.1 C.2.1 dX12_was_31 rfl (lv_at hl 3 rfl) ?_
      refine lv_iload C.1 C.2.1 dX12_was_32 (lv_at hl 4 rfl) ?_
      obtain ⟨r6, h_r6, h⟩ := bd_ok h
      refine m_callR (rest := []) C X hW hl.1 [.int v3, .int v4] (tm_ruleOf l h_r6) mw_ruleOf im_ruleOf sl_ruleOf rfl ⟨by decide, by decide⟩ rfl (Nat.le_of_ble_eq_true rfl) dX12_was_34 ?_
      refine lv_bipush (v := 84) C.1 C.2.1 dX12_was_37 (by decide) ?_
      refine lv_icmp_eq (tgt := 44) C.1 C.2.1 dX12_was_39 (by decide) (fun c7 => ?_) (fun c7 => ?_)
      · have h := if_t h c7
        refine lv_aload_n C.1 C.2.1 dX12_was_44 rfl (lv_at hl 0 rfl) ?_
        refine lv_iconst (v := 0) C.1 C.2.1 dX12_was_45 (by decide) ?_
        refine p_49 C X hW hS dX12_was_46 (fun H locs hW hS => ?_)
        refine lt_ok h (fun S8 e_S8 h => ?_)
        rw [e_S8] at hW
        refine lv_aload_n C.1 C.2.1 dX12_was_49 rfl (lv_at hl 0 rfl) ?_
        refine lv_iload_n C.1 C.2.1 dX12_was_50 rfl (lv_at hl 1 rfl) ?_
        refine lv_iload_n C.1 C.2.1 dX12_was_51 rfl (lv_at hl 3 rfl) ?_
        refine lv_iload_n C.1 C.2.1 dX12_was_52 rfl (lv_at hl 2 rfl) ?_
        obtain ⟨r9, h_r9, h⟩ := bd_ok h
        refine m_callR (rest := []) C X hW hl.1 [.int v1, .int v3, .int v2] (tm_isMade l h_r9) mw_isMade im_isMade sl_isMade rfl ⟨by decide, by decide⟩ rfl (Nat.le_of_ble_eq_true rfl) dX12_was_53 ?_
        refine lv_if_eq (tgt := 68) C.1 C.2.1 dX12_was_56 (by decide) (fun c10 => ?_) (fun c10 => ?_)
        · have h := if_t h c10
          exact wm_was_68 C X h hW hS (lv_sub hl [0, 5] rfl)
        · have h := if_f h c10
          refine lv_aload_n C.1 C.2.1 dX12_was_59 rfl (lv_at hl 0 rfl) ?_
          refine lv_iload_n C.1 C.2.1 dX12_was_60 rfl (lv_at hl 1 rfl) ?_
          refine lv_iload_n C.1 C.2.1 dX12_was_61 rfl (lv_at hl 2 rfl) ?_
          refine lv_iload_n C.1 C.2.1 dX12_was_62 rfl (lv_at hl 3 rfl) ?_
          refine lv_iload C.1 C.2.1 dX12_was_63 (lv_at hl 4 rfl) ?_
          obtain ⟨S11, h_S11, h⟩ := bd_ok h
          refine m_callW (rest := []) (ov := none) C X hW hS hl.1 [.int v1, .int v2, .int v3, .int v4] (tm_look l h_S11) mw_look im_look sl_look rfl ⟨by decide, by decide⟩ rfl (Nat.le_of_ble_eq_true rfl) dX12_was_65 (fun H locs hW hS => ?_)
          refine W.eq (g2 := F0 m 68 ls []) rfl ?_
          exact wm_was_68 C X h hW hS (lv_sub hl [0, 5] rfl)
      · have h := if_f h c7
        exact wm_was_42 C X h hW hS (lv_sub hl [] rfl)
end
