-- made by wip/whole/gen12.py: 11_count, 11_rankIn, 11_ranked, 11_was, 11_row, 11_frame, 11_news, 11_calm, 11_thereAt
theorem dX11_count_0 : decode cX11_count 0 = .ok (.iload_n 1, 1) := by decide +kernel
theorem dX11_count_1 : decode cX11_count 1 = .ok (.invokestatic 112, 3) := by decide +kernel
theorem dX11_count_4 : decode cX11_count 4 = .ok (.ifCond .eq 17, 3) := by decide +kernel
theorem dX11_count_7 : decode cX11_count 7 = .ok (.aload_n 0, 1) := by decide +kernel
theorem dX11_count_8 : decode cX11_count 8 = .ok (.getfield 12, 3) := by decide +kernel
theorem dX11_count_11 : decode cX11_count 11 = .ok (.iload_n 2, 1) := by decide +kernel
theorem dX11_count_12 : decode cX11_count 12 = .ok (.iload_n 3, 1) := by decide +kernel
theorem dX11_count_13 : decode cX11_count 13 = .ok (.invokevirtual 190, 3) := by decide +kernel
theorem dX11_count_16 : decode cX11_count 16 = .ok (.bipush 76, 2) := by decide +kernel
theorem dX11_count_18 : decode cX11_count 18 = .ok (.if_icmp .eq 5, 3) := by decide +kernel
theorem dX11_count_21 : decode cX11_count 21 = .ok (.iconst (-1), 1) := by decide +kernel
theorem dX11_count_22 : decode cX11_count 22 = .ok (.ireturn, 1) := by decide +kernel
theorem dX11_count_23 : decode cX11_count 23 = .ok (.aload_n 0, 1) := by decide +kernel
theorem dX11_count_24 : decode cX11_count 24 = .ok (.getfield 25, 3) := by decide +kernel
theorem dX11_count_27 : decode cX11_count 27 = .ok (.iload_n 1, 1) := by decide +kernel
theorem dX11_count_28 : decode cX11_count 28 = .ok (.aaload, 1) := by decide +kernel
theorem dX11_count_29 : decode cX11_count 29 = .ok (.getfield 147, 3) := by decide +kernel
theorem dX11_count_32 : decode cX11_count 32 = .ok (.astore 6, 2) := by decide +kernel
theorem dX11_count_34 : decode cX11_count 34 = .ok (.iconst 0, 1) := by decide +kernel
theorem dX11_count_35 : decode cX11_count 35 = .ok (.istore 7, 2) := by decide +kernel
theorem dX11_count_37 : decode cX11_count 37 = .ok (.iconst 0, 1) := by decide +kernel
theorem dX11_count_38 : decode cX11_count 38 = .ok (.istore 8, 2) := by decide +kernel
theorem dX11_count_40 : decode cX11_count 40 = .ok (.iload 8, 2) := by decide +kernel
theorem dX11_count_42 : decode cX11_count 42 = .ok (.bipush 48, 2) := by decide +kernel
theorem dX11_count_44 : decode cX11_count 44 = .ok (.if_icmp .ge 58, 3) := by decide +kernel
theorem dX11_count_47 : decode cX11_count 47 = .ok (.aload 6, 2) := by decide +kernel
theorem dX11_count_49 : decode cX11_count 49 = .ok (.iload 8, 2) := by decide +kernel
theorem dX11_count_51 : decode cX11_count 51 = .ok (.iload_n 2, 1) := by decide +kernel
theorem dX11_count_52 : decode cX11_count 52 = .ok (.invokevirtual 354, 3) := by decide +kernel
theorem dX11_count_55 : decode cX11_count 55 = .ok (.ifCond .eq 41, 3) := by decide +kernel
theorem dX11_count_58 : decode cX11_count 58 = .ok (.aload 6, 2) := by decide +kernel
theorem dX11_count_60 : decode cX11_count 60 = .ok (.iload 8, 2) := by decide +kernel
theorem dX11_count_62 : decode cX11_count 62 = .ok (.bipush 8, 2) := by decide +kernel
theorem dX11_count_64 : decode cX11_count 64 = .ok (.imul, 1) := by decide +kernel
theorem dX11_count_65 : decode cX11_count 65 = .ok (.iload_n 3, 1) := by decide +kernel
theorem dX11_count_66 : decode cX11_count 66 = .ok (.iadd, 1) := by decide +kernel
theorem dX11_count_67 : decode cX11_count 67 = .ok (.invokevirtual 357, 3) := by decide +kernel
theorem dX11_count_70 : decode cX11_count 70 = .ok (.istore 9, 2) := by decide +kernel
theorem dX11_count_72 : decode cX11_count 72 = .ok (.iload 7, 2) := by decide +kernel
theorem dX11_count_74 : decode cX11_count 74 = .ok (.iload 9, 2) := by decide +kernel
theorem dX11_count_76 : decode cX11_count 76 = .ok (.iload 4, 2) := by decide +kernel
theorem dX11_count_78 : decode cX11_count 78 = .ok (.if_icmp .lt 14, 3) := by decide +kernel
theorem dX11_count_81 : decode cX11_count 81 = .ok (.iload 9, 2) := by decide +kernel
theorem dX11_count_83 : decode cX11_count 83 = .ok (.iload 5, 2) := by decide +kernel
theorem dX11_count_85 : decode cX11_count 85 = .ok (.if_icmp .gt 7, 3) := by decide +kernel
theorem dX11_count_88 : decode cX11_count 88 = .ok (.iconst 1, 1) := by decide +kernel
theorem dX11_count_89 : decode cX11_count 89 = .ok (.goto 4, 3) := by decide +kernel
theorem dX11_count_92 : decode cX11_count 92 = .ok (.iconst 0, 1) := by decide +kernel
theorem dX11_count_93 : decode cX11_count 93 = .ok (.iadd, 1) := by decide +kernel
theorem dX11_count_94 : decode cX11_count 94 = .ok (.istore 7, 2) := by decide +kernel
theorem dX11_count_96 : decode cX11_count 96 = .ok (.iinc 8 1, 3) := by decide +kernel
theorem dX11_count_99 : decode cX11_count 99 = .ok (.goto (-59), 3) := by decide +kernel
theorem dX11_count_102 : decode cX11_count 102 = .ok (.iload 7, 2) := by decide +kernel
theorem dX11_count_104 : decode cX11_count 104 = .ok (.ireturn, 1) := by decide +kernel
theorem kd_11_count : Cond.code yX11_count cX11_count 10 (some .int) ∈ lw_g := mt_at 1495 (by decide +kernel) rfl
theorem ki_11_count : Cond.instanceMethod yX11_count ∈ lw_g := mt_at 1493 (by decide +kernel) rfl
theorem kl_11_count : Cond.selects (kRn 11) yX11_count yX11_count ∈ lw_g := mt_at 1494 (by decide +kernel) rfl
theorem cw11_354 : cCw RX11 354 yX10_isThereOf cX10_isThereOf 3 (some .boolean) 2 := ⟨kd_10_isThereOf, mt_at 1496 (by decide +kernel) rfl, mt_at 10 (by decide +kernel) rfl, by decide +kernel⟩
theorem cw11_357 : cCw RX11 357 yX10_latestOf cX10_latestOf 3 (some .int) 1 := ⟨kd_10_latestOf, mt_at 1501 (by decide +kernel) rfl, mt_at 10 (by decide +kernel) rfl, by decide +kernel⟩
section
variable {p : Program} {l : Launch} {e : Env} {R : Room} {s : State} {m : MethodId} {args : Array Value} {below : List Frame} {meth : Method} {c : Code} {D : cG} {S : cSt} {r : Int32}
noncomputable def fk_11_count_21 (S : cSt) : Option (Int32) :=
some (-1 : Int32)
set_option maxRecDepth 100000 in
set_option maxHeartbeats 4000000 in
theorem wk_11_count_21 (C : cY p R s m args meth c RX11 cX11_count 10 4 0 0 87 (some .int)) (X : cX D s) (hW : cW D S s.heap) : ∀ {ls : Array Slot}, fk_11_count_21 S = some r → lv_has ls 10 [] → W p l e R s m args below meth c s.heap [] 0 0 (MQ below (kQ (some (.int r))) args s 0 0 mNo) (F0 m 21 ls []) := by
  intro ls h hl
  unfold fk_11_count_21 at h
  refine lv_iconst (v := -1) C.1 C.2.1 dX11_count_21 (by decide) ?_
  cases h
  exact c_reti C rfl rfl dX11_count_22
noncomputable def fk_11_count_96 (g_40 : Int32 → Int32 → Int32 → Int32 → Nat → Int32 → Int32 → Option (Int32)) (S : cSt) (v2 : Int32) (v3 : Int32) (v4 : Int32) (v5 : Int32) (v6 : Nat) (v7 : Int32) (v8 : Int32) : Option (Int32) :=
lt (v8 + (1 : Int32)) fun x1 =>
g_40 v2 v3 v4 v5 v6 v7 x1
set_option maxRecDepth 100000 in
set_option maxHeartbeats 4000000 in
theorem wk_11_count_96 (C : cY p R s m args meth c RX11 cX11_count 10 4 0 0 87 (some .int)) (X : cX D s) (hW : cW D S s.heap) {g_40 : Int32 → Int32 → Int32 → Int32 → Nat → Int32 → Int32 → Option (Int32)} (hg_40 : ∀ {v2 : Int32} {v3 : Int32} {v4 : Int32} {v5 : Int32} {v6 : Nat} {v7 : Int32} {v8 : Int32} {ls : Array Slot}, g_40 v2 v3 v4 v5 v6 v7 v8 = some r → lv_has ls 10 [(2, .int v2), (3, .int v3), (4, .int v4), (5, .int v5), (6, .ref v6), (7, .int v7), (8, .int v8)] → W p l e R s m args below meth c s.heap [] 0 0 (MQ below (kQ (some (.int r))) args s 0 0 mNo) (F0 m 40 ls [])) : ∀ {v2 : Int32} {v3 : Int32} {v4 : Int32} {v5 : Int32} {v6 : Nat} {v7 : Int32} {v8 : Int32} {ls : Array Slot}, fk_11_count_96 g_40 S v2 v3 v4 v5 v6 v7 v8 = some r → lv_has ls 10 [(2, .int v2), (3, .int v3), (4, .int v4), (5, .int v5), (6, .ref v6), (7, .int v7), (8, .int v8)] → W p l e R s m args below meth c s.heap [] 0 0 (MQ below (kQ (some (.int r))) args s 0 0 mNo) (F0 m 96 ls []) := by
  intro v2 v3 v4 v5 v6 v7 v8 ls h hl
  unfold fk_11_count_96 at h
  refine lt_ok h (fun x1 e_x1 h => ?_)
  refine lv_iinc (v := x1) (lv' := [(8, .int x1), (2, .int v2), (3, .int v3), (4, .int v4), (5, .int v5), (6, .ref v6), (7, .int v7)]) C.1 C.2.1 dX11_count_96 hl (k := 6) rfl (by rw [← e_x1]; rfl) (by decide) rfl (fun ls hl => ?_)
  refine lv_goto (tgt := 40) C.1 C.2.1 dX11_count_99 (by decide) ?_
  exact hg_40 h (lv_sub hl [1, 2, 3, 4, 5, 6, 0] rfl)
noncomputable def fk_11_count_93 (g_40 : Int32 → Int32 → Int32 → Int32 → Nat → Int32 → Int32 → Option (Int32)) (S : cSt) (v2 : Int32) (v3 : Int32) (v4 : Int32) (v5 : Int32) (v6 : Nat) (v8 : Int32) (s0 : Int32) (s1 : Int32) : Option (Int32) :=
lt (s0 + s1) fun x1 =>
fk_11_count_96 g_40 S v2 v3 v4 v5 v6 x1 v8
set_option maxRecDepth 100000 in
set_option maxHeartbeats 4000000 in
theorem wk_11_count_93 (C : cY p R s m args meth c RX11 cX11_count 10 4 0 0 87 (some .int)) (X : cX D s) (hW : cW D S s.heap) {g_40 : Int32 → Int32 → Int32 → Int32 → Nat → Int32 → Int32 → Option (Int32)} (hg_40 : ∀ {v2 : Int32} {v3 : Int32} {v4 : Int32} {v5 : Int32} {v6 : Nat} {v7 : Int32} {v8 : Int32} {ls : Array Slot}, g_40 v2 v3 v4 v5 v6 v7 v8 = some r → lv_has ls 10 [(2, .int v2), (3, .int v3), (4, .int v4), (5, .int v5), (6, .ref v6), (7, .int v7), (8, .int v8)] → W p l e R s m args below meth c s.heap [] 0 0 (MQ below (kQ (some (.int r))) args s 0 0 mNo) (F0 m 40 ls [])) : ∀ {v2 : Int32} {v3 : Int32} {v4 : Int32} {v5 : Int32} {v6 : Nat} {v8 : Int32} {s0 : Int32} {s1 : Int32} {ls : Array Slot}, fk_11_count_93 g_40 S v2 v3 v4 v5 v6 v8 s0 s1 = some r → lv_has ls 10 [(2, .int v2), (3, .int v3), (4, .int v4), (5, .int v5), (6, .ref v6), (8, .int v8)] → W p l e R s m args below meth c s.heap [] 0 0 (MQ below (kQ (some (.int r))) args s 0 0 mNo) (F0 m 93 ls [.int s1, .int s0]) := by
  intro v2 v3 v4 v5 v6 v8 s0 s1 ls h hl
  unfold fk_11_count_93 at h
  refine lv_iadd C.1 C.2.1 dX11_count_93 ?_
  refine lt_ok h (fun x1 e_x1 h => ?_)
  refine lv_nm e_x1 ?_
  refine lv_istore (lv' := [(7, .int x1), (2, .int v2), (3, .int v3), (4, .int v4), (5, .int v5), (6, .ref v6), (8, .int v8)]) C.1 C.2.1 dX11_count_94 hl (by decide) rfl (fun ls hl => ?_)
  exact wk_11_count_96 C X hW hg_40 h (lv_sub hl [1, 2, 3, 4, 5, 0, 6] rfl)
noncomputable def fk_11_count_92 (g_40 : Int32 → Int32 → Int32 → Int32 → Nat → Int32 → Int32 → Option (Int32)) (S : cSt) (v2 : Int32) (v3 : Int32) (v4 : Int32) (v5 : Int32) (v6 : Nat) (v8 : Int32) (s0 : Int32) : Option (Int32) :=
fk_11_count_93 g_40 S v2 v3 v4 v5 v6 v8 s0 (0 : Int32)
set_option maxRecDepth 100000 in
set_option maxHeartbeats 4000000 in
theorem wk_11_count_92 (C : cY p R s m args meth c RX11 cX11_count 10 4 0 0 87 (some .int)) (X : cX D s) (hW : cW D S s.heap) {g_40 : Int32 → Int32 → Int32 → Int32 → Nat → Int32 → Int32 → Option (Int32)} (hg_40 : ∀ {v2 : Int32} {v3 : Int32} {v4 : Int32} {v5 : Int32} {v6 : Nat} {v7 : Int32} {v8 : Int32} {ls : Array Slot}, g_40 v2 v3 v4 v5 v6 v7 v8 = some r → lv_has ls 10 [(2, .int v2), (3, .int v3), (4, .int v4), (5, .int v5), (6, .ref v6), (7, .int v7), (8, .int v8)] → W p l e R s m args below meth c s.heap [] 0 0 (MQ below (kQ (some (.int r))) args s 0 0 mNo) (F0 m 40 ls [])) : ∀ {v2 : Int32} {v3 : Int32} {v4 : Int32} {v5 : Int32} {v6 : Nat} {v8 : Int32} {s0 : Int32} {ls : Array Slot}, fk_11_count_92 g_40 S v2 v3 v4 v5 v6 v8 s0 = some r → lv_has ls 10 [(2, .int v2), (3, .int v3), (4, .int v4), (5, .int v5), (6, .ref v6), (8, .int v8)] → W p l e R s m args below meth c s.heap [] 0 0 (MQ below (kQ (some (.int r))) args s 0 0 mNo) (F0 m 92 ls [.int s0]) := by
  intro v2 v3 v4 v5 v6 v8 s0 ls h hl
  unfold fk_11_count_92 at h
  refine lv_iconst (v := 0) C.1 C.2.1 dX11_count_92 (by decide) ?_
  exact wk_11_count_93 C X hW hg_40 h (lv_sub hl [0, 1, 2, 3, 4, 5] rfl)
noncomputable def fk_11_count_40 (S : cSt) : Nat → Int32 → Int32 → Int32 → Int32 → Nat → Int32 → Int32 → Option (Int32)
  | 0, _, _, _, _, _, _, _ => none
  | n + 1, v2, v3, v4, v5, v6, v7, v8 =>
    if (48 : Int32) ≤ v8 then (
    some v7)
    else (
    ckk S v6 11 (bd (fk_10_isThereOf S v6 v8 v2) fun r2 =>
    if r2 = 0 then (
    fk_11_count_96 (fk_11_count_40 S n) S v2 v3 v4 v5 v6 v7 v8)
    else (
    ckk S v6 11 (bd (fk_10_latestOf S v6 ((v8 * (8 : Int32)) + v3)) fun r4 =>
    if r4 < v4 then (
    fk_11_count_92 (fk_11_count_40 S n) S v2 v3 v4 v5 v6 v8 v7)
    else (
    if v5 < r4 then (
    fk_11_count_92 (fk_11_count_40 S n) S v2 v3 v4 v5 v6 v8 v7)
    else (
    fk_11_count_93 (fk_11_count_40 S n) S v2 v3 v4 v5 v6 v8 v7 (1 : Int32)))))))
set_option maxRecDepth 100000 in
set_option maxHeartbeats 4000000 in
theorem wk_11_count_40 (C : cY p R s m args meth c RX11 cX11_count 10 4 0 0 87 (some .int)) (X : cX D s) (hW : cW D S s.heap) : ∀ (n : Nat), ∀ {v2 : Int32} {v3 : Int32} {v4 : Int32} {v5 : Int32} {v6 : Nat} {v7 : Int32} {v8 : Int32} {ls : Array Slot}, fk_11_count_40 S n v2 v3 v4 v5 v6 v7 v8 = some r → lv_has ls 10 [(2, .int v2), (3, .int v3), (4, .int v4), (5, .int v5), (6, .ref v6), (7, .int v7), (8, .int v8)] → W p l e R s m args below meth c s.heap [] 0 0 (MQ below (kQ (some (.int r))) args s 0 0 mNo) (F0 m 40 ls []) := by
  intro n
  induction n with
  | zero =>
    intro v2 v3 v4 v5 v6 v7 v8 ls h hl
    exact absurd (show (none : Option (Int32)) = _ from h) (fun q => by cases q)
  | succ n ih =>
    intro v2 v3 v4 v5 v6 v7 v8 ls h hl
    rw [fk_11_count_40] at h
    refine lv_iload C.1 C.2.1 dX11_count_40 (lv_at hl 6 rfl) ?_
    refine lv_bipush (v := 48) C.1 C.2.1 dX11_count_42 (by decide) ?_
    refine lv_icmp_ge (tgt := 102) C.1 C.2.1 dX11_count_44 (by decide) (fun c1 => ?_) (fun c1 => ?_)
    · have h := if_t h c1
      refine lv_iload C.1 C.2.1 dX11_count_102 (lv_at hl 5 rfl) ?_
      cases h
      exact c_reti C rfl rfl dX11_count_104
    · have h := if_f h c1
      refine lv_aload C.1 C.2.1 dX11_count_47 (lv_at hl 4 rfl) ?_
      refine lv_iload C.1 C.2.1 dX11_count_49 (lv_at hl 6 rfl) ?_
      refine lv_iload_n C.1 C.2.1 dX11_count_51 rfl (lv_at hl 0 rfl) ?_
      obtain ⟨hk, h⟩ := ckk_ok h
      obtain ⟨r2, h_r2, h⟩ := bd_ok h
      refine c_callR (rest := []) C X hW hl.1 10 (by decide) hk [.int v8, .int v2] (tk_10_isThereOf l h_r2) cw11_354 ki_10_isThereOf kl_10_isThereOf rfl ⟨by decide, by decide⟩ ⟨(by decide), (by decide)⟩ rfl (Nat.le_of_ble_eq_true rfl) dX11_count_52 ?_
      refine W.eq (g2 := F0 m 55 ls [.int r2]) rfl ?_
      refine lv_if_eq (tgt := 96) C.1 C.2.1 dX11_count_55 (by decide) (fun c3 => ?_) (fun c3 => ?_)
      · have h := if_t h c3
        exact wk_11_count_96 C X hW ih h (lv_sub hl [0, 1, 2, 3, 4, 5, 6] rfl)
      · have h := if_f h c3
        refine lv_aload C.1 C.2.1 dX11_count_58 (lv_at hl 4 rfl) ?_
        refine lv_iload C.1 C.2.1 dX11_count_60 (lv_at hl 6 rfl) ?_
        refine lv_bipush (v := 8) C.1 C.2.1 dX11_count_62 (by decide) ?_
        refine lv_imul C.1 C.2.1 dX11_count_64 ?_
        refine lv_iload_n C.1 C.2.1 dX11_count_65 rfl (lv_at hl 1 rfl) ?_
        refine lv_iadd C.1 C.2.1 dX11_count_66 ?_
        obtain ⟨hk, h⟩ := ckk_ok h
        obtain ⟨r4, h_r4, h⟩ := bd_ok h
        refine c_callR (rest := []) C X hW hl.1 10 (by decide) hk [.int ((v8 * (8 : Int32)) + v3)] (tk_10_latestOf l h_r4) cw11_357 ki_10_latestOf kl_10_latestOf rfl ⟨by decide, by decide⟩ ⟨(by decide), (by decide)⟩ rfl (Nat.le_of_ble_eq_true rfl) dX11_count_67 ?_
        refine W.eq (g2 := F0 m 70 ls [.int r4]) rfl ?_
        refine lv_istore (lv' := [(9, .int r4), (2, .int v2), (3, .int v3), (4, .int v4), (5, .int v5), (6, .ref v6), (7, .int v7), (8, .int v8)]) C.1 C.2.1 dX11_count_70 hl (by decide) rfl (fun ls hl => ?_)
        refine lv_iload C.1 C.2.1 dX11_count_72 (lv_at hl 6 rfl) ?_
        refine lv_iload C.1 C.2.1 dX11_count_74 (lv_at hl 0 rfl) ?_
        refine lv_iload C.1 C.2.1 dX11_count_76 (lv_at hl 3 rfl) ?_
        refine lv_icmp_lt (tgt := 92) C.1 C.2.1 dX11_count_78 (by decide) (fun c5 => ?_) (fun c5 => ?_)
        · have h := if_t h c5
          exact wk_11_count_92 C X hW ih h (lv_sub hl [1, 2, 3, 4, 5, 7] rfl)
        · have h := if_f h c5
          refine lv_iload C.1 C.2.1 dX11_count_81 (lv_at hl 0 rfl) ?_
          refine lv_iload C.1 C.2.1 dX11_count_83 (lv_at hl 4 rfl) ?_
          refine lv_icmp_gt (tgt := 92) C.1 C.2.1 dX11_count_85 (by decide) (fun c6 => ?_) (fun c6 => ?_)
          · have h := if_t h c6
            exact wk_11_count_92 C X hW ih h (lv_sub hl [1, 2, 3, 4, 5, 7] rfl)
          · have h := if_f h c6
            refine lv_iconst (v := 1) C.1 C.2.1 dX11_count_88 (by decide) ?_
            refine lv_goto (tgt := 93) C.1 C.2.1 dX11_count_89 (by decide) ?_
            exact wk_11_count_93 C X hW ih h (lv_sub hl [1, 2, 3, 4, 5, 7] rfl)
noncomputable def fk_11_count (S : cSt) (v0 : Nat) (v1 : Int32) (v2 : Int32) (v3 : Int32) (v4 : Int32) (v5 : Int32) : Option (Int32) :=
bd (fk_11_isNode v1) fun r1 =>
if r1 = 0 then (
fk_11_count_21 S)
else (
ckk S v0 12 (bd (kR S v0 0) fun a3 =>
ckk S a3 4 (bd (fk_3_ruleOf S a3 v2 v3) fun r4 =>
if r4 = (76 : Int32) then (
ckk S v0 12 (bd (kR S v0 2) fun a6 =>
ckk S a6 31 (ck v1 (kL S a6) (lt (kO S a6 (Int32.toNatClampNeg v1)) fun o7 =>
bd o7 fun a8 =>
ckk S a8 8 (bd (kR S a8 2) fun a9 =>
fk_11_count_40 S mFU v2 v3 v4 v5 a9 (0 : Int32) (0 : Int32))))))
else (
fk_11_count_21 S))))
set_option maxRecDepth 100000 in
set_option maxHeartbeats 4000000 in
theorem tk_11_count (l : Launch) {D : cG} {S : cSt} {v0 : Nat} {v1 : Int32} {v2 : Int32} {v3 : Int32} {v4 : Int32} {v5 : Int32} {r : Int32}  (h : fk_11_count S v0 v1 v2 v3 v4 v5 = some r) : Met l yX11_count (Cond.code yX11_count cX11_count 10 (some .int) :: lw_g) { frames := 4, cells := 0, slots := 0, locals := 87 } (kPi [.ref v0, .int v1, .int v2, .int v3, .int v4, .int v5] D S) (kQ (some (.int r))) 0 0 (mNo) := by
  refine Met.ofW (cc := cX11_count) (maxL := 10) (ret := (some .int)) (by decide) rfl ?_
  intro p e s m args below meth c s₁ B hml hv
  obtain ⟨rfl, hW, X⟩ := hv
  have C : cY p (headSpec (Cond.code yX11_count cX11_count 10 (some .int) :: lw_g) { frames := 4, cells := 0, slots := 0, locals := 87 }).room s m _ meth c RX11 cX11_count 10 4 0 0 87 (some .int) := ⟨B.exec, B.bytes, hml, findClass_of_methodNamed B.named, fun w hw => atoms_spec (ws := Cond.code yX11_count cX11_count 10 (some .int) :: lw_g) B.pre w (List.mem_cons_of_mem _ hw), ⟨Nat.le_refl _, Nat.le_refl _, Nat.le_refl _, Nat.le_refl _⟩, B.returns, B.notSynchronized⟩
  have hl := lv_entry ([.ref v0, .int v1, .int v2, .int v3, .int v4, .int v5]) (n := 10) (Nat.le_of_ble_eq_true rfl)
  rw [lg_entry_eq]
  generalize (lg_sl ([.ref v0, .int v1, .int v2, .int v3, .int v4, .int v5]) ++ List.replicate (10 - (lg_sl ([.ref v0, .int v1, .int v2, .int v3, .int v4, .int v5])).length) Slot.unset).toArray = ls at hl ⊢
  have hl : lv_has ls 10 [(0, .ref v0), (1, .int v1), (2, .int v2), (3, .int v3), (4, .int v4), (5, .int v5)] := hl
  unfold fk_11_count at h
  refine lv_iload_n C.1 C.2.1 dX11_count_0 rfl (lv_at hl 1 rfl) ?_
  obtain ⟨r1, h_r1, h⟩ := bd_ok h
  refine c_callS (rest := []) C hl.1 [.int v1] (tk_11_isNode l h_r1) cw11_112 ks_11_isNode rfl ⟨by decide, by decide⟩ ⟨(by decide), (by decide)⟩ rfl (Nat.le_of_ble_eq_true rfl) dX11_count_1 ?_
  refine W.eq (g2 := F0 m 4 ls [.int r1]) rfl ?_
  refine lv_if_eq (tgt := 21) C.1 C.2.1 dX11_count_4 (by decide) (fun c2 => ?_) (fun c2 => ?_)
  · have h := if_t h c2
    exact wk_11_count_21 C X hW h (lv_sub hl [] rfl)
  · have h := if_f h c2
    refine lv_aload_n C.1 C.2.1 dX11_count_7 rfl (lv_at hl 0 rfl) ?_
    obtain ⟨hk, h⟩ := ckk_ok h
    obtain ⟨a3, h_a3, h⟩ := bd_ok h
    refine gk11_12 C X hW hk h_a3 dX11_count_8 ?_
    refine lv_iload_n C.1 C.2.1 dX11_count_11 rfl (lv_at hl 2 rfl) ?_
    refine lv_iload_n C.1 C.2.1 dX11_count_12 rfl (lv_at hl 3 rfl) ?_
    obtain ⟨hk, h⟩ := ckk_ok h
    obtain ⟨r4, h_r4, h⟩ := bd_ok h
    refine c_callR (rest := []) C X hW hl.1 3 (by decide) hk [.int v2, .int v3] (tk_3_ruleOf l h_r4) cw11_190 ki_3_ruleOf kl_3_ruleOf rfl ⟨by decide, by decide⟩ ⟨(by decide), (by decide)⟩ rfl (Nat.le_of_ble_eq_true rfl) dX11_count_13 ?_
    refine W.eq (g2 := F0 m 16 ls [.int r4]) rfl ?_
    refine lv_bipush (v := 76) C.1 C.2.1 dX11_count_16 (by decide) ?_
    refine lv_icmp_eq (tgt := 23) C.1 C.2.1 dX11_count_18 (by decide) (fun c5 => ?_) (fun c5 => ?_)
    · have h := if_t h c5
      refine lv_aload_n C.1 C.2.1 dX11_count_23 rfl (lv_at hl 0 rfl) ?_
      obtain ⟨hk, h⟩ := ckk_ok h
      obtain ⟨a6, h_a6, h⟩ := bd_ok h
      refine gk11_25 C X hW hk h_a6 dX11_count_24 ?_
      refine lv_iload_n C.1 C.2.1 dX11_count_27 rfl (lv_at hl 1 rfl) ?_
      obtain ⟨hk, h⟩ := ckk_ok h
      obtain ⟨hin2, h⟩ := ck_ok h
      refine c_aald C 31 (by decide) X.2.2.2.2.2.1 hW hk hin2 dX11_count_28 ?_
      refine lt_ok h (fun o7 e_o7 h => ?_)
      refine lv_nmq e_o7 ?_
      obtain ⟨a8, e_a8, h⟩ := bd_ok h
      revert h; subst e_a8; intro h
      obtain ⟨hk, h⟩ := ckk_ok h
      obtain ⟨a9, h_a9, h⟩ := bd_ok h
      refine gk11_147 C X hW hk h_a9 dX11_count_29 ?_
      refine lv_astore (lv' := [(6, .ref a9), (0, .ref v0), (1, .int v1), (2, .int v2), (3, .int v3), (4, .int v4), (5, .int v5)]) C.1 C.2.1 dX11_count_32 hl (by decide) rfl (fun ls hl => ?_)
      refine lv_iconst (v := 0) C.1 C.2.1 dX11_count_34 (by decide) ?_
      refine lv_istore (lv' := [(7, .int (0 : Int32)), (6, .ref a9), (0, .ref v0), (1, .int v1), (2, .int v2), (3, .int v3), (4, .int v4), (5, .int v5)]) C.1 C.2.1 dX11_count_35 hl (by decide) rfl (fun ls hl => ?_)
      refine lv_iconst (v := 0) C.1 C.2.1 dX11_count_37 (by decide) ?_
      refine lv_istore (lv' := [(8, .int (0 : Int32)), (7, .int (0 : Int32)), (6, .ref a9), (0, .ref v0), (1, .int v1), (2, .int v2), (3, .int v3), (4, .int v4), (5, .int v5)]) C.1 C.2.1 dX11_count_38 hl (by decide) rfl (fun ls hl => ?_)
      exact wk_11_count_40 C X hW mFU h (lv_sub hl [5, 6, 7, 8, 2, 1, 0] rfl)
    · have h := if_f h c5
      exact wk_11_count_21 C X hW h (lv_sub hl [] rfl)
end
theorem dX11_rankIn_0 : decode cX11_rankIn 0 = .ok (.aload_n 1, 1) := by decide +kernel
theorem dX11_rankIn_1 : decode cX11_rankIn 1 = .ok (.iload_n 3, 1) := by decide +kernel
theorem dX11_rankIn_2 : decode cX11_rankIn 2 = .ok (.bipush 8, 2) := by decide +kernel
theorem dX11_rankIn_4 : decode cX11_rankIn 4 = .ok (.imul, 1) := by decide +kernel
theorem dX11_rankIn_5 : decode cX11_rankIn 5 = .ok (.iload 4, 2) := by decide +kernel
theorem dX11_rankIn_7 : decode cX11_rankIn 7 = .ok (.iadd, 1) := by decide +kernel
theorem dX11_rankIn_8 : decode cX11_rankIn 8 = .ok (.invokevirtual 357, 3) := by decide +kernel
theorem dX11_rankIn_11 : decode cX11_rankIn 11 = .ok (.istore 5, 2) := by decide +kernel
theorem dX11_rankIn_13 : decode cX11_rankIn 13 = .ok (.iload_n 2, 1) := by decide +kernel
theorem dX11_rankIn_14 : decode cX11_rankIn 14 = .ok (.istore 6, 2) := by decide +kernel
theorem dX11_rankIn_16 : decode cX11_rankIn 16 = .ok (.iload 6, 2) := by decide +kernel
theorem dX11_rankIn_18 : decode cX11_rankIn 18 = .ok (.ifCond .le 49, 3) := by decide +kernel
theorem dX11_rankIn_21 : decode cX11_rankIn 21 = .ok (.aload_n 0, 1) := by decide +kernel
theorem dX11_rankIn_22 : decode cX11_rankIn 22 = .ok (.getfield 52, 3) := by decide +kernel
theorem dX11_rankIn_25 : decode cX11_rankIn 25 = .ok (.iload 6, 2) := by decide +kernel
theorem dX11_rankIn_27 : decode cX11_rankIn 27 = .ok (.iconst 1, 1) := by decide +kernel
theorem dX11_rankIn_28 : decode cX11_rankIn 28 = .ok (.isub, 1) := by decide +kernel
theorem dX11_rankIn_29 : decode cX11_rankIn 29 = .ok (.iaload, 1) := by decide +kernel
theorem dX11_rankIn_30 : decode cX11_rankIn 30 = .ok (.istore 7, 2) := by decide +kernel
theorem dX11_rankIn_32 : decode cX11_rankIn 32 = .ok (.aload_n 1, 1) := by decide +kernel
theorem dX11_rankIn_33 : decode cX11_rankIn 33 = .ok (.iload 7, 2) := by decide +kernel
theorem dX11_rankIn_35 : decode cX11_rankIn 35 = .ok (.bipush 8, 2) := by decide +kernel
theorem dX11_rankIn_37 : decode cX11_rankIn 37 = .ok (.imul, 1) := by decide +kernel
theorem dX11_rankIn_38 : decode cX11_rankIn 38 = .ok (.iload 4, 2) := by decide +kernel
theorem dX11_rankIn_40 : decode cX11_rankIn 40 = .ok (.iadd, 1) := by decide +kernel
theorem dX11_rankIn_41 : decode cX11_rankIn 41 = .ok (.invokevirtual 357, 3) := by decide +kernel
theorem dX11_rankIn_44 : decode cX11_rankIn 44 = .ok (.iload 5, 2) := by decide +kernel
theorem dX11_rankIn_46 : decode cX11_rankIn 46 = .ok (.if_icmp .gt 6, 3) := by decide +kernel
theorem dX11_rankIn_49 : decode cX11_rankIn 49 = .ok (.goto 18, 3) := by decide +kernel
theorem dX11_rankIn_52 : decode cX11_rankIn 52 = .ok (.aload_n 0, 1) := by decide +kernel
theorem dX11_rankIn_53 : decode cX11_rankIn 53 = .ok (.getfield 52, 3) := by decide +kernel
theorem dX11_rankIn_56 : decode cX11_rankIn 56 = .ok (.iload 6, 2) := by decide +kernel
theorem dX11_rankIn_58 : decode cX11_rankIn 58 = .ok (.iload 7, 2) := by decide +kernel
theorem dX11_rankIn_60 : decode cX11_rankIn 60 = .ok (.iastore, 1) := by decide +kernel
theorem dX11_rankIn_61 : decode cX11_rankIn 61 = .ok (.iinc 6 (-1), 3) := by decide +kernel
theorem dX11_rankIn_64 : decode cX11_rankIn 64 = .ok (.goto (-48), 3) := by decide +kernel
theorem dX11_rankIn_67 : decode cX11_rankIn 67 = .ok (.aload_n 0, 1) := by decide +kernel
theorem dX11_rankIn_68 : decode cX11_rankIn 68 = .ok (.getfield 52, 3) := by decide +kernel
theorem dX11_rankIn_71 : decode cX11_rankIn 71 = .ok (.iload 6, 2) := by decide +kernel
theorem dX11_rankIn_73 : decode cX11_rankIn 73 = .ok (.iload_n 3, 1) := by decide +kernel
theorem dX11_rankIn_74 : decode cX11_rankIn 74 = .ok (.iastore, 1) := by decide +kernel
theorem dX11_rankIn_75 : decode cX11_rankIn 75 = .ok (.return_, 1) := by decide +kernel
theorem kd_11_rankIn : Cond.code yX11_rankIn cX11_rankIn 8 none ∈ lw_g := mt_at 1509 (by decide +kernel) rfl
theorem ki_11_rankIn : Cond.instanceMethod yX11_rankIn ∈ lw_g := mt_at 1508 (by decide +kernel) rfl
theorem kl_11_rankIn : Cond.selects (kRn 11) yX11_rankIn yX11_rankIn ∈ lw_g := mt_sel 42 (by decide +kernel) rfl
section
variable {p : Program} {l : Launch} {e : Env} {R : Room} {s : State} {m : MethodId} {args : Array Value} {below : List Frame} {meth : Method} {c : Code} {H : Heap} {locs : List Loc} {cells slots : Nat} {Q : State → Prop}
variable {D : cG} {S S0 : cSt} {cc : ByteArray} {nL : Nat} {pc : Nat} {ls : Array Slot} {rest : List Value} {H0 : Heap} {nF nR nC nS : Nat} {ret : Option FieldType} {a : Nat}
theorem gk11_52 (C : cY p R s m args meth c RX11 cc nL nF nC nS nR ret) (X : cX D s) (hW : cW D S H) (hk : kK S a = 12) {x : Nat} (hx : kR S a 7 = some x) (hdg : decode cc pc = .ok (.getfield 52, 3)) (kk : W p l e R s m args below meth c H locs cells slots Q (F0 m (pc + 3) ls (.ref x :: rest))) : W p l e R s m args below meth c H locs cells slots Q (F0 m pc ls (.ref a :: rest)) := c_get C X hW 11 (by decide) ly_11 hk 7 (by decide) (mt_at 378 (by decide +kernel) (by decide +kernel)) hdg (by rw [cV_R (by decide +kernel) hx]; exact kk)
end
section
variable {p : Program} {l : Launch} {e : Env} {R : Room} {s : State} {m : MethodId} {args : Array Value} {below : List Frame} {meth : Method} {c : Code} {D : cG} {S0 S9 : cSt}
noncomputable def fk_11_rankIn_67 (S : cSt) (v0 : Nat) (v3 : Int32) (v6 : Int32) : Option (cSt) :=
ckk S v0 12 (bd (kR S v0 7) fun a1 =>
ckk S a1 20 (ck v6 (kL S a1) (lt (cWi S a1 (Int32.toNatClampNeg v6) v3) fun S2 =>
some S2)))
set_option maxRecDepth 100000 in
set_option maxHeartbeats 4000000 in
theorem wk_11_rankIn_67 (C : cY p R s m args meth c RX11 cX11_rankIn 8 3 0 0 66 none) (X : cX D s) : ∀ {S : cSt} {v0 : Nat} {v3 : Int32} {v6 : Int32} {H : Heap} {locs : List Loc} {ls : Array Slot}, fk_11_rankIn_67 S v0 v3 v6 = some S9 → cJ D S0 s.heap S H locs → lv_has ls 8 [(0, .ref v0), (3, .int v3), (6, .int v6)] → W p l e R s m args below meth c H locs 0 0 (MQ below (kW none D S0 S9) args s 0 0 (cA S0)) (F0 m 67 ls []) := by
  intro S v0 v3 v6 H locs ls h hJ hl
  unfold fk_11_rankIn_67 at h
  refine lv_aload_n C.1 C.2.1 dX11_rankIn_67 rfl (lv_at hl 0 rfl) ?_
  obtain ⟨hk, h⟩ := ckk_ok h
  obtain ⟨a1, h_a1, h⟩ := bd_ok h
  refine gk11_52 C X hJ.1 hk h_a1 dX11_rankIn_68 ?_
  refine lv_iload C.1 C.2.1 dX11_rankIn_71 (lv_at hl 2 rfl) ?_
  refine lv_iload_n C.1 C.2.1 dX11_rankIn_73 rfl (lv_at hl 1 rfl) ?_
  obtain ⟨hk, h⟩ := ckk_ok h
  obtain ⟨hin2, h⟩ := ck_ok h
  refine c_iast C X hJ hk hin2 dX11_rankIn_74 (fun H locs hJ => ?_)
  refine lt_ok h (fun S2 e_S2 h => ?_)
  rw [e_S2] at hJ
  cases h
  exact c_retvW C hJ dX11_rankIn_75
noncomputable def fk_11_rankIn_16 : Nat → cSt → Nat → Nat → Int32 → Int32 → Int32 → Int32 → Option (cSt)
  | 0, _, _, _, _, _, _, _ => none
  | n + 1, S, v0, v1, v3, v4, v5, v6 =>
    if v6 ≤ 0 then (
    fk_11_rankIn_67 S v0 v3 v6)
    else (
    ckk S v0 12 (bd (kR S v0 7) fun a2 =>
    ckk S a2 20 (ck (v6 - (1 : Int32)) (kL S a2) (
    lt (kI S a2 (Int32.toNatClampNeg (v6 - (1 : Int32)))) fun x3 =>
    ckk S v1 11 (bd (fk_10_latestOf S v1 ((x3 * (8 : Int32)) + v4)) fun r4 =>
    if v5 < r4 then (
    ckk S v0 12 (bd (kR S v0 7) fun a6 =>
    ckk S a6 20 (ck v6 (kL S a6) (lt (cWi S a6 (Int32.toNatClampNeg v6) x3) fun S7 =>
    lt (v6 + (-1 : Int32)) fun x8 =>
    fk_11_rankIn_16 n S7 v0 v1 v3 v4 v5 x8))))
    else (
    fk_11_rankIn_67 S v0 v3 v6))))))
set_option maxRecDepth 100000 in
set_option maxHeartbeats 4000000 in
theorem wk_11_rankIn_16 (C : cY p R s m args meth c RX11 cX11_rankIn 8 3 0 0 66 none) (X : cX D s) : ∀ (n : Nat), ∀ {S : cSt} {v0 : Nat} {v1 : Nat} {v3 : Int32} {v4 : Int32} {v5 : Int32} {v6 : Int32} {H : Heap} {locs : List Loc} {ls : Array Slot}, fk_11_rankIn_16 n S v0 v1 v3 v4 v5 v6 = some S9 → cJ D S0 s.heap S H locs → lv_has ls 8 [(0, .ref v0), (1, .ref v1), (3, .int v3), (4, .int v4), (5, .int v5), (6, .int v6)] → W p l e R s m args below meth c H locs 0 0 (MQ below (kW none D S0 S9) args s 0 0 (cA S0)) (F0 m 16 ls []) := by
  intro n
  induction n with
  | zero =>
    intro S v0 v1 v3 v4 v5 v6 H locs ls h hJ hl
    exact absurd (show (none : Option (cSt)) = _ from h) (fun q => by cases q)
  | succ n ih =>
    intro S v0 v1 v3 v4 v5 v6 H locs ls h hJ hl
    rw [fk_11_rankIn_16] at h
    refine lv_iload C.1 C.2.1 dX11_rankIn_16 (lv_at hl 5 rfl) ?_
    refine lv_if_le (tgt := 67) C.1 C.2.1 dX11_rankIn_18 (by decide) (fun c1 => ?_) (fun c1 => ?_)
    · have h := if_t h c1
      exact wk_11_rankIn_67 C X h hJ (lv_sub hl [0, 2, 5] rfl)
    · have h := if_f h c1
      refine lv_aload_n C.1 C.2.1 dX11_rankIn_21 rfl (lv_at hl 0 rfl) ?_
      obtain ⟨hk, h⟩ := ckk_ok h
      obtain ⟨a2, h_a2, h⟩ := bd_ok h
      refine gk11_52 C X hJ.1 hk h_a2 dX11_rankIn_22 ?_
      refine lv_iload C.1 C.2.1 dX11_rankIn_25 (lv_at hl 5 rfl) ?_
      refine lv_iconst (v := 1) C.1 C.2.1 dX11_rankIn_27 (by decide) ?_
      refine lv_isub C.1 C.2.1 dX11_rankIn_28 ?_
      obtain ⟨hk, h⟩ := ckk_ok h
      obtain ⟨hin2, h⟩ := ck_ok h
      refine c_iald C X hJ.1 hk hin2 dX11_rankIn_29 ?_
      refine lt_ok h (fun x3 e_x3 h => ?_)
      refine lv_nm e_x3 ?_
      refine lv_istore (lv' := [(7, .int x3), (0, .ref v0), (1, .ref v1), (3, .int v3), (4, .int v4), (5, .int v5), (6, .int v6)]) C.1 C.2.1 dX11_rankIn_30 hl (by decide) rfl (fun ls hl => ?_)
      refine lv_aload_n C.1 C.2.1 dX11_rankIn_32 rfl (lv_at hl 2 rfl) ?_
      refine lv_iload C.1 C.2.1 dX11_rankIn_33 (lv_at hl 0 rfl) ?_
      refine lv_bipush (v := 8) C.1 C.2.1 dX11_rankIn_35 (by decide) ?_
      refine lv_imul C.1 C.2.1 dX11_rankIn_37 ?_
      refine lv_iload C.1 C.2.1 dX11_rankIn_38 (lv_at hl 4 rfl) ?_
      refine lv_iadd C.1 C.2.1 dX11_rankIn_40 ?_
      obtain ⟨hk, h⟩ := ckk_ok h
      obtain ⟨r4, h_r4, h⟩ := bd_ok h
      refine c_callR (rest := []) C X hJ.1 hl.1 10 (by decide) hk [.int ((x3 * (8 : Int32)) + v4)] (tk_10_latestOf l h_r4) cw11_357 ki_10_latestOf kl_10_latestOf rfl ⟨by decide, by decide⟩ ⟨(by decide), (by decide)⟩ rfl (Nat.le_of_ble_eq_true rfl) dX11_rankIn_41 ?_
      refine W.eq (g2 := F0 m 44 ls [.int r4]) rfl ?_
      refine lv_iload C.1 C.2.1 dX11_rankIn_44 (lv_at hl 5 rfl) ?_
      refine lv_icmp_gt (tgt := 52) C.1 C.2.1 dX11_rankIn_46 (by decide) (fun c5 => ?_) (fun c5 => ?_)
      · have h := if_t h c5
        refine lv_aload_n C.1 C.2.1 dX11_rankIn_52 rfl (lv_at hl 1 rfl) ?_
        obtain ⟨hk, h⟩ := ckk_ok h
        obtain ⟨a6, h_a6, h⟩ := bd_ok h
        refine gk11_52 C X hJ.1 hk h_a6 dX11_rankIn_53 ?_
        refine lv_iload C.1 C.2.1 dX11_rankIn_56 (lv_at hl 6 rfl) ?_
        refine lv_iload C.1 C.2.1 dX11_rankIn_58 (lv_at hl 0 rfl) ?_
        obtain ⟨hk, h⟩ := ckk_ok h
        obtain ⟨hin2, h⟩ := ck_ok h
        refine c_iast C X hJ hk hin2 dX11_rankIn_60 (fun H locs hJ => ?_)
        refine lt_ok h (fun S7 e_S7 h => ?_)
        rw [e_S7] at hJ
        refine lt_ok h (fun x8 e_x8 h => ?_)
        refine lv_iinc (v := x8) (lv' := [(6, .int x8), (7, .int x3), (0, .ref v0), (1, .ref v1), (3, .int v3), (4, .int v4), (5, .int v5)]) C.1 C.2.1 dX11_rankIn_61 hl (k := 6) rfl (by rw [← e_x8]; rfl) (by decide) rfl (fun ls hl => ?_)
        refine lv_goto (tgt := 16) C.1 C.2.1 dX11_rankIn_64 (by decide) ?_
        exact ih h hJ (lv_sub hl [2, 3, 4, 5, 6, 0] rfl)
      · have h := if_f h c5
        refine lv_goto (tgt := 67) C.1 C.2.1 dX11_rankIn_49 (by decide) ?_
        exact wk_11_rankIn_67 C X h hJ (lv_sub hl [1, 3, 6] rfl)
noncomputable def fk_11_rankIn (S : cSt) (v0 : Nat) (v1 : Nat) (v2 : Int32) (v3 : Int32) (v4 : Int32) : Option (cSt) :=
ckk S v1 11 (bd (fk_10_latestOf S v1 ((v3 * (8 : Int32)) + v4)) fun r1 =>
fk_11_rankIn_16 mFU S v0 v1 v3 v4 r1 v2)
set_option maxRecDepth 100000 in
set_option maxHeartbeats 4000000 in
theorem tk_11_rankIn (l : Launch) {D : cG} {S : cSt} {v0 : Nat} {v1 : Nat} {v2 : Int32} {v3 : Int32} {v4 : Int32} {S9 : cSt} (h : fk_11_rankIn S v0 v1 v2 v3 v4 = some S9) : Met l yX11_rankIn (Cond.code yX11_rankIn cX11_rankIn 8 none :: lw_g) { frames := 3, cells := 0, slots := 0, locals := 66 } (kPi [.ref v0, .ref v1, .int v2, .int v3, .int v4] D S) (kW none D S S9) 0 0 (cA S) := by
  refine Met.ofW (cc := cX11_rankIn) (maxL := 8) (ret := none) (by decide) rfl ?_
  intro p e s m args below meth c s₁ B hml hv
  obtain ⟨rfl, hW, X⟩ := hv
  have C : cY p (headSpec (Cond.code yX11_rankIn cX11_rankIn 8 none :: lw_g) { frames := 3, cells := 0, slots := 0, locals := 66 }).room s m _ meth c RX11 cX11_rankIn 8 3 0 0 66 none := ⟨B.exec, B.bytes, hml, findClass_of_methodNamed B.named, fun w hw => atoms_spec (ws := Cond.code yX11_rankIn cX11_rankIn 8 none :: lw_g) B.pre w (List.mem_cons_of_mem _ hw), ⟨Nat.le_refl _, Nat.le_refl _, Nat.le_refl _, Nat.le_refl _⟩, B.returns, B.notSynchronized⟩
  have hl := lv_entry ([.ref v0, .ref v1, .int v2, .int v3, .int v4]) (n := 8) (Nat.le_of_ble_eq_true rfl)
  rw [lg_entry_eq]
  generalize (lg_sl ([.ref v0, .ref v1, .int v2, .int v3, .int v4]) ++ List.replicate (8 - (lg_sl ([.ref v0, .ref v1, .int v2, .int v3, .int v4])).length) Slot.unset).toArray = ls at hl ⊢
  have hl : lv_has ls 8 [(0, .ref v0), (1, .ref v1), (2, .int v2), (3, .int v3), (4, .int v4)] := hl
  have hJ : cJ D S s.heap S s.heap [] := cJ.rf hW
  unfold fk_11_rankIn at h
  refine lv_aload_n C.1 C.2.1 dX11_rankIn_0 rfl (lv_at hl 1 rfl) ?_
  refine lv_iload_n C.1 C.2.1 dX11_rankIn_1 rfl (lv_at hl 3 rfl) ?_
  refine lv_bipush (v := 8) C.1 C.2.1 dX11_rankIn_2 (by decide) ?_
  refine lv_imul C.1 C.2.1 dX11_rankIn_4 ?_
  refine lv_iload C.1 C.2.1 dX11_rankIn_5 (lv_at hl 4 rfl) ?_
  refine lv_iadd C.1 C.2.1 dX11_rankIn_7 ?_
  obtain ⟨hk, h⟩ := ckk_ok h
  obtain ⟨r1, h_r1, h⟩ := bd_ok h
  refine c_callR (rest := []) C X hJ.1 hl.1 10 (by decide) hk [.int ((v3 * (8 : Int32)) + v4)] (tk_10_latestOf l h_r1) cw11_357 ki_10_latestOf kl_10_latestOf rfl ⟨by decide, by decide⟩ ⟨(by decide), (by decide)⟩ rfl (Nat.le_of_ble_eq_true rfl) dX11_rankIn_8 ?_
  refine W.eq (g2 := F0 m 11 ls [.int r1]) rfl ?_
  refine lv_istore (lv' := [(5, .int r1), (0, .ref v0), (1, .ref v1), (2, .int v2), (3, .int v3), (4, .int v4)]) C.1 C.2.1 dX11_rankIn_11 hl (by decide) rfl (fun ls hl => ?_)
  refine lv_iload_n C.1 C.2.1 dX11_rankIn_13 rfl (lv_at hl 3 rfl) ?_
  refine lv_istore (lv' := [(6, .int v2), (5, .int r1), (0, .ref v0), (1, .ref v1), (2, .int v2), (3, .int v3), (4, .int v4)]) C.1 C.2.1 dX11_rankIn_14 hl (by decide) rfl (fun ls hl => ?_)
  exact wk_11_rankIn_16 C X mFU h hJ (lv_sub hl [2, 3, 5, 6, 1, 0] rfl)
end
theorem dX11_ranked_0 : decode cX11_ranked 0 = .ok (.iload_n 1, 1) := by decide +kernel
theorem dX11_ranked_1 : decode cX11_ranked 1 = .ok (.invokestatic 112, 3) := by decide +kernel
theorem dX11_ranked_4 : decode cX11_ranked 4 = .ok (.ifCond .eq 17, 3) := by decide +kernel
theorem dX11_ranked_7 : decode cX11_ranked 7 = .ok (.aload_n 0, 1) := by decide +kernel
theorem dX11_ranked_8 : decode cX11_ranked 8 = .ok (.getfield 12, 3) := by decide +kernel
theorem dX11_ranked_11 : decode cX11_ranked 11 = .ok (.iload_n 2, 1) := by decide +kernel
theorem dX11_ranked_12 : decode cX11_ranked 12 = .ok (.iload_n 3, 1) := by decide +kernel
theorem dX11_ranked_13 : decode cX11_ranked 13 = .ok (.invokevirtual 190, 3) := by decide +kernel
theorem dX11_ranked_16 : decode cX11_ranked 16 = .ok (.bipush 76, 2) := by decide +kernel
theorem dX11_ranked_18 : decode cX11_ranked 18 = .ok (.if_icmp .eq 5, 3) := by decide +kernel
theorem dX11_ranked_21 : decode cX11_ranked 21 = .ok (.iconst (-1), 1) := by decide +kernel
theorem dX11_ranked_22 : decode cX11_ranked 22 = .ok (.ireturn, 1) := by decide +kernel
theorem dX11_ranked_23 : decode cX11_ranked 23 = .ok (.aload_n 0, 1) := by decide +kernel
theorem dX11_ranked_24 : decode cX11_ranked 24 = .ok (.getfield 25, 3) := by decide +kernel
theorem dX11_ranked_27 : decode cX11_ranked 27 = .ok (.iload_n 1, 1) := by decide +kernel
theorem dX11_ranked_28 : decode cX11_ranked 28 = .ok (.aaload, 1) := by decide +kernel
theorem dX11_ranked_29 : decode cX11_ranked 29 = .ok (.getfield 147, 3) := by decide +kernel
theorem dX11_ranked_32 : decode cX11_ranked 32 = .ok (.astore 5, 2) := by decide +kernel
theorem dX11_ranked_34 : decode cX11_ranked 34 = .ok (.iconst 0, 1) := by decide +kernel
theorem dX11_ranked_35 : decode cX11_ranked 35 = .ok (.istore 6, 2) := by decide +kernel
theorem dX11_ranked_37 : decode cX11_ranked 37 = .ok (.iconst 0, 1) := by decide +kernel
theorem dX11_ranked_38 : decode cX11_ranked 38 = .ok (.istore 7, 2) := by decide +kernel
theorem dX11_ranked_40 : decode cX11_ranked 40 = .ok (.iload 7, 2) := by decide +kernel
theorem dX11_ranked_42 : decode cX11_ranked 42 = .ok (.bipush 48, 2) := by decide +kernel
theorem dX11_ranked_44 : decode cX11_ranked 44 = .ok (.if_icmp .ge 34, 3) := by decide +kernel
theorem dX11_ranked_47 : decode cX11_ranked 47 = .ok (.aload 5, 2) := by decide +kernel
theorem dX11_ranked_49 : decode cX11_ranked 49 = .ok (.iload 7, 2) := by decide +kernel
theorem dX11_ranked_51 : decode cX11_ranked 51 = .ok (.iload_n 2, 1) := by decide +kernel
theorem dX11_ranked_52 : decode cX11_ranked 52 = .ok (.invokevirtual 354, 3) := by decide +kernel
theorem dX11_ranked_55 : decode cX11_ranked 55 = .ok (.ifCond .eq 17, 3) := by decide +kernel
theorem dX11_ranked_58 : decode cX11_ranked 58 = .ok (.aload_n 0, 1) := by decide +kernel
theorem dX11_ranked_59 : decode cX11_ranked 59 = .ok (.aload 5, 2) := by decide +kernel
theorem dX11_ranked_61 : decode cX11_ranked 61 = .ok (.iload 6, 2) := by decide +kernel
theorem dX11_ranked_63 : decode cX11_ranked 63 = .ok (.iload 7, 2) := by decide +kernel
theorem dX11_ranked_65 : decode cX11_ranked 65 = .ok (.iload_n 3, 1) := by decide +kernel
theorem dX11_ranked_66 : decode cX11_ranked 66 = .ok (.invokevirtual 360, 3) := by decide +kernel
theorem dX11_ranked_69 : decode cX11_ranked 69 = .ok (.iinc 6 1, 3) := by decide +kernel
theorem dX11_ranked_72 : decode cX11_ranked 72 = .ok (.iinc 7 1, 3) := by decide +kernel
theorem dX11_ranked_75 : decode cX11_ranked 75 = .ok (.goto (-35), 3) := by decide +kernel
theorem dX11_ranked_78 : decode cX11_ranked 78 = .ok (.iload 4, 2) := by decide +kernel
theorem dX11_ranked_80 : decode cX11_ranked 80 = .ok (.ifCond .lt 27, 3) := by decide +kernel
theorem dX11_ranked_83 : decode cX11_ranked 83 = .ok (.iload 4, 2) := by decide +kernel
theorem dX11_ranked_85 : decode cX11_ranked 85 = .ok (.iload 6, 2) := by decide +kernel
theorem dX11_ranked_87 : decode cX11_ranked 87 = .ok (.if_icmp .ge 20, 3) := by decide +kernel
theorem dX11_ranked_90 : decode cX11_ranked 90 = .ok (.aload_n 0, 1) := by decide +kernel
theorem dX11_ranked_91 : decode cX11_ranked 91 = .ok (.getfield 19, 3) := by decide +kernel
theorem dX11_ranked_94 : decode cX11_ranked 94 = .ok (.aload_n 0, 1) := by decide +kernel
theorem dX11_ranked_95 : decode cX11_ranked 95 = .ok (.getfield 52, 3) := by decide +kernel
theorem dX11_ranked_98 : decode cX11_ranked 98 = .ok (.iload 4, 2) := by decide +kernel
theorem dX11_ranked_100 : decode cX11_ranked 100 = .ok (.iaload, 1) := by decide +kernel
theorem dX11_ranked_101 : decode cX11_ranked 101 = .ok (.invokevirtual 201, 3) := by decide +kernel
theorem dX11_ranked_104 : decode cX11_ranked 104 = .ok (.goto 4, 3) := by decide +kernel
theorem dX11_ranked_107 : decode cX11_ranked 107 = .ok (.iconst (-1), 1) := by decide +kernel
theorem dX11_ranked_108 : decode cX11_ranked 108 = .ok (.ireturn, 1) := by decide +kernel
theorem kd_11_ranked : Cond.code yX11_ranked cX11_ranked 8 (some .int) ∈ lw_g := mt_at 1505 (by decide +kernel) rfl
theorem ki_11_ranked : Cond.instanceMethod yX11_ranked ∈ lw_g := mt_at 1503 (by decide +kernel) rfl
theorem kl_11_ranked : Cond.selects (kRn 11) yX11_ranked yX11_ranked ∈ lw_g := mt_at 1504 (by decide +kernel) rfl
theorem cw11_360 : cCw RX11 360 yX11_rankIn cX11_rankIn 8 none 4 := ⟨kd_11_rankIn, mt_at 1506 (by decide +kernel) rfl, mt_at 1 (by decide +kernel) rfl, by decide +kernel⟩
section
variable {p : Program} {l : Launch} {e : Env} {R : Room} {s : State} {m : MethodId} {args : Array Value} {below : List Frame} {meth : Method} {c : Code} {D : cG} {S0 S9 : cSt} {r : Int32}
noncomputable def fk_11_ranked_21 (S : cSt) : Option (Int32 × cSt) :=
some ((-1 : Int32), S)
set_option maxRecDepth 100000 in
set_option maxHeartbeats 4000000 in
theorem wk_11_ranked_21 (C : cY p R s m args meth c RX11 cX11_ranked 8 4 0 0 93 (some .int)) (X : cX D s) : ∀ {S : cSt} {H : Heap} {locs : List Loc} {ls : Array Slot}, fk_11_ranked_21 S = some (r, S9) → cJ D S0 s.heap S H locs → lv_has ls 8 [] → W p l e R s m args below meth c H locs 0 0 (MQ below (kW (some (.int r)) D S0 S9) args s 0 0 (cA S0)) (F0 m 21 ls []) := by
  intro S H locs ls h hJ hl
  unfold fk_11_ranked_21 at h
  refine lv_iconst (v := -1) C.1 C.2.1 dX11_ranked_21 (by decide) ?_
  cases h
  exact c_retiW C hJ dX11_ranked_22
noncomputable def fk_11_ranked_108 (S : cSt) (s0 : Int32) : Option (Int32 × cSt) :=
some (s0, S)
set_option maxRecDepth 100000 in
set_option maxHeartbeats 4000000 in
theorem wk_11_ranked_108 (C : cY p R s m args meth c RX11 cX11_ranked 8 4 0 0 93 (some .int)) (X : cX D s) : ∀ {S : cSt} {s0 : Int32} {H : Heap} {locs : List Loc} {ls : Array Slot}, fk_11_ranked_108 S s0 = some (r, S9) → cJ D S0 s.heap S H locs → lv_has ls 8 [] → W p l e R s m args below meth c H locs 0 0 (MQ below (kW (some (.int r)) D S0 S9) args s 0 0 (cA S0)) (F0 m 108 ls [.int s0]) := by
  intro S s0 H locs ls h hJ hl
  unfold fk_11_ranked_108 at h
  cases h
  exact c_retiW C hJ dX11_ranked_108
noncomputable def fk_11_ranked_107 (S : cSt) : Option (Int32 × cSt) :=
fk_11_ranked_108 S (-1 : Int32)
set_option maxRecDepth 100000 in
set_option maxHeartbeats 4000000 in
theorem wk_11_ranked_107 (C : cY p R s m args meth c RX11 cX11_ranked 8 4 0 0 93 (some .int)) (X : cX D s) : ∀ {S : cSt} {H : Heap} {locs : List Loc} {ls : Array Slot}, fk_11_ranked_107 S = some (r, S9) → cJ D S0 s.heap S H locs → lv_has ls 8 [] → W p l e R s m args below meth c H locs 0 0 (MQ below (kW (some (.int r)) D S0 S9) args s 0 0 (cA S0)) (F0 m 107 ls []) := by
  intro S H locs ls h hJ hl
  unfold fk_11_ranked_107 at h
  refine lv_iconst (v := -1) C.1 C.2.1 dX11_ranked_107 (by decide) ?_
  exact wk_11_ranked_108 C X h hJ (lv_sub hl [] rfl)
noncomputable def fk_11_ranked_72 (g_40 : cSt → Nat → Int32 → Int32 → Int32 → Nat → Int32 → Int32 → Option (Int32 × cSt)) (S : cSt) (v0 : Nat) (v2 : Int32) (v3 : Int32) (v4 : Int32) (v5 : Nat) (v6 : Int32) (v7 : Int32) : Option (Int32 × cSt) :=
lt (v7 + (1 : Int32)) fun x1 =>
g_40 S v0 v2 v3 v4 v5 v6 x1
set_option maxRecDepth 100000 in
set_option maxHeartbeats 4000000 in
theorem wk_11_ranked_72 (C : cY p R s m args meth c RX11 cX11_ranked 8 4 0 0 93 (some .int)) (X : cX D s) {g_40 : cSt → Nat → Int32 → Int32 → Int32 → Nat → Int32 → Int32 → Option (Int32 × cSt)} (hg_40 : ∀ {S : cSt} {v0 : Nat} {v2 : Int32} {v3 : Int32} {v4 : Int32} {v5 : Nat} {v6 : Int32} {v7 : Int32} {H : Heap} {locs : List Loc} {ls : Array Slot}, g_40 S v0 v2 v3 v4 v5 v6 v7 = some (r, S9) → cJ D S0 s.heap S H locs → lv_has ls 8 [(0, .ref v0), (2, .int v2), (3, .int v3), (4, .int v4), (5, .ref v5), (6, .int v6), (7, .int v7)] → W p l e R s m args below meth c H locs 0 0 (MQ below (kW (some (.int r)) D S0 S9) args s 0 0 (cA S0)) (F0 m 40 ls [])) : ∀ {S : cSt} {v0 : Nat} {v2 : Int32} {v3 : Int32} {v4 : Int32} {v5 : Nat} {v6 : Int32} {v7 : Int32} {H : Heap} {locs : List Loc} {ls : Array Slot}, fk_11_ranked_72 g_40 S v0 v2 v3 v4 v5 v6 v7 = some (r, S9) → cJ D S0 s.heap S H locs → lv_has ls 8 [(0, .ref v0), (2, .int v2), (3, .int v3), (4, .int v4), (5, .ref v5), (6, .int v6), (7, .int v7)] → W p l e R s m args below meth c H locs 0 0 (MQ below (kW (some (.int r)) D S0 S9) args s 0 0 (cA S0)) (F0 m 72 ls []) := by
  intro S v0 v2 v3 v4 v5 v6 v7 H locs ls h hJ hl
  unfold fk_11_ranked_72 at h
  refine lt_ok h (fun x1 e_x1 h => ?_)
  refine lv_iinc (v := x1) (lv' := [(7, .int x1), (0, .ref v0), (2, .int v2), (3, .int v3), (4, .int v4), (5, .ref v5), (6, .int v6)]) C.1 C.2.1 dX11_ranked_72 hl (k := 6) rfl (by rw [← e_x1]; rfl) (by decide) rfl (fun ls hl => ?_)
  refine lv_goto (tgt := 40) C.1 C.2.1 dX11_ranked_75 (by decide) ?_
  exact hg_40 h hJ (lv_sub hl [1, 2, 3, 4, 5, 6, 0] rfl)
noncomputable def fk_11_ranked_40 : Nat → cSt → Nat → Int32 → Int32 → Int32 → Nat → Int32 → Int32 → Option (Int32 × cSt)
  | 0, _, _, _, _, _, _, _, _ => none
  | n + 1, S, v0, v2, v3, v4, v5, v6, v7 =>
    if (48 : Int32) ≤ v7 then (
    if v4 < 0 then (
    fk_11_ranked_107 S)
    else (
    if v6 ≤ v4 then (
    fk_11_ranked_107 S)
    else (
    ckk S v0 12 (bd (kR S v0 1) fun a4 =>
    ckk S v0 12 (bd (kR S v0 7) fun a5 =>
    ckk S a5 20 (ck v4 (kL S a5) (
    ckk S a4 1 (bd (fk_0_nameOf S a4 (kI S a5 (Int32.toNatClampNeg v4))) fun r6 =>
    fk_11_ranked_108 S r6))))))))
    else (
    ckk S v5 11 (bd (fk_10_isThereOf S v5 v7 v2) fun r7 =>
    if r7 = 0 then (
    fk_11_ranked_72 (fk_11_ranked_40 n) S v0 v2 v3 v4 v5 v6 v7)
    else (
    ckk S v0 12 (bd (fk_11_rankIn S v0 v5 v6 v7 v3) fun S10 =>
    lt (v6 + (1 : Int32)) fun x11 =>
    fk_11_ranked_72 (fk_11_ranked_40 n) S10 v0 v2 v3 v4 v5 x11 v7))))
set_option maxRecDepth 100000 in
set_option maxHeartbeats 4000000 in
theorem wk_11_ranked_40 (C : cY p R s m args meth c RX11 cX11_ranked 8 4 0 0 93 (some .int)) (X : cX D s) : ∀ (n : Nat), ∀ {S : cSt} {v0 : Nat} {v2 : Int32} {v3 : Int32} {v4 : Int32} {v5 : Nat} {v6 : Int32} {v7 : Int32} {H : Heap} {locs : List Loc} {ls : Array Slot}, fk_11_ranked_40 n S v0 v2 v3 v4 v5 v6 v7 = some (r, S9) → cJ D S0 s.heap S H locs → lv_has ls 8 [(0, .ref v0), (2, .int v2), (3, .int v3), (4, .int v4), (5, .ref v5), (6, .int v6), (7, .int v7)] → W p l e R s m args below meth c H locs 0 0 (MQ below (kW (some (.int r)) D S0 S9) args s 0 0 (cA S0)) (F0 m 40 ls []) := by
  intro n
  induction n with
  | zero =>
    intro S v0 v2 v3 v4 v5 v6 v7 H locs ls h hJ hl
    exact absurd (show (none : Option (Int32 × cSt)) = _ from h) (fun q => by cases q)
  | succ n ih =>
    intro S v0 v2 v3 v4 v5 v6 v7 H locs ls h hJ hl
    rw [fk_11_ranked_40] at h
    refine lv_iload C.1 C.2.1 dX11_ranked_40 (lv_at hl 6 rfl) ?_
    refine lv_bipush (v := 48) C.1 C.2.1 dX11_ranked_42 (by decide) ?_
    refine lv_icmp_ge (tgt := 78) C.1 C.2.1 dX11_ranked_44 (by decide) (fun c1 => ?_) (fun c1 => ?_)
    · have h := if_t h c1
      refine lv_iload C.1 C.2.1 dX11_ranked_78 (lv_at hl 3 rfl) ?_
      refine lv_if_lt (tgt := 107) C.1 C.2.1 dX11_ranked_80 (by decide) (fun c2 => ?_) (fun c2 => ?_)
      · have h := if_t h c2
        exact wk_11_ranked_107 C X h hJ (lv_sub hl [] rfl)
      · have h := if_f h c2
        refine lv_iload C.1 C.2.1 dX11_ranked_83 (lv_at hl 3 rfl) ?_
        refine lv_iload C.1 C.2.1 dX11_ranked_85 (lv_at hl 5 rfl) ?_
        refine lv_icmp_ge (tgt := 107) C.1 C.2.1 dX11_ranked_87 (by decide) (fun c3 => ?_) (fun c3 => ?_)
        · have h := if_t h c3
          exact wk_11_ranked_107 C X h hJ (lv_sub hl [] rfl)
        · have h := if_f h c3
          refine lv_aload_n C.1 C.2.1 dX11_ranked_90 rfl (lv_at hl 0 rfl) ?_
          obtain ⟨hk, h⟩ := ckk_ok h
          obtain ⟨a4, h_a4, h⟩ := bd_ok h
          refine gk11_19 C X hJ.1 hk h_a4 dX11_ranked_91 ?_
          refine lv_aload_n C.1 C.2.1 dX11_ranked_94 rfl (lv_at hl 0 rfl) ?_
          obtain ⟨hk, h⟩ := ckk_ok h
          obtain ⟨a5, h_a5, h⟩ := bd_ok h
          refine gk11_52 C X hJ.1 hk h_a5 dX11_ranked_95 ?_
          refine lv_iload C.1 C.2.1 dX11_ranked_98 (lv_at hl 3 rfl) ?_
          obtain ⟨hk, h⟩ := ckk_ok h
          obtain ⟨hin2, h⟩ := ck_ok h
          refine c_iald C X hJ.1 hk hin2 dX11_ranked_100 ?_
          obtain ⟨hk, h⟩ := ckk_ok h
          obtain ⟨r6, h_r6, h⟩ := bd_ok h
          refine c_callR (rest := []) C X hJ.1 hl.1 0 (by decide) hk [.int (kI S a5 (Int32.toNatClampNeg v4))] (tk_0_nameOf l h_r6) cw11_201 ki_0_nameOf kl_0_nameOf rfl ⟨by decide, by decide⟩ ⟨(by decide), (by decide)⟩ rfl (Nat.le_of_ble_eq_true rfl) dX11_ranked_101 ?_
          refine W.eq (g2 := F0 m 104 ls [.int r6]) rfl ?_
          refine lv_goto (tgt := 108) C.1 C.2.1 dX11_ranked_104 (by decide) ?_
          exact wk_11_ranked_108 C X h hJ (lv_sub hl [] rfl)
    · have h := if_f h c1
      refine lv_aload C.1 C.2.1 dX11_ranked_47 (lv_at hl 4 rfl) ?_
      refine lv_iload C.1 C.2.1 dX11_ranked_49 (lv_at hl 6 rfl) ?_
      refine lv_iload_n C.1 C.2.1 dX11_ranked_51 rfl (lv_at hl 1 rfl) ?_
      obtain ⟨hk, h⟩ := ckk_ok h
      obtain ⟨r7, h_r7, h⟩ := bd_ok h
      refine c_callR (rest := []) C X hJ.1 hl.1 10 (by decide) hk [.int v7, .int v2] (tk_10_isThereOf l h_r7) cw11_354 ki_10_isThereOf kl_10_isThereOf rfl ⟨by decide, by decide⟩ ⟨(by decide), (by decide)⟩ rfl (Nat.le_of_ble_eq_true rfl) dX11_ranked_52 ?_
      refine W.eq (g2 := F0 m 55 ls [.int r7]) rfl ?_
      refine lv_if_eq (tgt := 72) C.1 C.2.1 dX11_ranked_55 (by decide) (fun c8 => ?_) (fun c8 => ?_)
      · have h := if_t h c8
        exact wk_11_ranked_72 C X ih h hJ (lv_sub hl [0, 1, 2, 3, 4, 5, 6] rfl)
      · have h := if_f h c8
        refine lv_aload_n C.1 C.2.1 dX11_ranked_58 rfl (lv_at hl 0 rfl) ?_
        refine lv_aload C.1 C.2.1 dX11_ranked_59 (lv_at hl 4 rfl) ?_
        refine lv_iload C.1 C.2.1 dX11_ranked_61 (lv_at hl 5 rfl) ?_
        refine lv_iload C.1 C.2.1 dX11_ranked_63 (lv_at hl 6 rfl) ?_
        refine lv_iload_n C.1 C.2.1 dX11_ranked_65 rfl (lv_at hl 2 rfl) ?_
        obtain ⟨hk, h⟩ := ckk_ok h
        obtain ⟨S10, h_S10, h⟩ := bd_ok h
        refine c_callW (rest := []) C X hJ hl.1 11 (by decide) hk [.ref v5, .int v6, .int v7, .int v3] (tk_11_rankIn l h_S10) cw11_360 ki_11_rankIn kl_11_rankIn rfl ⟨by decide, by decide⟩ ⟨(by decide), (by decide)⟩ rfl (Nat.le_of_ble_eq_true rfl) dX11_ranked_66 (fun H locs hJ => ?_)
        refine W.eq (g2 := F0 m 69 ls []) rfl ?_
        refine lt_ok h (fun x11 e_x11 h => ?_)
        refine lv_iinc (v := x11) (lv' := [(6, .int x11), (0, .ref v0), (2, .int v2), (3, .int v3), (4, .int v4), (5, .ref v5), (7, .int v7)]) C.1 C.2.1 dX11_ranked_69 hl (k := 5) rfl (by rw [← e_x11]; rfl) (by decide) rfl (fun ls hl => ?_)
        exact wk_11_ranked_72 C X ih h hJ (lv_sub hl [1, 2, 3, 4, 5, 0, 6] rfl)
noncomputable def fk_11_ranked (S : cSt) (v0 : Nat) (v1 : Int32) (v2 : Int32) (v3 : Int32) (v4 : Int32) : Option (Int32 × cSt) :=
bd (fk_11_isNode v1) fun r1 =>
if r1 = 0 then (
fk_11_ranked_21 S)
else (
ckk S v0 12 (bd (kR S v0 0) fun a3 =>
ckk S a3 4 (bd (fk_3_ruleOf S a3 v2 v3) fun r4 =>
if r4 = (76 : Int32) then (
ckk S v0 12 (bd (kR S v0 2) fun a6 =>
ckk S a6 31 (ck v1 (kL S a6) (lt (kO S a6 (Int32.toNatClampNeg v1)) fun o7 =>
bd o7 fun a8 =>
ckk S a8 8 (bd (kR S a8 2) fun a9 =>
fk_11_ranked_40 mFU S v0 v2 v3 v4 a9 (0 : Int32) (0 : Int32))))))
else (
fk_11_ranked_21 S))))
set_option maxRecDepth 100000 in
set_option maxHeartbeats 4000000 in
theorem tk_11_ranked (l : Launch) {D : cG} {S : cSt} {v0 : Nat} {v1 : Int32} {v2 : Int32} {v3 : Int32} {v4 : Int32} {r : Int32} {S9 : cSt} (h : fk_11_ranked S v0 v1 v2 v3 v4 = some (r, S9)) : Met l yX11_ranked (Cond.code yX11_ranked cX11_ranked 8 (some .int) :: lw_g) { frames := 4, cells := 0, slots := 0, locals := 93 } (kPi [.ref v0, .int v1, .int v2, .int v3, .int v4] D S) (kW (some (.int r)) D S S9) 0 0 (cA S) := by
  refine Met.ofW (cc := cX11_ranked) (maxL := 8) (ret := (some .int)) (by decide) rfl ?_
  intro p e s m args below meth c s₁ B hml hv
  obtain ⟨rfl, hW, X⟩ := hv
  have C : cY p (headSpec (Cond.code yX11_ranked cX11_ranked 8 (some .int) :: lw_g) { frames := 4, cells := 0, slots := 0, locals := 93 }).room s m _ meth c RX11 cX11_ranked 8 4 0 0 93 (some .int) := ⟨B.exec, B.bytes, hml, findClass_of_methodNamed B.named, fun w hw => atoms_spec (ws := Cond.code yX11_ranked cX11_ranked 8 (some .int) :: lw_g) B.pre w (List.mem_cons_of_mem _ hw), ⟨Nat.le_refl _, Nat.le_refl _, Nat.le_refl _, Nat.le_refl _⟩, B.returns, B.notSynchronized⟩
  have hl := lv_entry ([.ref v0, .int v1, .int v2, .int v3, .int v4]) (n := 8) (Nat.le_of_ble_eq_true rfl)
  rw [lg_entry_eq]
  generalize (lg_sl ([.ref v0, .int v1, .int v2, .int v3, .int v4]) ++ List.replicate (8 - (lg_sl ([.ref v0, .int v1, .int v2, .int v3, .int v4])).length) Slot.unset).toArray = ls at hl ⊢
  have hl : lv_has ls 8 [(0, .ref v0), (1, .int v1), (2, .int v2), (3, .int v3), (4, .int v4)] := hl
  have hJ : cJ D S s.heap S s.heap [] := cJ.rf hW
  unfold fk_11_ranked at h
  refine lv_iload_n C.1 C.2.1 dX11_ranked_0 rfl (lv_at hl 1 rfl) ?_
  obtain ⟨r1, h_r1, h⟩ := bd_ok h
  refine c_callS (rest := []) C hl.1 [.int v1] (tk_11_isNode l h_r1) cw11_112 ks_11_isNode rfl ⟨by decide, by decide⟩ ⟨(by decide), (by decide)⟩ rfl (Nat.le_of_ble_eq_true rfl) dX11_ranked_1 ?_
  refine W.eq (g2 := F0 m 4 ls [.int r1]) rfl ?_
  refine lv_if_eq (tgt := 21) C.1 C.2.1 dX11_ranked_4 (by decide) (fun c2 => ?_) (fun c2 => ?_)
  · have h := if_t h c2
    exact wk_11_ranked_21 C X h hJ (lv_sub hl [] rfl)
  · have h := if_f h c2
    refine lv_aload_n C.1 C.2.1 dX11_ranked_7 rfl (lv_at hl 0 rfl) ?_
    obtain ⟨hk, h⟩ := ckk_ok h
    obtain ⟨a3, h_a3, h⟩ := bd_ok h
    refine gk11_12 C X hJ.1 hk h_a3 dX11_ranked_8 ?_
    refine lv_iload_n C.1 C.2.1 dX11_ranked_11 rfl (lv_at hl 2 rfl) ?_
    refine lv_iload_n C.1 C.2.1 dX11_ranked_12 rfl (lv_at hl 3 rfl) ?_
    obtain ⟨hk, h⟩ := ckk_ok h
    obtain ⟨r4, h_r4, h⟩ := bd_ok h
    refine c_callR (rest := []) C X hJ.1 hl.1 3 (by decide) hk [.int v2, .int v3] (tk_3_ruleOf l h_r4) cw11_190 ki_3_ruleOf kl_3_ruleOf rfl ⟨by decide, by decide⟩ ⟨(by decide), (by decide)⟩ rfl (Nat.le_of_ble_eq_true rfl) dX11_ranked_13 ?_
    refine W.eq (g2 := F0 m 16 ls [.int r4]) rfl ?_
    refine lv_bipush (v := 76) C.1 C.2.1 dX11_ranked_16 (by decide) ?_
    refine lv_icmp_eq (tgt := 23) C.1 C.2.1 dX11_ranked_18 (by decide) (fun c5 => ?_) (fun c5 => ?_)
    · have h := if_t h c5
      refine lv_aload_n C.1 C.2.1 dX11_ranked_23 rfl (lv_at hl 0 rfl) ?_
      obtain ⟨hk, h⟩ := ckk_ok h
      obtain ⟨a6, h_a6, h⟩ := bd_ok h
      refine gk11_25 C X hJ.1 hk h_a6 dX11_ranked_24 ?_
      refine lv_iload_n C.1 C.2.1 dX11_ranked_27 rfl (lv_at hl 1 rfl) ?_
      obtain ⟨hk, h⟩ := ckk_ok h
      obtain ⟨hin2, h⟩ := ck_ok h
      refine c_aald C 31 (by decide) X.2.2.2.2.2.1 hJ.1 hk hin2 dX11_ranked_28 ?_
      refine lt_ok h (fun o7 e_o7 h => ?_)
      refine lv_nmq e_o7 ?_
      obtain ⟨a8, e_a8, h⟩ := bd_ok h
      revert h; subst e_a8; intro h
      obtain ⟨hk, h⟩ := ckk_ok h
      obtain ⟨a9, h_a9, h⟩ := bd_ok h
      refine gk11_147 C X hJ.1 hk h_a9 dX11_ranked_29 ?_
      refine lv_astore (lv' := [(5, .ref a9), (0, .ref v0), (1, .int v1), (2, .int v2), (3, .int v3), (4, .int v4)]) C.1 C.2.1 dX11_ranked_32 hl (by decide) rfl (fun ls hl => ?_)
      refine lv_iconst (v := 0) C.1 C.2.1 dX11_ranked_34 (by decide) ?_
      refine lv_istore (lv' := [(6, .int (0 : Int32)), (5, .ref a9), (0, .ref v0), (1, .int v1), (2, .int v2), (3, .int v3), (4, .int v4)]) C.1 C.2.1 dX11_ranked_35 hl (by decide) rfl (fun ls hl => ?_)
      refine lv_iconst (v := 0) C.1 C.2.1 dX11_ranked_37 (by decide) ?_
      refine lv_istore (lv' := [(7, .int (0 : Int32)), (6, .int (0 : Int32)), (5, .ref a9), (0, .ref v0), (1, .int v1), (2, .int v2), (3, .int v3), (4, .int v4)]) C.1 C.2.1 dX11_ranked_38 hl (by decide) rfl (fun ls hl => ?_)
      exact wk_11_ranked_40 C X mFU h hJ (lv_sub hl [3, 5, 6, 7, 2, 1, 0] rfl)
    · have h := if_f h c5
      exact wk_11_ranked_21 C X h hJ (lv_sub hl [] rfl)
end
theorem dX11_was_0 : decode cX11_was 0 = .ok (.aload_n 0, 1) := by decide +kernel
theorem dX11_was_1 : decode cX11_was 1 = .ok (.iload_n 1, 1) := by decide +kernel
theorem dX11_was_2 : decode cX11_was 2 = .ok (.iload_n 3, 1) := by decide +kernel
theorem dX11_was_3 : decode cX11_was 3 = .ok (.invokevirtual 295, 3) := by decide +kernel
theorem dX11_was_6 : decode cX11_was 6 = .ok (.istore 6, 2) := by decide +kernel
theorem dX11_was_8 : decode cX11_was 8 = .ok (.aload_n 0, 1) := by decide +kernel
theorem dX11_was_9 : decode cX11_was 9 = .ok (.iload 6, 2) := by decide +kernel
theorem dX11_was_11 : decode cX11_was 11 = .ok (.iload 4, 2) := by decide +kernel
theorem dX11_was_13 : decode cX11_was 13 = .ok (.invokevirtual 316, 3) := by decide +kernel
theorem dX11_was_16 : decode cX11_was 16 = .ok (.bipush 84, 2) := by decide +kernel
theorem dX11_was_18 : decode cX11_was 18 = .ok (.if_icmp .ne 9, 3) := by decide +kernel
theorem dX11_was_21 : decode cX11_was 21 = .ok (.iload 5, 2) := by decide +kernel
theorem dX11_was_23 : decode cX11_was 23 = .ok (.iconst (-1), 1) := by decide +kernel
theorem dX11_was_24 : decode cX11_was 24 = .ok (.if_icmp .ge 5, 3) := by decide +kernel
theorem dX11_was_27 : decode cX11_was 27 = .ok (.iconst (-1), 1) := by decide +kernel
theorem dX11_was_28 : decode cX11_was 28 = .ok (.ireturn, 1) := by decide +kernel
theorem dX11_was_29 : decode cX11_was 29 = .ok (.aload_n 0, 1) := by decide +kernel
theorem dX11_was_30 : decode cX11_was 30 = .ok (.getfield 25, 3) := by decide +kernel
theorem dX11_was_33 : decode cX11_was 33 = .ok (.iload_n 1, 1) := by decide +kernel
theorem dX11_was_34 : decode cX11_was 34 = .ok (.aaload, 1) := by decide +kernel
theorem dX11_was_35 : decode cX11_was 35 = .ok (.getfield 68, 3) := by decide +kernel
theorem dX11_was_38 : decode cX11_was 38 = .ok (.astore 7, 2) := by decide +kernel
theorem dX11_was_40 : decode cX11_was 40 = .ok (.iload_n 2, 1) := by decide +kernel
theorem dX11_was_41 : decode cX11_was 41 = .ok (.ifCond .lt 12, 3) := by decide +kernel
theorem dX11_was_44 : decode cX11_was 44 = .ok (.iload_n 2, 1) := by decide +kernel
theorem dX11_was_45 : decode cX11_was 45 = .ok (.aload 7, 2) := by decide +kernel
theorem dX11_was_47 : decode cX11_was 47 = .ok (.getfield 366, 3) := by decide +kernel
theorem dX11_was_50 : decode cX11_was 50 = .ok (.if_icmp .le 5, 3) := by decide +kernel
theorem dX11_was_53 : decode cX11_was 53 = .ok (.iconst (-1), 1) := by decide +kernel
theorem dX11_was_54 : decode cX11_was 54 = .ok (.ireturn, 1) := by decide +kernel
theorem dX11_was_55 : decode cX11_was 55 = .ok (.aload_n 0, 1) := by decide +kernel
theorem dX11_was_56 : decode cX11_was 56 = .ok (.getfield 75, 3) := by decide +kernel
theorem dX11_was_59 : decode cX11_was 59 = .ok (.aload 7, 2) := by decide +kernel
theorem dX11_was_61 : decode cX11_was 61 = .ok (.iload_n 2, 1) := by decide +kernel
theorem dX11_was_62 : decode cX11_was 62 = .ok (.invokevirtual 373, 3) := by decide +kernel
theorem dX11_was_65 : decode cX11_was 65 = .ok (.aload_n 0, 1) := by decide +kernel
theorem dX11_was_66 : decode cX11_was 66 = .ok (.getfield 41, 3) := by decide +kernel
theorem dX11_was_69 : decode cX11_was 69 = .ok (.aload_n 0, 1) := by decide +kernel
theorem dX11_was_70 : decode cX11_was 70 = .ok (.getfield 75, 3) := by decide +kernel
theorem dX11_was_73 : decode cX11_was 73 = .ok (.iload 6, 2) := by decide +kernel
theorem dX11_was_75 : decode cX11_was 75 = .ok (.bipush 8, 2) := by decide +kernel
theorem dX11_was_77 : decode cX11_was 77 = .ok (.imul, 1) := by decide +kernel
theorem dX11_was_78 : decode cX11_was 78 = .ok (.iload 4, 2) := by decide +kernel
theorem dX11_was_80 : decode cX11_was 80 = .ok (.iadd, 1) := by decide +kernel
theorem dX11_was_81 : decode cX11_was 81 = .ok (.invokevirtual 153, 3) := by decide +kernel
theorem dX11_was_84 : decode cX11_was 84 = .ok (.iload 5, 2) := by decide +kernel
theorem dX11_was_86 : decode cX11_was 86 = .ok (.iconst (-1), 1) := by decide +kernel
theorem dX11_was_87 : decode cX11_was 87 = .ok (.if_icmp .ne 11, 3) := by decide +kernel
theorem dX11_was_90 : decode cX11_was 90 = .ok (.aload_n 0, 1) := by decide +kernel
theorem dX11_was_91 : decode cX11_was 91 = .ok (.getfield 41, 3) := by decide +kernel
theorem dX11_was_94 : decode cX11_was 94 = .ok (.getfield 165, 3) := by decide +kernel
theorem dX11_was_97 : decode cX11_was 97 = .ok (.ireturn, 1) := by decide +kernel
theorem dX11_was_98 : decode cX11_was 98 = .ok (.iload 5, 2) := by decide +kernel
theorem dX11_was_100 : decode cX11_was 100 = .ok (.aload_n 0, 1) := by decide +kernel
theorem dX11_was_101 : decode cX11_was 101 = .ok (.getfield 41, 3) := by decide +kernel
theorem dX11_was_104 : decode cX11_was 104 = .ok (.getfield 165, 3) := by decide +kernel
theorem dX11_was_107 : decode cX11_was 107 = .ok (.if_icmp .ge 19, 3) := by decide +kernel
theorem dX11_was_110 : decode cX11_was 110 = .ok (.aload_n 0, 1) := by decide +kernel
theorem dX11_was_111 : decode cX11_was 111 = .ok (.getfield 41, 3) := by decide +kernel
theorem dX11_was_114 : decode cX11_was 114 = .ok (.getfield 377, 3) := by decide +kernel
theorem dX11_was_117 : decode cX11_was 117 = .ok (.iload 5, 2) := by decide +kernel
theorem dX11_was_119 : decode cX11_was 119 = .ok (.aaload, 1) := by decide +kernel
theorem dX11_was_120 : decode cX11_was 120 = .ok (.getfield 340, 3) := by decide +kernel
theorem dX11_was_123 : decode cX11_was 123 = .ok (.goto 4, 3) := by decide +kernel
theorem dX11_was_126 : decode cX11_was 126 = .ok (.iconst (-1), 1) := by decide +kernel
theorem dX11_was_127 : decode cX11_was 127 = .ok (.ireturn, 1) := by decide +kernel
theorem kd_11_was : Cond.code yX11_was cX11_was 8 (some .int) ∈ lw_g := mt_at 1513 (by decide +kernel) rfl
theorem ki_11_was : Cond.instanceMethod yX11_was ∈ lw_g := mt_at 1511 (by decide +kernel) rfl
theorem kl_11_was : Cond.selects (kRn 11) yX11_was yX11_was ∈ lw_g := mt_at 1512 (by decide +kernel) rfl
theorem cw11_373 : cCw RX11 373 yX10_lookBack cX10_lookBack 4 none 2 := ⟨kd_10_lookBack, mt_at 1514 (by decide +kernel) rfl, mt_at 10 (by decide +kernel) rfl, by decide +kernel⟩
section
variable {p : Program} {l : Launch} {e : Env} {R : Room} {s : State} {m : MethodId} {args : Array Value} {below : List Frame} {meth : Method} {c : Code} {H : Heap} {locs : List Loc} {cells slots : Nat} {Q : State → Prop}
variable {D : cG} {S S0 : cSt} {cc : ByteArray} {nL : Nat} {pc : Nat} {ls : Array Slot} {rest : List Value} {H0 : Heap} {nF nR nC nS : Nat} {ret : Option FieldType} {a : Nat}
theorem gk11_75 (C : cY p R s m args meth c RX11 cc nL nF nC nS nR ret) (X : cX D s) (hW : cW D S H) (hk : kK S a = 12) {x : Nat} (hx : kR S a 4 = some x) (hdg : decode cc pc = .ok (.getfield 75, 3)) (kk : W p l e R s m args below meth c H locs cells slots Q (F0 m (pc + 3) ls (.ref x :: rest))) : W p l e R s m args below meth c H locs cells slots Q (F0 m pc ls (.ref a :: rest)) := c_get C X hW 11 (by decide) ly_11 hk 4 (by decide) (mt_at 375 (by decide +kernel) (by decide +kernel)) hdg (by rw [cV_R (by decide +kernel) hx]; exact kk)
theorem gk11_340 (C : cY p R s m args meth c RX11 cc nL nF nC nS nR ret) (X : cX D s) (hW : cW D S H) (hk : kK S a = 9) (hdg : decode cc pc = .ok (.getfield 340, 3)) (kk : W p l e R s m args below meth c H locs cells slots Q (F0 m (pc + 3) ls (.int (kF S a 4) :: rest))) : W p l e R s m args below meth c H locs cells slots Q (F0 m pc ls (.ref a :: rest)) := c_get C X hW 8 (by decide) ly_8 hk 4 (by decide) (mt_at 986 (by decide +kernel) (by decide +kernel)) hdg (by rw [cV_I (by decide +kernel)]; exact kk)
theorem gk11_366 (C : cY p R s m args meth c RX11 cc nL nF nC nS nR ret) (X : cX D s) (hW : cW D S H) (hk : kK S a = 5) (hdg : decode cc pc = .ok (.getfield 366, 3)) (kk : W p l e R s m args below meth c H locs cells slots Q (F0 m (pc + 3) ls (.int (kF S a 7) :: rest))) : W p l e R s m args below meth c H locs cells slots Q (F0 m pc ls (.ref a :: rest)) := c_get C X hW 4 (by decide) ly_4 hk 7 (by decide) (mt_at 244 (by decide +kernel) (by decide +kernel)) hdg (by rw [cV_I (by decide +kernel)]; exact kk)
end
section
variable {p : Program} {l : Launch} {e : Env} {R : Room} {s : State} {m : MethodId} {args : Array Value} {below : List Frame} {meth : Method} {c : Code} {D : cG} {S0 S9 : cSt} {r : Int32}
noncomputable def fk_11_was_27 (S : cSt) : Option (Int32 × cSt) :=
some ((-1 : Int32), S)
set_option maxRecDepth 100000 in
set_option maxHeartbeats 4000000 in
theorem wk_11_was_27 (C : cY p R s m args meth c RX11 cX11_was 8 3 0 0 68 (some .int)) (X : cX D s) : ∀ {S : cSt} {H : Heap} {locs : List Loc} {ls : Array Slot}, fk_11_was_27 S = some (r, S9) → cJ D S0 s.heap S H locs → lv_has ls 8 [] → W p l e R s m args below meth c H locs 0 0 (MQ below (kW (some (.int r)) D S0 S9) args s 0 0 (cA S0)) (F0 m 27 ls []) := by
  intro S H locs ls h hJ hl
  unfold fk_11_was_27 at h
  refine lv_iconst (v := -1) C.1 C.2.1 dX11_was_27 (by decide) ?_
  cases h
  exact c_retiW C hJ dX11_was_28
noncomputable def fk_11_was_53 (S : cSt) : Option (Int32 × cSt) :=
some ((-1 : Int32), S)
set_option maxRecDepth 100000 in
set_option maxHeartbeats 4000000 in
theorem wk_11_was_53 (C : cY p R s m args meth c RX11 cX11_was 8 3 0 0 68 (some .int)) (X : cX D s) : ∀ {S : cSt} {H : Heap} {locs : List Loc} {ls : Array Slot}, fk_11_was_53 S = some (r, S9) → cJ D S0 s.heap S H locs → lv_has ls 8 [] → W p l e R s m args below meth c H locs 0 0 (MQ below (kW (some (.int r)) D S0 S9) args s 0 0 (cA S0)) (F0 m 53 ls []) := by
  intro S H locs ls h hJ hl
  unfold fk_11_was_53 at h
  refine lv_iconst (v := -1) C.1 C.2.1 dX11_was_53 (by decide) ?_
  cases h
  exact c_retiW C hJ dX11_was_54
noncomputable def fk_11_was_127 (S : cSt) (s0 : Int32) : Option (Int32 × cSt) :=
some (s0, S)
set_option maxRecDepth 100000 in
set_option maxHeartbeats 4000000 in
theorem wk_11_was_127 (C : cY p R s m args meth c RX11 cX11_was 8 3 0 0 68 (some .int)) (X : cX D s) : ∀ {S : cSt} {s0 : Int32} {H : Heap} {locs : List Loc} {ls : Array Slot}, fk_11_was_127 S s0 = some (r, S9) → cJ D S0 s.heap S H locs → lv_has ls 8 [] → W p l e R s m args below meth c H locs 0 0 (MQ below (kW (some (.int r)) D S0 S9) args s 0 0 (cA S0)) (F0 m 127 ls [.int s0]) := by
  intro S s0 H locs ls h hJ hl
  unfold fk_11_was_127 at h
  cases h
  exact c_retiW C hJ dX11_was_127
noncomputable def fk_11_was (S : cSt) (v0 : Nat) (v1 : Int32) (v2 : Int32) (v3 : Int32) (v4 : Int32) (v5 : Int32) : Option (Int32 × cSt) :=
ckk S v0 12 (bd (fk_11_madeSlot S v0 v1 v3) fun r1 =>
ckk S v0 12 (bd (fk_11_ruleAt S v0 r1 v4) fun r2 =>
if r2 = (84 : Int32) then (
if (-1 : Int32) ≤ v5 then (
ckk S v0 12 (bd (kR S v0 2) fun a5 =>
ckk S a5 31 (ck v1 (kL S a5) (lt (kO S a5 (Int32.toNatClampNeg v1)) fun o6 =>
bd o6 fun a7 =>
ckk S a7 8 (bd (kR S a7 1) fun a8 =>
if v2 < 0 then (
fk_11_was_53 S)
else (
ckk S a8 5 (
if v2 ≤ (kF S a8 7) then (
ckk S v0 12 (bd (kR S v0 4) fun a11 =>
ckk S a11 11 (bd (fk_10_lookBack S a11 a8 v2) fun S12 =>
ckk S12 v0 12 (bd (kR S12 v0 5) fun a13 =>
ckk S12 v0 12 (bd (kR S12 v0 4) fun a14 =>
ckk S12 a13 10 (bd (fk_9_read S12 a13 a14 ((r1 * (8 : Int32)) + v4)) fun S15 =>
if v5 = (-1 : Int32) then (
ckk S15 v0 12 (bd (kR S15 v0 5) fun a23 =>
ckk S15 a23 10 (
some (kF S15 a23 1, S15))))
else (
ckk S15 v0 12 (bd (kR S15 v0 5) fun a17 =>
ckk S15 a17 10 (
if (kF S15 a17 1) ≤ v5 then (
fk_11_was_127 S15 (-1 : Int32))
else (
ckk S15 v0 12 (bd (kR S15 v0 5) fun a19 =>
ckk S15 a19 10 (bd (kR S15 a19 0) fun a20 =>
ckk S15 a20 30 (ck v5 (kL S15 a20) (lt (kO S15 a20 (Int32.toNatClampNeg v5)) fun o21 =>
bd o21 fun a22 =>
ckk S15 a22 9 (
fk_11_was_127 S15 (kF S15 a22 4))))))))))))))))
else (
fk_11_was_53 S))))))))
else (
fk_11_was_27 S))
else (
fk_11_was_27 S)))
set_option maxRecDepth 100000 in
set_option maxHeartbeats 4000000 in
theorem tk_11_was (l : Launch) {D : cG} {S : cSt} {v0 : Nat} {v1 : Int32} {v2 : Int32} {v3 : Int32} {v4 : Int32} {v5 : Int32} {r : Int32} {S9 : cSt} (h : fk_11_was S v0 v1 v2 v3 v4 v5 = some (r, S9)) : Met l yX11_was (Cond.code yX11_was cX11_was 8 (some .int) :: lw_g) { frames := 3, cells := 0, slots := 0, locals := 68 } (kPi [.ref v0, .int v1, .int v2, .int v3, .int v4, .int v5] D S) (kW (some (.int r)) D S S9) 0 0 (cA S) := by
  refine Met.ofW (cc := cX11_was) (maxL := 8) (ret := (some .int)) (by decide) rfl ?_
  intro p e s m args below meth c s₁ B hml hv
  obtain ⟨rfl, hW, X⟩ := hv
  have C : cY p (headSpec (Cond.code yX11_was cX11_was 8 (some .int) :: lw_g) { frames := 3, cells := 0, slots := 0, locals := 68 }).room s m _ meth c RX11 cX11_was 8 3 0 0 68 (some .int) := ⟨B.exec, B.bytes, hml, findClass_of_methodNamed B.named, fun w hw => atoms_spec (ws := Cond.code yX11_was cX11_was 8 (some .int) :: lw_g) B.pre w (List.mem_cons_of_mem _ hw), ⟨Nat.le_refl _, Nat.le_refl _, Nat.le_refl _, Nat.le_refl _⟩, B.returns, B.notSynchronized⟩
  have hl := lv_entry ([.ref v0, .int v1, .int v2, .int v3, .int v4, .int v5]) (n := 8) (Nat.le_of_ble_eq_true rfl)
  rw [lg_entry_eq]
  generalize (lg_sl ([.ref v0, .int v1, .int v2, .int v3, .int v4, .int v5]) ++ List.replicate (8 - (lg_sl ([.ref v0, .int v1, .int v2, .int v3, .int v4, .int v5])).length) Slot.unset).toArray = ls at hl ⊢
  have hl : lv_has ls 8 [(0, .ref v0), (1, .int v1), (2, .int v2), (3, .int v3), (4, .int v4), (5, .int v5)] := hl
  have hJ : cJ D S s.heap S s.heap [] := cJ.rf hW
  unfold fk_11_was at h
  refine lv_aload_n C.1 C.2.1 dX11_was_0 rfl (lv_at hl 0 rfl) ?_
  refine lv_iload_n C.1 C.2.1 dX11_was_1 rfl (lv_at hl 1 rfl) ?_
  refine lv_iload_n C.1 C.2.1 dX11_was_2 rfl (lv_at hl 3 rfl) ?_
  obtain ⟨hk, h⟩ := ckk_ok h
  obtain ⟨r1, h_r1, h⟩ := bd_ok h
  refine c_callR (rest := []) C X hJ.1 hl.1 11 (by decide) hk [.int v1, .int v3] (tk_11_madeSlot l h_r1) cw11_295 ki_11_madeSlot kl_11_madeSlot rfl ⟨by decide, by decide⟩ ⟨(by decide), (by decide)⟩ rfl (Nat.le_of_ble_eq_true rfl) dX11_was_3 ?_
  refine W.eq (g2 := F0 m 6 ls [.int r1]) rfl ?_
  refine lv_istore (lv' := [(6, .int r1), (0, .ref v0), (1, .int v1), (2, .int v2), (3, .int v3), (4, .int v4), (5, .int v5)]) C.1 C.2.1 dX11_was_6 hl (by decide) rfl (fun ls hl => ?_)
  refine lv_aload_n C.1 C.2.1 dX11_was_8 rfl (lv_at hl 1 rfl) ?_
  refine lv_iload C.1 C.2.1 dX11_was_9 (lv_at hl 0 rfl) ?_
  refine lv_iload C.1 C.2.1 dX11_was_11 (lv_at hl 5 rfl) ?_
  obtain ⟨hk, h⟩ := ckk_ok h
  obtain ⟨r2, h_r2, h⟩ := bd_ok h
  refine c_callR (rest := []) C X hJ.1 hl.1 11 (by decide) hk [.int r1, .int v4] (tk_11_ruleAt l h_r2) cw11_316 ki_11_ruleAt kl_11_ruleAt rfl ⟨by decide, by decide⟩ ⟨(by decide), (by decide)⟩ rfl (Nat.le_of_ble_eq_true rfl) dX11_was_13 ?_
  refine W.eq (g2 := F0 m 16 ls [.int r2]) rfl ?_
  refine lv_bipush (v := 84) C.1 C.2.1 dX11_was_16 (by decide) ?_
  refine lv_icmp_ne (tgt := 27) C.1 C.2.1 dX11_was_18 (by decide) (fun c3 => ?_) (fun c3 => ?_)
  · have h := if_f h c3
    exact wk_11_was_27 C X h hJ (lv_sub hl [] rfl)
  · have h := if_t h c3
    refine lv_iload C.1 C.2.1 dX11_was_21 (lv_at hl 6 rfl) ?_
    refine lv_iconst (v := -1) C.1 C.2.1 dX11_was_23 (by decide) ?_
    refine lv_icmp_ge (tgt := 29) C.1 C.2.1 dX11_was_24 (by decide) (fun c4 => ?_) (fun c4 => ?_)
    · have h := if_t h c4
      refine lv_aload_n C.1 C.2.1 dX11_was_29 rfl (lv_at hl 1 rfl) ?_
      obtain ⟨hk, h⟩ := ckk_ok h
      obtain ⟨a5, h_a5, h⟩ := bd_ok h
      refine gk11_25 C X hJ.1 hk h_a5 dX11_was_30 ?_
      refine lv_iload_n C.1 C.2.1 dX11_was_33 rfl (lv_at hl 2 rfl) ?_
      obtain ⟨hk, h⟩ := ckk_ok h
      obtain ⟨hin2, h⟩ := ck_ok h
      refine c_aald C 31 (by decide) X.2.2.2.2.2.1 hJ.1 hk hin2 dX11_was_34 ?_
      refine lt_ok h (fun o6 e_o6 h => ?_)
      refine lv_nmq e_o6 ?_
      obtain ⟨a7, e_a7, h⟩ := bd_ok h
      revert h; subst e_a7; intro h
      obtain ⟨hk, h⟩ := ckk_ok h
      obtain ⟨a8, h_a8, h⟩ := bd_ok h
      refine gk11_68 C X hJ.1 hk h_a8 dX11_was_35 ?_
      refine lv_astore (lv' := [(7, .ref a8), (6, .int r1), (0, .ref v0), (1, .int v1), (2, .int v2), (3, .int v3), (4, .int v4), (5, .int v5)]) C.1 C.2.1 dX11_was_38 hl (by decide) rfl (fun ls hl => ?_)
      refine lv_iload_n C.1 C.2.1 dX11_was_40 rfl (lv_at hl 4 rfl) ?_
      refine lv_if_lt (tgt := 53) C.1 C.2.1 dX11_was_41 (by decide) (fun c9 => ?_) (fun c9 => ?_)
      · have h := if_t h c9
        exact wk_11_was_53 C X h hJ (lv_sub hl [] rfl)
      · have h := if_f h c9
        refine lv_iload_n C.1 C.2.1 dX11_was_44 rfl (lv_at hl 4 rfl) ?_
        refine lv_aload C.1 C.2.1 dX11_was_45 (lv_at hl 0 rfl) ?_
        obtain ⟨hk, h⟩ := ckk_ok h
        refine gk11_366 C X hJ.1 hk dX11_was_47 ?_
        refine lv_icmp_le (tgt := 55) C.1 C.2.1 dX11_was_50 (by decide) (fun c10 => ?_) (fun c10 => ?_)
        · have h := if_t h c10
          refine lv_aload_n C.1 C.2.1 dX11_was_55 rfl (lv_at hl 2 rfl) ?_
          obtain ⟨hk, h⟩ := ckk_ok h
          obtain ⟨a11, h_a11, h⟩ := bd_ok h
          refine gk11_75 C X hJ.1 hk h_a11 dX11_was_56 ?_
          refine lv_aload C.1 C.2.1 dX11_was_59 (lv_at hl 0 rfl) ?_
          refine lv_iload_n C.1 C.2.1 dX11_was_61 rfl (lv_at hl 4 rfl) ?_
          obtain ⟨hk, h⟩ := ckk_ok h
          obtain ⟨S12, h_S12, h⟩ := bd_ok h
          refine c_callW (rest := []) C X hJ hl.1 10 (by decide) hk [.ref a8, .int v2] (tk_10_lookBack l h_S12) cw11_373 ki_10_lookBack kl_10_lookBack rfl ⟨by decide, by decide⟩ ⟨(by decide), (by decide)⟩ rfl (Nat.le_of_ble_eq_true rfl) dX11_was_62 (fun H locs hJ => ?_)
          refine W.eq (g2 := F0 m 65 ls []) rfl ?_
          refine lv_aload_n C.1 C.2.1 dX11_was_65 rfl (lv_at hl 2 rfl) ?_
          obtain ⟨hk, h⟩ := ckk_ok h
          obtain ⟨a13, h_a13, h⟩ := bd_ok h
          refine gk11_41 C X hJ.1 hk h_a13 dX11_was_66 ?_
          refine lv_aload_n C.1 C.2.1 dX11_was_69 rfl (lv_at hl 2 rfl) ?_
          obtain ⟨hk, h⟩ := ckk_ok h
          obtain ⟨a14, h_a14, h⟩ := bd_ok h
          refine gk11_75 C X hJ.1 hk h_a14 dX11_was_70 ?_
          refine lv_iload C.1 C.2.1 dX11_was_73 (lv_at hl 1 rfl) ?_
          refine lv_bipush (v := 8) C.1 C.2.1 dX11_was_75 (by decide) ?_
          refine lv_imul C.1 C.2.1 dX11_was_77 ?_
          refine lv_iload C.1 C.2.1 dX11_was_78 (lv_at hl 6 rfl) ?_
          refine lv_iadd C.1 C.2.1 dX11_was_80 ?_
          obtain ⟨hk, h⟩ := ckk_ok h
          obtain ⟨S15, h_S15, h⟩ := bd_ok h
          refine c_callW (rest := []) C X hJ hl.1 9 (by decide) hk [.ref a14, .int ((r1 * (8 : Int32)) + v4)] (tk_9_read l h_S15) cw11_153 ki_9_read kl_9_read rfl ⟨by decide, by decide⟩ ⟨(by decide), (by decide)⟩ rfl (Nat.le_of_ble_eq_true rfl) dX11_was_81 (fun H locs hJ => ?_)
          refine W.eq (g2 := F0 m 84 ls []) rfl ?_
          refine lv_iload C.1 C.2.1 dX11_was_84 (lv_at hl 7 rfl) ?_
          refine lv_iconst (v := -1) C.1 C.2.1 dX11_was_86 (by decide) ?_
          refine lv_icmp_ne (tgt := 98) C.1 C.2.1 dX11_was_87 (by decide) (fun c16 => ?_) (fun c16 => ?_)
          · have h := if_f h c16
            refine lv_iload C.1 C.2.1 dX11_was_98 (lv_at hl 7 rfl) ?_
            refine lv_aload_n C.1 C.2.1 dX11_was_100 rfl (lv_at hl 2 rfl) ?_
            obtain ⟨hk, h⟩ := ckk_ok h
            obtain ⟨a17, h_a17, h⟩ := bd_ok h
            refine gk11_41 C X hJ.1 hk h_a17 dX11_was_101 ?_
            obtain ⟨hk, h⟩ := ckk_ok h
            refine gk11_165 C X hJ.1 hk dX11_was_104 ?_
            refine lv_icmp_ge (tgt := 126) C.1 C.2.1 dX11_was_107 (by decide) (fun c18 => ?_) (fun c18 => ?_)
            · have h := if_t h c18
              refine lv_iconst (v := -1) C.1 C.2.1 dX11_was_126 (by decide) ?_
              exact wk_11_was_127 C X h hJ (lv_sub hl [] rfl)
            · have h := if_f h c18
              refine lv_aload_n C.1 C.2.1 dX11_was_110 rfl (lv_at hl 2 rfl) ?_
              obtain ⟨hk, h⟩ := ckk_ok h
              obtain ⟨a19, h_a19, h⟩ := bd_ok h
              refine gk11_41 C X hJ.1 hk h_a19 dX11_was_111 ?_
              obtain ⟨hk, h⟩ := ckk_ok h
              obtain ⟨a20, h_a20, h⟩ := bd_ok h
              refine gk11_377 C X hJ.1 hk h_a20 dX11_was_114 ?_
              refine lv_iload C.1 C.2.1 dX11_was_117 (lv_at hl 7 rfl) ?_
              obtain ⟨hk, h⟩ := ckk_ok h
              obtain ⟨hin2, h⟩ := ck_ok h
              refine c_aald C 30 (by decide) X.2.2.2.2.1 hJ.1 hk hin2 dX11_was_119 ?_
              refine lt_ok h (fun o21 e_o21 h => ?_)
              refine lv_nmq e_o21 ?_
              obtain ⟨a22, e_a22, h⟩ := bd_ok h
              revert h; subst e_a22; intro h
              obtain ⟨hk, h⟩ := ckk_ok h
              refine gk11_340 C X hJ.1 hk dX11_was_120 ?_
              refine lv_goto (tgt := 127) C.1 C.2.1 dX11_was_123 (by decide) ?_
              exact wk_11_was_127 C X h hJ (lv_sub hl [] rfl)
          · have h := if_t h c16
            refine lv_aload_n C.1 C.2.1 dX11_was_90 rfl (lv_at hl 2 rfl) ?_
            obtain ⟨hk, h⟩ := ckk_ok h
            obtain ⟨a23, h_a23, h⟩ := bd_ok h
            refine gk11_41 C X hJ.1 hk h_a23 dX11_was_91 ?_
            obtain ⟨hk, h⟩ := ckk_ok h
            refine gk11_165 C X hJ.1 hk dX11_was_94 ?_
            cases h
            exact c_retiW C hJ dX11_was_97
        · have h := if_f h c10
          exact wk_11_was_53 C X h hJ (lv_sub hl [] rfl)
    · have h := if_f h c4
      exact wk_11_was_27 C X h hJ (lv_sub hl [] rfl)
end
theorem dX11_row_0 : decode cX11_row 0 = .ok (.iload_n 1, 1) := by decide +kernel
theorem dX11_row_1 : decode cX11_row 1 = .ok (.invokestatic 112, 3) := by decide +kernel
theorem dX11_row_4 : decode cX11_row 4 = .ok (.ifCond .eq 14, 3) := by decide +kernel
theorem dX11_row_7 : decode cX11_row 7 = .ok (.aload_n 0, 1) := by decide +kernel
theorem dX11_row_8 : decode cX11_row 8 = .ok (.getfield 19, 3) := by decide +kernel
theorem dX11_row_11 : decode cX11_row 11 = .ok (.iload_n 2, 1) := by decide +kernel
theorem dX11_row_12 : decode cX11_row 12 = .ok (.invokevirtual 381, 3) := by decide +kernel
theorem dX11_row_15 : decode cX11_row 15 = .ok (.goto 4, 3) := by decide +kernel
theorem dX11_row_18 : decode cX11_row 18 = .ok (.aconst_null, 1) := by decide +kernel
theorem dX11_row_19 : decode cX11_row 19 = .ok (.astore 4, 2) := by decide +kernel
theorem dX11_row_21 : decode cX11_row 21 = .ok (.aload 4, 2) := by decide +kernel
theorem dX11_row_23 : decode cX11_row 23 = .ok (.ifnull 20, 3) := by decide +kernel
theorem dX11_row_26 : decode cX11_row 26 = .ok (.aload_n 0, 1) := by decide +kernel
theorem dX11_row_27 : decode cX11_row 27 = .ok (.getfield 25, 3) := by decide +kernel
theorem dX11_row_30 : decode cX11_row 30 = .ok (.iload_n 1, 1) := by decide +kernel
theorem dX11_row_31 : decode cX11_row 31 = .ok (.aaload, 1) := by decide +kernel
theorem dX11_row_32 : decode cX11_row 32 = .ok (.getfield 68, 3) := by decide +kernel
theorem dX11_row_35 : decode cX11_row 35 = .ok (.aload 4, 2) := by decide +kernel
theorem dX11_row_37 : decode cX11_row 37 = .ok (.invokevirtual 385, 3) := by decide +kernel
theorem dX11_row_40 : decode cX11_row 40 = .ok (.ifCond .ne 5, 3) := by decide +kernel
theorem dX11_row_43 : decode cX11_row 43 = .ok (.iconst (-1), 1) := by decide +kernel
theorem dX11_row_44 : decode cX11_row 44 = .ok (.ireturn, 1) := by decide +kernel
theorem dX11_row_45 : decode cX11_row 45 = .ok (.aload_n 0, 1) := by decide +kernel
theorem dX11_row_46 : decode cX11_row 46 = .ok (.getfield 25, 3) := by decide +kernel
theorem dX11_row_49 : decode cX11_row 49 = .ok (.iload_n 1, 1) := by decide +kernel
theorem dX11_row_50 : decode cX11_row 50 = .ok (.aaload, 1) := by decide +kernel
theorem dX11_row_51 : decode cX11_row 51 = .ok (.astore 5, 2) := by decide +kernel
theorem dX11_row_53 : decode cX11_row 53 = .ok (.iload_n 3, 1) := by decide +kernel
theorem dX11_row_54 : decode cX11_row 54 = .ok (.tableswitch 148 0 9 #[54, 60, 66, 72, 78, 84, 90, 96, 115, 131], 54) := by decide +kernel
theorem dX11_row_108 : decode cX11_row 108 = .ok (.aload 4, 2) := by decide +kernel
theorem dX11_row_110 : decode cX11_row 110 = .ok (.getfield 389, 3) := by decide +kernel
theorem dX11_row_113 : decode cX11_row 113 = .ok (.ireturn, 1) := by decide +kernel
theorem dX11_row_114 : decode cX11_row 114 = .ok (.aload 4, 2) := by decide +kernel
theorem dX11_row_116 : decode cX11_row 116 = .ok (.getfield 392, 3) := by decide +kernel
theorem dX11_row_119 : decode cX11_row 119 = .ok (.ireturn, 1) := by decide +kernel
theorem dX11_row_120 : decode cX11_row 120 = .ok (.aload 4, 2) := by decide +kernel
theorem dX11_row_122 : decode cX11_row 122 = .ok (.getfield 395, 3) := by decide +kernel
theorem dX11_row_125 : decode cX11_row 125 = .ok (.ireturn, 1) := by decide +kernel
theorem dX11_row_126 : decode cX11_row 126 = .ok (.aload 4, 2) := by decide +kernel
theorem dX11_row_128 : decode cX11_row 128 = .ok (.getfield 340, 3) := by decide +kernel
theorem dX11_row_131 : decode cX11_row 131 = .ok (.ireturn, 1) := by decide +kernel
theorem dX11_row_132 : decode cX11_row 132 = .ok (.aload 4, 2) := by decide +kernel
theorem dX11_row_134 : decode cX11_row 134 = .ok (.getfield 351, 3) := by decide +kernel
theorem dX11_row_137 : decode cX11_row 137 = .ok (.ireturn, 1) := by decide +kernel
theorem dX11_row_138 : decode cX11_row 138 = .ok (.aload 4, 2) := by decide +kernel
theorem dX11_row_140 : decode cX11_row 140 = .ok (.getfield 398, 3) := by decide +kernel
theorem dX11_row_143 : decode cX11_row 143 = .ok (.ireturn, 1) := by decide +kernel
theorem dX11_row_144 : decode cX11_row 144 = .ok (.aload 4, 2) := by decide +kernel
theorem dX11_row_146 : decode cX11_row 146 = .ok (.getfield 401, 3) := by decide +kernel
theorem dX11_row_149 : decode cX11_row 149 = .ok (.ireturn, 1) := by decide +kernel
theorem dX11_row_150 : decode cX11_row 150 = .ok (.aload 5, 2) := by decide +kernel
theorem dX11_row_152 : decode cX11_row 152 = .ok (.getfield 147, 3) := by decide +kernel
theorem dX11_row_155 : decode cX11_row 155 = .ok (.aload 4, 2) := by decide +kernel
theorem dX11_row_157 : decode cX11_row 157 = .ok (.invokevirtual 404, 3) := by decide +kernel
theorem dX11_row_160 : decode cX11_row 160 = .ok (.ifCond .eq 7, 3) := by decide +kernel
theorem dX11_row_163 : decode cX11_row 163 = .ok (.iconst 1, 1) := by decide +kernel
theorem dX11_row_164 : decode cX11_row 164 = .ok (.goto 4, 3) := by decide +kernel
theorem dX11_row_167 : decode cX11_row 167 = .ok (.iconst 0, 1) := by decide +kernel
theorem dX11_row_168 : decode cX11_row 168 = .ok (.ireturn, 1) := by decide +kernel
theorem dX11_row_169 : decode cX11_row 169 = .ok (.aload 5, 2) := by decide +kernel
theorem dX11_row_171 : decode cX11_row 171 = .ok (.aload 4, 2) := by decide +kernel
theorem dX11_row_173 : decode cX11_row 173 = .ok (.invokevirtual 407, 3) := by decide +kernel
theorem dX11_row_176 : decode cX11_row 176 = .ok (.ifCond .eq 7, 3) := by decide +kernel
theorem dX11_row_179 : decode cX11_row 179 = .ok (.iconst 1, 1) := by decide +kernel
theorem dX11_row_180 : decode cX11_row 180 = .ok (.goto 4, 3) := by decide +kernel
theorem dX11_row_183 : decode cX11_row 183 = .ok (.iconst 0, 1) := by decide +kernel
theorem dX11_row_184 : decode cX11_row 184 = .ok (.ireturn, 1) := by decide +kernel
theorem dX11_row_185 : decode cX11_row 185 = .ok (.aload 5, 2) := by decide +kernel
theorem dX11_row_187 : decode cX11_row 187 = .ok (.getfield 68, 3) := by decide +kernel
theorem dX11_row_190 : decode cX11_row 190 = .ok (.getfield 410, 3) := by decide +kernel
theorem dX11_row_193 : decode cX11_row 193 = .ok (.aload 4, 2) := by decide +kernel
theorem dX11_row_195 : decode cX11_row 195 = .ok (.getfield 413, 3) := by decide +kernel
theorem dX11_row_198 : decode cX11_row 198 = .ok (.iaload, 1) := by decide +kernel
theorem dX11_row_199 : decode cX11_row 199 = .ok (.iconst 1, 1) := by decide +kernel
theorem dX11_row_200 : decode cX11_row 200 = .ok (.isub, 1) := by decide +kernel
theorem dX11_row_201 : decode cX11_row 201 = .ok (.ireturn, 1) := by decide +kernel
theorem dX11_row_202 : decode cX11_row 202 = .ok (.iload_n 3, 1) := by decide +kernel
theorem dX11_row_203 : decode cX11_row 203 = .ok (.bipush 10, 2) := by decide +kernel
theorem dX11_row_205 : decode cX11_row 205 = .ok (.if_icmp .lt 22, 3) := by decide +kernel
theorem dX11_row_208 : decode cX11_row 208 = .ok (.iload_n 3, 1) := by decide +kernel
theorem dX11_row_209 : decode cX11_row 209 = .ok (.bipush 13, 2) := by decide +kernel
theorem dX11_row_211 : decode cX11_row 211 = .ok (.if_icmp .gt 16, 3) := by decide +kernel
theorem dX11_row_214 : decode cX11_row 214 = .ok (.aload 4, 2) := by decide +kernel
theorem dX11_row_216 : decode cX11_row 216 = .ok (.getfield 416, 3) := by decide +kernel
theorem dX11_row_219 : decode cX11_row 219 = .ok (.iload_n 3, 1) := by decide +kernel
theorem dX11_row_220 : decode cX11_row 220 = .ok (.bipush 10, 2) := by decide +kernel
theorem dX11_row_222 : decode cX11_row 222 = .ok (.isub, 1) := by decide +kernel
theorem dX11_row_223 : decode cX11_row 223 = .ok (.iaload, 1) := by decide +kernel
theorem dX11_row_224 : decode cX11_row 224 = .ok (.goto 4, 3) := by decide +kernel
theorem dX11_row_227 : decode cX11_row 227 = .ok (.iconst (-1), 1) := by decide +kernel
theorem dX11_row_228 : decode cX11_row 228 = .ok (.ireturn, 1) := by decide +kernel
theorem kd_11_row : Cond.code yX11_row cX11_row 6 (some .int) ∈ lw_g := mt_at 1522 (by decide +kernel) rfl
theorem ki_11_row : Cond.instanceMethod yX11_row ∈ lw_g := mt_at 1520 (by decide +kernel) rfl
theorem kl_11_row : Cond.selects (kRn 11) yX11_row yX11_row ∈ lw_g := mt_at 1521 (by decide +kernel) rfl
theorem cw11_404 : cCw RX11 404 yX10_isGood cX10_isGood 3 (some .boolean) 1 := ⟨kd_10_isGood, mt_at 1523 (by decide +kernel) rfl, mt_at 10 (by decide +kernel) rfl, by decide +kernel⟩
theorem cw11_407 : cCw RX11 407 yX7_isStable cX7_isStable 2 (some .boolean) 1 := ⟨kd_7_isStable, mt_at 1524 (by decide +kernel) rfl, mt_at 7 (by decide +kernel) rfl, by decide +kernel⟩
section
variable {p : Program} {l : Launch} {e : Env} {R : Room} {s : State} {m : MethodId} {args : Array Value} {below : List Frame} {meth : Method} {c : Code} {H : Heap} {locs : List Loc} {cells slots : Nat} {Q : State → Prop}
variable {D : cG} {S S0 : cSt} {cc : ByteArray} {nL : Nat} {pc : Nat} {ls : Array Slot} {rest : List Value} {H0 : Heap} {nF nR nC nS : Nat} {ret : Option FieldType} {a : Nat}
theorem gk11_351 (C : cY p R s m args meth c RX11 cc nL nF nC nS nR ret) (X : cX D s) (hW : cW D S H) (hk : kK S a = 9) (hdg : decode cc pc = .ok (.getfield 351, 3)) (kk : W p l e R s m args below meth c H locs cells slots Q (F0 m (pc + 3) ls (.int (kF S a 5) :: rest))) : W p l e R s m args below meth c H locs cells slots Q (F0 m pc ls (.ref a :: rest)) := c_get C X hW 8 (by decide) ly_8 hk 5 (by decide) (mt_at 993 (by decide +kernel) (by decide +kernel)) hdg (by rw [cV_I (by decide +kernel)]; exact kk)
theorem gk11_389 (C : cY p R s m args meth c RX11 cc nL nF nC nS nR ret) (X : cX D s) (hW : cW D S H) (hk : kK S a = 9) (hdg : decode cc pc = .ok (.getfield 389, 3)) (kk : W p l e R s m args below meth c H locs cells slots Q (F0 m (pc + 3) ls (.int (kF S a 0) :: rest))) : W p l e R s m args below meth c H locs cells slots Q (F0 m pc ls (.ref a :: rest)) := c_get C X hW 8 (by decide) ly_8 hk 0 (by decide) (mt_at 969 (by decide +kernel) (by decide +kernel)) hdg (by rw [cV_I (by decide +kernel)]; exact kk)
theorem gk11_392 (C : cY p R s m args meth c RX11 cc nL nF nC nS nR ret) (X : cX D s) (hW : cW D S H) (hk : kK S a = 9) (hdg : decode cc pc = .ok (.getfield 392, 3)) (kk : W p l e R s m args below meth c H locs cells slots Q (F0 m (pc + 3) ls (.int (kF S a 2) :: rest))) : W p l e R s m args below meth c H locs cells slots Q (F0 m pc ls (.ref a :: rest)) := c_get C X hW 8 (by decide) ly_8 hk 2 (by decide) (mt_at 976 (by decide +kernel) (by decide +kernel)) hdg (by rw [cV_I (by decide +kernel)]; exact kk)
theorem gk11_395 (C : cY p R s m args meth c RX11 cc nL nF nC nS nR ret) (X : cX D s) (hW : cW D S H) (hk : kK S a = 9) (hdg : decode cc pc = .ok (.getfield 395, 3)) (kk : W p l e R s m args below meth c H locs cells slots Q (F0 m (pc + 3) ls (.int (kF S a 3) :: rest))) : W p l e R s m args below meth c H locs cells slots Q (F0 m pc ls (.ref a :: rest)) := c_get C X hW 8 (by decide) ly_8 hk 3 (by decide) (mt_at 980 (by decide +kernel) (by decide +kernel)) hdg (by rw [cV_I (by decide +kernel)]; exact kk)
theorem gk11_398 (C : cY p R s m args meth c RX11 cc nL nF nC nS nR ret) (X : cX D s) (hW : cW D S H) (hk : kK S a = 9) (hdg : decode cc pc = .ok (.getfield 398, 3)) (kk : W p l e R s m args below meth c H locs cells slots Q (F0 m (pc + 3) ls (.int (kF S a 8) :: rest))) : W p l e R s m args below meth c H locs cells slots Q (F0 m pc ls (.ref a :: rest)) := c_get C X hW 8 (by decide) ly_8 hk 8 (by decide) (mt_at 1008 (by decide +kernel) (by decide +kernel)) hdg (by rw [cV_I (by decide +kernel)]; exact kk)
theorem gk11_401 (C : cY p R s m args meth c RX11 cc nL nF nC nS nR ret) (X : cX D s) (hW : cW D S H) (hk : kK S a = 9) (hdg : decode cc pc = .ok (.getfield 401, 3)) (kk : W p l e R s m args below meth c H locs cells slots Q (F0 m (pc + 3) ls (.int (kF S a 9) :: rest))) : W p l e R s m args below meth c H locs cells slots Q (F0 m pc ls (.ref a :: rest)) := c_get C X hW 8 (by decide) ly_8 hk 9 (by decide) (mt_at 1012 (by decide +kernel) (by decide +kernel)) hdg (by rw [cV_I (by decide +kernel)]; exact kk)
theorem gk11_410 (C : cY p R s m args meth c RX11 cc nL nF nC nS nR ret) (X : cX D s) (hW : cW D S H) (hk : kK S a = 5) {x : Nat} (hx : kR S a 1 = some x) (hdg : decode cc pc = .ok (.getfield 410, 3)) (kk : W p l e R s m args below meth c H locs cells slots Q (F0 m (pc + 3) ls (.ref x :: rest))) : W p l e R s m args below meth c H locs cells slots Q (F0 m pc ls (.ref a :: rest)) := c_get C X hW 4 (by decide) ly_4 hk 1 (by decide) (mt_at 230 (by decide +kernel) (by decide +kernel)) hdg (by rw [cV_R (by decide +kernel) hx]; exact kk)
theorem gk11_413 (C : cY p R s m args meth c RX11 cc nL nF nC nS nR ret) (X : cX D s) (hW : cW D S H) (hk : kK S a = 9) (hdg : decode cc pc = .ok (.getfield 413, 3)) (kk : W p l e R s m args below meth c H locs cells slots Q (F0 m (pc + 3) ls (.int (kF S a 12) :: rest))) : W p l e R s m args below meth c H locs cells slots Q (F0 m pc ls (.ref a :: rest)) := c_get C X hW 8 (by decide) ly_8 hk 12 (by decide) (mt_at 1029 (by decide +kernel) (by decide +kernel)) hdg (by rw [cV_I (by decide +kernel)]; exact kk)
theorem gk11_416 (C : cY p R s m args meth c RX11 cc nL nF nC nS nR ret) (X : cX D s) (hW : cW D S H) (hk : kK S a = 9) {x : Nat} (hx : kR S a 10 = some x) (hdg : decode cc pc = .ok (.getfield 416, 3)) (kk : W p l e R s m args below meth c H locs cells slots Q (F0 m (pc + 3) ls (.ref x :: rest))) : W p l e R s m args below meth c H locs cells slots Q (F0 m pc ls (.ref a :: rest)) := c_get C X hW 8 (by decide) ly_8 hk 10 (by decide) (mt_at 1017 (by decide +kernel) (by decide +kernel)) hdg (by rw [cV_R (by decide +kernel) hx]; exact kk)
end
section
variable {p : Program} {l : Launch} {e : Env} {R : Room} {s : State} {m : MethodId} {args : Array Value} {below : List Frame} {meth : Method} {c : Code} {D : cG} {S : cSt} {r : Int32}
noncomputable def fk_11_row_43 (S : cSt) : Option (Int32) :=
some (-1 : Int32)
set_option maxRecDepth 100000 in
set_option maxHeartbeats 4000000 in
theorem wk_11_row_43 (C : cY p R s m args meth c RX11 cX11_row 6 4 0 0 104 (some .int)) (X : cX D s) (hW : cW D S s.heap) : ∀ {ls : Array Slot}, fk_11_row_43 S = some r → lv_has ls 6 [] → W p l e R s m args below meth c s.heap [] 0 0 (MQ below (kQ (some (.int r))) args s 0 0 mNo) (F0 m 43 ls []) := by
  intro ls h hl
  unfold fk_11_row_43 at h
  refine lv_iconst (v := -1) C.1 C.2.1 dX11_row_43 (by decide) ?_
  cases h
  exact c_reti C rfl rfl dX11_row_44
noncomputable def fk_11_row_228 (S : cSt) (s0 : Int32) : Option (Int32) :=
some s0
set_option maxRecDepth 100000 in
set_option maxHeartbeats 4000000 in
theorem wk_11_row_228 (C : cY p R s m args meth c RX11 cX11_row 6 4 0 0 104 (some .int)) (X : cX D s) (hW : cW D S s.heap) : ∀ {s0 : Int32} {ls : Array Slot}, fk_11_row_228 S s0 = some r → lv_has ls 6 [] → W p l e R s m args below meth c s.heap [] 0 0 (MQ below (kQ (some (.int r))) args s 0 0 mNo) (F0 m 228 ls [.int s0]) := by
  intro s0 ls h hl
  unfold fk_11_row_228 at h
  cases h
  exact c_reti C rfl rfl dX11_row_228
noncomputable def fk_11_row_227 (S : cSt) : Option (Int32) :=
fk_11_row_228 S (-1 : Int32)
set_option maxRecDepth 100000 in
set_option maxHeartbeats 4000000 in
theorem wk_11_row_227 (C : cY p R s m args meth c RX11 cX11_row 6 4 0 0 104 (some .int)) (X : cX D s) (hW : cW D S s.heap) : ∀ {ls : Array Slot}, fk_11_row_227 S = some r → lv_has ls 6 [] → W p l e R s m args below meth c s.heap [] 0 0 (MQ below (kQ (some (.int r))) args s 0 0 mNo) (F0 m 227 ls []) := by
  intro ls h hl
  unfold fk_11_row_227 at h
  refine lv_iconst (v := -1) C.1 C.2.1 dX11_row_227 (by decide) ?_
  exact wk_11_row_228 C X hW h (lv_sub hl [] rfl)
noncomputable def fk_11_row_168 (S : cSt) (s0 : Int32) : Option (Int32) :=
some s0
set_option maxRecDepth 100000 in
set_option maxHeartbeats 4000000 in
theorem wk_11_row_168 (C : cY p R s m args meth c RX11 cX11_row 6 4 0 0 104 (some .int)) (X : cX D s) (hW : cW D S s.heap) : ∀ {s0 : Int32} {ls : Array Slot}, fk_11_row_168 S s0 = some r → lv_has ls 6 [] → W p l e R s m args below meth c s.heap [] 0 0 (MQ below (kQ (some (.int r))) args s 0 0 mNo) (F0 m 168 ls [.int s0]) := by
  intro s0 ls h hl
  unfold fk_11_row_168 at h
  cases h
  exact c_reti C rfl rfl dX11_row_168
noncomputable def fk_11_row_184 (S : cSt) (s0 : Int32) : Option (Int32) :=
some s0
set_option maxRecDepth 100000 in
set_option maxHeartbeats 4000000 in
theorem wk_11_row_184 (C : cY p R s m args meth c RX11 cX11_row 6 4 0 0 104 (some .int)) (X : cX D s) (hW : cW D S s.heap) : ∀ {s0 : Int32} {ls : Array Slot}, fk_11_row_184 S s0 = some r → lv_has ls 6 [] → W p l e R s m args below meth c s.heap [] 0 0 (MQ below (kQ (some (.int r))) args s 0 0 mNo) (F0 m 184 ls [.int s0]) := by
  intro s0 ls h hl
  unfold fk_11_row_184 at h
  cases h
  exact c_reti C rfl rfl dX11_row_184
noncomputable def fk_11_row_19 (S : cSt) (v0 : Nat) (v1 : Int32) (v3 : Int32) (s0 : Option Nat) : Option (Int32) :=
cs s0 (
fk_11_row_43 S) (fun a1 =>
ckk S v0 12 (bd (kR S v0 2) fun a2 =>
ckk S a2 31 (ck v1 (kL S a2) (lt (kO S a2 (Int32.toNatClampNeg v1)) fun o3 =>
bd o3 fun a4 =>
ckk S a4 8 (bd (kR S a4 1) fun a5 =>
ckk S a5 5 (bd (fk_4_has S a5 a1) fun r6 =>
if r6 = 0 then (
fk_11_row_43 S)
else (
ckk S v0 12 (bd (kR S v0 2) fun a8 =>
ckk S a8 31 (ck v1 (kL S a8) (lt (kO S a8 (Int32.toNatClampNeg v1)) fun o9 =>
if v3 = (0 : Int32) then (
ckk S a1 9 (
some (kF S a1 0)))
else if v3 = (1 : Int32) then (
ckk S a1 9 (
some (kF S a1 2)))
else if v3 = (2 : Int32) then (
ckk S a1 9 (
some (kF S a1 3)))
else if v3 = (3 : Int32) then (
ckk S a1 9 (
some (kF S a1 4)))
else if v3 = (4 : Int32) then (
ckk S a1 9 (
some (kF S a1 5)))
else if v3 = (5 : Int32) then (
ckk S a1 9 (
some (kF S a1 8)))
else if v3 = (6 : Int32) then (
ckk S a1 9 (
some (kF S a1 9)))
else if v3 = (7 : Int32) then (
bd o9 fun a18 =>
ckk S a18 8 (bd (kR S a18 2) fun a19 =>
ckk S a19 11 (bd (fk_10_isGood S a19 a1) fun r20 =>
if r20 = 0 then (
fk_11_row_168 S (0 : Int32))
else (
fk_11_row_168 S (1 : Int32)))))
else if v3 = (8 : Int32) then (
bd o9 fun a23 =>
ckk S a23 8 (bd (fk_7_isStable S a23 a1) fun r24 =>
if r24 = 0 then (
fk_11_row_184 S (0 : Int32))
else (
fk_11_row_184 S (1 : Int32))))
else if v3 = (9 : Int32) then (
bd o9 fun a27 =>
ckk S a27 8 (bd (kR S a27 1) fun a28 =>
ckk S a28 5 (bd (kR S a28 1) fun a29 =>
ckk S a1 9 (
ckk S a29 20 (ck (kF S a1 12) (kL S a29) (
some ((kI S a29 (Int32.toNatClampNeg (kF S a1 12))) - (1 : Int32))))))))
else (
if v3 < (10 : Int32) then (
fk_11_row_227 S)
else (
if (13 : Int32) < v3 then (
fk_11_row_227 S)
else (
ckk S a1 9 (bd (kR S a1 10) fun a32 =>
ckk S a32 20 (ck (v3 - (10 : Int32)) (kL S a32) (
fk_11_row_228 S (kI S a32 (Int32.toNatClampNeg (v3 - (10 : Int32))))))))))))))))))))
set_option maxRecDepth 100000 in
set_option maxHeartbeats 4000000 in
theorem wk_11_row_19 (C : cY p R s m args meth c RX11 cX11_row 6 4 0 0 104 (some .int)) (X : cX D s) (hW : cW D S s.heap) : ∀ {v0 : Nat} {v1 : Int32} {v3 : Int32} {s0 : Option Nat} {ls : Array Slot}, fk_11_row_19 S v0 v1 v3 s0 = some r → lv_has ls 6 [(0, .ref v0), (1, .int v1), (3, .int v3)] → W p l e R s m args below meth c s.heap [] 0 0 (MQ below (kQ (some (.int r))) args s 0 0 mNo) (F0 m 19 ls [va_rf s0]) := by
  intro v0 v1 v3 s0 ls h hl
  unfold fk_11_row_19 at h
  refine lv_astoreq (o := s0) (lv' := [(4, va_rf s0), (0, .ref v0), (1, .int v1), (3, .int v3)]) C.1 C.2.1 dX11_row_19 hl (by decide) rfl (fun ls hl => ?_)
  refine lv_aloadq (o := s0) C.1 C.2.1 dX11_row_21 (lv_at hl 0 rfl) ?_
  rcases s0 with _ | a1
  · replace h := cs_n h
    refine lv_ifnullN (tgt := 43) C.1 C.2.1 dX11_row_23 (by decide) ?_
    exact wk_11_row_43 C X hW h (lv_sub hl [] rfl)
  · replace h := cs_s h
    refine lv_ifnull C.1 C.2.1 dX11_row_23 ?_
    refine lv_aload_n C.1 C.2.1 dX11_row_26 rfl (lv_at hl 1 rfl) ?_
    obtain ⟨hk, h⟩ := ckk_ok h
    obtain ⟨a2, h_a2, h⟩ := bd_ok h
    refine gk11_25 C X hW hk h_a2 dX11_row_27 ?_
    refine lv_iload_n C.1 C.2.1 dX11_row_30 rfl (lv_at hl 2 rfl) ?_
    obtain ⟨hk, h⟩ := ckk_ok h
    obtain ⟨hin2, h⟩ := ck_ok h
    refine c_aald C 31 (by decide) X.2.2.2.2.2.1 hW hk hin2 dX11_row_31 ?_
    refine lt_ok h (fun o3 e_o3 h => ?_)
    refine lv_nmq e_o3 ?_
    obtain ⟨a4, e_a4, h⟩ := bd_ok h
    revert h; subst e_a4; intro h
    obtain ⟨hk, h⟩ := ckk_ok h
    obtain ⟨a5, h_a5, h⟩ := bd_ok h
    refine gk11_68 C X hW hk h_a5 dX11_row_32 ?_
    refine lv_aload C.1 C.2.1 dX11_row_35 (lv_at hl 0 rfl) ?_
    obtain ⟨hk, h⟩ := ckk_ok h
    obtain ⟨r6, h_r6, h⟩ := bd_ok h
    refine c_callR (rest := []) C X hW hl.1 4 (by decide) hk [.ref a1] (tk_4_has l h_r6) cw11_385 ki_4_has kl_4_has rfl ⟨by decide, by decide⟩ ⟨(by decide), (by decide)⟩ rfl (Nat.le_of_ble_eq_true rfl) dX11_row_37 ?_
    refine W.eq (g2 := F0 m 40 ls [.int r6]) rfl ?_
    refine lv_if_ne (tgt := 45) C.1 C.2.1 dX11_row_40 (by decide) (fun c7 => ?_) (fun c7 => ?_)
    · have h := if_f h c7
      refine lv_aload_n C.1 C.2.1 dX11_row_45 rfl (lv_at hl 1 rfl) ?_
      obtain ⟨hk, h⟩ := ckk_ok h
      obtain ⟨a8, h_a8, h⟩ := bd_ok h
      refine gk11_25 C X hW hk h_a8 dX11_row_46 ?_
      refine lv_iload_n C.1 C.2.1 dX11_row_49 rfl (lv_at hl 2 rfl) ?_
      obtain ⟨hk, h⟩ := ckk_ok h
      obtain ⟨hin2, h⟩ := ck_ok h
      refine c_aald C 31 (by decide) X.2.2.2.2.2.1 hW hk hin2 dX11_row_50 ?_
      refine lt_ok h (fun o9 e_o9 h => ?_)
      refine lv_nmq e_o9 ?_
      refine lv_astoreq (o := o9) (lv' := [(5, va_rf o9), (4, .ref a1), (0, .ref v0), (1, .int v1), (3, .int v3)]) C.1 C.2.1 dX11_row_51 hl (by decide) rfl (fun ls hl => ?_)
      refine lv_iload_n C.1 C.2.1 dX11_row_53 rfl (lv_at hl 4 rfl) ?_
      by_cases c10 : v3 = (0 : Int32)
      · have h := if_t h c10
        refine lv_tableIn (off := 54) (tgt := 108) C.1 C.2.1 dX11_row_54 (by rw [c10]; decide) (by rw [c10]; decide) (by rw [c10]; rfl) (by decide) ?_
        refine lv_aload C.1 C.2.1 dX11_row_108 (lv_at hl 1 rfl) ?_
        obtain ⟨hk, h⟩ := ckk_ok h
        refine gk11_389 C X hW hk dX11_row_110 ?_
        cases h
        exact c_reti C rfl rfl dX11_row_113
      · have h := if_f h c10
        by_cases c11 : v3 = (1 : Int32)
        · have h := if_t h c11
          refine lv_tableIn (off := 60) (tgt := 114) C.1 C.2.1 dX11_row_54 (by rw [c11]; decide) (by rw [c11]; decide) (by rw [c11]; rfl) (by decide) ?_
          refine lv_aload C.1 C.2.1 dX11_row_114 (lv_at hl 1 rfl) ?_
          obtain ⟨hk, h⟩ := ckk_ok h
          refine gk11_392 C X hW hk dX11_row_116 ?_
          cases h
          exact c_reti C rfl rfl dX11_row_119
        · have h := if_f h c11
          by_cases c12 : v3 = (2 : Int32)
          · have h := if_t h c12
            refine lv_tableIn (off := 66) (tgt := 120) C.1 C.2.1 dX11_row_54 (by rw [c12]; decide) (by rw [c12]; decide) (by rw [c12]; rfl) (by decide) ?_
            refine lv_aload C.1 C.2.1 dX11_row_120 (lv_at hl 1 rfl) ?_
            obtain ⟨hk, h⟩ := ckk_ok h
            refine gk11_395 C X hW hk dX11_row_122 ?_
            cases h
            exact c_reti C rfl rfl dX11_row_125
          · have h := if_f h c12
            by_cases c13 : v3 = (3 : Int32)
            · have h := if_t h c13
              refine lv_tableIn (off := 72) (tgt := 126) C.1 C.2.1 dX11_row_54 (by rw [c13]; decide) (by rw [c13]; decide) (by rw [c13]; rfl) (by decide) ?_
              refine lv_aload C.1 C.2.1 dX11_row_126 (lv_at hl 1 rfl) ?_
              obtain ⟨hk, h⟩ := ckk_ok h
              refine gk11_340 C X hW hk dX11_row_128 ?_
              cases h
              exact c_reti C rfl rfl dX11_row_131
            · have h := if_f h c13
              by_cases c14 : v3 = (4 : Int32)
              · have h := if_t h c14
                refine lv_tableIn (off := 78) (tgt := 132) C.1 C.2.1 dX11_row_54 (by rw [c14]; decide) (by rw [c14]; decide) (by rw [c14]; rfl) (by decide) ?_
                refine lv_aload C.1 C.2.1 dX11_row_132 (lv_at hl 1 rfl) ?_
                obtain ⟨hk, h⟩ := ckk_ok h
                refine gk11_351 C X hW hk dX11_row_134 ?_
                cases h
                exact c_reti C rfl rfl dX11_row_137
              · have h := if_f h c14
                by_cases c15 : v3 = (5 : Int32)
                · have h := if_t h c15
                  refine lv_tableIn (off := 84) (tgt := 138) C.1 C.2.1 dX11_row_54 (by rw [c15]; decide) (by rw [c15]; decide) (by rw [c15]; rfl) (by decide) ?_
                  refine lv_aload C.1 C.2.1 dX11_row_138 (lv_at hl 1 rfl) ?_
                  obtain ⟨hk, h⟩ := ckk_ok h
                  refine gk11_398 C X hW hk dX11_row_140 ?_
                  cases h
                  exact c_reti C rfl rfl dX11_row_143
                · have h := if_f h c15
                  by_cases c16 : v3 = (6 : Int32)
                  · have h := if_t h c16
                    refine lv_tableIn (off := 90) (tgt := 144) C.1 C.2.1 dX11_row_54 (by rw [c16]; decide) (by rw [c16]; decide) (by rw [c16]; rfl) (by decide) ?_
                    refine lv_aload C.1 C.2.1 dX11_row_144 (lv_at hl 1 rfl) ?_
                    obtain ⟨hk, h⟩ := ckk_ok h
                    refine gk11_401 C X hW hk dX11_row_146 ?_
                    cases h
                    exact c_reti C rfl rfl dX11_row_149
                  · have h := if_f h c16
                    by_cases c17 : v3 = (7 : Int32)
                    · have h := if_t h c17
                      refine lv_tableIn (off := 96) (tgt := 150) C.1 C.2.1 dX11_row_54 (by rw [c17]; decide) (by rw [c17]; decide) (by rw [c17]; rfl) (by decide) ?_
                      refine lv_aloadq (o := o9) C.1 C.2.1 dX11_row_150 (lv_at hl 0 rfl) ?_
                      obtain ⟨a18, e_a18, h⟩ := bd_ok h
                      revert h; subst e_a18; intro h
                      obtain ⟨hk, h⟩ := ckk_ok h
                      obtain ⟨a19, h_a19, h⟩ := bd_ok h
                      refine gk11_147 C X hW hk h_a19 dX11_row_152 ?_
                      refine lv_aload C.1 C.2.1 dX11_row_155 (lv_at hl 1 rfl) ?_
                      obtain ⟨hk, h⟩ := ckk_ok h
                      obtain ⟨r20, h_r20, h⟩ := bd_ok h
                      refine c_callR (rest := []) C X hW hl.1 10 (by decide) hk [.ref a1] (tk_10_isGood l h_r20) cw11_404 ki_10_isGood kl_10_isGood rfl ⟨by decide, by decide⟩ ⟨(by decide), (by decide)⟩ rfl (Nat.le_of_ble_eq_true rfl) dX11_row_157 ?_
                      refine W.eq (g2 := F0 m 160 ls [.int r20]) rfl ?_
                      refine lv_if_eq (tgt := 167) C.1 C.2.1 dX11_row_160 (by decide) (fun c21 => ?_) (fun c21 => ?_)
                      · have h := if_t h c21
                        refine lv_iconst (v := 0) C.1 C.2.1 dX11_row_167 (by decide) ?_
                        exact wk_11_row_168 C X hW h (lv_sub hl [] rfl)
                      · have h := if_f h c21
                        refine lv_iconst (v := 1) C.1 C.2.1 dX11_row_163 (by decide) ?_
                        refine lv_goto (tgt := 168) C.1 C.2.1 dX11_row_164 (by decide) ?_
                        exact wk_11_row_168 C X hW h (lv_sub hl [] rfl)
                    · have h := if_f h c17
                      by_cases c22 : v3 = (8 : Int32)
                      · have h := if_t h c22
                        refine lv_tableIn (off := 115) (tgt := 169) C.1 C.2.1 dX11_row_54 (by rw [c22]; decide) (by rw [c22]; decide) (by rw [c22]; rfl) (by decide) ?_
                        refine lv_aloadq (o := o9) C.1 C.2.1 dX11_row_169 (lv_at hl 0 rfl) ?_
                        refine lv_aload C.1 C.2.1 dX11_row_171 (lv_at hl 1 rfl) ?_
                        obtain ⟨a23, e_a23, h⟩ := bd_ok h
                        revert h; subst e_a23; intro h
                        obtain ⟨hk, h⟩ := ckk_ok h
                        obtain ⟨r24, h_r24, h⟩ := bd_ok h
                        refine c_callR (rest := []) C X hW hl.1 7 (by decide) hk [.ref a1] (tk_7_isStable l h_r24) cw11_407 ki_7_isStable kl_7_isStable rfl ⟨by decide, by decide⟩ ⟨(by decide), (by decide)⟩ rfl (Nat.le_of_ble_eq_true rfl) dX11_row_173 ?_
                        refine W.eq (g2 := F0 m 176 ls [.int r24]) rfl ?_
                        refine lv_if_eq (tgt := 183) C.1 C.2.1 dX11_row_176 (by decide) (fun c25 => ?_) (fun c25 => ?_)
                        · have h := if_t h c25
                          refine lv_iconst (v := 0) C.1 C.2.1 dX11_row_183 (by decide) ?_
                          exact wk_11_row_184 C X hW h (lv_sub hl [] rfl)
                        · have h := if_f h c25
                          refine lv_iconst (v := 1) C.1 C.2.1 dX11_row_179 (by decide) ?_
                          refine lv_goto (tgt := 184) C.1 C.2.1 dX11_row_180 (by decide) ?_
                          exact wk_11_row_184 C X hW h (lv_sub hl [] rfl)
                      · have h := if_f h c22
                        by_cases c26 : v3 = (9 : Int32)
                        · have h := if_t h c26
                          refine lv_tableIn (off := 131) (tgt := 185) C.1 C.2.1 dX11_row_54 (by rw [c26]; decide) (by rw [c26]; decide) (by rw [c26]; rfl) (by decide) ?_
                          refine lv_aloadq (o := o9) C.1 C.2.1 dX11_row_185 (lv_at hl 0 rfl) ?_
                          obtain ⟨a27, e_a27, h⟩ := bd_ok h
                          revert h; subst e_a27; intro h
                          obtain ⟨hk, h⟩ := ckk_ok h
                          obtain ⟨a28, h_a28, h⟩ := bd_ok h
                          refine gk11_68 C X hW hk h_a28 dX11_row_187 ?_
                          obtain ⟨hk, h⟩ := ckk_ok h
                          obtain ⟨a29, h_a29, h⟩ := bd_ok h
                          refine gk11_410 C X hW hk h_a29 dX11_row_190 ?_
                          refine lv_aload C.1 C.2.1 dX11_row_193 (lv_at hl 1 rfl) ?_
                          obtain ⟨hk, h⟩ := ckk_ok h
                          refine gk11_413 C X hW hk dX11_row_195 ?_
                          obtain ⟨hk, h⟩ := ckk_ok h
                          obtain ⟨hin2, h⟩ := ck_ok h
                          refine c_iald C X hW hk hin2 dX11_row_198 ?_
                          refine lv_iconst (v := 1) C.1 C.2.1 dX11_row_199 (by decide) ?_
                          refine lv_isub C.1 C.2.1 dX11_row_200 ?_
                          cases h
                          exact c_reti C rfl rfl dX11_row_201
                        · have h := if_f h c26
                          have n_c10 := lv_neT c10 (a := 0) rfl
                          have n_c11 := lv_neT c11 (a := 1) rfl
                          have n_c12 := lv_neT c12 (a := 2) rfl
                          have n_c13 := lv_neT c13 (a := 3) rfl
                          have n_c14 := lv_neT c14 (a := 4) rfl
                          have n_c15 := lv_neT c15 (a := 5) rfl
                          have n_c16 := lv_neT c16 (a := 6) rfl
                          have n_c17 := lv_neT c17 (a := 7) rfl
                          have n_c22 := lv_neT c22 (a := 8) rfl
                          have n_c26 := lv_neT c26 (a := 9) rfl
                          refine lv_tableOut (tgt := 202) C.1 C.2.1 dX11_row_54 (by omega) (by decide) ?_
                          refine lv_iload_n C.1 C.2.1 dX11_row_202 rfl (lv_at hl 4 rfl) ?_
                          refine lv_bipush (v := 10) C.1 C.2.1 dX11_row_203 (by decide) ?_
                          refine lv_icmp_lt (tgt := 227) C.1 C.2.1 dX11_row_205 (by decide) (fun c30 => ?_) (fun c30 => ?_)
                          · have h := if_t h c30
                            exact wk_11_row_227 C X hW h (lv_sub hl [] rfl)
                          · have h := if_f h c30
                            refine lv_iload_n C.1 C.2.1 dX11_row_208 rfl (lv_at hl 4 rfl) ?_
                            refine lv_bipush (v := 13) C.1 C.2.1 dX11_row_209 (by decide) ?_
                            refine lv_icmp_gt (tgt := 227) C.1 C.2.1 dX11_row_211 (by decide) (fun c31 => ?_) (fun c31 => ?_)
                            · have h := if_t h c31
                              exact wk_11_row_227 C X hW h (lv_sub hl [] rfl)
                            · have h := if_f h c31
                              refine lv_aload C.1 C.2.1 dX11_row_214 (lv_at hl 1 rfl) ?_
                              obtain ⟨hk, h⟩ := ckk_ok h
                              obtain ⟨a32, h_a32, h⟩ := bd_ok h
                              refine gk11_416 C X hW hk h_a32 dX11_row_216 ?_
                              refine lv_iload_n C.1 C.2.1 dX11_row_219 rfl (lv_at hl 4 rfl) ?_
                              refine lv_bipush (v := 10) C.1 C.2.1 dX11_row_220 (by decide) ?_
                              refine lv_isub C.1 C.2.1 dX11_row_222 ?_
                              obtain ⟨hk, h⟩ := ckk_ok h
                              obtain ⟨hin2, h⟩ := ck_ok h
                              refine c_iald C X hW hk hin2 dX11_row_223 ?_
                              refine lv_goto (tgt := 228) C.1 C.2.1 dX11_row_224 (by decide) ?_
                              exact wk_11_row_228 C X hW h (lv_sub hl [] rfl)
    · have h := if_t h c7
      exact wk_11_row_43 C X hW h (lv_sub hl [] rfl)
noncomputable def fk_11_row (S : cSt) (v0 : Nat) (v1 : Int32) (v2 : Int32) (v3 : Int32) : Option (Int32) :=
bd (fk_11_isNode v1) fun r1 =>
if r1 = 0 then (
fk_11_row_19 S v0 v1 v3 none)
else (
ckk S v0 12 (bd (kR S v0 1) fun a3 =>
ckk S a3 1 (bd (fk_0_rowNamed S a3 v2) fun o4 =>
fk_11_row_19 S v0 v1 v3 o4)))
set_option maxRecDepth 100000 in
set_option maxHeartbeats 4000000 in
theorem tk_11_row (l : Launch) {D : cG} {S : cSt} {v0 : Nat} {v1 : Int32} {v2 : Int32} {v3 : Int32} {r : Int32}  (h : fk_11_row S v0 v1 v2 v3 = some r) : Met l yX11_row (Cond.code yX11_row cX11_row 6 (some .int) :: lw_g) { frames := 4, cells := 0, slots := 0, locals := 104 } (kPi [.ref v0, .int v1, .int v2, .int v3] D S) (kQ (some (.int r))) 0 0 (mNo) := by
  refine Met.ofW (cc := cX11_row) (maxL := 6) (ret := (some .int)) (by decide) rfl ?_
  intro p e s m args below meth c s₁ B hml hv
  obtain ⟨rfl, hW, X⟩ := hv
  have C : cY p (headSpec (Cond.code yX11_row cX11_row 6 (some .int) :: lw_g) { frames := 4, cells := 0, slots := 0, locals := 104 }).room s m _ meth c RX11 cX11_row 6 4 0 0 104 (some .int) := ⟨B.exec, B.bytes, hml, findClass_of_methodNamed B.named, fun w hw => atoms_spec (ws := Cond.code yX11_row cX11_row 6 (some .int) :: lw_g) B.pre w (List.mem_cons_of_mem _ hw), ⟨Nat.le_refl _, Nat.le_refl _, Nat.le_refl _, Nat.le_refl _⟩, B.returns, B.notSynchronized⟩
  have hl := lv_entry ([.ref v0, .int v1, .int v2, .int v3]) (n := 6) (Nat.le_of_ble_eq_true rfl)
  rw [lg_entry_eq]
  generalize (lg_sl ([.ref v0, .int v1, .int v2, .int v3]) ++ List.replicate (6 - (lg_sl ([.ref v0, .int v1, .int v2, .int v3])).length) Slot.unset).toArray = ls at hl ⊢
  have hl : lv_has ls 6 [(0, .ref v0), (1, .int v1), (2, .int v2), (3, .int v3)] := hl
  unfold fk_11_row at h
  refine lv_iload_n C.1 C.2.1 dX11_row_0 rfl (lv_at hl 1 rfl) ?_
  obtain ⟨r1, h_r1, h⟩ := bd_ok h
  refine c_callS (rest := []) C hl.1 [.int v1] (tk_11_isNode l h_r1) cw11_112 ks_11_isNode rfl ⟨by decide, by decide⟩ ⟨(by decide), (by decide)⟩ rfl (Nat.le_of_ble_eq_true rfl) dX11_row_1 ?_
  refine W.eq (g2 := F0 m 4 ls [.int r1]) rfl ?_
  refine lv_if_eq (tgt := 18) C.1 C.2.1 dX11_row_4 (by decide) (fun c2 => ?_) (fun c2 => ?_)
  · have h := if_t h c2
    refine lv_null C.1 C.2.1 dX11_row_18 ?_
    exact wk_11_row_19 C X hW h (lv_sub hl [0, 1, 3] rfl)
  · have h := if_f h c2
    refine lv_aload_n C.1 C.2.1 dX11_row_7 rfl (lv_at hl 0 rfl) ?_
    obtain ⟨hk, h⟩ := ckk_ok h
    obtain ⟨a3, h_a3, h⟩ := bd_ok h
    refine gk11_19 C X hW hk h_a3 dX11_row_8 ?_
    refine lv_iload_n C.1 C.2.1 dX11_row_11 rfl (lv_at hl 2 rfl) ?_
    obtain ⟨hk, h⟩ := ckk_ok h
    obtain ⟨o4, h_o4, h⟩ := bd_ok h
    refine c_callR (rest := []) C X hW hl.1 0 (by decide) hk [.int v2] (tk_0_rowNamed l h_o4) cw11_381 ki_0_rowNamed kl_0_rowNamed rfl ⟨by decide, by decide⟩ ⟨(by decide), (by decide)⟩ rfl (Nat.le_of_ble_eq_true rfl) dX11_row_12 ?_
    refine W.eq (g2 := F0 m 15 ls [va_rf o4]) rfl ?_
    refine lv_goto (tgt := 19) C.1 C.2.1 dX11_row_15 (by decide) ?_
    exact wk_11_row_19 C X hW h (lv_sub hl [0, 1, 3] rfl)
end
theorem dX11_frame_0 : decode cX11_frame 0 = .ok (.aload_n 0, 1) := by decide +kernel
theorem dX11_frame_1 : decode cX11_frame 1 = .ok (.getfield 32, 3) := by decide +kernel
theorem dX11_frame_4 : decode cX11_frame 4 = .ok (.iload_n 1, 1) := by decide +kernel
theorem dX11_frame_5 : decode cX11_frame 5 = .ok (.invokevirtual 220, 3) := by decide +kernel
theorem dX11_frame_8 : decode cX11_frame 8 = .ok (.astore_n 3, 1) := by decide +kernel
theorem dX11_frame_9 : decode cX11_frame 9 = .ok (.aload_n 3, 1) := by decide +kernel
theorem dX11_frame_10 : decode cX11_frame 10 = .ok (.ifnull 7, 3) := by decide +kernel
theorem dX11_frame_13 : decode cX11_frame 13 = .ok (.iload_n 2, 1) := by decide +kernel
theorem dX11_frame_14 : decode cX11_frame 14 = .ok (.ifCond .ge 5, 3) := by decide +kernel
theorem dX11_frame_17 : decode cX11_frame 17 = .ok (.iconst (-1), 1) := by decide +kernel
theorem dX11_frame_18 : decode cX11_frame 18 = .ok (.ireturn, 1) := by decide +kernel
theorem dX11_frame_19 : decode cX11_frame 19 = .ok (.iload_n 2, 1) := by decide +kernel
theorem dX11_frame_20 : decode cX11_frame 20 = .ok (.tableswitch 60 0 3 #[32, 37, 42, 55], 32) := by decide +kernel
theorem dX11_frame_52 : decode cX11_frame 52 = .ok (.aload_n 3, 1) := by decide +kernel
theorem dX11_frame_53 : decode cX11_frame 53 = .ok (.getfield 236, 3) := by decide +kernel
theorem dX11_frame_56 : decode cX11_frame 56 = .ok (.ireturn, 1) := by decide +kernel
theorem dX11_frame_57 : decode cX11_frame 57 = .ok (.aload_n 3, 1) := by decide +kernel
theorem dX11_frame_58 : decode cX11_frame 58 = .ok (.getfield 239, 3) := by decide +kernel
theorem dX11_frame_61 : decode cX11_frame 61 = .ok (.ireturn, 1) := by decide +kernel
theorem dX11_frame_62 : decode cX11_frame 62 = .ok (.aload_n 3, 1) := by decide +kernel
theorem dX11_frame_63 : decode cX11_frame 63 = .ok (.getfield 246, 3) := by decide +kernel
theorem dX11_frame_66 : decode cX11_frame 66 = .ok (.ifCond .eq 7, 3) := by decide +kernel
theorem dX11_frame_69 : decode cX11_frame 69 = .ok (.iconst 1, 1) := by decide +kernel
theorem dX11_frame_70 : decode cX11_frame 70 = .ok (.goto 4, 3) := by decide +kernel
theorem dX11_frame_73 : decode cX11_frame 73 = .ok (.iconst 0, 1) := by decide +kernel
theorem dX11_frame_74 : decode cX11_frame 74 = .ok (.ireturn, 1) := by decide +kernel
theorem dX11_frame_75 : decode cX11_frame 75 = .ok (.aload_n 3, 1) := by decide +kernel
theorem dX11_frame_76 : decode cX11_frame 76 = .ok (.getfield 417, 3) := by decide +kernel
theorem dX11_frame_79 : decode cX11_frame 79 = .ok (.ireturn, 1) := by decide +kernel
theorem dX11_frame_80 : decode cX11_frame 80 = .ok (.iload_n 2, 1) := by decide +kernel
theorem dX11_frame_81 : decode cX11_frame 81 = .ok (.bipush 8, 2) := by decide +kernel
theorem dX11_frame_83 : decode cX11_frame 83 = .ok (.if_icmp .ge 12, 3) := by decide +kernel
theorem dX11_frame_86 : decode cX11_frame 86 = .ok (.aload_n 3, 1) := by decide +kernel
theorem dX11_frame_87 : decode cX11_frame 87 = .ok (.getfield 250, 3) := by decide +kernel
theorem dX11_frame_90 : decode cX11_frame 90 = .ok (.iload_n 2, 1) := by decide +kernel
theorem dX11_frame_91 : decode cX11_frame 91 = .ok (.iconst 4, 1) := by decide +kernel
theorem dX11_frame_92 : decode cX11_frame 92 = .ok (.isub, 1) := by decide +kernel
theorem dX11_frame_93 : decode cX11_frame 93 = .ok (.iaload, 1) := by decide +kernel
theorem dX11_frame_94 : decode cX11_frame 94 = .ok (.ireturn, 1) := by decide +kernel
theorem dX11_frame_95 : decode cX11_frame 95 = .ok (.iload_n 2, 1) := by decide +kernel
theorem dX11_frame_96 : decode cX11_frame 96 = .ok (.bipush 8, 2) := by decide +kernel
theorem dX11_frame_98 : decode cX11_frame 98 = .ok (.isub, 1) := by decide +kernel
theorem dX11_frame_99 : decode cX11_frame 99 = .ok (.aload_n 3, 1) := by decide +kernel
theorem dX11_frame_100 : decode cX11_frame 100 = .ok (.getfield 417, 3) := by decide +kernel
theorem dX11_frame_103 : decode cX11_frame 103 = .ok (.if_icmp .ge 18, 3) := by decide +kernel
theorem dX11_frame_106 : decode cX11_frame 106 = .ok (.aload_n 3, 1) := by decide +kernel
theorem dX11_frame_107 : decode cX11_frame 107 = .ok (.getfield 420, 3) := by decide +kernel
theorem dX11_frame_110 : decode cX11_frame 110 = .ok (.iload_n 2, 1) := by decide +kernel
theorem dX11_frame_111 : decode cX11_frame 111 = .ok (.bipush 8, 2) := by decide +kernel
theorem dX11_frame_113 : decode cX11_frame 113 = .ok (.isub, 1) := by decide +kernel
theorem dX11_frame_114 : decode cX11_frame 114 = .ok (.aaload, 1) := by decide +kernel
theorem dX11_frame_115 : decode cX11_frame 115 = .ok (.getfield 142, 3) := by decide +kernel
theorem dX11_frame_118 : decode cX11_frame 118 = .ok (.goto 4, 3) := by decide +kernel
theorem dX11_frame_121 : decode cX11_frame 121 = .ok (.iconst (-1), 1) := by decide +kernel
theorem dX11_frame_122 : decode cX11_frame 122 = .ok (.ireturn, 1) := by decide +kernel
theorem kd_11_frame : Cond.code yX11_frame cX11_frame 4 (some .int) ∈ lw_g := mt_at 1528 (by decide +kernel) rfl
theorem ki_11_frame : Cond.instanceMethod yX11_frame ∈ lw_g := mt_at 1526 (by decide +kernel) rfl
theorem kl_11_frame : Cond.selects (kRn 11) yX11_frame yX11_frame ∈ lw_g := mt_at 1527 (by decide +kernel) rfl
section
variable {p : Program} {l : Launch} {e : Env} {R : Room} {s : State} {m : MethodId} {args : Array Value} {below : List Frame} {meth : Method} {c : Code} {H : Heap} {locs : List Loc} {cells slots : Nat} {Q : State → Prop}
variable {D : cG} {S S0 : cSt} {cc : ByteArray} {nL : Nat} {pc : Nat} {ls : Array Slot} {rest : List Value} {H0 : Heap} {nF nR nC nS : Nat} {ret : Option FieldType} {a : Nat}
theorem gk11_417 (C : cY p R s m args meth c RX11 cc nL nF nC nS nR ret) (X : cX D s) (hW : cW D S H) (hk : kK S a = 3) (hdg : decode cc pc = .ok (.getfield 417, 3)) (kk : W p l e R s m args below meth c H locs cells slots Q (F0 m (pc + 3) ls (.int (kF S a 6) :: rest))) : W p l e R s m args below meth c H locs cells slots Q (F0 m pc ls (.ref a :: rest)) := c_get C X hW 2 (by decide) ly_2 hk 6 (by decide) (mt_at 1287 (by decide +kernel) (by decide +kernel)) hdg (by rw [cV_I (by decide +kernel)]; exact kk)
theorem gk11_420 (C : cY p R s m args meth c RX11 cc nL nF nC nS nR ret) (X : cX D s) (hW : cW D S H) (hk : kK S a = 3) {x : Nat} (hx : kR S a 2 = some x) (hdg : decode cc pc = .ok (.getfield 420, 3)) (kk : W p l e R s m args below meth c H locs cells slots Q (F0 m (pc + 3) ls (.ref x :: rest))) : W p l e R s m args below meth c H locs cells slots Q (F0 m pc ls (.ref a :: rest)) := c_get C X hW 2 (by decide) ly_2 hk 2 (by decide) (mt_at 1276 (by decide +kernel) (by decide +kernel)) hdg (by rw [cV_R (by decide +kernel) hx]; exact kk)
end
section
variable {p : Program} {l : Launch} {e : Env} {R : Room} {s : State} {m : MethodId} {args : Array Value} {below : List Frame} {meth : Method} {c : Code} {D : cG} {S : cSt} {r : Int32}
noncomputable def fk_11_frame_17 (S : cSt) : Option (Int32) :=
some (-1 : Int32)
set_option maxRecDepth 100000 in
set_option maxHeartbeats 4000000 in
theorem wk_11_frame_17 (C : cY p R s m args meth c RX11 cX11_frame 4 1 0 0 21 (some .int)) (X : cX D s) (hW : cW D S s.heap) : ∀ {ls : Array Slot}, fk_11_frame_17 S = some r → lv_has ls 4 [] → W p l e R s m args below meth c s.heap [] 0 0 (MQ below (kQ (some (.int r))) args s 0 0 mNo) (F0 m 17 ls []) := by
  intro ls h hl
  unfold fk_11_frame_17 at h
  refine lv_iconst (v := -1) C.1 C.2.1 dX11_frame_17 (by decide) ?_
  cases h
  exact c_reti C rfl rfl dX11_frame_18
noncomputable def fk_11_frame_122 (S : cSt) (s0 : Int32) : Option (Int32) :=
some s0
set_option maxRecDepth 100000 in
set_option maxHeartbeats 4000000 in
theorem wk_11_frame_122 (C : cY p R s m args meth c RX11 cX11_frame 4 1 0 0 21 (some .int)) (X : cX D s) (hW : cW D S s.heap) : ∀ {s0 : Int32} {ls : Array Slot}, fk_11_frame_122 S s0 = some r → lv_has ls 4 [] → W p l e R s m args below meth c s.heap [] 0 0 (MQ below (kQ (some (.int r))) args s 0 0 mNo) (F0 m 122 ls [.int s0]) := by
  intro s0 ls h hl
  unfold fk_11_frame_122 at h
  cases h
  exact c_reti C rfl rfl dX11_frame_122
noncomputable def fk_11_frame_74 (S : cSt) (s0 : Int32) : Option (Int32) :=
some s0
set_option maxRecDepth 100000 in
set_option maxHeartbeats 4000000 in
theorem wk_11_frame_74 (C : cY p R s m args meth c RX11 cX11_frame 4 1 0 0 21 (some .int)) (X : cX D s) (hW : cW D S s.heap) : ∀ {s0 : Int32} {ls : Array Slot}, fk_11_frame_74 S s0 = some r → lv_has ls 4 [] → W p l e R s m args below meth c s.heap [] 0 0 (MQ below (kQ (some (.int r))) args s 0 0 mNo) (F0 m 74 ls [.int s0]) := by
  intro s0 ls h hl
  unfold fk_11_frame_74 at h
  cases h
  exact c_reti C rfl rfl dX11_frame_74
noncomputable def fk_11_frame (S : cSt) (v0 : Nat) (v1 : Int32) (v2 : Int32) : Option (Int32) :=
ckk S v0 12 (bd (kR S v0 3) fun a1 =>
ckk S a1 6 (bd (fk_5_at S a1 v1) fun o2 =>
cs o2 (
fk_11_frame_17 S) (fun a3 =>
if 0 ≤ v2 then (
if v2 = (0 : Int32) then (
ckk S a3 3 (
some (kF S a3 3)))
else if v2 = (1 : Int32) then (
ckk S a3 3 (
some (kF S a3 4)))
else if v2 = (2 : Int32) then (
ckk S a3 3 (
if (kF S a3 5) = 0 then (
fk_11_frame_74 S (0 : Int32))
else (
fk_11_frame_74 S (1 : Int32))))
else if v2 = (3 : Int32) then (
ckk S a3 3 (
some (kF S a3 6)))
else (
if (8 : Int32) ≤ v2 then (
ckk S a3 3 (
if (kF S a3 6) ≤ (v2 - (8 : Int32)) then (
fk_11_frame_122 S (-1 : Int32))
else (
ckk S a3 3 (bd (kR S a3 2) fun a12 =>
ckk S a12 30 (ck (v2 - (8 : Int32)) (kL S a12) (lt (kO S a12 (Int32.toNatClampNeg (v2 - (8 : Int32)))) fun o13 =>
bd o13 fun a14 =>
ckk S a14 9 (
fk_11_frame_122 S (kF S a14 11))))))))
else (
ckk S a3 3 (bd (kR S a3 0) fun a15 =>
ckk S a15 20 (ck (v2 - (4 : Int32)) (kL S a15) (
some (kI S a15 (Int32.toNatClampNeg (v2 - (4 : Int32))))))))))
else (
fk_11_frame_17 S))))
set_option maxRecDepth 100000 in
set_option maxHeartbeats 4000000 in
theorem tk_11_frame (l : Launch) {D : cG} {S : cSt} {v0 : Nat} {v1 : Int32} {v2 : Int32} {r : Int32}  (h : fk_11_frame S v0 v1 v2 = some r) : Met l yX11_frame (Cond.code yX11_frame cX11_frame 4 (some .int) :: lw_g) { frames := 1, cells := 0, slots := 0, locals := 21 } (kPi [.ref v0, .int v1, .int v2] D S) (kQ (some (.int r))) 0 0 (mNo) := by
  refine Met.ofW (cc := cX11_frame) (maxL := 4) (ret := (some .int)) (by decide) rfl ?_
  intro p e s m args below meth c s₁ B hml hv
  obtain ⟨rfl, hW, X⟩ := hv
  have C : cY p (headSpec (Cond.code yX11_frame cX11_frame 4 (some .int) :: lw_g) { frames := 1, cells := 0, slots := 0, locals := 21 }).room s m _ meth c RX11 cX11_frame 4 1 0 0 21 (some .int) := ⟨B.exec, B.bytes, hml, findClass_of_methodNamed B.named, fun w hw => atoms_spec (ws := Cond.code yX11_frame cX11_frame 4 (some .int) :: lw_g) B.pre w (List.mem_cons_of_mem _ hw), ⟨Nat.le_refl _, Nat.le_refl _, Nat.le_refl _, Nat.le_refl _⟩, B.returns, B.notSynchronized⟩
  have hl := lv_entry ([.ref v0, .int v1, .int v2]) (n := 4) (Nat.le_of_ble_eq_true rfl)
  rw [lg_entry_eq]
  generalize (lg_sl ([.ref v0, .int v1, .int v2]) ++ List.replicate (4 - (lg_sl ([.ref v0, .int v1, .int v2])).length) Slot.unset).toArray = ls at hl ⊢
  have hl : lv_has ls 4 [(0, .ref v0), (1, .int v1), (2, .int v2)] := hl
  unfold fk_11_frame at h
  refine lv_aload_n C.1 C.2.1 dX11_frame_0 rfl (lv_at hl 0 rfl) ?_
  obtain ⟨hk, h⟩ := ckk_ok h
  obtain ⟨a1, h_a1, h⟩ := bd_ok h
  refine gk11_32 C X hW hk h_a1 dX11_frame_1 ?_
  refine lv_iload_n C.1 C.2.1 dX11_frame_4 rfl (lv_at hl 1 rfl) ?_
  obtain ⟨hk, h⟩ := ckk_ok h
  obtain ⟨o2, h_o2, h⟩ := bd_ok h
  refine c_callR (rest := []) C X hW hl.1 5 (by decide) hk [.int v1] (tk_5_at l h_o2) cw11_220 ki_5_at kl_5_at rfl ⟨by decide, by decide⟩ ⟨(by decide), (by decide)⟩ rfl (Nat.le_of_ble_eq_true rfl) dX11_frame_5 ?_
  refine W.eq (g2 := F0 m 8 ls [va_rf o2]) rfl ?_
  refine lv_astore_nq (o := o2) (lv' := [(3, va_rf o2), (0, .ref v0), (1, .int v1), (2, .int v2)]) C.1 C.2.1 dX11_frame_8 rfl hl (by decide) rfl (fun ls hl => ?_)
  refine lv_aload_nq (o := o2) C.1 C.2.1 dX11_frame_9 rfl (lv_at hl 0 rfl) ?_
  rcases o2 with _ | a3
  · replace h := cs_n h
    refine lv_ifnullN (tgt := 17) C.1 C.2.1 dX11_frame_10 (by decide) ?_
    exact wk_11_frame_17 C X hW h (lv_sub hl [] rfl)
  · replace h := cs_s h
    refine lv_ifnull C.1 C.2.1 dX11_frame_10 ?_
    refine lv_iload_n C.1 C.2.1 dX11_frame_13 rfl (lv_at hl 3 rfl) ?_
    refine lv_if_ge (tgt := 19) C.1 C.2.1 dX11_frame_14 (by decide) (fun c4 => ?_) (fun c4 => ?_)
    · have h := if_t h c4
      refine lv_iload_n C.1 C.2.1 dX11_frame_19 rfl (lv_at hl 3 rfl) ?_
      by_cases c5 : v2 = (0 : Int32)
      · have h := if_t h c5
        refine lv_tableIn (off := 32) (tgt := 52) C.1 C.2.1 dX11_frame_20 (by rw [c5]; decide) (by rw [c5]; decide) (by rw [c5]; rfl) (by decide) ?_
        refine lv_aload_n C.1 C.2.1 dX11_frame_52 rfl (lv_at hl 0 rfl) ?_
        obtain ⟨hk, h⟩ := ckk_ok h
        refine gk11_236 C X hW hk dX11_frame_53 ?_
        cases h
        exact c_reti C rfl rfl dX11_frame_56
      · have h := if_f h c5
        by_cases c6 : v2 = (1 : Int32)
        · have h := if_t h c6
          refine lv_tableIn (off := 37) (tgt := 57) C.1 C.2.1 dX11_frame_20 (by rw [c6]; decide) (by rw [c6]; decide) (by rw [c6]; rfl) (by decide) ?_
          refine lv_aload_n C.1 C.2.1 dX11_frame_57 rfl (lv_at hl 0 rfl) ?_
          obtain ⟨hk, h⟩ := ckk_ok h
          refine gk11_239 C X hW hk dX11_frame_58 ?_
          cases h
          exact c_reti C rfl rfl dX11_frame_61
        · have h := if_f h c6
          by_cases c7 : v2 = (2 : Int32)
          · have h := if_t h c7
            refine lv_tableIn (off := 42) (tgt := 62) C.1 C.2.1 dX11_frame_20 (by rw [c7]; decide) (by rw [c7]; decide) (by rw [c7]; rfl) (by decide) ?_
            refine lv_aload_n C.1 C.2.1 dX11_frame_62 rfl (lv_at hl 0 rfl) ?_
            obtain ⟨hk, h⟩ := ckk_ok h
            refine gk11_246 C X hW hk dX11_frame_63 ?_
            refine lv_if_eq (tgt := 73) C.1 C.2.1 dX11_frame_66 (by decide) (fun c8 => ?_) (fun c8 => ?_)
            · have h := if_t h c8
              refine lv_iconst (v := 0) C.1 C.2.1 dX11_frame_73 (by decide) ?_
              exact wk_11_frame_74 C X hW h (lv_sub hl [] rfl)
            · have h := if_f h c8
              refine lv_iconst (v := 1) C.1 C.2.1 dX11_frame_69 (by decide) ?_
              refine lv_goto (tgt := 74) C.1 C.2.1 dX11_frame_70 (by decide) ?_
              exact wk_11_frame_74 C X hW h (lv_sub hl [] rfl)
          · have h := if_f h c7
            by_cases c9 : v2 = (3 : Int32)
            · have h := if_t h c9
              refine lv_tableIn (off := 55) (tgt := 75) C.1 C.2.1 dX11_frame_20 (by rw [c9]; decide) (by rw [c9]; decide) (by rw [c9]; rfl) (by decide) ?_
              refine lv_aload_n C.1 C.2.1 dX11_frame_75 rfl (lv_at hl 0 rfl) ?_
              obtain ⟨hk, h⟩ := ckk_ok h
              refine gk11_417 C X hW hk dX11_frame_76 ?_
              cases h
              exact c_reti C rfl rfl dX11_frame_79
            · have h := if_f h c9
              have n_c5 := lv_neT c5 (a := 0) rfl
              have n_c6 := lv_neT c6 (a := 1) rfl
              have n_c7 := lv_neT c7 (a := 2) rfl
              have n_c9 := lv_neT c9 (a := 3) rfl
              refine lv_tableOut (tgt := 80) C.1 C.2.1 dX11_frame_20 (by omega) (by decide) ?_
              refine lv_iload_n C.1 C.2.1 dX11_frame_80 rfl (lv_at hl 3 rfl) ?_
              refine lv_bipush (v := 8) C.1 C.2.1 dX11_frame_81 (by decide) ?_
              refine lv_icmp_ge (tgt := 95) C.1 C.2.1 dX11_frame_83 (by decide) (fun c10 => ?_) (fun c10 => ?_)
              · have h := if_t h c10
                refine lv_iload_n C.1 C.2.1 dX11_frame_95 rfl (lv_at hl 3 rfl) ?_
                refine lv_bipush (v := 8) C.1 C.2.1 dX11_frame_96 (by decide) ?_
                refine lv_isub C.1 C.2.1 dX11_frame_98 ?_
                refine lv_aload_n C.1 C.2.1 dX11_frame_99 rfl (lv_at hl 0 rfl) ?_
                obtain ⟨hk, h⟩ := ckk_ok h
                refine gk11_417 C X hW hk dX11_frame_100 ?_
                refine lv_icmp_ge (tgt := 121) C.1 C.2.1 dX11_frame_103 (by decide) (fun c11 => ?_) (fun c11 => ?_)
                · have h := if_t h c11
                  refine lv_iconst (v := -1) C.1 C.2.1 dX11_frame_121 (by decide) ?_
                  exact wk_11_frame_122 C X hW h (lv_sub hl [] rfl)
                · have h := if_f h c11
                  refine lv_aload_n C.1 C.2.1 dX11_frame_106 rfl (lv_at hl 0 rfl) ?_
                  obtain ⟨hk, h⟩ := ckk_ok h
                  obtain ⟨a12, h_a12, h⟩ := bd_ok h
                  refine gk11_420 C X hW hk h_a12 dX11_frame_107 ?_
                  refine lv_iload_n C.1 C.2.1 dX11_frame_110 rfl (lv_at hl 3 rfl) ?_
                  refine lv_bipush (v := 8) C.1 C.2.1 dX11_frame_111 (by decide) ?_
                  refine lv_isub C.1 C.2.1 dX11_frame_113 ?_
                  obtain ⟨hk, h⟩ := ckk_ok h
                  obtain ⟨hin2, h⟩ := ck_ok h
                  refine c_aald C 30 (by decide) X.2.2.2.2.1 hW hk hin2 dX11_frame_114 ?_
                  refine lt_ok h (fun o13 e_o13 h => ?_)
                  refine lv_nmq e_o13 ?_
                  obtain ⟨a14, e_a14, h⟩ := bd_ok h
                  revert h; subst e_a14; intro h
                  obtain ⟨hk, h⟩ := ckk_ok h
                  refine gk11_142 C X hW hk dX11_frame_115 ?_
                  refine lv_goto (tgt := 122) C.1 C.2.1 dX11_frame_118 (by decide) ?_
                  exact wk_11_frame_122 C X hW h (lv_sub hl [] rfl)
              · have h := if_f h c10
                refine lv_aload_n C.1 C.2.1 dX11_frame_86 rfl (lv_at hl 0 rfl) ?_
                obtain ⟨hk, h⟩ := ckk_ok h
                obtain ⟨a15, h_a15, h⟩ := bd_ok h
                refine gk11_250 C X hW hk h_a15 dX11_frame_87 ?_
                refine lv_iload_n C.1 C.2.1 dX11_frame_90 rfl (lv_at hl 3 rfl) ?_
                refine lv_iconst (v := 4) C.1 C.2.1 dX11_frame_91 (by decide) ?_
                refine lv_isub C.1 C.2.1 dX11_frame_92 ?_
                obtain ⟨hk, h⟩ := ckk_ok h
                obtain ⟨hin2, h⟩ := ck_ok h
                refine c_iald C X hW hk hin2 dX11_frame_93 ?_
                cases h
                exact c_reti C rfl rfl dX11_frame_94
    · have h := if_f h c4
      exact wk_11_frame_17 C X hW h (lv_sub hl [] rfl)
end
theorem dX11_news_0 : decode cX11_news 0 = .ok (.iload_n 1, 1) := by decide +kernel
theorem dX11_news_1 : decode cX11_news 1 = .ok (.invokestatic 112, 3) := by decide +kernel
theorem dX11_news_4 : decode cX11_news 4 = .ok (.ifCond .eq 20, 3) := by decide +kernel
theorem dX11_news_7 : decode cX11_news 7 = .ok (.aload_n 0, 1) := by decide +kernel
theorem dX11_news_8 : decode cX11_news 8 = .ok (.getfield 25, 3) := by decide +kernel
theorem dX11_news_11 : decode cX11_news 11 = .ok (.iload_n 1, 1) := by decide +kernel
theorem dX11_news_12 : decode cX11_news 12 = .ok (.aaload, 1) := by decide +kernel
theorem dX11_news_13 : decode cX11_news 13 = .ok (.getfield 423, 3) := by decide +kernel
theorem dX11_news_16 : decode cX11_news 16 = .ok (.iload_n 2, 1) := by decide +kernel
theorem dX11_news_17 : decode cX11_news 17 = .ok (.iload_n 3, 1) := by decide +kernel
theorem dX11_news_18 : decode cX11_news 18 = .ok (.invokevirtual 208, 3) := by decide +kernel
theorem dX11_news_21 : decode cX11_news 21 = .ok (.goto 4, 3) := by decide +kernel
theorem dX11_news_24 : decode cX11_news 24 = .ok (.iconst (-1), 1) := by decide +kernel
theorem dX11_news_25 : decode cX11_news 25 = .ok (.ireturn, 1) := by decide +kernel
theorem kd_11_news : Cond.code yX11_news cX11_news 4 (some .int) ∈ lw_g := mt_at 1532 (by decide +kernel) rfl
theorem ki_11_news : Cond.instanceMethod yX11_news ∈ lw_g := mt_at 1530 (by decide +kernel) rfl
theorem kl_11_news : Cond.selects (kRn 11) yX11_news yX11_news ∈ lw_g := mt_at 1531 (by decide +kernel) rfl
section
variable {p : Program} {l : Launch} {e : Env} {R : Room} {s : State} {m : MethodId} {args : Array Value} {below : List Frame} {meth : Method} {c : Code} {H : Heap} {locs : List Loc} {cells slots : Nat} {Q : State → Prop}
variable {D : cG} {S S0 : cSt} {cc : ByteArray} {nL : Nat} {pc : Nat} {ls : Array Slot} {rest : List Value} {H0 : Heap} {nF nR nC nS : Nat} {ret : Option FieldType} {a : Nat}
theorem gk11_423 (C : cY p R s m args meth c RX11 cc nL nF nC nS nR ret) (X : cX D s) (hW : cW D S H) (hk : kK S a = 8) {x : Nat} (hx : kR S a 3 = some x) (hdg : decode cc pc = .ok (.getfield 423, 3)) (kk : W p l e R s m args below meth c H locs cells slots Q (F0 m (pc + 3) ls (.ref x :: rest))) : W p l e R s m args below meth c H locs cells slots Q (F0 m pc ls (.ref a :: rest)) := c_get C X hW 7 (by decide) ly_7 hk 3 (by decide) (mt_at 310 (by decide +kernel) (by decide +kernel)) hdg (by rw [cV_R (by decide +kernel) hx]; exact kk)
end
section
variable {p : Program} {l : Launch} {e : Env} {R : Room} {s : State} {m : MethodId} {args : Array Value} {below : List Frame} {meth : Method} {c : Code} {D : cG} {S : cSt} {r : Int32}
noncomputable def fk_11_news_25 (S : cSt) (s0 : Int32) : Option (Int32) :=
some s0
set_option maxRecDepth 100000 in
set_option maxHeartbeats 4000000 in
theorem wk_11_news_25 (C : cY p R s m args meth c RX11 cX11_news 4 1 0 0 23 (some .int)) (X : cX D s) (hW : cW D S s.heap) : ∀ {s0 : Int32} {ls : Array Slot}, fk_11_news_25 S s0 = some r → lv_has ls 4 [] → W p l e R s m args below meth c s.heap [] 0 0 (MQ below (kQ (some (.int r))) args s 0 0 mNo) (F0 m 25 ls [.int s0]) := by
  intro s0 ls h hl
  unfold fk_11_news_25 at h
  cases h
  exact c_reti C rfl rfl dX11_news_25
noncomputable def fk_11_news (S : cSt) (v0 : Nat) (v1 : Int32) (v2 : Int32) (v3 : Int32) : Option (Int32) :=
bd (fk_11_isNode v1) fun r1 =>
if r1 = 0 then (
fk_11_news_25 S (-1 : Int32))
else (
ckk S v0 12 (bd (kR S v0 2) fun a3 =>
ckk S a3 31 (ck v1 (kL S a3) (lt (kO S a3 (Int32.toNatClampNeg v1)) fun o4 =>
bd o4 fun a5 =>
ckk S a5 8 (bd (kR S a5 3) fun a6 =>
ckk S a6 7 (bd (fk_6_read S a6 v2 v3) fun r7 =>
fk_11_news_25 S r7))))))
set_option maxRecDepth 100000 in
set_option maxHeartbeats 4000000 in
theorem tk_11_news (l : Launch) {D : cG} {S : cSt} {v0 : Nat} {v1 : Int32} {v2 : Int32} {v3 : Int32} {r : Int32}  (h : fk_11_news S v0 v1 v2 v3 = some r) : Met l yX11_news (Cond.code yX11_news cX11_news 4 (some .int) :: lw_g) { frames := 1, cells := 0, slots := 0, locals := 23 } (kPi [.ref v0, .int v1, .int v2, .int v3] D S) (kQ (some (.int r))) 0 0 (mNo) := by
  refine Met.ofW (cc := cX11_news) (maxL := 4) (ret := (some .int)) (by decide) rfl ?_
  intro p e s m args below meth c s₁ B hml hv
  obtain ⟨rfl, hW, X⟩ := hv
  have C : cY p (headSpec (Cond.code yX11_news cX11_news 4 (some .int) :: lw_g) { frames := 1, cells := 0, slots := 0, locals := 23 }).room s m _ meth c RX11 cX11_news 4 1 0 0 23 (some .int) := ⟨B.exec, B.bytes, hml, findClass_of_methodNamed B.named, fun w hw => atoms_spec (ws := Cond.code yX11_news cX11_news 4 (some .int) :: lw_g) B.pre w (List.mem_cons_of_mem _ hw), ⟨Nat.le_refl _, Nat.le_refl _, Nat.le_refl _, Nat.le_refl _⟩, B.returns, B.notSynchronized⟩
  have hl := lv_entry ([.ref v0, .int v1, .int v2, .int v3]) (n := 4) (Nat.le_of_ble_eq_true rfl)
  rw [lg_entry_eq]
  generalize (lg_sl ([.ref v0, .int v1, .int v2, .int v3]) ++ List.replicate (4 - (lg_sl ([.ref v0, .int v1, .int v2, .int v3])).length) Slot.unset).toArray = ls at hl ⊢
  have hl : lv_has ls 4 [(0, .ref v0), (1, .int v1), (2, .int v2), (3, .int v3)] := hl
  unfold fk_11_news at h
  refine lv_iload_n C.1 C.2.1 dX11_news_0 rfl (lv_at hl 1 rfl) ?_
  obtain ⟨r1, h_r1, h⟩ := bd_ok h
  refine c_callS (rest := []) C hl.1 [.int v1] (tk_11_isNode l h_r1) cw11_112 ks_11_isNode rfl ⟨by decide, by decide⟩ ⟨(by decide), (by decide)⟩ rfl (Nat.le_of_ble_eq_true rfl) dX11_news_1 ?_
  refine W.eq (g2 := F0 m 4 ls [.int r1]) rfl ?_
  refine lv_if_eq (tgt := 24) C.1 C.2.1 dX11_news_4 (by decide) (fun c2 => ?_) (fun c2 => ?_)
  · have h := if_t h c2
    refine lv_iconst (v := -1) C.1 C.2.1 dX11_news_24 (by decide) ?_
    exact wk_11_news_25 C X hW h (lv_sub hl [] rfl)
  · have h := if_f h c2
    refine lv_aload_n C.1 C.2.1 dX11_news_7 rfl (lv_at hl 0 rfl) ?_
    obtain ⟨hk, h⟩ := ckk_ok h
    obtain ⟨a3, h_a3, h⟩ := bd_ok h
    refine gk11_25 C X hW hk h_a3 dX11_news_8 ?_
    refine lv_iload_n C.1 C.2.1 dX11_news_11 rfl (lv_at hl 1 rfl) ?_
    obtain ⟨hk, h⟩ := ckk_ok h
    obtain ⟨hin2, h⟩ := ck_ok h
    refine c_aald C 31 (by decide) X.2.2.2.2.2.1 hW hk hin2 dX11_news_12 ?_
    refine lt_ok h (fun o4 e_o4 h => ?_)
    refine lv_nmq e_o4 ?_
    obtain ⟨a5, e_a5, h⟩ := bd_ok h
    revert h; subst e_a5; intro h
    obtain ⟨hk, h⟩ := ckk_ok h
    obtain ⟨a6, h_a6, h⟩ := bd_ok h
    refine gk11_423 C X hW hk h_a6 dX11_news_13 ?_
    refine lv_iload_n C.1 C.2.1 dX11_news_16 rfl (lv_at hl 2 rfl) ?_
    refine lv_iload_n C.1 C.2.1 dX11_news_17 rfl (lv_at hl 3 rfl) ?_
    obtain ⟨hk, h⟩ := ckk_ok h
    obtain ⟨r7, h_r7, h⟩ := bd_ok h
    refine c_callR (rest := []) C X hW hl.1 6 (by decide) hk [.int v2, .int v3] (tk_6_read l h_r7) cw11_208 ki_6_read kl_6_read rfl ⟨by decide, by decide⟩ ⟨(by decide), (by decide)⟩ rfl (Nat.le_of_ble_eq_true rfl) dX11_news_18 ?_
    refine W.eq (g2 := F0 m 21 ls [.int r7]) rfl ?_
    refine lv_goto (tgt := 25) C.1 C.2.1 dX11_news_21 (by decide) ?_
    exact wk_11_news_25 C X hW h (lv_sub hl [] rfl)
end
theorem dX11_calm_0 : decode cX11_calm 0 = .ok (.iload_n 1, 1) := by decide +kernel
theorem dX11_calm_1 : decode cX11_calm 1 = .ok (.invokestatic 112, 3) := by decide +kernel
theorem dX11_calm_4 : decode cX11_calm 4 = .ok (.ifCond .ne 5, 3) := by decide +kernel
theorem dX11_calm_7 : decode cX11_calm 7 = .ok (.iconst (-1), 1) := by decide +kernel
theorem dX11_calm_8 : decode cX11_calm 8 = .ok (.ireturn, 1) := by decide +kernel
theorem dX11_calm_9 : decode cX11_calm 9 = .ok (.aload_n 0, 1) := by decide +kernel
theorem dX11_calm_10 : decode cX11_calm 10 = .ok (.getfield 25, 3) := by decide +kernel
theorem dX11_calm_13 : decode cX11_calm 13 = .ok (.iload_n 1, 1) := by decide +kernel
theorem dX11_calm_14 : decode cX11_calm 14 = .ok (.aaload, 1) := by decide +kernel
theorem dX11_calm_15 : decode cX11_calm 15 = .ok (.getfield 423, 3) := by decide +kernel
theorem dX11_calm_18 : decode cX11_calm 18 = .ok (.getfield 426, 3) := by decide +kernel
theorem dX11_calm_21 : decode cX11_calm 21 = .ok (.istore_n 2, 1) := by decide +kernel
theorem dX11_calm_22 : decode cX11_calm 22 = .ok (.aload_n 0, 1) := by decide +kernel
theorem dX11_calm_23 : decode cX11_calm 23 = .ok (.getfield 25, 3) := by decide +kernel
theorem dX11_calm_26 : decode cX11_calm 26 = .ok (.iload_n 1, 1) := by decide +kernel
theorem dX11_calm_27 : decode cX11_calm 27 = .ok (.aaload, 1) := by decide +kernel
theorem dX11_calm_28 : decode cX11_calm 28 = .ok (.getfield 423, 3) := by decide +kernel
theorem dX11_calm_31 : decode cX11_calm 31 = .ok (.iconst 0, 1) := by decide +kernel
theorem dX11_calm_32 : decode cX11_calm 32 = .ok (.putfield 426, 3) := by decide +kernel
theorem dX11_calm_35 : decode cX11_calm 35 = .ok (.aload_n 0, 1) := by decide +kernel
theorem dX11_calm_36 : decode cX11_calm 36 = .ok (.getfield 25, 3) := by decide +kernel
theorem dX11_calm_39 : decode cX11_calm 39 = .ok (.iload_n 1, 1) := by decide +kernel
theorem dX11_calm_40 : decode cX11_calm 40 = .ok (.aaload, 1) := by decide +kernel
theorem dX11_calm_41 : decode cX11_calm 41 = .ok (.getfield 204, 3) := by decide +kernel
theorem dX11_calm_44 : decode cX11_calm 44 = .ok (.iconst 0, 1) := by decide +kernel
theorem dX11_calm_45 : decode cX11_calm 45 = .ok (.putfield 426, 3) := by decide +kernel
theorem dX11_calm_48 : decode cX11_calm 48 = .ok (.iload_n 2, 1) := by decide +kernel
theorem dX11_calm_49 : decode cX11_calm 49 = .ok (.ireturn, 1) := by decide +kernel
theorem kd_11_calm : Cond.code yX11_calm cX11_calm 3 (some .int) ∈ lw_g := mt_at 1536 (by decide +kernel) rfl
theorem ki_11_calm : Cond.instanceMethod yX11_calm ∈ lw_g := mt_at 1534 (by decide +kernel) rfl
theorem kl_11_calm : Cond.selects (kRn 11) yX11_calm yX11_calm ∈ lw_g := mt_at 1535 (by decide +kernel) rfl
section
variable {p : Program} {l : Launch} {e : Env} {R : Room} {s : State} {m : MethodId} {args : Array Value} {below : List Frame} {meth : Method} {c : Code} {H : Heap} {locs : List Loc} {cells slots : Nat} {Q : State → Prop}
variable {D : cG} {S S0 : cSt} {cc : ByteArray} {nL : Nat} {pc : Nat} {ls : Array Slot} {rest : List Value} {H0 : Heap} {nF nR nC nS : Nat} {ret : Option FieldType} {a : Nat}
theorem gk11_426 (C : cY p R s m args meth c RX11 cc nL nF nC nS nR ret) (X : cX D s) (hW : cW D S H) (hk : kK S a = 7) (hdg : decode cc pc = .ok (.getfield 426, 3)) (kk : W p l e R s m args below meth c H locs cells slots Q (F0 m (pc + 3) ls (.int (kF S a 0) :: rest))) : W p l e R s m args below meth c H locs cells slots Q (F0 m pc ls (.ref a :: rest)) := c_get C X hW 6 (by decide) ly_6 hk 0 (by decide) (mt_at 205 (by decide +kernel) (by decide +kernel)) hdg (by rw [cV_I (by decide +kernel)]; exact kk)
theorem pk11_426 {x : Int32} (C : cY p R s m args meth c RX11 cc nL nF nC nS nR ret) (X : cX D s) (hJ : cJ D S0 H0 S H locs) (hk : kK S a = 7) (hdg : decode cc pc = .ok (.putfield 426, 3)) (kk : ∀ (H1 : Heap) (locs1 : List Loc), cJ D S0 H0 (cPi S a 0 x) H1 locs1 → W p l e R s m args below meth c H1 locs1 cells slots Q (F0 m (pc + 3) ls (rest))) : W p l e R s m args below meth c H locs cells slots Q (F0 m pc ls (.int x :: .ref a :: rest)) := c_put (S1 := (cPi S a 0 x)) C X hJ 6 (by decide) ly_6 hk 0 (by decide) (by decide +kernel)  rfl rfl (by decide) rfl rfl (fun j _ => c_vI (by decide +kernel)) c_oPi (mt_at 205 (by decide +kernel) (by decide +kernel)) hdg kk
end
section
variable {p : Program} {l : Launch} {e : Env} {R : Room} {s : State} {m : MethodId} {args : Array Value} {below : List Frame} {meth : Method} {c : Code} {D : cG} {S0 S9 : cSt} {r : Int32}
noncomputable def fk_11_calm (S : cSt) (v0 : Nat) (v1 : Int32) : Option (Int32 × cSt) :=
bd (fk_11_isNode v1) fun r1 =>
if r1 = 0 then (
some ((-1 : Int32), S))
else (
ckk S v0 12 (bd (kR S v0 2) fun a3 =>
ckk S a3 31 (ck v1 (kL S a3) (lt (kO S a3 (Int32.toNatClampNeg v1)) fun o4 =>
bd o4 fun a5 =>
ckk S a5 8 (bd (kR S a5 3) fun a6 =>
ckk S a6 7 (
lt (kF S a6 0) fun x7 =>
ckk S v0 12 (bd (kR S v0 2) fun a8 =>
ckk S a8 31 (ck v1 (kL S a8) (lt (kO S a8 (Int32.toNatClampNeg v1)) fun o9 =>
bd o9 fun a10 =>
ckk S a10 8 (bd (kR S a10 3) fun a11 =>
ckk S a11 7 (lt (cPi S a11 0 (0 : Int32)) fun S12 =>
ckk S12 v0 12 (bd (kR S12 v0 2) fun a13 =>
ckk S12 a13 31 (ck v1 (kL S12 a13) (lt (kO S12 a13 (Int32.toNatClampNeg v1)) fun o14 =>
bd o14 fun a15 =>
ckk S12 a15 8 (bd (kR S12 a15 4) fun a16 =>
ckk S12 a16 7 (lt (cPi S12 a16 0 (0 : Int32)) fun S17 =>
some (x7, S17)))))))))))))))))
set_option maxRecDepth 100000 in
set_option maxHeartbeats 4000000 in
theorem tk_11_calm (l : Launch) {D : cG} {S : cSt} {v0 : Nat} {v1 : Int32} {r : Int32} {S9 : cSt} (h : fk_11_calm S v0 v1 = some (r, S9)) : Met l yX11_calm (Cond.code yX11_calm cX11_calm 3 (some .int) :: lw_g) { frames := 1, cells := 0, slots := 0, locals := 20 } (kPi [.ref v0, .int v1] D S) (kW (some (.int r)) D S S9) 0 0 (cA S) := by
  refine Met.ofW (cc := cX11_calm) (maxL := 3) (ret := (some .int)) (by decide) rfl ?_
  intro p e s m args below meth c s₁ B hml hv
  obtain ⟨rfl, hW, X⟩ := hv
  have C : cY p (headSpec (Cond.code yX11_calm cX11_calm 3 (some .int) :: lw_g) { frames := 1, cells := 0, slots := 0, locals := 20 }).room s m _ meth c RX11 cX11_calm 3 1 0 0 20 (some .int) := ⟨B.exec, B.bytes, hml, findClass_of_methodNamed B.named, fun w hw => atoms_spec (ws := Cond.code yX11_calm cX11_calm 3 (some .int) :: lw_g) B.pre w (List.mem_cons_of_mem _ hw), ⟨Nat.le_refl _, Nat.le_refl _, Nat.le_refl _, Nat.le_refl _⟩, B.returns, B.notSynchronized⟩
  have hl := lv_entry ([.ref v0, .int v1]) (n := 3) (Nat.le_of_ble_eq_true rfl)
  rw [lg_entry_eq]
  generalize (lg_sl ([.ref v0, .int v1]) ++ List.replicate (3 - (lg_sl ([.ref v0, .int v1])).length) Slot.unset).toArray = ls at hl ⊢
  have hl : lv_has ls 3 [(0, .ref v0), (1, .int v1)] := hl
  have hJ : cJ D S s.heap S s.heap [] := cJ.rf hW
  unfold fk_11_calm at h
  refine lv_iload_n C.1 C.2.1 dX11_calm_0 rfl (lv_at hl 1 rfl) ?_
  obtain ⟨r1, h_r1, h⟩ := bd_ok h
  refine c_callS (rest := []) C hl.1 [.int v1] (tk_11_isNode l h_r1) cw11_112 ks_11_isNode rfl ⟨by decide, by decide⟩ ⟨(by decide), (by decide)⟩ rfl (Nat.le_of_ble_eq_true rfl) dX11_calm_1 ?_
  refine W.eq (g2 := F0 m 4 ls [.int r1]) rfl ?_
  refine lv_if_ne (tgt := 9) C.1 C.2.1 dX11_calm_4 (by decide) (fun c2 => ?_) (fun c2 => ?_)
  · have h := if_f h c2
    refine lv_aload_n C.1 C.2.1 dX11_calm_9 rfl (lv_at hl 0 rfl) ?_
    obtain ⟨hk, h⟩ := ckk_ok h
    obtain ⟨a3, h_a3, h⟩ := bd_ok h
    refine gk11_25 C X hJ.1 hk h_a3 dX11_calm_10 ?_
    refine lv_iload_n C.1 C.2.1 dX11_calm_13 rfl (lv_at hl 1 rfl) ?_
    obtain ⟨hk, h⟩ := ckk_ok h
    obtain ⟨hin2, h⟩ := ck_ok h
    refine c_aald C 31 (by decide) X.2.2.2.2.2.1 hJ.1 hk hin2 dX11_calm_14 ?_
    refine lt_ok h (fun o4 e_o4 h => ?_)
    refine lv_nmq e_o4 ?_
    obtain ⟨a5, e_a5, h⟩ := bd_ok h
    revert h; subst e_a5; intro h
    obtain ⟨hk, h⟩ := ckk_ok h
    obtain ⟨a6, h_a6, h⟩ := bd_ok h
    refine gk11_423 C X hJ.1 hk h_a6 dX11_calm_15 ?_
    obtain ⟨hk, h⟩ := ckk_ok h
    refine gk11_426 C X hJ.1 hk dX11_calm_18 ?_
    refine lt_ok h (fun x7 e_x7 h => ?_)
    refine lv_nm e_x7 ?_
    refine lv_istore_n (lv' := [(2, .int x7), (0, .ref v0), (1, .int v1)]) C.1 C.2.1 dX11_calm_21 rfl hl (by decide) rfl (fun ls hl => ?_)
    refine lv_aload_n C.1 C.2.1 dX11_calm_22 rfl (lv_at hl 1 rfl) ?_
    obtain ⟨hk, h⟩ := ckk_ok h
    obtain ⟨a8, h_a8, h⟩ := bd_ok h
    refine gk11_25 C X hJ.1 hk h_a8 dX11_calm_23 ?_
    refine lv_iload_n C.1 C.2.1 dX11_calm_26 rfl (lv_at hl 2 rfl) ?_
    obtain ⟨hk, h⟩ := ckk_ok h
    obtain ⟨hin2, h⟩ := ck_ok h
    refine c_aald C 31 (by decide) X.2.2.2.2.2.1 hJ.1 hk hin2 dX11_calm_27 ?_
    refine lt_ok h (fun o9 e_o9 h => ?_)
    refine lv_nmq e_o9 ?_
    obtain ⟨a10, e_a10, h⟩ := bd_ok h
    revert h; subst e_a10; intro h
    obtain ⟨hk, h⟩ := ckk_ok h
    obtain ⟨a11, h_a11, h⟩ := bd_ok h
    refine gk11_423 C X hJ.1 hk h_a11 dX11_calm_28 ?_
    refine lv_iconst (v := 0) C.1 C.2.1 dX11_calm_31 (by decide) ?_
    obtain ⟨hk, h⟩ := ckk_ok h
    refine pk11_426 C X hJ hk dX11_calm_32 (fun H locs hJ => ?_)
    refine lt_ok h (fun S12 e_S12 h => ?_)
    rw [e_S12] at hJ
    refine lv_aload_n C.1 C.2.1 dX11_calm_35 rfl (lv_at hl 1 rfl) ?_
    obtain ⟨hk, h⟩ := ckk_ok h
    obtain ⟨a13, h_a13, h⟩ := bd_ok h
    refine gk11_25 C X hJ.1 hk h_a13 dX11_calm_36 ?_
    refine lv_iload_n C.1 C.2.1 dX11_calm_39 rfl (lv_at hl 2 rfl) ?_
    obtain ⟨hk, h⟩ := ckk_ok h
    obtain ⟨hin2, h⟩ := ck_ok h
    refine c_aald C 31 (by decide) X.2.2.2.2.2.1 hJ.1 hk hin2 dX11_calm_40 ?_
    refine lt_ok h (fun o14 e_o14 h => ?_)
    refine lv_nmq e_o14 ?_
    obtain ⟨a15, e_a15, h⟩ := bd_ok h
    revert h; subst e_a15; intro h
    obtain ⟨hk, h⟩ := ckk_ok h
    obtain ⟨a16, h_a16, h⟩ := bd_ok h
    refine gk11_204 C X hJ.1 hk h_a16 dX11_calm_41 ?_
    refine lv_iconst (v := 0) C.1 C.2.1 dX11_calm_44 (by decide) ?_
    obtain ⟨hk, h⟩ := ckk_ok h
    refine pk11_426 C X hJ hk dX11_calm_45 (fun H locs hJ => ?_)
    refine lt_ok h (fun S17 e_S17 h => ?_)
    rw [e_S17] at hJ
    refine lv_iload_n C.1 C.2.1 dX11_calm_48 rfl (lv_at hl 0 rfl) ?_
    cases h
    exact c_retiW C hJ dX11_calm_49
  · have h := if_t h c2
    refine lv_iconst (v := -1) C.1 C.2.1 dX11_calm_7 (by decide) ?_
    cases h
    exact c_retiW C hJ dX11_calm_8
end
theorem dX11_thereAt_0 : decode cX11_thereAt 0 = .ok (.iconst 0, 1) := by decide +kernel
theorem dX11_thereAt_1 : decode cX11_thereAt 1 = .ok (.istore_n 1, 1) := by decide +kernel
theorem dX11_thereAt_2 : decode cX11_thereAt 2 = .ok (.iconst 0, 1) := by decide +kernel
theorem dX11_thereAt_3 : decode cX11_thereAt 3 = .ok (.istore_n 2, 1) := by decide +kernel
theorem dX11_thereAt_4 : decode cX11_thereAt 4 = .ok (.iload_n 2, 1) := by decide +kernel
theorem dX11_thereAt_5 : decode cX11_thereAt 5 = .ok (.bipush 48, 2) := by decide +kernel
theorem dX11_thereAt_7 : decode cX11_thereAt 7 = .ok (.if_icmp .ge 23, 3) := by decide +kernel
theorem dX11_thereAt_10 : decode cX11_thereAt 10 = .ok (.aload_n 0, 1) := by decide +kernel
theorem dX11_thereAt_11 : decode cX11_thereAt 11 = .ok (.getfield 147, 3) := by decide +kernel
theorem dX11_thereAt_14 : decode cX11_thereAt 14 = .ok (.iload_n 2, 1) := by decide +kernel
theorem dX11_thereAt_15 : decode cX11_thereAt 15 = .ok (.invokevirtual 298, 3) := by decide +kernel
theorem dX11_thereAt_18 : decode cX11_thereAt 18 = .ok (.ifCond .eq 6, 3) := by decide +kernel
theorem dX11_thereAt_21 : decode cX11_thereAt 21 = .ok (.iinc 1 1, 3) := by decide +kernel
theorem dX11_thereAt_24 : decode cX11_thereAt 24 = .ok (.iinc 2 1, 3) := by decide +kernel
theorem dX11_thereAt_27 : decode cX11_thereAt 27 = .ok (.goto (-23), 3) := by decide +kernel
theorem dX11_thereAt_30 : decode cX11_thereAt 30 = .ok (.iload_n 1, 1) := by decide +kernel
theorem dX11_thereAt_31 : decode cX11_thereAt 31 = .ok (.ireturn, 1) := by decide +kernel
theorem kd_11_thereAt : Cond.code yX11_thereAt cX11_thereAt 3 (some .int) ∈ lw_g := mt_at 1544 (by decide +kernel) rfl
theorem ks_11_thereAt : Cond.static yX11_thereAt ∈ lw_g := mt_at 1543 (by decide +kernel) rfl
section
variable {p : Program} {l : Launch} {e : Env} {R : Room} {s : State} {m : MethodId} {args : Array Value} {below : List Frame} {meth : Method} {c : Code} {D : cG} {S : cSt} {r : Int32}
noncomputable def fk_11_thereAt_24 (g_4 : Nat → Int32 → Int32 → Option (Int32)) (S : cSt) (v0 : Nat) (v1 : Int32) (v2 : Int32) : Option (Int32) :=
lt (v2 + (1 : Int32)) fun x1 =>
g_4 v0 v1 x1
set_option maxRecDepth 100000 in
set_option maxHeartbeats 4000000 in
theorem wk_11_thereAt_24 (C : cY p R s m args meth c RX11 cX11_thereAt 3 3 0 0 65 (some .int)) (X : cX D s) (hW : cW D S s.heap) {g_4 : Nat → Int32 → Int32 → Option (Int32)} (hg_4 : ∀ {v0 : Nat} {v1 : Int32} {v2 : Int32} {ls : Array Slot}, g_4 v0 v1 v2 = some r → lv_has ls 3 [(0, .ref v0), (1, .int v1), (2, .int v2)] → W p l e R s m args below meth c s.heap [] 0 0 (MQ below (kQ (some (.int r))) args s 0 0 mNo) (F0 m 4 ls [])) : ∀ {v0 : Nat} {v1 : Int32} {v2 : Int32} {ls : Array Slot}, fk_11_thereAt_24 g_4 S v0 v1 v2 = some r → lv_has ls 3 [(0, .ref v0), (1, .int v1), (2, .int v2)] → W p l e R s m args below meth c s.heap [] 0 0 (MQ below (kQ (some (.int r))) args s 0 0 mNo) (F0 m 24 ls []) := by
  intro v0 v1 v2 ls h hl
  unfold fk_11_thereAt_24 at h
  refine lt_ok h (fun x1 e_x1 h => ?_)
  refine lv_iinc (v := x1) (lv' := [(2, .int x1), (0, .ref v0), (1, .int v1)]) C.1 C.2.1 dX11_thereAt_24 hl (k := 2) rfl (by rw [← e_x1]; rfl) (by decide) rfl (fun ls hl => ?_)
  refine lv_goto (tgt := 4) C.1 C.2.1 dX11_thereAt_27 (by decide) ?_
  exact hg_4 h (lv_sub hl [1, 2, 0] rfl)
noncomputable def fk_11_thereAt_4 (S : cSt) : Nat → Nat → Int32 → Int32 → Option (Int32)
  | 0, _, _, _ => none
  | n + 1, v0, v1, v2 =>
    if (48 : Int32) ≤ v2 then (
    some v1)
    else (
    ckk S v0 8 (bd (kR S v0 2) fun a2 =>
    ckk S a2 11 (bd (fk_10_isThere S a2 v2) fun r3 =>
    if r3 = 0 then (
    fk_11_thereAt_24 (fk_11_thereAt_4 S n) S v0 v1 v2)
    else (
    lt (v1 + (1 : Int32)) fun x5 =>
    fk_11_thereAt_24 (fk_11_thereAt_4 S n) S v0 x5 v2))))
set_option maxRecDepth 100000 in
set_option maxHeartbeats 4000000 in
theorem wk_11_thereAt_4 (C : cY p R s m args meth c RX11 cX11_thereAt 3 3 0 0 65 (some .int)) (X : cX D s) (hW : cW D S s.heap) : ∀ (n : Nat), ∀ {v0 : Nat} {v1 : Int32} {v2 : Int32} {ls : Array Slot}, fk_11_thereAt_4 S n v0 v1 v2 = some r → lv_has ls 3 [(0, .ref v0), (1, .int v1), (2, .int v2)] → W p l e R s m args below meth c s.heap [] 0 0 (MQ below (kQ (some (.int r))) args s 0 0 mNo) (F0 m 4 ls []) := by
  intro n
  induction n with
  | zero =>
    intro v0 v1 v2 ls h hl
    exact absurd (show (none : Option (Int32)) = _ from h) (fun q => by cases q)
  | succ n ih =>
    intro v0 v1 v2 ls h hl
    rw [fk_11_thereAt_4] at h
    refine lv_iload_n C.1 C.2.1 dX11_thereAt_4 rfl (lv_at hl 2 rfl) ?_
    refine lv_bipush (v := 48) C.1 C.2.1 dX11_thereAt_5 (by decide) ?_
    refine lv_icmp_ge (tgt := 30) C.1 C.2.1 dX11_thereAt_7 (by decide) (fun c1 => ?_) (fun c1 => ?_)
    · have h := if_t h c1
      refine lv_iload_n C.1 C.2.1 dX11_thereAt_30 rfl (lv_at hl 1 rfl) ?_
      cases h
      exact c_reti C rfl rfl dX11_thereAt_31
    · have h := if_f h c1
      refine lv_aload_n C.1 C.2.1 dX11_thereAt_10 rfl (lv_at hl 0 rfl) ?_
      obtain ⟨hk, h⟩ := ckk_ok h
      obtain ⟨a2, h_a2, h⟩ := bd_ok h
      refine gk11_147 C X hW hk h_a2 dX11_thereAt_11 ?_
      refine lv_iload_n C.1 C.2.1 dX11_thereAt_14 rfl (lv_at hl 2 rfl) ?_
      obtain ⟨hk, h⟩ := ckk_ok h
      obtain ⟨r3, h_r3, h⟩ := bd_ok h
      refine c_callR (rest := []) C X hW hl.1 10 (by decide) hk [.int v2] (tk_10_isThere l h_r3) cw11_298 ki_10_isThere kl_10_isThere rfl ⟨by decide, by decide⟩ ⟨(by decide), (by decide)⟩ rfl (Nat.le_of_ble_eq_true rfl) dX11_thereAt_15 ?_
      refine W.eq (g2 := F0 m 18 ls [.int r3]) rfl ?_
      refine lv_if_eq (tgt := 24) C.1 C.2.1 dX11_thereAt_18 (by decide) (fun c4 => ?_) (fun c4 => ?_)
      · have h := if_t h c4
        exact wk_11_thereAt_24 C X hW ih h (lv_sub hl [0, 1, 2] rfl)
      · have h := if_f h c4
        refine lt_ok h (fun x5 e_x5 h => ?_)
        refine lv_iinc (v := x5) (lv' := [(1, .int x5), (0, .ref v0), (2, .int v2)]) C.1 C.2.1 dX11_thereAt_21 hl (k := 1) rfl (by rw [← e_x5]; rfl) (by decide) rfl (fun ls hl => ?_)
        exact wk_11_thereAt_24 C X hW ih h (lv_sub hl [1, 0, 2] rfl)
noncomputable def fk_11_thereAt (S : cSt) (v0 : Nat) : Option (Int32) :=
fk_11_thereAt_4 S mFU v0 (0 : Int32) (0 : Int32)
set_option maxRecDepth 100000 in
set_option maxHeartbeats 4000000 in
theorem tk_11_thereAt (l : Launch) {D : cG} {S : cSt} {v0 : Nat} {r : Int32}  (h : fk_11_thereAt S v0 = some r) : Met l yX11_thereAt (Cond.code yX11_thereAt cX11_thereAt 3 (some .int) :: lw_g) { frames := 3, cells := 0, slots := 0, locals := 65 } (kPi [.ref v0] D S) (kQ (some (.int r))) 0 0 (mNo) := by
  refine Met.ofW (cc := cX11_thereAt) (maxL := 3) (ret := (some .int)) (by decide) rfl ?_
  intro p e s m args below meth c s₁ B hml hv
  obtain ⟨rfl, hW, X⟩ := hv
  have C : cY p (headSpec (Cond.code yX11_thereAt cX11_thereAt 3 (some .int) :: lw_g) { frames := 3, cells := 0, slots := 0, locals := 65 }).room s m _ meth c RX11 cX11_thereAt 3 3 0 0 65 (some .int) := ⟨B.exec, B.bytes, hml, findClass_of_methodNamed B.named, fun w hw => atoms_spec (ws := Cond.code yX11_thereAt cX11_thereAt 3 (some .int) :: lw_g) B.pre w (List.mem_cons_of_mem _ hw), ⟨Nat.le_refl _, Nat.le_refl _, Nat.le_refl _, Nat.le_refl _⟩, B.returns, B.notSynchronized⟩
  have hl := lv_entry ([.ref v0]) (n := 3) (Nat.le_of_ble_eq_true rfl)
  rw [lg_entry_eq]
  generalize (lg_sl ([.ref v0]) ++ List.replicate (3 - (lg_sl ([.ref v0])).length) Slot.unset).toArray = ls at hl ⊢
  have hl : lv_has ls 3 [(0, .ref v0)] := hl
  unfold fk_11_thereAt at h
  refine lv_iconst (v := 0) C.1 C.2.1 dX11_thereAt_0 (by decide) ?_
  refine lv_istore_n (lv' := [(1, .int (0 : Int32)), (0, .ref v0)]) C.1 C.2.1 dX11_thereAt_1 rfl hl (by decide) rfl (fun ls hl => ?_)
  refine lv_iconst (v := 0) C.1 C.2.1 dX11_thereAt_2 (by decide) ?_
  refine lv_istore_n (lv' := [(2, .int (0 : Int32)), (1, .int (0 : Int32)), (0, .ref v0)]) C.1 C.2.1 dX11_thereAt_3 rfl hl (by decide) rfl (fun ls hl => ?_)
  exact wk_11_thereAt_4 C X hW mFU h (lv_sub hl [2, 1, 0] rfl)
end
