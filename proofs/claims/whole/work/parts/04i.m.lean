-- made by wip/whole/walk.py: the reference's make, act, findCommon
theorem dX12_make_0 : decode cX12_make 0 = .ok (.sipush 250, 3) := by decide +kernel
theorem dX12_make_3 : decode cX12_make 3 = .ok (.iload_n 1, 1) := by decide +kernel
theorem dX12_make_4 : decode cX12_make 4 = .ok (.imul, 1) := by decide +kernel
theorem dX12_make_5 : decode cX12_make 5 = .ok (.aload_n 0, 1) := by decide +kernel
theorem dX12_make_6 : decode cX12_make 6 = .ok (.getfield 23, 3) := by decide +kernel
theorem dX12_make_9 : decode cX12_make 9 = .ok (.iload_n 1, 1) := by decide +kernel
theorem dX12_make_10 : decode cX12_make 10 = .ok (.iaload, 1) := by decide +kernel
theorem dX12_make_11 : decode cX12_make 11 = .ok (.iadd, 1) := by decide +kernel
theorem dX12_make_12 : decode cX12_make 12 = .ok (.istore 7, 2) := by decide +kernel
theorem dX12_make_14 : decode cX12_make 14 = .ok (.aload_n 0, 1) := by decide +kernel
theorem dX12_make_15 : decode cX12_make 15 = .ok (.getfield 23, 3) := by decide +kernel
theorem dX12_make_18 : decode cX12_make 18 = .ok (.iload_n 1, 1) := by decide +kernel
theorem dX12_make_19 : decode cX12_make 19 = .ok (.dup2, 1) := by decide +kernel
theorem dX12_make_20 : decode cX12_make 20 = .ok (.iaload, 1) := by decide +kernel
theorem dX12_make_21 : decode cX12_make 21 = .ok (.iconst 1, 1) := by decide +kernel
theorem dX12_make_22 : decode cX12_make 22 = .ok (.iadd, 1) := by decide +kernel
theorem dX12_make_23 : decode cX12_make 23 = .ok (.iastore, 1) := by decide +kernel
theorem dX12_make_24 : decode cX12_make 24 = .ok (.aload_n 0, 1) := by decide +kernel
theorem dX12_make_25 : decode cX12_make 25 = .ok (.getfield 26, 3) := by decide +kernel
theorem dX12_make_28 : decode cX12_make 28 = .ok (.iload_n 1, 1) := by decide +kernel
theorem dX12_make_29 : decode cX12_make 29 = .ok (.dup2, 1) := by decide +kernel
theorem dX12_make_30 : decode cX12_make 30 = .ok (.iaload, 1) := by decide +kernel
theorem dX12_make_31 : decode cX12_make 31 = .ok (.iload_n 2, 1) := by decide +kernel
theorem dX12_make_32 : decode cX12_make 32 = .ok (.ifCond .ne 7, 3) := by decide +kernel
theorem dX12_make_35 : decode cX12_make 35 = .ok (.iconst 1, 1) := by decide +kernel
theorem dX12_make_36 : decode cX12_make 36 = .ok (.goto 4, 3) := by decide +kernel
theorem dX12_make_39 : decode cX12_make 39 = .ok (.iconst 0, 1) := by decide +kernel
theorem dX12_make_40 : decode cX12_make 40 = .ok (.iadd, 1) := by decide +kernel
theorem dX12_make_41 : decode cX12_make 41 = .ok (.iastore, 1) := by decide +kernel
theorem dX12_make_42 : decode cX12_make 42 = .ok (.aload_n 0, 1) := by decide +kernel
theorem dX12_make_43 : decode cX12_make 43 = .ok (.getfield 29, 3) := by decide +kernel
theorem dX12_make_46 : decode cX12_make 46 = .ok (.iload 7, 2) := by decide +kernel
theorem dX12_make_48 : decode cX12_make 48 = .ok (.iload_n 2, 1) := by decide +kernel
theorem dX12_make_49 : decode cX12_make 49 = .ok (.iastore, 1) := by decide +kernel
theorem dX12_make_50 : decode cX12_make 50 = .ok (.aload_n 0, 1) := by decide +kernel
theorem dX12_make_51 : decode cX12_make 51 = .ok (.getfield 32, 3) := by decide +kernel
theorem dX12_make_54 : decode cX12_make 54 = .ok (.iload 7, 2) := by decide +kernel
theorem dX12_make_56 : decode cX12_make 56 = .ok (.iload_n 3, 1) := by decide +kernel
theorem dX12_make_57 : decode cX12_make 57 = .ok (.iastore, 1) := by decide +kernel
theorem dX12_make_58 : decode cX12_make 58 = .ok (.aload_n 0, 1) := by decide +kernel
theorem dX12_make_59 : decode cX12_make 59 = .ok (.getfield 35, 3) := by decide +kernel
theorem dX12_make_62 : decode cX12_make 62 = .ok (.iload 7, 2) := by decide +kernel
theorem dX12_make_64 : decode cX12_make 64 = .ok (.iload 4, 2) := by decide +kernel
theorem dX12_make_66 : decode cX12_make 66 = .ok (.iastore, 1) := by decide +kernel
theorem dX12_make_67 : decode cX12_make 67 = .ok (.aload_n 0, 1) := by decide +kernel
theorem dX12_make_68 : decode cX12_make 68 = .ok (.getfield 38, 3) := by decide +kernel
theorem dX12_make_71 : decode cX12_make 71 = .ok (.iload 7, 2) := by decide +kernel
theorem dX12_make_73 : decode cX12_make 73 = .ok (.iload 5, 2) := by decide +kernel
theorem dX12_make_75 : decode cX12_make 75 = .ok (.iastore, 1) := by decide +kernel
theorem dX12_make_76 : decode cX12_make 76 = .ok (.aload_n 0, 1) := by decide +kernel
theorem dX12_make_77 : decode cX12_make 77 = .ok (.getfield 41, 3) := by decide +kernel
theorem dX12_make_80 : decode cX12_make 80 = .ok (.iload 7, 2) := by decide +kernel
theorem dX12_make_82 : decode cX12_make 82 = .ok (.iload 6, 2) := by decide +kernel
theorem dX12_make_84 : decode cX12_make 84 = .ok (.iastore, 1) := by decide +kernel
theorem dX12_make_85 : decode cX12_make 85 = .ok (.iconst 0, 1) := by decide +kernel
theorem dX12_make_86 : decode cX12_make 86 = .ok (.istore 8, 2) := by decide +kernel
theorem dX12_make_88 : decode cX12_make 88 = .ok (.iload 8, 2) := by decide +kernel
theorem dX12_make_90 : decode cX12_make 90 = .ok (.iconst 4, 1) := by decide +kernel
theorem dX12_make_91 : decode cX12_make 91 = .ok (.if_icmp .ge 28, 3) := by decide +kernel
theorem dX12_make_94 : decode cX12_make 94 = .ok (.aload_n 0, 1) := by decide +kernel
theorem dX12_make_95 : decode cX12_make 95 = .ok (.getfield 50, 3) := by decide +kernel
theorem dX12_make_98 : decode cX12_make 98 = .ok (.iconst 4, 1) := by decide +kernel
theorem dX12_make_99 : decode cX12_make 99 = .ok (.iload 7, 2) := by decide +kernel
theorem dX12_make_101 : decode cX12_make 101 = .ok (.imul, 1) := by decide +kernel
theorem dX12_make_102 : decode cX12_make 102 = .ok (.iload 8, 2) := by decide +kernel
theorem dX12_make_104 : decode cX12_make 104 = .ok (.iadd, 1) := by decide +kernel
theorem dX12_make_105 : decode cX12_make 105 = .ok (.aload_n 0, 1) := by decide +kernel
theorem dX12_make_106 : decode cX12_make 106 = .ok (.iload_n 1, 1) := by decide +kernel
theorem dX12_make_107 : decode cX12_make 107 = .ok (.iload 8, 2) := by decide +kernel
theorem dX12_make_109 : decode cX12_make 109 = .ok (.invokevirtual 226, 3) := by decide +kernel
theorem dX12_make_112 : decode cX12_make 112 = .ok (.iastore, 1) := by decide +kernel
theorem dX12_make_113 : decode cX12_make 113 = .ok (.iinc 8 1, 3) := by decide +kernel
theorem dX12_make_116 : decode cX12_make 116 = .ok (.goto (-28), 3) := by decide +kernel
theorem dX12_make_119 : decode cX12_make 119 = .ok (.aload_n 0, 1) := by decide +kernel
theorem dX12_make_120 : decode cX12_make 120 = .ok (.getfield 44, 3) := by decide +kernel
theorem dX12_make_123 : decode cX12_make 123 = .ok (.iload 7, 2) := by decide +kernel
theorem dX12_make_125 : decode cX12_make 125 = .ok (.aload_n 0, 1) := by decide +kernel
theorem dX12_make_126 : decode cX12_make 126 = .ok (.getfield 53, 3) := by decide +kernel
theorem dX12_make_129 : decode cX12_make 129 = .ok (.iload_n 1, 1) := by decide +kernel
theorem dX12_make_130 : decode cX12_make 130 = .ok (.iaload, 1) := by decide +kernel
theorem dX12_make_131 : decode cX12_make 131 = .ok (.aload_n 0, 1) := by decide +kernel
theorem dX12_make_132 : decode cX12_make 132 = .ok (.getfield 56, 3) := by decide +kernel
theorem dX12_make_135 : decode cX12_make 135 = .ok (.iload_n 1, 1) := by decide +kernel
theorem dX12_make_136 : decode cX12_make 136 = .ok (.iaload, 1) := by decide +kernel
theorem dX12_make_137 : decode cX12_make 137 = .ok (.if_icmp .le 12, 3) := by decide +kernel
theorem dX12_make_140 : decode cX12_make 140 = .ok (.aload_n 0, 1) := by decide +kernel
theorem dX12_make_141 : decode cX12_make 141 = .ok (.getfield 53, 3) := by decide +kernel
theorem dX12_make_144 : decode cX12_make 144 = .ok (.iload_n 1, 1) := by decide +kernel
theorem dX12_make_145 : decode cX12_make 145 = .ok (.iaload, 1) := by decide +kernel
theorem dX12_make_146 : decode cX12_make 146 = .ok (.goto 9, 3) := by decide +kernel
theorem dX12_make_149 : decode cX12_make 149 = .ok (.aload_n 0, 1) := by decide +kernel
theorem dX12_make_150 : decode cX12_make 150 = .ok (.getfield 56, 3) := by decide +kernel
theorem dX12_make_153 : decode cX12_make 153 = .ok (.iload_n 1, 1) := by decide +kernel
theorem dX12_make_154 : decode cX12_make 154 = .ok (.iaload, 1) := by decide +kernel
theorem dX12_make_155 : decode cX12_make 155 = .ok (.iastore, 1) := by decide +kernel
theorem dX12_make_156 : decode cX12_make 156 = .ok (.aload_n 0, 1) := by decide +kernel
theorem dX12_make_157 : decode cX12_make 157 = .ok (.getfield 47, 3) := by decide +kernel
theorem dX12_make_160 : decode cX12_make 160 = .ok (.iload 7, 2) := by decide +kernel
theorem dX12_make_162 : decode cX12_make 162 = .ok (.aload_n 0, 1) := by decide +kernel
theorem dX12_make_163 : decode cX12_make 163 = .ok (.getfield 44, 3) := by decide +kernel
theorem dX12_make_166 : decode cX12_make 166 = .ok (.iload 7, 2) := by decide +kernel
theorem dX12_make_168 : decode cX12_make 168 = .ok (.iaload, 1) := by decide +kernel
theorem dX12_make_169 : decode cX12_make 169 = .ok (.aload_n 0, 1) := by decide +kernel
theorem dX12_make_170 : decode cX12_make 170 = .ok (.getfield 56, 3) := by decide +kernel
theorem dX12_make_173 : decode cX12_make 173 = .ok (.iload_n 1, 1) := by decide +kernel
theorem dX12_make_174 : decode cX12_make 174 = .ok (.iaload, 1) := by decide +kernel
theorem dX12_make_175 : decode cX12_make 175 = .ok (.if_icmp .ne 14, 3) := by decide +kernel
theorem dX12_make_178 : decode cX12_make 178 = .ok (.aload_n 0, 1) := by decide +kernel
theorem dX12_make_179 : decode cX12_make 179 = .ok (.getfield 59, 3) := by decide +kernel
theorem dX12_make_182 : decode cX12_make 182 = .ok (.iload_n 1, 1) := by decide +kernel
theorem dX12_make_183 : decode cX12_make 183 = .ok (.iaload, 1) := by decide +kernel
theorem dX12_make_184 : decode cX12_make 184 = .ok (.iconst 1, 1) := by decide +kernel
theorem dX12_make_185 : decode cX12_make 185 = .ok (.iadd, 1) := by decide +kernel
theorem dX12_make_186 : decode cX12_make 186 = .ok (.goto 4, 3) := by decide +kernel
theorem dX12_make_189 : decode cX12_make 189 = .ok (.iconst 0, 1) := by decide +kernel
theorem dX12_make_190 : decode cX12_make 190 = .ok (.iastore, 1) := by decide +kernel
theorem dX12_make_191 : decode cX12_make 191 = .ok (.aload_n 0, 1) := by decide +kernel
theorem dX12_make_192 : decode cX12_make 192 = .ok (.iload_n 1, 1) := by decide +kernel
theorem dX12_make_193 : decode cX12_make 193 = .ok (.iload 7, 2) := by decide +kernel
theorem dX12_make_195 : decode cX12_make 195 = .ok (.invokevirtual 412, 3) := by decide +kernel
theorem dX12_make_198 : decode cX12_make 198 = .ok (.iload 7, 2) := by decide +kernel
theorem dX12_make_200 : decode cX12_make 200 = .ok (.invokestatic 303, 3) := by decide +kernel
theorem dX12_make_203 : decode cX12_make 203 = .ok (.ireturn, 1) := by decide +kernel
theorem cd_make : Cond.code yX12_make cX12_make 9 (some .int) ∈ lw_g := mt_at 2119 (by decide +kernel) rfl
theorem mw_make : mCw 409 yX12_make cX12_make 9 (some .int) 6 := ⟨cd_make, mt_at 2116 (by decide +kernel) rfl, in_M, by decide +kernel⟩
theorem im_make : Cond.instanceMethod yX12_make ∈ lw_g := mt_at 2118 (by decide +kernel) rfl
theorem sl_make : Cond.selects RX12 yX12_make yX12_make ∈ lw_g := mt_sel 75 (by decide +kernel) rfl
section
variable {p : Program} {l : Launch} {e : Env} {R : Room} {s : State} {m : MethodId} {args : Array Value} {below : List Frame} {meth : Method} {c : Code} {cM : ClassId} {iS : Nat → Nat} {cI cZ : ClassId} {mo : Nat} {ad : Nat → Nat} {r : Int32} {S9 : mSt}
noncomputable def fm_make_190 (S : mSt) (v1 : Int32) (v7 : Int32) (s1 : Int32) (s2 : Int32) : Option (Int32 × mSt) :=
ck s1 1000 (lt (wr S 15 s1 s2) fun S1 =>
bd (fm_apply S1 v1 v7) fun S2 =>
bd (fm_nameOf v7) fun r3 =>
some (r3, S2))
set_option maxRecDepth 100000 in
set_option maxHeartbeats 4000000 in
theorem wm_make_190 (C : mY p R s m args meth c cX12_make 9 9 224 (some .int)) (X : mX s cM iS cI cZ mo ad) : ∀ {S : mSt} {v1 : Int32} {v7 : Int32} {s1 : Int32} {s2 : Int32} {H : Heap} {locs : List Loc} {ls : Array Slot}, fm_make_190 S v1 v7 s1 s2 = some (r, S9) → mW cM iS cI cZ mo ad S H → mS (mA mo ad) s.heap H locs → lv_has ls 9 [(0, .ref mo), (1, .int v1), (7, .int v7)] → W p l e R s m args below meth c H locs 0 0 (MQ below (mQw (some (.int r)) cM iS cI cZ mo ad S9) args s 0 0 (mA mo ad)) (F0 m 190 ls [.int s2, .int s1, .ref (ad 15)]) := by
  intro S v1 v7 s1 s2 H locs ls h hW hS hl
  unfold fm_make_190 at h
  obtain ⟨hin, h⟩ := ck_ok h
  refine s_15 C X hW hS hin dX12_make_190 (fun H locs hW hS => ?_)
  refine lt_ok h (fun S1 e_S1 h => ?_)
  rw [e_S1] at hW
  refine lv_aload_n C.1 C.2.1 dX12_make_191 rfl (lv_at hl 0 rfl) ?_
  refine lv_iload_n C.1 C.2.1 dX12_make_192 rfl (lv_at hl 1 rfl) ?_
  refine lv_iload C.1 C.2.1 dX12_make_193 (lv_at hl 2 rfl) ?_
  obtain ⟨S2, h_S2, h⟩ := bd_ok h
  refine m_callW (rest := []) (ov := none) C X hW hS hl.1 [.int v1, .int v7] (tm_apply l h_S2) mw_apply im_apply sl_apply rfl ⟨by decide, by decide⟩ rfl (Nat.le_of_ble_eq_true rfl) dX12_make_195 (fun H locs hW hS => ?_)
  refine W.eq (g2 := F0 m 198 ls []) rfl ?_
  refine lv_iload C.1 C.2.1 dX12_make_198 (lv_at hl 2 rfl) ?_
  obtain ⟨r3, h_r3, h⟩ := bd_ok h
  refine m_callS (rest := []) C hl.1 [.int v7] (tm_nameOf l h_r3) mw_nameOf st_nameOf rfl ⟨by decide, by decide⟩ rfl (Nat.le_of_ble_eq_true rfl) dX12_make_200 ?_
  cases h
  exact m_retiW C hW hS dX12_make_203
noncomputable def fm_make_155 (S : mSt) (v1 : Int32) (v7 : Int32) (s1 : Int32) (s2 : Int32) : Option (Int32 × mSt) :=
ck s1 1000 (lt (wr S 14 s1 s2) fun S1 =>
ck v7 1000 (
ck v1 4 (
if (rd S1 14 v7) = (rd S1 18 v1) then (
ck v1 4 (
fm_make_190 S1 v1 v7 v7 ((rd S1 19 v1) + (1 : Int32))))
else (
fm_make_190 S1 v1 v7 v7 (0 : Int32)))))
set_option maxRecDepth 100000 in
set_option maxHeartbeats 4000000 in
theorem wm_make_155 (C : mY p R s m args meth c cX12_make 9 9 224 (some .int)) (X : mX s cM iS cI cZ mo ad) : ∀ {S : mSt} {v1 : Int32} {v7 : Int32} {s1 : Int32} {s2 : Int32} {H : Heap} {locs : List Loc} {ls : Array Slot}, fm_make_155 S v1 v7 s1 s2 = some (r, S9) → mW cM iS cI cZ mo ad S H → mS (mA mo ad) s.heap H locs → lv_has ls 9 [(0, .ref mo), (1, .int v1), (7, .int v7)] → W p l e R s m args below meth c H locs 0 0 (MQ below (mQw (some (.int r)) cM iS cI cZ mo ad S9) args s 0 0 (mA mo ad)) (F0 m 155 ls [.int s2, .int s1, .ref (ad 14)]) := by
  intro S v1 v7 s1 s2 H locs ls h hW hS hl
  unfold fm_make_155 at h
  obtain ⟨hin, h⟩ := ck_ok h
  refine s_14 C X hW hS hin dX12_make_155 (fun H locs hW hS => ?_)
  refine lt_ok h (fun S1 e_S1 h => ?_)
  rw [e_S1] at hW
  refine lv_aload_n C.1 C.2.1 dX12_make_156 rfl (lv_at hl 0 rfl) ?_
  refine gf_15 C X hW dX12_make_157 ?_
  refine lv_iload C.1 C.2.1 dX12_make_160 (lv_at hl 2 rfl) ?_
  refine lv_aload_n C.1 C.2.1 dX12_make_162 rfl (lv_at hl 0 rfl) ?_
  refine gf_14 C X hW dX12_make_163 ?_
  refine lv_iload C.1 C.2.1 dX12_make_166 (lv_at hl 2 rfl) ?_
  obtain ⟨hin, h⟩ := ck_ok h
  refine l_14 C X hW hin dX12_make_168 ?_
  refine lv_aload_n C.1 C.2.1 dX12_make_169 rfl (lv_at hl 0 rfl) ?_
  refine gf_18 C X hW dX12_make_170 ?_
  refine lv_iload_n C.1 C.2.1 dX12_make_173 rfl (lv_at hl 1 rfl) ?_
  obtain ⟨hin, h⟩ := ck_ok h
  refine l_18 C X hW hin dX12_make_174 ?_
  refine lv_icmp_ne (tgt := 189) C.1 C.2.1 dX12_make_175 (by decide) (fun c2 => ?_) (fun c2 => ?_)
  · have h := if_f h c2
    refine lv_iconst (v := 0) C.1 C.2.1 dX12_make_189 (by decide) ?_
    exact wm_make_190 C X h hW hS (lv_sub hl [0, 1, 2] rfl)
  · have h := if_t h c2
    refine lv_aload_n C.1 C.2.1 dX12_make_178 rfl (lv_at hl 0 rfl) ?_
    refine gf_19 C X hW dX12_make_179 ?_
    refine lv_iload_n C.1 C.2.1 dX12_make_182 rfl (lv_at hl 1 rfl) ?_
    obtain ⟨hin, h⟩ := ck_ok h
    refine l_19 C X hW hin dX12_make_183 ?_
    refine lv_iconst (v := 1) C.1 C.2.1 dX12_make_184 (by decide) ?_
    refine lv_iadd C.1 C.2.1 dX12_make_185 ?_
    refine lv_goto (tgt := 190) C.1 C.2.1 dX12_make_186 (by decide) ?_
    exact wm_make_190 C X h hW hS (lv_sub hl [0, 1, 2] rfl)
noncomputable def fm_make_88 : Nat → mSt → Int32 → Int32 → Int32 → Option (Int32 × mSt)
  | 0, _, _, _, _ => none
  | n + 1, S, v1, v7, v8 =>
    if (4 : Int32) ≤ v8 then (
    ck v1 4 (
    ck v1 4 (
    if (rd S 17 v1) ≤ (rd S 18 v1) then (
    ck v1 4 (
    fm_make_155 S v1 v7 v7 (rd S 18 v1)))
    else (
    ck v1 4 (
    fm_make_155 S v1 v7 v7 (rd S 17 v1))))))
    else (
    bd (fm_knownOf S v1 v8) fun r3 =>
    ck (((4 : Int32) * v7) + v8) 4000 (lt (wr S 16 (((4 : Int32) * v7) + v8) r3) fun S4 =>
    lt (v8 + (1 : Int32)) fun x5 =>
    fm_make_88 n S4 v1 v7 x5))
set_option maxRecDepth 100000 in
set_option maxHeartbeats 4000000 in
theorem wm_make_88 (C : mY p R s m args meth c cX12_make 9 9 224 (some .int)) (X : mX s cM iS cI cZ mo ad) : ∀ (n : Nat), ∀ {S : mSt} {v1 : Int32} {v7 : Int32} {v8 : Int32} {H : Heap} {locs : List Loc} {ls : Array Slot}, fm_make_88 n S v1 v7 v8 = some (r, S9) → mW cM iS cI cZ mo ad S H → mS (mA mo ad) s.heap H locs → lv_has ls 9 [(0, .ref mo), (1, .int v1), (7, .int v7), (8, .int v8)] → W p l e R s m args below meth c H locs 0 0 (MQ below (mQw (some (.int r)) cM iS cI cZ mo ad S9) args s 0 0 (mA mo ad)) (F0 m 88 ls []) := by
  intro n
  induction n with
  | zero =>
    intro S v1 v7 v8 H locs ls h hW hS hl
    exact absurd (show (none : Option (Int32 × mSt)) = _ from h) (fun q => by cases q)
  | succ n ih =>
    intro S v1 v7 v8 H locs ls h hW hS hl
    rw [fm_make_88] at h
    refine lv_iload C.1 C.2.1 dX12_make_88 (lv_at hl 3 rfl) ?_
    refine lv_iconst (v := 4) C.1 C.2.1 dX12_make_90 (by decide) ?_
    refine lv_icmp_ge (tgt := 119) C.1 C.2.1 dX12_make_91 (by decide) (fun c1 => ?_) (fun c1 => ?_)
    · have h := if_t h c1
      refine lv_aload_n C.1 C.2.1 dX12_make_119 rfl (lv_at hl 0 rfl) ?_
      refine gf_14 C X hW dX12_make_120 ?_
      refine lv_iload C.1 C.2.1 dX12_make_123 (lv_at hl 2 rfl) ?_
      refine lv_aload_n C.1 C.2.1 dX12_make_125 rfl (lv_at hl 0 rfl) ?_
      refine gf_17 C X hW dX12_make_126 ?_
      refine lv_iload_n C.1 C.2.1 dX12_make_129 rfl (lv_at hl 1 rfl) ?_
      obtain ⟨hin, h⟩ := ck_ok h
      refine l_17 C X hW hin dX12_make_130 ?_
      refine lv_aload_n C.1 C.2.1 dX12_make_131 rfl (lv_at hl 0 rfl) ?_
      refine gf_18 C X hW dX12_make_132 ?_
      refine lv_iload_n C.1 C.2.1 dX12_make_135 rfl (lv_at hl 1 rfl) ?_
      obtain ⟨hin, h⟩ := ck_ok h
      refine l_18 C X hW hin dX12_make_136 ?_
      refine lv_icmp_le (tgt := 149) C.1 C.2.1 dX12_make_137 (by decide) (fun c2 => ?_) (fun c2 => ?_)
      · have h := if_t h c2
        refine lv_aload_n C.1 C.2.1 dX12_make_149 rfl (lv_at hl 0 rfl) ?_
        refine gf_18 C X hW dX12_make_150 ?_
        refine lv_iload_n C.1 C.2.1 dX12_make_153 rfl (lv_at hl 1 rfl) ?_
        obtain ⟨hin, h⟩ := ck_ok h
        refine l_18 C X hW hin dX12_make_154 ?_
        exact wm_make_155 C X h hW hS (lv_sub hl [0, 1, 2] rfl)
      · have h := if_f h c2
        refine lv_aload_n C.1 C.2.1 dX12_make_140 rfl (lv_at hl 0 rfl) ?_
        refine gf_17 C X hW dX12_make_141 ?_
        refine lv_iload_n C.1 C.2.1 dX12_make_144 rfl (lv_at hl 1 rfl) ?_
        obtain ⟨hin, h⟩ := ck_ok h
        refine l_17 C X hW hin dX12_make_145 ?_
        refine lv_goto (tgt := 155) C.1 C.2.1 dX12_make_146 (by decide) ?_
        exact wm_make_155 C X h hW hS (lv_sub hl [0, 1, 2] rfl)
    · have h := if_f h c1
      refine lv_aload_n C.1 C.2.1 dX12_make_94 rfl (lv_at hl 0 rfl) ?_
      refine gf_16 C X hW dX12_make_95 ?_
      refine lv_iconst (v := 4) C.1 C.2.1 dX12_make_98 (by decide) ?_
      refine lv_iload C.1 C.2.1 dX12_make_99 (lv_at hl 2 rfl) ?_
      refine lv_imul C.1 C.2.1 dX12_make_101 ?_
      refine lv_iload C.1 C.2.1 dX12_make_102 (lv_at hl 3 rfl) ?_
      refine lv_iadd C.1 C.2.1 dX12_make_104 ?_
      refine lv_aload_n C.1 C.2.1 dX12_make_105 rfl (lv_at hl 0 rfl) ?_
      refine lv_iload_n C.1 C.2.1 dX12_make_106 rfl (lv_at hl 1 rfl) ?_
      refine lv_iload C.1 C.2.1 dX12_make_107 (lv_at hl 3 rfl) ?_
      obtain ⟨r3, h_r3, h⟩ := bd_ok h
      refine m_callR (rest := [.int (((4 : Int32) * v7) + v8), .ref (ad 16)]) C X hW hl.1 [.int v1, .int v8] (tm_knownOf l h_r3) mw_knownOf im_knownOf sl_knownOf rfl ⟨by decide, by decide⟩ rfl (Nat.le_of_ble_eq_true rfl) dX12_make_109 ?_
      obtain ⟨hin, h⟩ := ck_ok h
      refine s_16 C X hW hS hin dX12_make_112 (fun H locs hW hS => ?_)
      refine lt_ok h (fun S4 e_S4 h => ?_)
      rw [e_S4] at hW
      refine lt_ok h (fun x5 e_x5 h => ?_)
      refine lv_iinc (v := x5) (lv' := [(8, .int x5), (0, .ref mo), (1, .int v1), (7, .int v7)]) C.1 C.2.1 dX12_make_113 hl (k := 3) rfl (by rw [← e_x5]; rfl) (by decide) rfl (fun ls hl => ?_)
      refine lv_goto (tgt := 88) C.1 C.2.1 dX12_make_116 (by decide) ?_
      exact ih h hW hS (lv_sub hl [1, 2, 3, 0] rfl)
noncomputable def fm_make_40 (S : mSt) (v1 : Int32) (v2 : Int32) (v3 : Int32) (v4 : Int32) (v5 : Int32) (v6 : Int32) (v7 : Int32) (s1 : Int32) (s2 : Int32) (s3 : Int32) : Option (Int32 × mSt) :=
ck s1 4 (lt (wr S 8 s1 (s2 + s3)) fun S1 =>
ck v7 1000 (lt (wr S1 9 v7 v2) fun S2 =>
ck v7 1000 (lt (wr S2 10 v7 v3) fun S3 =>
ck v7 1000 (lt (wr S3 11 v7 v4) fun S4 =>
ck v7 1000 (lt (wr S4 12 v7 v5) fun S5 =>
ck v7 1000 (lt (wr S5 13 v7 v6) fun S6 =>
fm_make_88 mFU S6 v1 v7 (0 : Int32)))))))
set_option maxRecDepth 100000 in
set_option maxHeartbeats 4000000 in
theorem wm_make_40 (C : mY p R s m args meth c cX12_make 9 9 224 (some .int)) (X : mX s cM iS cI cZ mo ad) : ∀ {S : mSt} {v1 : Int32} {v2 : Int32} {v3 : Int32} {v4 : Int32} {v5 : Int32} {v6 : Int32} {v7 : Int32} {s1 : Int32} {s2 : Int32} {s3 : Int32} {H : Heap} {locs : List Loc} {ls : Array Slot}, fm_make_40 S v1 v2 v3 v4 v5 v6 v7 s1 s2 s3 = some (r, S9) → mW cM iS cI cZ mo ad S H → mS (mA mo ad) s.heap H locs → lv_has ls 9 [(0, .ref mo), (1, .int v1), (2, .int v2), (3, .int v3), (4, .int v4), (5, .int v5), (6, .int v6), (7, .int v7)] → W p l e R s m args below meth c H locs 0 0 (MQ below (mQw (some (.int r)) cM iS cI cZ mo ad S9) args s 0 0 (mA mo ad)) (F0 m 40 ls [.int s3, .int s2, .int s1, .ref (ad 8)]) := by
  intro S v1 v2 v3 v4 v5 v6 v7 s1 s2 s3 H locs ls h hW hS hl
  unfold fm_make_40 at h
  refine lv_iadd C.1 C.2.1 dX12_make_40 ?_
  obtain ⟨hin, h⟩ := ck_ok h
  refine s_8 C X hW hS hin dX12_make_41 (fun H locs hW hS => ?_)
  refine lt_ok h (fun S1 e_S1 h => ?_)
  rw [e_S1] at hW
  refine lv_aload_n C.1 C.2.1 dX12_make_42 rfl (lv_at hl 0 rfl) ?_
  refine gf_9 C X hW dX12_make_43 ?_
  refine lv_iload C.1 C.2.1 dX12_make_46 (lv_at hl 7 rfl) ?_
  refine lv_iload_n C.1 C.2.1 dX12_make_48 rfl (lv_at hl 2 rfl) ?_
  obtain ⟨hin, h⟩ := ck_ok h
  refine s_9 C X hW hS hin dX12_make_49 (fun H locs hW hS => ?_)
  refine lt_ok h (fun S2 e_S2 h => ?_)
  rw [e_S2] at hW
  refine lv_aload_n C.1 C.2.1 dX12_make_50 rfl (lv_at hl 0 rfl) ?_
  refine gf_10 C X hW dX12_make_51 ?_
  refine lv_iload C.1 C.2.1 dX12_make_54 (lv_at hl 7 rfl) ?_
  refine lv_iload_n C.1 C.2.1 dX12_make_56 rfl (lv_at hl 3 rfl) ?_
  obtain ⟨hin, h⟩ := ck_ok h
  refine s_10 C X hW hS hin dX12_make_57 (fun H locs hW hS => ?_)
  refine lt_ok h (fun S3 e_S3 h => ?_)
  rw [e_S3] at hW
  refine lv_aload_n C.1 C.2.1 dX12_make_58 rfl (lv_at hl 0 rfl) ?_
  refine gf_11 C X hW dX12_make_59 ?_
  refine lv_iload C.1 C.2.1 dX12_make_62 (lv_at hl 7 rfl) ?_
  refine lv_iload C.1 C.2.1 dX12_make_64 (lv_at hl 4 rfl) ?_
  obtain ⟨hin, h⟩ := ck_ok h
  refine s_11 C X hW hS hin dX12_make_66 (fun H locs hW hS => ?_)
  refine lt_ok h (fun S4 e_S4 h => ?_)
  rw [e_S4] at hW
  refine lv_aload_n C.1 C.2.1 dX12_make_67 rfl (lv_at hl 0 rfl) ?_
  refine gf_12 C X hW dX12_make_68 ?_
  refine lv_iload C.1 C.2.1 dX12_make_71 (lv_at hl 7 rfl) ?_
  refine lv_iload C.1 C.2.1 dX12_make_73 (lv_at hl 5 rfl) ?_
  obtain ⟨hin, h⟩ := ck_ok h
  refine s_12 C X hW hS hin dX12_make_75 (fun H locs hW hS => ?_)
  refine lt_ok h (fun S5 e_S5 h => ?_)
  rw [e_S5] at hW
  refine lv_aload_n C.1 C.2.1 dX12_make_76 rfl (lv_at hl 0 rfl) ?_
  refine gf_13 C X hW dX12_make_77 ?_
  refine lv_iload C.1 C.2.1 dX12_make_80 (lv_at hl 7 rfl) ?_
  refine lv_iload C.1 C.2.1 dX12_make_82 (lv_at hl 6 rfl) ?_
  obtain ⟨hin, h⟩ := ck_ok h
  refine s_13 C X hW hS hin dX12_make_84 (fun H locs hW hS => ?_)
  refine lt_ok h (fun S6 e_S6 h => ?_)
  rw [e_S6] at hW
  refine lv_iconst (v := 0) C.1 C.2.1 dX12_make_85 (by decide) ?_
  refine lv_istore (lv' := [(8, .int (0 : Int32)), (0, .ref mo), (1, .int v1), (2, .int v2), (3, .int v3), (4, .int v4), (5, .int v5), (6, .int v6), (7, .int v7)]) C.1 C.2.1 dX12_make_86 hl (by decide) rfl (fun ls hl => ?_)
  exact wm_make_88 C X mFU h hW hS (lv_sub hl [1, 2, 8, 0] rfl)
noncomputable def fm_make (S : mSt) (v1 : Int32) (v2 : Int32) (v3 : Int32) (v4 : Int32) (v5 : Int32) (v6 : Int32) : Option (Int32 × mSt) :=
ck v1 4 (
lt (((250 : Int32) * v1) + (rd S 7 v1)) fun x1 =>
ck v1 4 (
ck v1 4 (lt (wr S 7 v1 ((rd S 7 v1) + (1 : Int32))) fun S2 =>
ck v1 4 (
if v2 = 0 then (
fm_make_40 S2 v1 v2 v3 v4 v5 v6 x1 v1 (rd S2 8 v1) (1 : Int32))
else (
fm_make_40 S2 v1 v2 v3 v4 v5 v6 x1 v1 (rd S2 8 v1) (0 : Int32))))))
set_option maxRecDepth 100000 in
set_option maxHeartbeats 4000000 in
theorem tm_make (l : Launch) {cM : ClassId} {iS : Nat → Nat} {cI cZ : ClassId} {mo : Nat} {ad : Nat → Nat} {S : mSt} {v1 : Int32} {v2 : Int32} {v3 : Int32} {v4 : Int32} {v5 : Int32} {v6 : Int32} {r : Int32} {S9 : mSt} (h : fm_make S v1 v2 v3 v4 v5 v6 = some (r, S9)) : Met l yX12_make (Cond.code yX12_make cX12_make 9 (some .int) :: lw_g) { frames := 9, cells := 0, slots := 0, locals := 224 } (mPi [.int v1, .int v2, .int v3, .int v4, .int v5, .int v6] cM iS cI cZ mo ad S) (mQw (some (.int r)) cM iS cI cZ mo ad S9) 0 0 (mA mo ad) := by
  refine Met.ofW (cc := cX12_make) (maxL := 9) (ret := (some .int)) (by decide) rfl ?_
  intro p e s m args below meth c s₁ B hml hv
  obtain ⟨rfl, hW, X⟩ := hv
  have C : mY p (headSpec (Cond.code yX12_make cX12_make 9 (some .int) :: lw_g) { frames := 9, cells := 0, slots := 0, locals := 224 }).room s m _ meth c cX12_make 9 9 224 (some .int) := ⟨B.exec, B.bytes, hml, findClass_of_methodNamed B.named, fun w hw => atoms_spec (ws := Cond.code yX12_make cX12_make 9 (some .int) :: lw_g) B.pre w (List.mem_cons_of_mem _ hw), ⟨Nat.le_refl _, Nat.le_refl _⟩, B.returns, B.notSynchronized⟩
  have hl := lv_entry ([.ref mo, .int v1, .int v2, .int v3, .int v4, .int v5, .int v6]) (n := 9) (Nat.le_of_ble_eq_true rfl)
  rw [lg_entry_eq]
  generalize (lg_sl ([.ref mo, .int v1, .int v2, .int v3, .int v4, .int v5, .int v6]) ++ List.replicate (9 - (lg_sl ([.ref mo, .int v1, .int v2, .int v3, .int v4, .int v5, .int v6])).length) Slot.unset).toArray = ls at hl ⊢
  have hl : lv_has ls 9 [(0, .ref mo), (1, .int v1), (2, .int v2), (3, .int v3), (4, .int v4), (5, .int v5), (6, .int v6)] := hl
  have hS : mS (mA mo ad) s.heap s.heap [] := mS.rf
  unfold fm_make at h
  refine lv_sipush (v := 250) C.1 C.2.1 dX12_make_0 (by decide) ?_
  refine lv_iload_n C.1 C.2.1 dX12_make_3 rfl (lv_at hl 1 rfl) ?_
  refine lv_imul C.1 C.2.1 dX12_make_4 ?_
  refine lv_aload_n C.1 C.2.1 dX12_make_5 rfl (lv_at hl 0 rfl) ?_
  refine gf_7 C X hW dX12_make_6 ?_
  refine lv_iload_n C.1 C.2.1 dX12_make_9 rfl (lv_at hl 1 rfl) ?_
  obtain ⟨hin, h⟩ := ck_ok h
  refine l_7 C X hW hin dX12_make_10 ?_
  refine lv_iadd C.1 C.2.1 dX12_make_11 ?_
  refine lt_ok h (fun x1 e_x1 h => ?_)
  refine lv_nm e_x1 ?_
  refine lv_istore (lv' := [(7, .int x1), (0, .ref mo), (1, .int v1), (2, .int v2), (3, .int v3), (4, .int v4), (5, .int v5), (6, .int v6)]) C.1 C.2.1 dX12_make_12 hl (by decide) rfl (fun ls hl => ?_)
  refine lv_aload_n C.1 C.2.1 dX12_make_14 rfl (lv_at hl 1 rfl) ?_
  refine gf_7 C X hW dX12_make_15 ?_
  refine lv_iload_n C.1 C.2.1 dX12_make_18 rfl (lv_at hl 2 rfl) ?_
  refine lv_dup2_11 C.1 C.2.1 dX12_make_19 rfl rfl ?_
  obtain ⟨hin, h⟩ := ck_ok h
  refine l_7 C X hW hin dX12_make_20 ?_
  refine lv_iconst (v := 1) C.1 C.2.1 dX12_make_21 (by decide) ?_
  refine lv_iadd C.1 C.2.1 dX12_make_22 ?_
  obtain ⟨hin, h⟩ := ck_ok h
  refine s_7 C X hW hS hin dX12_make_23 (fun H locs hW hS => ?_)
  refine lt_ok h (fun S2 e_S2 h => ?_)
  rw [e_S2] at hW
  refine lv_aload_n C.1 C.2.1 dX12_make_24 rfl (lv_at hl 1 rfl) ?_
  refine gf_8 C X hW dX12_make_25 ?_
  refine lv_iload_n C.1 C.2.1 dX12_make_28 rfl (lv_at hl 2 rfl) ?_
  refine lv_dup2_11 C.1 C.2.1 dX12_make_29 rfl rfl ?_
  obtain ⟨hin, h⟩ := ck_ok h
  refine l_8 C X hW hin dX12_make_30 ?_
  refine lv_iload_n C.1 C.2.1 dX12_make_31 rfl (lv_at hl 3 rfl) ?_
  refine lv_if_ne (tgt := 39) C.1 C.2.1 dX12_make_32 (by decide) (fun c3 => ?_) (fun c3 => ?_)
  · have h := if_f h c3
    refine lv_iconst (v := 0) C.1 C.2.1 dX12_make_39 (by decide) ?_
    exact wm_make_40 C X h hW hS (lv_sub hl [1, 2, 3, 4, 5, 6, 7, 0] rfl)
  · have h := if_t h c3
    refine lv_iconst (v := 1) C.1 C.2.1 dX12_make_35 (by decide) ?_
    refine lv_goto (tgt := 40) C.1 C.2.1 dX12_make_36 (by decide) ?_
    exact wm_make_40 C X h hW hS (lv_sub hl [1, 2, 3, 4, 5, 6, 7, 0] rfl)
end
theorem dX12_act_0 : decode cX12_act 0 = .ok (.aload_n 0, 1) := by decide +kernel
theorem dX12_act_1 : decode cX12_act 1 = .ok (.iconst 0, 1) := by decide +kernel
theorem dX12_act_2 : decode cX12_act 2 = .ok (.putfield 200, 3) := by decide +kernel
theorem dX12_act_5 : decode cX12_act 5 = .ok (.iload_n 1, 1) := by decide +kernel
theorem dX12_act_6 : decode cX12_act 6 = .ok (.iconst 0, 1) := by decide +kernel
theorem dX12_act_7 : decode cX12_act 7 = .ok (.iconst 3, 1) := by decide +kernel
theorem dX12_act_8 : decode cX12_act 8 = .ok (.invokestatic 215, 3) := by decide +kernel
theorem dX12_act_11 : decode cX12_act 11 = .ok (.ifCond .eq 32, 3) := by decide +kernel
theorem dX12_act_14 : decode cX12_act 14 = .ok (.iload_n 2, 1) := by decide +kernel
theorem dX12_act_15 : decode cX12_act 15 = .ok (.iconst 0, 1) := by decide +kernel
theorem dX12_act_16 : decode cX12_act 16 = .ok (.bipush 18, 2) := by decide +kernel
theorem dX12_act_18 : decode cX12_act 18 = .ok (.invokestatic 215, 3) := by decide +kernel
theorem dX12_act_21 : decode cX12_act 21 = .ok (.ifCond .eq 22, 3) := by decide +kernel
theorem dX12_act_24 : decode cX12_act 24 = .ok (.iload_n 2, 1) := by decide +kernel
theorem dX12_act_25 : decode cX12_act 25 = .ok (.ifCond .ne 20, 3) := by decide +kernel
theorem dX12_act_28 : decode cX12_act 28 = .ok (.iload 5, 2) := by decide +kernel
theorem dX12_act_30 : decode cX12_act 30 = .ok (.iconst 0, 1) := by decide +kernel
theorem dX12_act_31 : decode cX12_act 31 = .ok (.aload_n 0, 1) := by decide +kernel
theorem dX12_act_32 : decode cX12_act 32 = .ok (.getfield 212, 3) := by decide +kernel
theorem dX12_act_35 : decode cX12_act 35 = .ok (.iconst 1, 1) := by decide +kernel
theorem dX12_act_36 : decode cX12_act 36 = .ok (.isub, 1) := by decide +kernel
theorem dX12_act_37 : decode cX12_act 37 = .ok (.invokestatic 215, 3) := by decide +kernel
theorem dX12_act_40 : decode cX12_act 40 = .ok (.ifCond .ne 5, 3) := by decide +kernel
theorem dX12_act_43 : decode cX12_act 43 = .ok (.iconst (-1), 1) := by decide +kernel
theorem dX12_act_44 : decode cX12_act 44 = .ok (.ireturn, 1) := by decide +kernel
theorem dX12_act_45 : decode cX12_act 45 = .ok (.iload_n 2, 1) := by decide +kernel
theorem dX12_act_46 : decode cX12_act 46 = .ok (.iconst 1, 1) := by decide +kernel
theorem dX12_act_47 : decode cX12_act 47 = .ok (.if_icmp .lt 9, 3) := by decide +kernel
theorem dX12_act_50 : decode cX12_act 50 = .ok (.iload_n 2, 1) := by decide +kernel
theorem dX12_act_51 : decode cX12_act 51 = .ok (.bipush 12, 2) := by decide +kernel
theorem dX12_act_53 : decode cX12_act 53 = .ok (.if_icmp .le 9, 3) := by decide +kernel
theorem dX12_act_56 : decode cX12_act 56 = .ok (.iload_n 2, 1) := by decide +kernel
theorem dX12_act_57 : decode cX12_act 57 = .ok (.bipush 14, 2) := by decide +kernel
theorem dX12_act_59 : decode cX12_act 59 = .ok (.if_icmp .le 7, 3) := by decide +kernel
theorem dX12_act_62 : decode cX12_act 62 = .ok (.iconst 1, 1) := by decide +kernel
theorem dX12_act_63 : decode cX12_act 63 = .ok (.goto 4, 3) := by decide +kernel
theorem dX12_act_66 : decode cX12_act 66 = .ok (.iconst 0, 1) := by decide +kernel
theorem dX12_act_67 : decode cX12_act 67 = .ok (.istore 7, 2) := by decide +kernel
theorem dX12_act_69 : decode cX12_act 69 = .ok (.iload_n 2, 1) := by decide +kernel
theorem dX12_act_70 : decode cX12_act 70 = .ok (.invokestatic 337, 3) := by decide +kernel
theorem dX12_act_73 : decode cX12_act 73 = .ok (.istore 8, 2) := by decide +kernel
theorem dX12_act_75 : decode cX12_act 75 = .ok (.iload 7, 2) := by decide +kernel
theorem dX12_act_77 : decode cX12_act 77 = .ok (.ifCond .eq 12, 3) := by decide +kernel
theorem dX12_act_80 : decode cX12_act 80 = .ok (.aload_n 0, 1) := by decide +kernel
theorem dX12_act_81 : decode cX12_act 81 = .ok (.iload_n 1, 1) := by decide +kernel
theorem dX12_act_82 : decode cX12_act 82 = .ok (.iload_n 3, 1) := by decide +kernel
theorem dX12_act_83 : decode cX12_act 83 = .ok (.invokevirtual 399, 3) := by decide +kernel
theorem dX12_act_86 : decode cX12_act 86 = .ok (.ifCond .eq 29, 3) := by decide +kernel
theorem dX12_act_89 : decode cX12_act 89 = .ok (.iload 8, 2) := by decide +kernel
theorem dX12_act_91 : decode cX12_act 91 = .ok (.ifCond .eq 26, 3) := by decide +kernel
theorem dX12_act_94 : decode cX12_act 94 = .ok (.iload 4, 2) := by decide +kernel
theorem dX12_act_96 : decode cX12_act 96 = .ok (.iconst 0, 1) := by decide +kernel
theorem dX12_act_97 : decode cX12_act 97 = .ok (.aload_n 0, 1) := by decide +kernel
theorem dX12_act_98 : decode cX12_act 98 = .ok (.getfield 17, 3) := by decide +kernel
theorem dX12_act_101 : decode cX12_act 101 = .ok (.aload_n 0, 1) := by decide +kernel
theorem dX12_act_102 : decode cX12_act 102 = .ok (.iload_n 3, 1) := by decide +kernel
theorem dX12_act_103 : decode cX12_act 103 = .ok (.invokevirtual 250, 3) := by decide +kernel
theorem dX12_act_106 : decode cX12_act 106 = .ok (.iaload, 1) := by decide +kernel
theorem dX12_act_107 : decode cX12_act 107 = .ok (.iconst 1, 1) := by decide +kernel
theorem dX12_act_108 : decode cX12_act 108 = .ok (.isub, 1) := by decide +kernel
theorem dX12_act_109 : decode cX12_act 109 = .ok (.invokestatic 215, 3) := by decide +kernel
theorem dX12_act_112 : decode cX12_act 112 = .ok (.ifCond .ne 5, 3) := by decide +kernel
theorem dX12_act_115 : decode cX12_act 115 = .ok (.iconst (-1), 1) := by decide +kernel
theorem dX12_act_116 : decode cX12_act 116 = .ok (.ireturn, 1) := by decide +kernel
theorem dX12_act_117 : decode cX12_act 117 = .ok (.iload 8, 2) := by decide +kernel
theorem dX12_act_119 : decode cX12_act 119 = .ok (.ifCond .eq 20, 3) := by decide +kernel
theorem dX12_act_122 : decode cX12_act 122 = .ok (.aload_n 0, 1) := by decide +kernel
theorem dX12_act_123 : decode cX12_act 123 = .ok (.iload_n 3, 1) := by decide +kernel
theorem dX12_act_124 : decode cX12_act 124 = .ok (.iload 4, 2) := by decide +kernel
theorem dX12_act_126 : decode cX12_act 126 = .ok (.invokevirtual 256, 3) := by decide +kernel
theorem dX12_act_129 : decode cX12_act 129 = .ok (.iload_n 2, 1) := by decide +kernel
theorem dX12_act_130 : decode cX12_act 130 = .ok (.invokestatic 402, 3) := by decide +kernel
theorem dX12_act_133 : decode cX12_act 133 = .ok (.if_icmp .eq 6, 3) := by decide +kernel
theorem dX12_act_136 : decode cX12_act 136 = .ok (.bipush (-2), 2) := by decide +kernel
theorem dX12_act_138 : decode cX12_act 138 = .ok (.ireturn, 1) := by decide +kernel
theorem dX12_act_139 : decode cX12_act 139 = .ok (.iload 7, 2) := by decide +kernel
theorem dX12_act_141 : decode cX12_act 141 = .ok (.ifCond .eq 12, 3) := by decide +kernel
theorem dX12_act_144 : decode cX12_act 144 = .ok (.aload_n 0, 1) := by decide +kernel
theorem dX12_act_145 : decode cX12_act 145 = .ok (.iload_n 1, 1) := by decide +kernel
theorem dX12_act_146 : decode cX12_act 146 = .ok (.iload_n 3, 1) := by decide +kernel
theorem dX12_act_147 : decode cX12_act 147 = .ok (.invokevirtual 365, 3) := by decide +kernel
theorem dX12_act_150 : decode cX12_act 150 = .ok (.ifCond .eq 25, 3) := by decide +kernel
theorem dX12_act_153 : decode cX12_act 153 = .ok (.iload_n 2, 1) := by decide +kernel
theorem dX12_act_154 : decode cX12_act 154 = .ok (.bipush 11, 2) := by decide +kernel
theorem dX12_act_156 : decode cX12_act 156 = .ok (.if_icmp .ne 22, 3) := by decide +kernel
theorem dX12_act_159 : decode cX12_act 159 = .ok (.iload 5, 2) := by decide +kernel
theorem dX12_act_161 : decode cX12_act 161 = .ok (.iconst (-1), 1) := by decide +kernel
theorem dX12_act_162 : decode cX12_act 162 = .ok (.if_icmp .eq 16, 3) := by decide +kernel
theorem dX12_act_165 : decode cX12_act 165 = .ok (.aload_n 0, 1) := by decide +kernel
theorem dX12_act_166 : decode cX12_act 166 = .ok (.iload_n 1, 1) := by decide +kernel
theorem dX12_act_167 : decode cX12_act 167 = .ok (.iload 5, 2) := by decide +kernel
theorem dX12_act_169 : decode cX12_act 169 = .ok (.invokevirtual 365, 3) := by decide +kernel
theorem dX12_act_172 : decode cX12_act 172 = .ok (.ifCond .ne 6, 3) := by decide +kernel
theorem dX12_act_175 : decode cX12_act 175 = .ok (.bipush (-3), 2) := by decide +kernel
theorem dX12_act_177 : decode cX12_act 177 = .ok (.ireturn, 1) := by decide +kernel
theorem dX12_act_178 : decode cX12_act 178 = .ok (.aload_n 0, 1) := by decide +kernel
theorem dX12_act_179 : decode cX12_act 179 = .ok (.iload_n 1, 1) := by decide +kernel
theorem dX12_act_180 : decode cX12_act 180 = .ok (.iload_n 2, 1) := by decide +kernel
theorem dX12_act_181 : decode cX12_act 181 = .ok (.iload_n 3, 1) := by decide +kernel
theorem dX12_act_182 : decode cX12_act 182 = .ok (.iload 4, 2) := by decide +kernel
theorem dX12_act_184 : decode cX12_act 184 = .ok (.iload 5, 2) := by decide +kernel
theorem dX12_act_186 : decode cX12_act 186 = .ok (.iload 6, 2) := by decide +kernel
theorem dX12_act_188 : decode cX12_act 188 = .ok (.invokevirtual 405, 3) := by decide +kernel
theorem dX12_act_191 : decode cX12_act 191 = .ok (.ifCond .eq 6, 3) := by decide +kernel
theorem dX12_act_194 : decode cX12_act 194 = .ok (.bipush (-5), 2) := by decide +kernel
theorem dX12_act_196 : decode cX12_act 196 = .ok (.ireturn, 1) := by decide +kernel
theorem dX12_act_197 : decode cX12_act 197 = .ok (.aload_n 0, 1) := by decide +kernel
theorem dX12_act_198 : decode cX12_act 198 = .ok (.getfield 23, 3) := by decide +kernel
theorem dX12_act_201 : decode cX12_act 201 = .ok (.iload_n 1, 1) := by decide +kernel
theorem dX12_act_202 : decode cX12_act 202 = .ok (.iaload, 1) := by decide +kernel
theorem dX12_act_203 : decode cX12_act 203 = .ok (.sipush 250, 3) := by decide +kernel
theorem dX12_act_206 : decode cX12_act 206 = .ok (.if_icmp .eq 18, 3) := by decide +kernel
theorem dX12_act_209 : decode cX12_act 209 = .ok (.iload_n 2, 1) := by decide +kernel
theorem dX12_act_210 : decode cX12_act 210 = .ok (.ifCond .ne 17, 3) := by decide +kernel
theorem dX12_act_213 : decode cX12_act 213 = .ok (.aload_n 0, 1) := by decide +kernel
theorem dX12_act_214 : decode cX12_act 214 = .ok (.getfield 26, 3) := by decide +kernel
theorem dX12_act_217 : decode cX12_act 217 = .ok (.iload_n 1, 1) := by decide +kernel
theorem dX12_act_218 : decode cX12_act 218 = .ok (.iaload, 1) := by decide +kernel
theorem dX12_act_219 : decode cX12_act 219 = .ok (.bipush 12, 2) := by decide +kernel
theorem dX12_act_221 : decode cX12_act 221 = .ok (.if_icmp .ne 6, 3) := by decide +kernel
theorem dX12_act_224 : decode cX12_act 224 = .ok (.bipush (-4), 2) := by decide +kernel
theorem dX12_act_226 : decode cX12_act 226 = .ok (.ireturn, 1) := by decide +kernel
theorem dX12_act_227 : decode cX12_act 227 = .ok (.aload_n 0, 1) := by decide +kernel
theorem dX12_act_228 : decode cX12_act 228 = .ok (.iload_n 1, 1) := by decide +kernel
theorem dX12_act_229 : decode cX12_act 229 = .ok (.iload_n 2, 1) := by decide +kernel
theorem dX12_act_230 : decode cX12_act 230 = .ok (.iload 7, 2) := by decide +kernel
theorem dX12_act_232 : decode cX12_act 232 = .ok (.ifCond .eq 7, 3) := by decide +kernel
theorem dX12_act_235 : decode cX12_act 235 = .ok (.iload_n 3, 1) := by decide +kernel
theorem dX12_act_236 : decode cX12_act 236 = .ok (.goto 4, 3) := by decide +kernel
theorem dX12_act_239 : decode cX12_act 239 = .ok (.iconst 0, 1) := by decide +kernel
theorem dX12_act_240 : decode cX12_act 240 = .ok (.iload 8, 2) := by decide +kernel
theorem dX12_act_242 : decode cX12_act 242 = .ok (.ifCond .eq 8, 3) := by decide +kernel
theorem dX12_act_245 : decode cX12_act 245 = .ok (.iload 4, 2) := by decide +kernel
theorem dX12_act_247 : decode cX12_act 247 = .ok (.goto 4, 3) := by decide +kernel
theorem dX12_act_250 : decode cX12_act 250 = .ok (.iconst 0, 1) := by decide +kernel
theorem dX12_act_251 : decode cX12_act 251 = .ok (.aload_n 0, 1) := by decide +kernel
theorem dX12_act_252 : decode cX12_act 252 = .ok (.getfield 378, 3) := by decide +kernel
theorem dX12_act_255 : decode cX12_act 255 = .ok (.aload_n 0, 1) := by decide +kernel
theorem dX12_act_256 : decode cX12_act 256 = .ok (.getfield 381, 3) := by decide +kernel
theorem dX12_act_259 : decode cX12_act 259 = .ok (.invokevirtual 409, 3) := by decide +kernel
theorem dX12_act_262 : decode cX12_act 262 = .ok (.ireturn, 1) := by decide +kernel
theorem cd_act : Cond.code yX12_act cX12_act 9 (some .int) ∈ lw_g := mt_at 1966 (by decide +kernel) rfl
section
variable {p : Program} {l : Launch} {e : Env} {R : Room} {s : State} {m : MethodId} {args : Array Value} {below : List Frame} {meth : Method} {c : Code} {cM : ClassId} {iS : Nat → Nat} {cI cZ : ClassId} {mo : Nat} {ad : Nat → Nat} {r : Int32} {S9 : mSt}
noncomputable def fm_act_43 (S : mSt) : Option (Int32 × mSt) :=
some ((-1 : Int32), S)
set_option maxRecDepth 100000 in
set_option maxHeartbeats 4000000 in
theorem wm_act_43 (C : mY p R s m args meth c cX12_act 9 10 252 (some .int)) (X : mX s cM iS cI cZ mo ad) : ∀ {S : mSt} {H : Heap} {locs : List Loc} {ls : Array Slot}, fm_act_43 S = some (r, S9) → mW cM iS cI cZ mo ad S H → mS (mA mo ad) s.heap H locs → lv_has ls 9 [] → W p l e R s m args below meth c H locs 0 0 (MQ below (mQw (some (.int r)) cM iS cI cZ mo ad S9) args s 0 0 (mA mo ad)) (F0 m 43 ls []) := by
  intro S H locs ls h hW hS hl
  unfold fm_act_43 at h
  refine lv_iconst (v := -1) C.1 C.2.1 dX12_act_43 (by decide) ?_
  cases h
  exact m_retiW C hW hS dX12_act_44
noncomputable def fm_act_224 (S : mSt) : Option (Int32 × mSt) :=
some ((-4 : Int32), S)
set_option maxRecDepth 100000 in
set_option maxHeartbeats 4000000 in
theorem wm_act_224 (C : mY p R s m args meth c cX12_act 9 10 252 (some .int)) (X : mX s cM iS cI cZ mo ad) : ∀ {S : mSt} {H : Heap} {locs : List Loc} {ls : Array Slot}, fm_act_224 S = some (r, S9) → mW cM iS cI cZ mo ad S H → mS (mA mo ad) s.heap H locs → lv_has ls 9 [] → W p l e R s m args below meth c H locs 0 0 (MQ below (mQw (some (.int r)) cM iS cI cZ mo ad S9) args s 0 0 (mA mo ad)) (F0 m 224 ls []) := by
  intro S H locs ls h hW hS hl
  unfold fm_act_224 at h
  refine lv_bipush (v := -4) C.1 C.2.1 dX12_act_224 (by decide) ?_
  cases h
  exact m_retiW C hW hS dX12_act_226
noncomputable def fm_act_251 (S : mSt) (s1 : Int32) (s2 : Int32) (s3 : Int32) (s4 : Int32) : Option (Int32 × mSt) :=
bd (fm_make S s1 s2 s3 s4 (S.1 69) (S.1 70)) fun q_r2 => lt q_r2.1 fun r2 => lt q_r2.2 fun S1 =>
some (r2, S1)
set_option maxRecDepth 100000 in
set_option maxHeartbeats 4000000 in
theorem wm_act_251 (C : mY p R s m args meth c cX12_act 9 10 252 (some .int)) (X : mX s cM iS cI cZ mo ad) : ∀ {S : mSt} {s1 : Int32} {s2 : Int32} {s3 : Int32} {s4 : Int32} {H : Heap} {locs : List Loc} {ls : Array Slot}, fm_act_251 S s1 s2 s3 s4 = some (r, S9) → mW cM iS cI cZ mo ad S H → mS (mA mo ad) s.heap H locs → lv_has ls 9 [(0, .ref mo)] → W p l e R s m args below meth c H locs 0 0 (MQ below (mQw (some (.int r)) cM iS cI cZ mo ad S9) args s 0 0 (mA mo ad)) (F0 m 251 ls [.int s4, .int s3, .int s2, .int s1, .ref mo]) := by
  intro S s1 s2 s3 s4 H locs ls h hW hS hl
  unfold fm_act_251 at h
  refine lv_aload_n C.1 C.2.1 dX12_act_251 rfl (lv_at hl 0 rfl) ?_
  refine gf_69 C X hW dX12_act_252 ?_
  refine lv_aload_n C.1 C.2.1 dX12_act_255 rfl (lv_at hl 0 rfl) ?_
  refine gf_70 C X hW dX12_act_256 ?_
  obtain ⟨⟨r2, S1⟩, h_S1, h⟩ := bd_ok h
  refine m_callW (rest := []) (ov := some (.int r2)) C X hW hS hl.1 [.int s1, .int s2, .int s3, .int s4, .int (S.1 69), .int (S.1 70)] (tm_make l h_S1) mw_make im_make sl_make rfl ⟨by decide, by decide⟩ rfl (Nat.le_of_ble_eq_true rfl) dX12_act_259 (fun H locs hW hS => ?_)
  refine W.eq (g2 := F0 m 262 ls [.int r2]) rfl ?_
  cases h
  exact m_retiW C hW hS dX12_act_262
noncomputable def fm_act_240 (S : mSt) (v4 : Int32) (v8 : Int32) (s1 : Int32) (s2 : Int32) (s3 : Int32) : Option (Int32 × mSt) :=
if v8 = 0 then (
fm_act_251 S s1 s2 s3 (0 : Int32))
else (
fm_act_251 S s1 s2 s3 v4)
set_option maxRecDepth 100000 in
set_option maxHeartbeats 4000000 in
theorem wm_act_240 (C : mY p R s m args meth c cX12_act 9 10 252 (some .int)) (X : mX s cM iS cI cZ mo ad) : ∀ {S : mSt} {v4 : Int32} {v8 : Int32} {s1 : Int32} {s2 : Int32} {s3 : Int32} {H : Heap} {locs : List Loc} {ls : Array Slot}, fm_act_240 S v4 v8 s1 s2 s3 = some (r, S9) → mW cM iS cI cZ mo ad S H → mS (mA mo ad) s.heap H locs → lv_has ls 9 [(0, .ref mo), (4, .int v4), (8, .int v8)] → W p l e R s m args below meth c H locs 0 0 (MQ below (mQw (some (.int r)) cM iS cI cZ mo ad S9) args s 0 0 (mA mo ad)) (F0 m 240 ls [.int s3, .int s2, .int s1, .ref mo]) := by
  intro S v4 v8 s1 s2 s3 H locs ls h hW hS hl
  unfold fm_act_240 at h
  refine lv_iload C.1 C.2.1 dX12_act_240 (lv_at hl 2 rfl) ?_
  refine lv_if_eq (tgt := 250) C.1 C.2.1 dX12_act_242 (by decide) (fun c1 => ?_) (fun c1 => ?_)
  · have h := if_t h c1
    refine lv_iconst (v := 0) C.1 C.2.1 dX12_act_250 (by decide) ?_
    exact wm_act_251 C X h hW hS (lv_sub hl [0] rfl)
  · have h := if_f h c1
    refine lv_iload C.1 C.2.1 dX12_act_245 (lv_at hl 1 rfl) ?_
    refine lv_goto (tgt := 251) C.1 C.2.1 dX12_act_247 (by decide) ?_
    exact wm_act_251 C X h hW hS (lv_sub hl [0] rfl)
noncomputable def fm_act_227 (S : mSt) (v1 : Int32) (v2 : Int32) (v3 : Int32) (v4 : Int32) (v7 : Int32) (v8 : Int32) : Option (Int32 × mSt) :=
if v7 = 0 then (
fm_act_240 S v4 v8 v1 v2 (0 : Int32))
else (
fm_act_240 S v4 v8 v1 v2 v3)
set_option maxRecDepth 100000 in
set_option maxHeartbeats 4000000 in
theorem wm_act_227 (C : mY p R s m args meth c cX12_act 9 10 252 (some .int)) (X : mX s cM iS cI cZ mo ad) : ∀ {S : mSt} {v1 : Int32} {v2 : Int32} {v3 : Int32} {v4 : Int32} {v7 : Int32} {v8 : Int32} {H : Heap} {locs : List Loc} {ls : Array Slot}, fm_act_227 S v1 v2 v3 v4 v7 v8 = some (r, S9) → mW cM iS cI cZ mo ad S H → mS (mA mo ad) s.heap H locs → lv_has ls 9 [(0, .ref mo), (1, .int v1), (2, .int v2), (3, .int v3), (4, .int v4), (7, .int v7), (8, .int v8)] → W p l e R s m args below meth c H locs 0 0 (MQ below (mQw (some (.int r)) cM iS cI cZ mo ad S9) args s 0 0 (mA mo ad)) (F0 m 227 ls []) := by
  intro S v1 v2 v3 v4 v7 v8 H locs ls h hW hS hl
  unfold fm_act_227 at h
  refine lv_aload_n C.1 C.2.1 dX12_act_227 rfl (lv_at hl 0 rfl) ?_
  refine lv_iload_n C.1 C.2.1 dX12_act_228 rfl (lv_at hl 1 rfl) ?_
  refine lv_iload_n C.1 C.2.1 dX12_act_229 rfl (lv_at hl 2 rfl) ?_
  refine lv_iload C.1 C.2.1 dX12_act_230 (lv_at hl 5 rfl) ?_
  refine lv_if_eq (tgt := 239) C.1 C.2.1 dX12_act_232 (by decide) (fun c1 => ?_) (fun c1 => ?_)
  · have h := if_t h c1
    refine lv_iconst (v := 0) C.1 C.2.1 dX12_act_239 (by decide) ?_
    exact wm_act_240 C X h hW hS (lv_sub hl [0, 4, 6] rfl)
  · have h := if_f h c1
    refine lv_iload_n C.1 C.2.1 dX12_act_235 rfl (lv_at hl 3 rfl) ?_
    refine lv_goto (tgt := 240) C.1 C.2.1 dX12_act_236 (by decide) ?_
    exact wm_act_240 C X h hW hS (lv_sub hl [0, 4, 6] rfl)
noncomputable def fm_act_178 (S : mSt) (v1 : Int32) (v2 : Int32) (v3 : Int32) (v4 : Int32) (v5 : Int32) (v6 : Int32) (v7 : Int32) (v8 : Int32) : Option (Int32 × mSt) :=
bd (fm_refusal S v1 v2 v3 v4 v5 v6) fun q_r2 => lt q_r2.1 fun r2 => lt q_r2.2 fun S1 =>
if r2 = 0 then (
ck v1 4 (
if (rd S1 7 v1) = (250 : Int32) then (
fm_act_224 S1)
else (
if v2 = 0 then (
ck v1 4 (
if (rd S1 8 v1) = (12 : Int32) then (
fm_act_224 S1)
else (
fm_act_227 S1 v1 v2 v3 v4 v7 v8)))
else (
fm_act_227 S1 v1 v2 v3 v4 v7 v8))))
else (
some ((-5 : Int32), S1))
set_option maxRecDepth 100000 in
set_option maxHeartbeats 4000000 in
theorem wm_act_178 (C : mY p R s m args meth c cX12_act 9 10 252 (some .int)) (X : mX s cM iS cI cZ mo ad) : ∀ {S : mSt} {v1 : Int32} {v2 : Int32} {v3 : Int32} {v4 : Int32} {v5 : Int32} {v6 : Int32} {v7 : Int32} {v8 : Int32} {H : Heap} {locs : List Loc} {ls : Array Slot}, fm_act_178 S v1 v2 v3 v4 v5 v6 v7 v8 = some (r, S9) → mW cM iS cI cZ mo ad S H → mS (mA mo ad) s.heap H locs → lv_has ls 9 [(0, .ref mo), (1, .int v1), (2, .int v2), (3, .int v3), (4, .int v4), (5, .int v5), (6, .int v6), (7, .int v7), (8, .int v8)] → W p l e R s m args below meth c H locs 0 0 (MQ below (mQw (some (.int r)) cM iS cI cZ mo ad S9) args s 0 0 (mA mo ad)) (F0 m 178 ls []) := by
  intro S v1 v2 v3 v4 v5 v6 v7 v8 H locs ls h hW hS hl
  unfold fm_act_178 at h
  refine lv_aload_n C.1 C.2.1 dX12_act_178 rfl (lv_at hl 0 rfl) ?_
  refine lv_iload_n C.1 C.2.1 dX12_act_179 rfl (lv_at hl 1 rfl) ?_
  refine lv_iload_n C.1 C.2.1 dX12_act_180 rfl (lv_at hl 2 rfl) ?_
  refine lv_iload_n C.1 C.2.1 dX12_act_181 rfl (lv_at hl 3 rfl) ?_
  refine lv_iload C.1 C.2.1 dX12_act_182 (lv_at hl 4 rfl) ?_
  refine lv_iload C.1 C.2.1 dX12_act_184 (lv_at hl 5 rfl) ?_
  refine lv_iload C.1 C.2.1 dX12_act_186 (lv_at hl 6 rfl) ?_
  obtain ⟨⟨r2, S1⟩, h_S1, h⟩ := bd_ok h
  refine m_callW (rest := []) (ov := some (.int r2)) C X hW hS hl.1 [.int v1, .int v2, .int v3, .int v4, .int v5, .int v6] (tm_refusal l h_S1) mw_refusal im_refusal sl_refusal rfl ⟨by decide, by decide⟩ rfl (Nat.le_of_ble_eq_true rfl) dX12_act_188 (fun H locs hW hS => ?_)
  refine W.eq (g2 := F0 m 191 ls [.int r2]) rfl ?_
  refine lv_if_eq (tgt := 197) C.1 C.2.1 dX12_act_191 (by decide) (fun c3 => ?_) (fun c3 => ?_)
  · have h := if_t h c3
    refine lv_aload_n C.1 C.2.1 dX12_act_197 rfl (lv_at hl 0 rfl) ?_
    refine gf_7 C X hW dX12_act_198 ?_
    refine lv_iload_n C.1 C.2.1 dX12_act_201 rfl (lv_at hl 1 rfl) ?_
    obtain ⟨hin, h⟩ := ck_ok h
    refine l_7 C X hW hin dX12_act_202 ?_
    refine lv_sipush (v := 250) C.1 C.2.1 dX12_act_203 (by decide) ?_
    refine lv_icmp_eq (tgt := 224) C.1 C.2.1 dX12_act_206 (by decide) (fun c4 => ?_) (fun c4 => ?_)
    · have h := if_t h c4
      exact wm_act_224 C X h hW hS (lv_sub hl [] rfl)
    · have h := if_f h c4
      refine lv_iload_n C.1 C.2.1 dX12_act_209 rfl (lv_at hl 2 rfl) ?_
      refine lv_if_ne (tgt := 227) C.1 C.2.1 dX12_act_210 (by decide) (fun c5 => ?_) (fun c5 => ?_)
      · have h := if_f h c5
        exact wm_act_227 C X h hW hS (lv_sub hl [0, 1, 2, 3, 4, 7, 8] rfl)
      · have h := if_t h c5
        refine lv_aload_n C.1 C.2.1 dX12_act_213 rfl (lv_at hl 0 rfl) ?_
        refine gf_8 C X hW dX12_act_214 ?_
        refine lv_iload_n C.1 C.2.1 dX12_act_217 rfl (lv_at hl 1 rfl) ?_
        obtain ⟨hin, h⟩ := ck_ok h
        refine l_8 C X hW hin dX12_act_218 ?_
        refine lv_bipush (v := 12) C.1 C.2.1 dX12_act_219 (by decide) ?_
        refine lv_icmp_ne (tgt := 227) C.1 C.2.1 dX12_act_221 (by decide) (fun c6 => ?_) (fun c6 => ?_)
        · have h := if_f h c6
          exact wm_act_227 C X h hW hS (lv_sub hl [0, 1, 2, 3, 4, 7, 8] rfl)
        · have h := if_t h c6
          exact wm_act_224 C X h hW hS (lv_sub hl [] rfl)
  · have h := if_f h c3
    refine lv_bipush (v := -5) C.1 C.2.1 dX12_act_194 (by decide) ?_
    cases h
    exact m_retiW C hW hS dX12_act_196
noncomputable def fm_act_175 (S : mSt) : Option (Int32 × mSt) :=
some ((-3 : Int32), S)
set_option maxRecDepth 100000 in
set_option maxHeartbeats 4000000 in
theorem wm_act_175 (C : mY p R s m args meth c cX12_act 9 10 252 (some .int)) (X : mX s cM iS cI cZ mo ad) : ∀ {S : mSt} {H : Heap} {locs : List Loc} {ls : Array Slot}, fm_act_175 S = some (r, S9) → mW cM iS cI cZ mo ad S H → mS (mA mo ad) s.heap H locs → lv_has ls 9 [] → W p l e R s m args below meth c H locs 0 0 (MQ below (mQw (some (.int r)) cM iS cI cZ mo ad S9) args s 0 0 (mA mo ad)) (F0 m 175 ls []) := by
  intro S H locs ls h hW hS hl
  unfold fm_act_175 at h
  refine lv_bipush (v := -3) C.1 C.2.1 dX12_act_175 (by decide) ?_
  cases h
  exact m_retiW C hW hS dX12_act_177
noncomputable def fm_act_153 (S : mSt) (v1 : Int32) (v2 : Int32) (v3 : Int32) (v4 : Int32) (v5 : Int32) (v6 : Int32) (v7 : Int32) (v8 : Int32) : Option (Int32 × mSt) :=
if v2 = (11 : Int32) then (
if v5 = (-1 : Int32) then (
fm_act_178 S v1 v2 v3 v4 v5 v6 v7 v8)
else (
bd (fm_isThereNow S v1 v5) fun q_r4 => lt q_r4.1 fun r4 => lt q_r4.2 fun S3 =>
if r4 = 0 then (
fm_act_175 S3)
else (
fm_act_178 S3 v1 v2 v3 v4 v5 v6 v7 v8)))
else (
fm_act_178 S v1 v2 v3 v4 v5 v6 v7 v8)
set_option maxRecDepth 100000 in
set_option maxHeartbeats 4000000 in
theorem wm_act_153 (C : mY p R s m args meth c cX12_act 9 10 252 (some .int)) (X : mX s cM iS cI cZ mo ad) : ∀ {S : mSt} {v1 : Int32} {v2 : Int32} {v3 : Int32} {v4 : Int32} {v5 : Int32} {v6 : Int32} {v7 : Int32} {v8 : Int32} {H : Heap} {locs : List Loc} {ls : Array Slot}, fm_act_153 S v1 v2 v3 v4 v5 v6 v7 v8 = some (r, S9) → mW cM iS cI cZ mo ad S H → mS (mA mo ad) s.heap H locs → lv_has ls 9 [(0, .ref mo), (1, .int v1), (2, .int v2), (3, .int v3), (4, .int v4), (5, .int v5), (6, .int v6), (7, .int v7), (8, .int v8)] → W p l e R s m args below meth c H locs 0 0 (MQ below (mQw (some (.int r)) cM iS cI cZ mo ad S9) args s 0 0 (mA mo ad)) (F0 m 153 ls []) := by
  intro S v1 v2 v3 v4 v5 v6 v7 v8 H locs ls h hW hS hl
  unfold fm_act_153 at h
  refine lv_iload_n C.1 C.2.1 dX12_act_153 rfl (lv_at hl 2 rfl) ?_
  refine lv_bipush (v := 11) C.1 C.2.1 dX12_act_154 (by decide) ?_
  refine lv_icmp_ne (tgt := 178) C.1 C.2.1 dX12_act_156 (by decide) (fun c1 => ?_) (fun c1 => ?_)
  · have h := if_f h c1
    exact wm_act_178 C X h hW hS (lv_sub hl [0, 1, 2, 3, 4, 5, 6, 7, 8] rfl)
  · have h := if_t h c1
    refine lv_iload C.1 C.2.1 dX12_act_159 (lv_at hl 5 rfl) ?_
    refine lv_iconst (v := -1) C.1 C.2.1 dX12_act_161 (by decide) ?_
    refine lv_icmp_eq (tgt := 178) C.1 C.2.1 dX12_act_162 (by decide) (fun c2 => ?_) (fun c2 => ?_)
    · have h := if_t h c2
      exact wm_act_178 C X h hW hS (lv_sub hl [0, 1, 2, 3, 4, 5, 6, 7, 8] rfl)
    · have h := if_f h c2
      refine lv_aload_n C.1 C.2.1 dX12_act_165 rfl (lv_at hl 0 rfl) ?_
      refine lv_iload_n C.1 C.2.1 dX12_act_166 rfl (lv_at hl 1 rfl) ?_
      refine lv_iload C.1 C.2.1 dX12_act_167 (lv_at hl 5 rfl) ?_
      obtain ⟨⟨r4, S3⟩, h_S3, h⟩ := bd_ok h
      refine m_callW (rest := []) (ov := some (.int r4)) C X hW hS hl.1 [.int v1, .int v5] (tm_isThereNow l h_S3) mw_isThereNow im_isThereNow sl_isThereNow rfl ⟨by decide, by decide⟩ rfl (Nat.le_of_ble_eq_true rfl) dX12_act_169 (fun H locs hW hS => ?_)
      refine W.eq (g2 := F0 m 172 ls [.int r4]) rfl ?_
      refine lv_if_ne (tgt := 178) C.1 C.2.1 dX12_act_172 (by decide) (fun c5 => ?_) (fun c5 => ?_)
      · have h := if_f h c5
        exact wm_act_178 C X h hW hS (lv_sub hl [0, 1, 2, 3, 4, 5, 6, 7, 8] rfl)
      · have h := if_t h c5
        exact wm_act_175 C X h hW hS (lv_sub hl [] rfl)
noncomputable def fm_act_139 (S : mSt) (v1 : Int32) (v2 : Int32) (v3 : Int32) (v4 : Int32) (v5 : Int32) (v6 : Int32) (v7 : Int32) (v8 : Int32) : Option (Int32 × mSt) :=
if v7 = 0 then (
fm_act_153 S v1 v2 v3 v4 v5 v6 v7 v8)
else (
bd (fm_isThereNow S v1 v3) fun q_r3 => lt q_r3.1 fun r3 => lt q_r3.2 fun S2 =>
if r3 = 0 then (
fm_act_175 S2)
else (
fm_act_153 S2 v1 v2 v3 v4 v5 v6 v7 v8))
set_option maxRecDepth 100000 in
set_option maxHeartbeats 4000000 in
theorem wm_act_139 (C : mY p R s m args meth c cX12_act 9 10 252 (some .int)) (X : mX s cM iS cI cZ mo ad) : ∀ {S : mSt} {v1 : Int32} {v2 : Int32} {v3 : Int32} {v4 : Int32} {v5 : Int32} {v6 : Int32} {v7 : Int32} {v8 : Int32} {H : Heap} {locs : List Loc} {ls : Array Slot}, fm_act_139 S v1 v2 v3 v4 v5 v6 v7 v8 = some (r, S9) → mW cM iS cI cZ mo ad S H → mS (mA mo ad) s.heap H locs → lv_has ls 9 [(0, .ref mo), (1, .int v1), (2, .int v2), (3, .int v3), (4, .int v4), (5, .int v5), (6, .int v6), (7, .int v7), (8, .int v8)] → W p l e R s m args below meth c H locs 0 0 (MQ below (mQw (some (.int r)) cM iS cI cZ mo ad S9) args s 0 0 (mA mo ad)) (F0 m 139 ls []) := by
  intro S v1 v2 v3 v4 v5 v6 v7 v8 H locs ls h hW hS hl
  unfold fm_act_139 at h
  refine lv_iload C.1 C.2.1 dX12_act_139 (lv_at hl 7 rfl) ?_
  refine lv_if_eq (tgt := 153) C.1 C.2.1 dX12_act_141 (by decide) (fun c1 => ?_) (fun c1 => ?_)
  · have h := if_t h c1
    exact wm_act_153 C X h hW hS (lv_sub hl [0, 1, 2, 3, 4, 5, 6, 7, 8] rfl)
  · have h := if_f h c1
    refine lv_aload_n C.1 C.2.1 dX12_act_144 rfl (lv_at hl 0 rfl) ?_
    refine lv_iload_n C.1 C.2.1 dX12_act_145 rfl (lv_at hl 1 rfl) ?_
    refine lv_iload_n C.1 C.2.1 dX12_act_146 rfl (lv_at hl 3 rfl) ?_
    obtain ⟨⟨r3, S2⟩, h_S2, h⟩ := bd_ok h
    refine m_callW (rest := []) (ov := some (.int r3)) C X hW hS hl.1 [.int v1, .int v3] (tm_isThereNow l h_S2) mw_isThereNow im_isThereNow sl_isThereNow rfl ⟨by decide, by decide⟩ rfl (Nat.le_of_ble_eq_true rfl) dX12_act_147 (fun H locs hW hS => ?_)
    refine W.eq (g2 := F0 m 150 ls [.int r3]) rfl ?_
    refine lv_if_eq (tgt := 175) C.1 C.2.1 dX12_act_150 (by decide) (fun c4 => ?_) (fun c4 => ?_)
    · have h := if_t h c4
      exact wm_act_175 C X h hW hS (lv_sub hl [] rfl)
    · have h := if_f h c4
      exact wm_act_153 C X h hW hS (lv_sub hl [0, 1, 2, 3, 4, 5, 6, 7, 8] rfl)
noncomputable def fm_act_117 (S : mSt) (v1 : Int32) (v2 : Int32) (v3 : Int32) (v4 : Int32) (v5 : Int32) (v6 : Int32) (v7 : Int32) (v8 : Int32) : Option (Int32 × mSt) :=
if v8 = 0 then (
fm_act_139 S v1 v2 v3 v4 v5 v6 v7 v8)
else (
bd (fm_ruleOf S v3 v4) fun r2 =>
bd (fm_ruleFor v2) fun r3 =>
if r2 = r3 then (
fm_act_139 S v1 v2 v3 v4 v5 v6 v7 v8)
else (
some ((-2 : Int32), S)))
set_option maxRecDepth 100000 in
set_option maxHeartbeats 4000000 in
theorem wm_act_117 (C : mY p R s m args meth c cX12_act 9 10 252 (some .int)) (X : mX s cM iS cI cZ mo ad) : ∀ {S : mSt} {v1 : Int32} {v2 : Int32} {v3 : Int32} {v4 : Int32} {v5 : Int32} {v6 : Int32} {v7 : Int32} {v8 : Int32} {H : Heap} {locs : List Loc} {ls : Array Slot}, fm_act_117 S v1 v2 v3 v4 v5 v6 v7 v8 = some (r, S9) → mW cM iS cI cZ mo ad S H → mS (mA mo ad) s.heap H locs → lv_has ls 9 [(0, .ref mo), (1, .int v1), (2, .int v2), (3, .int v3), (4, .int v4), (5, .int v5), (6, .int v6), (7, .int v7), (8, .int v8)] → W p l e R s m args below meth c H locs 0 0 (MQ below (mQw (some (.int r)) cM iS cI cZ mo ad S9) args s 0 0 (mA mo ad)) (F0 m 117 ls []) := by
  intro S v1 v2 v3 v4 v5 v6 v7 v8 H locs ls h hW hS hl
  unfold fm_act_117 at h
  refine lv_iload C.1 C.2.1 dX12_act_117 (lv_at hl 8 rfl) ?_
  refine lv_if_eq (tgt := 139) C.1 C.2.1 dX12_act_119 (by decide) (fun c1 => ?_) (fun c1 => ?_)
  · have h := if_t h c1
    exact wm_act_139 C X h hW hS (lv_sub hl [0, 1, 2, 3, 4, 5, 6, 7, 8] rfl)
  · have h := if_f h c1
    refine lv_aload_n C.1 C.2.1 dX12_act_122 rfl (lv_at hl 0 rfl) ?_
    refine lv_iload_n C.1 C.2.1 dX12_act_123 rfl (lv_at hl 3 rfl) ?_
    refine lv_iload C.1 C.2.1 dX12_act_124 (lv_at hl 4 rfl) ?_
    obtain ⟨r2, h_r2, h⟩ := bd_ok h
    refine m_callR (rest := []) C X hW hl.1 [.int v3, .int v4] (tm_ruleOf l h_r2) mw_ruleOf im_ruleOf sl_ruleOf rfl ⟨by decide, by decide⟩ rfl (Nat.le_of_ble_eq_true rfl) dX12_act_126 ?_
    refine lv_iload_n C.1 C.2.1 dX12_act_129 rfl (lv_at hl 2 rfl) ?_
    obtain ⟨r3, h_r3, h⟩ := bd_ok h
    refine m_callS (rest := [.int r2]) C hl.1 [.int v2] (tm_ruleFor l h_r3) mw_ruleFor st_ruleFor rfl ⟨by decide, by decide⟩ rfl (Nat.le_of_ble_eq_true rfl) dX12_act_130 ?_
    refine lv_icmp_eq (tgt := 139) C.1 C.2.1 dX12_act_133 (by decide) (fun c4 => ?_) (fun c4 => ?_)
    · have h := if_t h c4
      exact wm_act_139 C X h hW hS (lv_sub hl [0, 1, 2, 3, 4, 5, 6, 7, 8] rfl)
    · have h := if_f h c4
      refine lv_bipush (v := -2) C.1 C.2.1 dX12_act_136 (by decide) ?_
      cases h
      exact m_retiW C hW hS dX12_act_138
noncomputable def fm_act_115 (S : mSt) : Option (Int32 × mSt) :=
some ((-1 : Int32), S)
set_option maxRecDepth 100000 in
set_option maxHeartbeats 4000000 in
theorem wm_act_115 (C : mY p R s m args meth c cX12_act 9 10 252 (some .int)) (X : mX s cM iS cI cZ mo ad) : ∀ {S : mSt} {H : Heap} {locs : List Loc} {ls : Array Slot}, fm_act_115 S = some (r, S9) → mW cM iS cI cZ mo ad S H → mS (mA mo ad) s.heap H locs → lv_has ls 9 [] → W p l e R s m args below meth c H locs 0 0 (MQ below (mQw (some (.int r)) cM iS cI cZ mo ad S9) args s 0 0 (mA mo ad)) (F0 m 115 ls []) := by
  intro S H locs ls h hW hS hl
  unfold fm_act_115 at h
  refine lv_iconst (v := -1) C.1 C.2.1 dX12_act_115 (by decide) ?_
  cases h
  exact m_retiW C hW hS dX12_act_116
noncomputable def fm_act_89 (S : mSt) (v1 : Int32) (v2 : Int32) (v3 : Int32) (v4 : Int32) (v5 : Int32) (v6 : Int32) (v7 : Int32) (v8 : Int32) : Option (Int32 × mSt) :=
if v8 = 0 then (
fm_act_117 S v1 v2 v3 v4 v5 v6 v7 v8)
else (
bd (fm_kindOf S v3) fun r2 =>
ck r2 8 (
bd (fm_within v4 (0 : Int32) ((rd S 5 r2) - (1 : Int32))) fun r3 =>
if r3 = 0 then (
fm_act_115 S)
else (
fm_act_117 S v1 v2 v3 v4 v5 v6 v7 v8)))
set_option maxRecDepth 100000 in
set_option maxHeartbeats 4000000 in
theorem wm_act_89 (C : mY p R s m args meth c cX12_act 9 10 252 (some .int)) (X : mX s cM iS cI cZ mo ad) : ∀ {S : mSt} {v1 : Int32} {v2 : Int32} {v3 : Int32} {v4 : Int32} {v5 : Int32} {v6 : Int32} {v7 : Int32} {v8 : Int32} {H : Heap} {locs : List Loc} {ls : Array Slot}, fm_act_89 S v1 v2 v3 v4 v5 v6 v7 v8 = some (r, S9) → mW cM iS cI cZ mo ad S H → mS (mA mo ad) s.heap H locs → lv_has ls 9 [(0, .ref mo), (1, .int v1), (2, .int v2), (3, .int v3), (4, .int v4), (5, .int v5), (6, .int v6), (7, .int v7), (8, .int v8)] → W p l e R s m args below meth c H locs 0 0 (MQ below (mQw (some (.int r)) cM iS cI cZ mo ad S9) args s 0 0 (mA mo ad)) (F0 m 89 ls []) := by
  intro S v1 v2 v3 v4 v5 v6 v7 v8 H locs ls h hW hS hl
  unfold fm_act_89 at h
  refine lv_iload C.1 C.2.1 dX12_act_89 (lv_at hl 8 rfl) ?_
  refine lv_if_eq (tgt := 117) C.1 C.2.1 dX12_act_91 (by decide) (fun c1 => ?_) (fun c1 => ?_)
  · have h := if_t h c1
    exact wm_act_117 C X h hW hS (lv_sub hl [0, 1, 2, 3, 4, 5, 6, 7, 8] rfl)
  · have h := if_f h c1
    refine lv_iload C.1 C.2.1 dX12_act_94 (lv_at hl 4 rfl) ?_
    refine lv_iconst (v := 0) C.1 C.2.1 dX12_act_96 (by decide) ?_
    refine lv_aload_n C.1 C.2.1 dX12_act_97 rfl (lv_at hl 0 rfl) ?_
    refine gf_5 C X hW dX12_act_98 ?_
    refine lv_aload_n C.1 C.2.1 dX12_act_101 rfl (lv_at hl 0 rfl) ?_
    refine lv_iload_n C.1 C.2.1 dX12_act_102 rfl (lv_at hl 3 rfl) ?_
    obtain ⟨r2, h_r2, h⟩ := bd_ok h
    refine m_callR (rest := [.ref (ad 5), .int (0 : Int32), .int v4]) C X hW hl.1 [.int v3] (tm_kindOf l h_r2) mw_kindOf im_kindOf sl_kindOf rfl ⟨by decide, by decide⟩ rfl (Nat.le_of_ble_eq_true rfl) dX12_act_103 ?_
    obtain ⟨hin, h⟩ := ck_ok h
    refine l_5 C X hW hin dX12_act_106 ?_
    refine lv_iconst (v := 1) C.1 C.2.1 dX12_act_107 (by decide) ?_
    refine lv_isub C.1 C.2.1 dX12_act_108 ?_
    obtain ⟨r3, h_r3, h⟩ := bd_ok h
    refine m_callS (rest := []) C hl.1 [.int v4, .int (0 : Int32), .int ((rd S 5 r2) - (1 : Int32))] (tm_within l h_r3) mw_within st_within rfl ⟨by decide, by decide⟩ rfl (Nat.le_of_ble_eq_true rfl) dX12_act_109 ?_
    refine lv_if_ne (tgt := 117) C.1 C.2.1 dX12_act_112 (by decide) (fun c4 => ?_) (fun c4 => ?_)
    · have h := if_f h c4
      exact wm_act_117 C X h hW hS (lv_sub hl [0, 1, 2, 3, 4, 5, 6, 7, 8] rfl)
    · have h := if_t h c4
      exact wm_act_115 C X h hW hS (lv_sub hl [] rfl)
noncomputable def fm_act_67 (S : mSt) (v1 : Int32) (v2 : Int32) (v3 : Int32) (v4 : Int32) (v5 : Int32) (v6 : Int32) (s0 : Int32) : Option (Int32 × mSt) :=
bd (fm_isOnPart v2) fun r1 =>
if s0 = 0 then (
fm_act_89 S v1 v2 v3 v4 v5 v6 s0 r1)
else (
bd (fm_isMadeNow S v1 v3) fun r3 =>
if r3 = 0 then (
fm_act_115 S)
else (
fm_act_89 S v1 v2 v3 v4 v5 v6 s0 r1))
set_option maxRecDepth 100000 in
set_option maxHeartbeats 4000000 in
theorem wm_act_67 (C : mY p R s m args meth c cX12_act 9 10 252 (some .int)) (X : mX s cM iS cI cZ mo ad) : ∀ {S : mSt} {v1 : Int32} {v2 : Int32} {v3 : Int32} {v4 : Int32} {v5 : Int32} {v6 : Int32} {s0 : Int32} {H : Heap} {locs : List Loc} {ls : Array Slot}, fm_act_67 S v1 v2 v3 v4 v5 v6 s0 = some (r, S9) → mW cM iS cI cZ mo ad S H → mS (mA mo ad) s.heap H locs → lv_has ls 9 [(0, .ref mo), (1, .int v1), (2, .int v2), (3, .int v3), (4, .int v4), (5, .int v5), (6, .int v6)] → W p l e R s m args below meth c H locs 0 0 (MQ below (mQw (some (.int r)) cM iS cI cZ mo ad S9) args s 0 0 (mA mo ad)) (F0 m 67 ls [.int s0]) := by
  intro S v1 v2 v3 v4 v5 v6 s0 H locs ls h hW hS hl
  unfold fm_act_67 at h
  refine lv_istore (lv' := [(7, .int s0), (0, .ref mo), (1, .int v1), (2, .int v2), (3, .int v3), (4, .int v4), (5, .int v5), (6, .int v6)]) C.1 C.2.1 dX12_act_67 hl (by decide) rfl (fun ls hl => ?_)
  refine lv_iload_n C.1 C.2.1 dX12_act_69 rfl (lv_at hl 3 rfl) ?_
  obtain ⟨r1, h_r1, h⟩ := bd_ok h
  refine m_callS (rest := []) C hl.1 [.int v2] (tm_isOnPart l h_r1) mw_isOnPart st_isOnPart rfl ⟨by decide, by decide⟩ rfl (Nat.le_of_ble_eq_true rfl) dX12_act_70 ?_
  refine lv_istore (lv' := [(8, .int r1), (7, .int s0), (0, .ref mo), (1, .int v1), (2, .int v2), (3, .int v3), (4, .int v4), (5, .int v5), (6, .int v6)]) C.1 C.2.1 dX12_act_73 hl (by decide) rfl (fun ls hl => ?_)
  refine lv_iload C.1 C.2.1 dX12_act_75 (lv_at hl 1 rfl) ?_
  refine lv_if_eq (tgt := 89) C.1 C.2.1 dX12_act_77 (by decide) (fun c2 => ?_) (fun c2 => ?_)
  · have h := if_t h c2
    exact wm_act_89 C X h hW hS (lv_sub hl [2, 3, 4, 5, 6, 7, 8, 1, 0] rfl)
  · have h := if_f h c2
    refine lv_aload_n C.1 C.2.1 dX12_act_80 rfl (lv_at hl 2 rfl) ?_
    refine lv_iload_n C.1 C.2.1 dX12_act_81 rfl (lv_at hl 3 rfl) ?_
    refine lv_iload_n C.1 C.2.1 dX12_act_82 rfl (lv_at hl 5 rfl) ?_
    obtain ⟨r3, h_r3, h⟩ := bd_ok h
    refine m_callR (rest := []) C X hW hl.1 [.int v1, .int v3] (tm_isMadeNow l h_r3) mw_isMadeNow im_isMadeNow sl_isMadeNow rfl ⟨by decide, by decide⟩ rfl (Nat.le_of_ble_eq_true rfl) dX12_act_83 ?_
    refine lv_if_eq (tgt := 115) C.1 C.2.1 dX12_act_86 (by decide) (fun c4 => ?_) (fun c4 => ?_)
    · have h := if_t h c4
      exact wm_act_115 C X h hW hS (lv_sub hl [] rfl)
    · have h := if_f h c4
      exact wm_act_89 C X h hW hS (lv_sub hl [2, 3, 4, 5, 6, 7, 8, 1, 0] rfl)
noncomputable def fm_act_62 (S : mSt) (v1 : Int32) (v2 : Int32) (v3 : Int32) (v4 : Int32) (v5 : Int32) (v6 : Int32) : Option (Int32 × mSt) :=
fm_act_67 S v1 v2 v3 v4 v5 v6 (1 : Int32)
set_option maxRecDepth 100000 in
set_option maxHeartbeats 4000000 in
theorem wm_act_62 (C : mY p R s m args meth c cX12_act 9 10 252 (some .int)) (X : mX s cM iS cI cZ mo ad) : ∀ {S : mSt} {v1 : Int32} {v2 : Int32} {v3 : Int32} {v4 : Int32} {v5 : Int32} {v6 : Int32} {H : Heap} {locs : List Loc} {ls : Array Slot}, fm_act_62 S v1 v2 v3 v4 v5 v6 = some (r, S9) → mW cM iS cI cZ mo ad S H → mS (mA mo ad) s.heap H locs → lv_has ls 9 [(0, .ref mo), (1, .int v1), (2, .int v2), (3, .int v3), (4, .int v4), (5, .int v5), (6, .int v6)] → W p l e R s m args below meth c H locs 0 0 (MQ below (mQw (some (.int r)) cM iS cI cZ mo ad S9) args s 0 0 (mA mo ad)) (F0 m 62 ls []) := by
  intro S v1 v2 v3 v4 v5 v6 H locs ls h hW hS hl
  unfold fm_act_62 at h
  refine lv_iconst (v := 1) C.1 C.2.1 dX12_act_62 (by decide) ?_
  refine lv_goto (tgt := 67) C.1 C.2.1 dX12_act_63 (by decide) ?_
  exact wm_act_67 C X h hW hS (lv_sub hl [0, 1, 2, 3, 4, 5, 6] rfl)
noncomputable def fm_act_56 (S : mSt) (v1 : Int32) (v2 : Int32) (v3 : Int32) (v4 : Int32) (v5 : Int32) (v6 : Int32) : Option (Int32 × mSt) :=
if v2 ≤ (14 : Int32) then (
fm_act_67 S v1 v2 v3 v4 v5 v6 (0 : Int32))
else (
fm_act_62 S v1 v2 v3 v4 v5 v6)
set_option maxRecDepth 100000 in
set_option maxHeartbeats 4000000 in
theorem wm_act_56 (C : mY p R s m args meth c cX12_act 9 10 252 (some .int)) (X : mX s cM iS cI cZ mo ad) : ∀ {S : mSt} {v1 : Int32} {v2 : Int32} {v3 : Int32} {v4 : Int32} {v5 : Int32} {v6 : Int32} {H : Heap} {locs : List Loc} {ls : Array Slot}, fm_act_56 S v1 v2 v3 v4 v5 v6 = some (r, S9) → mW cM iS cI cZ mo ad S H → mS (mA mo ad) s.heap H locs → lv_has ls 9 [(0, .ref mo), (1, .int v1), (2, .int v2), (3, .int v3), (4, .int v4), (5, .int v5), (6, .int v6)] → W p l e R s m args below meth c H locs 0 0 (MQ below (mQw (some (.int r)) cM iS cI cZ mo ad S9) args s 0 0 (mA mo ad)) (F0 m 56 ls []) := by
  intro S v1 v2 v3 v4 v5 v6 H locs ls h hW hS hl
  unfold fm_act_56 at h
  refine lv_iload_n C.1 C.2.1 dX12_act_56 rfl (lv_at hl 2 rfl) ?_
  refine lv_bipush (v := 14) C.1 C.2.1 dX12_act_57 (by decide) ?_
  refine lv_icmp_le (tgt := 66) C.1 C.2.1 dX12_act_59 (by decide) (fun c1 => ?_) (fun c1 => ?_)
  · have h := if_t h c1
    refine lv_iconst (v := 0) C.1 C.2.1 dX12_act_66 (by decide) ?_
    exact wm_act_67 C X h hW hS (lv_sub hl [0, 1, 2, 3, 4, 5, 6] rfl)
  · have h := if_f h c1
    exact wm_act_62 C X h hW hS (lv_sub hl [0, 1, 2, 3, 4, 5, 6] rfl)
noncomputable def fm_act_45 (S : mSt) (v1 : Int32) (v2 : Int32) (v3 : Int32) (v4 : Int32) (v5 : Int32) (v6 : Int32) : Option (Int32 × mSt) :=
if v2 < (1 : Int32) then (
fm_act_56 S v1 v2 v3 v4 v5 v6)
else (
if v2 ≤ (12 : Int32) then (
fm_act_62 S v1 v2 v3 v4 v5 v6)
else (
fm_act_56 S v1 v2 v3 v4 v5 v6))
set_option maxRecDepth 100000 in
set_option maxHeartbeats 4000000 in
theorem wm_act_45 (C : mY p R s m args meth c cX12_act 9 10 252 (some .int)) (X : mX s cM iS cI cZ mo ad) : ∀ {S : mSt} {v1 : Int32} {v2 : Int32} {v3 : Int32} {v4 : Int32} {v5 : Int32} {v6 : Int32} {H : Heap} {locs : List Loc} {ls : Array Slot}, fm_act_45 S v1 v2 v3 v4 v5 v6 = some (r, S9) → mW cM iS cI cZ mo ad S H → mS (mA mo ad) s.heap H locs → lv_has ls 9 [(0, .ref mo), (1, .int v1), (2, .int v2), (3, .int v3), (4, .int v4), (5, .int v5), (6, .int v6)] → W p l e R s m args below meth c H locs 0 0 (MQ below (mQw (some (.int r)) cM iS cI cZ mo ad S9) args s 0 0 (mA mo ad)) (F0 m 45 ls []) := by
  intro S v1 v2 v3 v4 v5 v6 H locs ls h hW hS hl
  unfold fm_act_45 at h
  refine lv_iload_n C.1 C.2.1 dX12_act_45 rfl (lv_at hl 2 rfl) ?_
  refine lv_iconst (v := 1) C.1 C.2.1 dX12_act_46 (by decide) ?_
  refine lv_icmp_lt (tgt := 56) C.1 C.2.1 dX12_act_47 (by decide) (fun c1 => ?_) (fun c1 => ?_)
  · have h := if_t h c1
    exact wm_act_56 C X h hW hS (lv_sub hl [0, 1, 2, 3, 4, 5, 6] rfl)
  · have h := if_f h c1
    refine lv_iload_n C.1 C.2.1 dX12_act_50 rfl (lv_at hl 2 rfl) ?_
    refine lv_bipush (v := 12) C.1 C.2.1 dX12_act_51 (by decide) ?_
    refine lv_icmp_le (tgt := 62) C.1 C.2.1 dX12_act_53 (by decide) (fun c2 => ?_) (fun c2 => ?_)
    · have h := if_t h c2
      exact wm_act_62 C X h hW hS (lv_sub hl [0, 1, 2, 3, 4, 5, 6] rfl)
    · have h := if_f h c2
      exact wm_act_56 C X h hW hS (lv_sub hl [0, 1, 2, 3, 4, 5, 6] rfl)
noncomputable def fm_act (S : mSt) (v1 : Int32) (v2 : Int32) (v3 : Int32) (v4 : Int32) (v5 : Int32) (v6 : Int32) : Option (Int32 × mSt) :=
lt (pu S 0 (0 : Int32)) fun S1 =>
bd (fm_within v1 (0 : Int32) (3 : Int32)) fun r2 =>
if r2 = 0 then (
fm_act_43 S1)
else (
bd (fm_within v2 (0 : Int32) (18 : Int32)) fun r4 =>
if r4 = 0 then (
fm_act_43 S1)
else (
if v2 = 0 then (
bd (fm_within v5 (0 : Int32) ((S1.1 4) - (1 : Int32))) fun r7 =>
if r7 = 0 then (
fm_act_43 S1)
else (
fm_act_45 S1 v1 v2 v3 v4 v5 v6))
else (
fm_act_45 S1 v1 v2 v3 v4 v5 v6)))
set_option maxRecDepth 100000 in
set_option maxHeartbeats 4000000 in
theorem tm_act (l : Launch) {cM : ClassId} {iS : Nat → Nat} {cI cZ : ClassId} {mo : Nat} {ad : Nat → Nat} {S : mSt} {v1 : Int32} {v2 : Int32} {v3 : Int32} {v4 : Int32} {v5 : Int32} {v6 : Int32} {r : Int32} {S9 : mSt} (h : fm_act S v1 v2 v3 v4 v5 v6 = some (r, S9)) : Met l yX12_act (Cond.code yX12_act cX12_act 9 (some .int) :: lw_g) { frames := 10, cells := 0, slots := 0, locals := 252 } (mPi [.int v1, .int v2, .int v3, .int v4, .int v5, .int v6] cM iS cI cZ mo ad S) (mQw (some (.int r)) cM iS cI cZ mo ad S9) 0 0 (mA mo ad) := by
  refine Met.ofW (cc := cX12_act) (maxL := 9) (ret := (some .int)) (by decide) rfl ?_
  intro p e s m args below meth c s₁ B hml hv
  obtain ⟨rfl, hW, X⟩ := hv
  have C : mY p (headSpec (Cond.code yX12_act cX12_act 9 (some .int) :: lw_g) { frames := 10, cells := 0, slots := 0, locals := 252 }).room s m _ meth c cX12_act 9 10 252 (some .int) := ⟨B.exec, B.bytes, hml, findClass_of_methodNamed B.named, fun w hw => atoms_spec (ws := Cond.code yX12_act cX12_act 9 (some .int) :: lw_g) B.pre w (List.mem_cons_of_mem _ hw), ⟨Nat.le_refl _, Nat.le_refl _⟩, B.returns, B.notSynchronized⟩
  have hl := lv_entry ([.ref mo, .int v1, .int v2, .int v3, .int v4, .int v5, .int v6]) (n := 9) (Nat.le_of_ble_eq_true rfl)
  rw [lg_entry_eq]
  generalize (lg_sl ([.ref mo, .int v1, .int v2, .int v3, .int v4, .int v5, .int v6]) ++ List.replicate (9 - (lg_sl ([.ref mo, .int v1, .int v2, .int v3, .int v4, .int v5, .int v6])).length) Slot.unset).toArray = ls at hl ⊢
  have hl : lv_has ls 9 [(0, .ref mo), (1, .int v1), (2, .int v2), (3, .int v3), (4, .int v4), (5, .int v5), (6, .int v6)] := hl
  have hS : mS (mA mo ad) s.heap s.heap [] := mS.rf
  unfold fm_act at h
  refine lv_aload_n C.1 C.2.1 dX12_act_0 rfl (lv_at hl 0 rfl) ?_
  refine lv_iconst (v := 0) C.1 C.2.1 dX12_act_1 (by decide) ?_
  refine p_0 C X hW hS dX12_act_2 (fun H locs hW hS => ?_)
  refine lt_ok h (fun S1 e_S1 h => ?_)
  rw [e_S1] at hW
  refine lv_iload_n C.1 C.2.1 dX12_act_5 rfl (lv_at hl 1 rfl) ?_
  refine lv_iconst (v := 0) C.1 C.2.1 dX12_act_6 (by decide) ?_
  refine lv_iconst (v := 3) C.1 C.2.1 dX12_act_7 (by decide) ?_
  obtain ⟨r2, h_r2, h⟩ := bd_ok h
  refine m_callS (rest := []) C hl.1 [.int v1, .int (0 : Int32), .int (3 : Int32)] (tm_within l h_r2) mw_within st_within rfl ⟨by decide, by decide⟩ rfl (Nat.le_of_ble_eq_true rfl) dX12_act_8 ?_
  refine lv_if_eq (tgt := 43) C.1 C.2.1 dX12_act_11 (by decide) (fun c3 => ?_) (fun c3 => ?_)
  · have h := if_t h c3
    exact wm_act_43 C X h hW hS (lv_sub hl [] rfl)
  · have h := if_f h c3
    refine lv_iload_n C.1 C.2.1 dX12_act_14 rfl (lv_at hl 2 rfl) ?_
    refine lv_iconst (v := 0) C.1 C.2.1 dX12_act_15 (by decide) ?_
    refine lv_bipush (v := 18) C.1 C.2.1 dX12_act_16 (by decide) ?_
    obtain ⟨r4, h_r4, h⟩ := bd_ok h
    refine m_callS (rest := []) C hl.1 [.int v2, .int (0 : Int32), .int (18 : Int32)] (tm_within l h_r4) mw_within st_within rfl ⟨by decide, by decide⟩ rfl (Nat.le_of_ble_eq_true rfl) dX12_act_18 ?_
    refine lv_if_eq (tgt := 43) C.1 C.2.1 dX12_act_21 (by decide) (fun c5 => ?_) (fun c5 => ?_)
    · have h := if_t h c5
      exact wm_act_43 C X h hW hS (lv_sub hl [] rfl)
    · have h := if_f h c5
      refine lv_iload_n C.1 C.2.1 dX12_act_24 rfl (lv_at hl 2 rfl) ?_
      refine lv_if_ne (tgt := 45) C.1 C.2.1 dX12_act_25 (by decide) (fun c6 => ?_) (fun c6 => ?_)
      · have h := if_f h c6
        exact wm_act_45 C X h hW hS (lv_sub hl [0, 1, 2, 3, 4, 5, 6] rfl)
      · have h := if_t h c6
        refine lv_iload C.1 C.2.1 dX12_act_28 (lv_at hl 5 rfl) ?_
        refine lv_iconst (v := 0) C.1 C.2.1 dX12_act_30 (by decide) ?_
        refine lv_aload_n C.1 C.2.1 dX12_act_31 rfl (lv_at hl 0 rfl) ?_
        refine gf_4 C X hW dX12_act_32 ?_
        refine lv_iconst (v := 1) C.1 C.2.1 dX12_act_35 (by decide) ?_
        refine lv_isub C.1 C.2.1 dX12_act_36 ?_
        obtain ⟨r7, h_r7, h⟩ := bd_ok h
        refine m_callS (rest := []) C hl.1 [.int v5, .int (0 : Int32), .int ((S1.1 4) - (1 : Int32))] (tm_within l h_r7) mw_within st_within rfl ⟨by decide, by decide⟩ rfl (Nat.le_of_ble_eq_true rfl) dX12_act_37 ?_
        refine lv_if_ne (tgt := 45) C.1 C.2.1 dX12_act_40 (by decide) (fun c8 => ?_) (fun c8 => ?_)
        · have h := if_f h c8
          exact wm_act_45 C X h hW hS (lv_sub hl [0, 1, 2, 3, 4, 5, 6] rfl)
        · have h := if_t h c8
          exact wm_act_43 C X h hW hS (lv_sub hl [] rfl)
end
theorem dX12_findCommon_0 : decode cX12_findCommon 0 = .ok (.iload_n 1, 1) := by decide +kernel
theorem dX12_findCommon_1 : decode cX12_findCommon 1 = .ok (.istore_n 3, 1) := by decide +kernel
theorem dX12_findCommon_2 : decode cX12_findCommon 2 = .ok (.iload_n 3, 1) := by decide +kernel
theorem dX12_findCommon_3 : decode cX12_findCommon 3 = .ok (.ifCond .lt 159, 3) := by decide +kernel
theorem dX12_findCommon_6 : decode cX12_findCommon 6 = .ok (.iload_n 2, 1) := by decide +kernel
theorem dX12_findCommon_7 : decode cX12_findCommon 7 = .ok (.istore 4, 2) := by decide +kernel
theorem dX12_findCommon_9 : decode cX12_findCommon 9 = .ok (.iload 4, 2) := by decide +kernel
theorem dX12_findCommon_11 : decode cX12_findCommon 11 = .ok (.ifCond .lt 145, 3) := by decide +kernel
theorem dX12_findCommon_14 : decode cX12_findCommon 14 = .ok (.bipush 41, 2) := by decide +kernel
theorem dX12_findCommon_16 : decode cX12_findCommon 16 = .ok (.iload_n 3, 1) := by decide +kernel
theorem dX12_findCommon_17 : decode cX12_findCommon 17 = .ok (.imul, 1) := by decide +kernel
theorem dX12_findCommon_18 : decode cX12_findCommon 18 = .ok (.iload 4, 2) := by decide +kernel
theorem dX12_findCommon_20 : decode cX12_findCommon 20 = .ok (.iadd, 1) := by decide +kernel
theorem dX12_findCommon_21 : decode cX12_findCommon 21 = .ok (.istore 5, 2) := by decide +kernel
theorem dX12_findCommon_23 : decode cX12_findCommon 23 = .ok (.iload_n 3, 1) := by decide +kernel
theorem dX12_findCommon_24 : decode cX12_findCommon 24 = .ok (.iload_n 1, 1) := by decide +kernel
theorem dX12_findCommon_25 : decode cX12_findCommon 25 = .ok (.if_icmp .eq 9, 3) := by decide +kernel
theorem dX12_findCommon_28 : decode cX12_findCommon 28 = .ok (.iload 4, 2) := by decide +kernel
theorem dX12_findCommon_30 : decode cX12_findCommon 30 = .ok (.iload_n 2, 1) := by decide +kernel
theorem dX12_findCommon_31 : decode cX12_findCommon 31 = .ok (.if_icmp .ne 7, 3) := by decide +kernel
theorem dX12_findCommon_34 : decode cX12_findCommon 34 = .ok (.iconst 0, 1) := by decide +kernel
theorem dX12_findCommon_35 : decode cX12_findCommon 35 = .ok (.goto 47, 3) := by decide +kernel
theorem dX12_findCommon_38 : decode cX12_findCommon 38 = .ok (.aload_n 0, 1) := by decide +kernel
theorem dX12_findCommon_39 : decode cX12_findCommon 39 = .ok (.getfield 179, 3) := by decide +kernel
theorem dX12_findCommon_42 : decode cX12_findCommon 42 = .ok (.iload 5, 2) := by decide +kernel
theorem dX12_findCommon_44 : decode cX12_findCommon 44 = .ok (.bipush 41, 2) := by decide +kernel
theorem dX12_findCommon_46 : decode cX12_findCommon 46 = .ok (.iadd, 1) := by decide +kernel
theorem dX12_findCommon_47 : decode cX12_findCommon 47 = .ok (.iaload, 1) := by decide +kernel
theorem dX12_findCommon_48 : decode cX12_findCommon 48 = .ok (.aload_n 0, 1) := by decide +kernel
theorem dX12_findCommon_49 : decode cX12_findCommon 49 = .ok (.getfield 179, 3) := by decide +kernel
theorem dX12_findCommon_52 : decode cX12_findCommon 52 = .ok (.iload 5, 2) := by decide +kernel
theorem dX12_findCommon_54 : decode cX12_findCommon 54 = .ok (.iconst 1, 1) := by decide +kernel
theorem dX12_findCommon_55 : decode cX12_findCommon 55 = .ok (.iadd, 1) := by decide +kernel
theorem dX12_findCommon_56 : decode cX12_findCommon 56 = .ok (.iaload, 1) := by decide +kernel
theorem dX12_findCommon_57 : decode cX12_findCommon 57 = .ok (.if_icmp .le 16, 3) := by decide +kernel
theorem dX12_findCommon_60 : decode cX12_findCommon 60 = .ok (.aload_n 0, 1) := by decide +kernel
theorem dX12_findCommon_61 : decode cX12_findCommon 61 = .ok (.getfield 179, 3) := by decide +kernel
theorem dX12_findCommon_64 : decode cX12_findCommon 64 = .ok (.iload 5, 2) := by decide +kernel
theorem dX12_findCommon_66 : decode cX12_findCommon 66 = .ok (.bipush 41, 2) := by decide +kernel
theorem dX12_findCommon_68 : decode cX12_findCommon 68 = .ok (.iadd, 1) := by decide +kernel
theorem dX12_findCommon_69 : decode cX12_findCommon 69 = .ok (.iaload, 1) := by decide +kernel
theorem dX12_findCommon_70 : decode cX12_findCommon 70 = .ok (.goto 12, 3) := by decide +kernel
theorem dX12_findCommon_73 : decode cX12_findCommon 73 = .ok (.aload_n 0, 1) := by decide +kernel
theorem dX12_findCommon_74 : decode cX12_findCommon 74 = .ok (.getfield 179, 3) := by decide +kernel
theorem dX12_findCommon_77 : decode cX12_findCommon 77 = .ok (.iload 5, 2) := by decide +kernel
theorem dX12_findCommon_79 : decode cX12_findCommon 79 = .ok (.iconst 1, 1) := by decide +kernel
theorem dX12_findCommon_80 : decode cX12_findCommon 80 = .ok (.iadd, 1) := by decide +kernel
theorem dX12_findCommon_81 : decode cX12_findCommon 81 = .ok (.iaload, 1) := by decide +kernel
theorem dX12_findCommon_82 : decode cX12_findCommon 82 = .ok (.istore 6, 2) := by decide +kernel
theorem dX12_findCommon_84 : decode cX12_findCommon 84 = .ok (.iload_n 3, 1) := by decide +kernel
theorem dX12_findCommon_85 : decode cX12_findCommon 85 = .ok (.iload_n 1, 1) := by decide +kernel
theorem dX12_findCommon_86 : decode cX12_findCommon 86 = .ok (.if_icmp .ge 40, 3) := by decide +kernel
theorem dX12_findCommon_89 : decode cX12_findCommon 89 = .ok (.iload 4, 2) := by decide +kernel
theorem dX12_findCommon_91 : decode cX12_findCommon 91 = .ok (.iload_n 2, 1) := by decide +kernel
theorem dX12_findCommon_92 : decode cX12_findCommon 92 = .ok (.if_icmp .ge 34, 3) := by decide +kernel
theorem dX12_findCommon_95 : decode cX12_findCommon 95 = .ok (.aload_n 0, 1) := by decide +kernel
theorem dX12_findCommon_96 : decode cX12_findCommon 96 = .ok (.getfield 185, 3) := by decide +kernel
theorem dX12_findCommon_99 : decode cX12_findCommon 99 = .ok (.iload_n 3, 1) := by decide +kernel
theorem dX12_findCommon_100 : decode cX12_findCommon 100 = .ok (.iaload, 1) := by decide +kernel
theorem dX12_findCommon_101 : decode cX12_findCommon 101 = .ok (.aload_n 0, 1) := by decide +kernel
theorem dX12_findCommon_102 : decode cX12_findCommon 102 = .ok (.getfield 7, 3) := by decide +kernel
theorem dX12_findCommon_105 : decode cX12_findCommon 105 = .ok (.iload 4, 2) := by decide +kernel
theorem dX12_findCommon_107 : decode cX12_findCommon 107 = .ok (.iaload, 1) := by decide +kernel
theorem dX12_findCommon_108 : decode cX12_findCommon 108 = .ok (.if_icmp .ne 18, 3) := by decide +kernel
theorem dX12_findCommon_111 : decode cX12_findCommon 111 = .ok (.iconst 1, 1) := by decide +kernel
theorem dX12_findCommon_112 : decode cX12_findCommon 112 = .ok (.aload_n 0, 1) := by decide +kernel
theorem dX12_findCommon_113 : decode cX12_findCommon 113 = .ok (.getfield 179, 3) := by decide +kernel
theorem dX12_findCommon_116 : decode cX12_findCommon 116 = .ok (.iload 5, 2) := by decide +kernel
theorem dX12_findCommon_118 : decode cX12_findCommon 118 = .ok (.bipush 42, 2) := by decide +kernel
theorem dX12_findCommon_120 : decode cX12_findCommon 120 = .ok (.iadd, 1) := by decide +kernel
theorem dX12_findCommon_121 : decode cX12_findCommon 121 = .ok (.iaload, 1) := by decide +kernel
theorem dX12_findCommon_122 : decode cX12_findCommon 122 = .ok (.iadd, 1) := by decide +kernel
theorem dX12_findCommon_123 : decode cX12_findCommon 123 = .ok (.goto 4, 3) := by decide +kernel
theorem dX12_findCommon_126 : decode cX12_findCommon 126 = .ok (.iconst 0, 1) := by decide +kernel
theorem dX12_findCommon_127 : decode cX12_findCommon 127 = .ok (.istore 7, 2) := by decide +kernel
theorem dX12_findCommon_129 : decode cX12_findCommon 129 = .ok (.aload_n 0, 1) := by decide +kernel
theorem dX12_findCommon_130 : decode cX12_findCommon 130 = .ok (.getfield 179, 3) := by decide +kernel
theorem dX12_findCommon_133 : decode cX12_findCommon 133 = .ok (.iload 5, 2) := by decide +kernel
theorem dX12_findCommon_135 : decode cX12_findCommon 135 = .ok (.iload 7, 2) := by decide +kernel
theorem dX12_findCommon_137 : decode cX12_findCommon 137 = .ok (.iload 6, 2) := by decide +kernel
theorem dX12_findCommon_139 : decode cX12_findCommon 139 = .ok (.if_icmp .le 8, 3) := by decide +kernel
theorem dX12_findCommon_142 : decode cX12_findCommon 142 = .ok (.iload 7, 2) := by decide +kernel
theorem dX12_findCommon_144 : decode cX12_findCommon 144 = .ok (.goto 5, 3) := by decide +kernel
theorem dX12_findCommon_147 : decode cX12_findCommon 147 = .ok (.iload 6, 2) := by decide +kernel
theorem dX12_findCommon_149 : decode cX12_findCommon 149 = .ok (.iastore, 1) := by decide +kernel
theorem dX12_findCommon_150 : decode cX12_findCommon 150 = .ok (.iinc 4 (-1), 3) := by decide +kernel
theorem dX12_findCommon_153 : decode cX12_findCommon 153 = .ok (.goto (-144), 3) := by decide +kernel
theorem dX12_findCommon_156 : decode cX12_findCommon 156 = .ok (.iinc 3 (-1), 3) := by decide +kernel
theorem dX12_findCommon_159 : decode cX12_findCommon 159 = .ok (.goto (-157), 3) := by decide +kernel
theorem dX12_findCommon_162 : decode cX12_findCommon 162 = .ok (.return_, 1) := by decide +kernel
theorem cd_findCommon : Cond.code yX12_findCommon cX12_findCommon 8 none ∈ lw_g := mt_at 2187 (by decide +kernel) rfl
theorem mw_findCommon : mCw 418 yX12_findCommon cX12_findCommon 8 none 2 := ⟨cd_findCommon, mt_at 2184 (by decide +kernel) rfl, in_M, by decide +kernel⟩
theorem im_findCommon : Cond.instanceMethod yX12_findCommon ∈ lw_g := mt_at 2186 (by decide +kernel) rfl
theorem sl_findCommon : Cond.selects RX12 yX12_findCommon yX12_findCommon ∈ lw_g := mt_sel 91 (by decide +kernel) rfl
section
variable {p : Program} {l : Launch} {e : Env} {R : Room} {s : State} {m : MethodId} {args : Array Value} {below : List Frame} {meth : Method} {c : Code} {cM : ClassId} {iS : Nat → Nat} {cI cZ : ClassId} {mo : Nat} {ad : Nat → Nat} {r : Int32} {S9 : mSt}
noncomputable def fm_findCommon_149 (g_2 : mSt → Int32 → Int32 → Int32 → Option (mSt)) (g_9 : mSt → Int32 → Int32 → Int32 → Int32 → Option (mSt)) (S : mSt) (v1 : Int32) (v2 : Int32) (v3 : Int32) (v4 : Int32) (s1 : Int32) (s2 : Int32) : Option (mSt) :=
ck s1 41041 (lt (wr S 71 s1 s2) fun S1 =>
lt (v4 + (-1 : Int32)) fun x2 =>
g_9 S1 v1 v2 v3 x2)
set_option maxRecDepth 100000 in
set_option maxHeartbeats 4000000 in
theorem wm_findCommon_149 (C : mY p R s m args meth c cX12_findCommon 8 0 0 none) (X : mX s cM iS cI cZ mo ad) {g_2 : mSt → Int32 → Int32 → Int32 → Option (mSt)} {g_9 : mSt → Int32 → Int32 → Int32 → Int32 → Option (mSt)} (hg_2 : ∀ {S : mSt} {v1 : Int32} {v2 : Int32} {v3 : Int32} {H : Heap} {locs : List Loc} {ls : Array Slot}, g_2 S v1 v2 v3 = some S9 → mW cM iS cI cZ mo ad S H → mS (mA mo ad) s.heap H locs → lv_has ls 8 [(0, .ref mo), (1, .int v1), (2, .int v2), (3, .int v3)] → W p l e R s m args below meth c H locs 0 0 (MQ below (mQw none cM iS cI cZ mo ad S9) args s 0 0 (mA mo ad)) (F0 m 2 ls [])) (hg_9 : ∀ {S : mSt} {v1 : Int32} {v2 : Int32} {v3 : Int32} {v4 : Int32} {H : Heap} {locs : List Loc} {ls : Array Slot}, g_9 S v1 v2 v3 v4 = some S9 → mW cM iS cI cZ mo ad S H → mS (mA mo ad) s.heap H locs → lv_has ls 8 [(0, .ref mo), (1, .int v1), (2, .int v2), (3, .int v3), (4, .int v4)] → W p l e R s m args below meth c H locs 0 0 (MQ below (mQw none cM iS cI cZ mo ad S9) args s 0 0 (mA mo ad)) (F0 m 9 ls [])) : ∀ {S : mSt} {v1 : Int32} {v2 : Int32} {v3 : Int32} {v4 : Int32} {s1 : Int32} {s2 : Int32} {H : Heap} {locs : List Loc} {ls : Array Slot}, fm_findCommon_149 g_2 g_9 S v1 v2 v3 v4 s1 s2 = some S9 → mW cM iS cI cZ mo ad S H → mS (mA mo ad) s.heap H locs → lv_has ls 8 [(0, .ref mo), (1, .int v1), (2, .int v2), (3, .int v3), (4, .int v4)] → W p l e R s m args below meth c H locs 0 0 (MQ below (mQw none cM iS cI cZ mo ad S9) args s 0 0 (mA mo ad)) (F0 m 149 ls [.int s2, .int s1, .ref (ad 71)]) := by
  intro S v1 v2 v3 v4 s1 s2 H locs ls h hW hS hl
  unfold fm_findCommon_149 at h
  obtain ⟨hin, h⟩ := ck_ok h
  refine s_71 C X hW hS hin dX12_findCommon_149 (fun H locs hW hS => ?_)
  refine lt_ok h (fun S1 e_S1 h => ?_)
  rw [e_S1] at hW
  refine lt_ok h (fun x2 e_x2 h => ?_)
  refine lv_iinc (v := x2) (lv' := [(4, .int x2), (0, .ref mo), (1, .int v1), (2, .int v2), (3, .int v3)]) C.1 C.2.1 dX12_findCommon_150 hl (k := 4) rfl (by rw [← e_x2]; rfl) (by decide) rfl (fun ls hl => ?_)
  refine lv_goto (tgt := 9) C.1 C.2.1 dX12_findCommon_153 (by decide) ?_
  exact hg_9 h hW hS (lv_sub hl [1, 2, 3, 4, 0] rfl)
noncomputable def fm_findCommon_127 (g_2 : mSt → Int32 → Int32 → Int32 → Option (mSt)) (g_9 : mSt → Int32 → Int32 → Int32 → Int32 → Option (mSt)) (S : mSt) (v1 : Int32) (v2 : Int32) (v3 : Int32) (v4 : Int32) (v5 : Int32) (v6 : Int32) (s0 : Int32) : Option (mSt) :=
if s0 ≤ v6 then (
fm_findCommon_149 g_2 g_9 S v1 v2 v3 v4 v5 v6)
else (
fm_findCommon_149 g_2 g_9 S v1 v2 v3 v4 v5 s0)
set_option maxRecDepth 100000 in
set_option maxHeartbeats 4000000 in
theorem wm_findCommon_127 (C : mY p R s m args meth c cX12_findCommon 8 0 0 none) (X : mX s cM iS cI cZ mo ad) {g_2 : mSt → Int32 → Int32 → Int32 → Option (mSt)} {g_9 : mSt → Int32 → Int32 → Int32 → Int32 → Option (mSt)} (hg_2 : ∀ {S : mSt} {v1 : Int32} {v2 : Int32} {v3 : Int32} {H : Heap} {locs : List Loc} {ls : Array Slot}, g_2 S v1 v2 v3 = some S9 → mW cM iS cI cZ mo ad S H → mS (mA mo ad) s.heap H locs → lv_has ls 8 [(0, .ref mo), (1, .int v1), (2, .int v2), (3, .int v3)] → W p l e R s m args below meth c H locs 0 0 (MQ below (mQw none cM iS cI cZ mo ad S9) args s 0 0 (mA mo ad)) (F0 m 2 ls [])) (hg_9 : ∀ {S : mSt} {v1 : Int32} {v2 : Int32} {v3 : Int32} {v4 : Int32} {H : Heap} {locs : List Loc} {ls : Array Slot}, g_9 S v1 v2 v3 v4 = some S9 → mW cM iS cI cZ mo ad S H → mS (mA mo ad) s.heap H locs → lv_has ls 8 [(0, .ref mo), (1, .int v1), (2, .int v2), (3, .int v3), (4, .int v4)] → W p l e R s m args below meth c H locs 0 0 (MQ below (mQw none cM iS cI cZ mo ad S9) args s 0 0 (mA mo ad)) (F0 m 9 ls [])) : ∀ {S : mSt} {v1 : Int32} {v2 : Int32} {v3 : Int32} {v4 : Int32} {v5 : Int32} {v6 : Int32} {s0 : Int32} {H : Heap} {locs : List Loc} {ls : Array Slot}, fm_findCommon_127 g_2 g_9 S v1 v2 v3 v4 v5 v6 s0 = some S9 → mW cM iS cI cZ mo ad S H → mS (mA mo ad) s.heap H locs → lv_has ls 8 [(0, .ref mo), (1, .int v1), (2, .int v2), (3, .int v3), (4, .int v4), (5, .int v5), (6, .int v6)] → W p l e R s m args below meth c H locs 0 0 (MQ below (mQw none cM iS cI cZ mo ad S9) args s 0 0 (mA mo ad)) (F0 m 127 ls [.int s0]) := by
  intro S v1 v2 v3 v4 v5 v6 s0 H locs ls h hW hS hl
  unfold fm_findCommon_127 at h
  refine lv_istore (lv' := [(7, .int s0), (0, .ref mo), (1, .int v1), (2, .int v2), (3, .int v3), (4, .int v4), (5, .int v5), (6, .int v6)]) C.1 C.2.1 dX12_findCommon_127 hl (by decide) rfl (fun ls hl => ?_)
  refine lv_aload_n C.1 C.2.1 dX12_findCommon_129 rfl (lv_at hl 1 rfl) ?_
  refine gf_71 C X hW dX12_findCommon_130 ?_
  refine lv_iload C.1 C.2.1 dX12_findCommon_133 (lv_at hl 6 rfl) ?_
  refine lv_iload C.1 C.2.1 dX12_findCommon_135 (lv_at hl 0 rfl) ?_
  refine lv_iload C.1 C.2.1 dX12_findCommon_137 (lv_at hl 7 rfl) ?_
  refine lv_icmp_le (tgt := 147) C.1 C.2.1 dX12_findCommon_139 (by decide) (fun c1 => ?_) (fun c1 => ?_)
  · have h := if_t h c1
    refine lv_iload C.1 C.2.1 dX12_findCommon_147 (lv_at hl 7 rfl) ?_
    exact wm_findCommon_149 C X hg_2 hg_9 h hW hS (lv_sub hl [1, 2, 3, 4, 5] rfl)
  · have h := if_f h c1
    refine lv_iload C.1 C.2.1 dX12_findCommon_142 (lv_at hl 0 rfl) ?_
    refine lv_goto (tgt := 149) C.1 C.2.1 dX12_findCommon_144 (by decide) ?_
    exact wm_findCommon_149 C X hg_2 hg_9 h hW hS (lv_sub hl [1, 2, 3, 4, 5] rfl)
noncomputable def fm_findCommon_126 (g_2 : mSt → Int32 → Int32 → Int32 → Option (mSt)) (g_9 : mSt → Int32 → Int32 → Int32 → Int32 → Option (mSt)) (S : mSt) (v1 : Int32) (v2 : Int32) (v3 : Int32) (v4 : Int32) (v5 : Int32) (v6 : Int32) : Option (mSt) :=
fm_findCommon_127 g_2 g_9 S v1 v2 v3 v4 v5 v6 (0 : Int32)
set_option maxRecDepth 100000 in
set_option maxHeartbeats 4000000 in
theorem wm_findCommon_126 (C : mY p R s m args meth c cX12_findCommon 8 0 0 none) (X : mX s cM iS cI cZ mo ad) {g_2 : mSt → Int32 → Int32 → Int32 → Option (mSt)} {g_9 : mSt → Int32 → Int32 → Int32 → Int32 → Option (mSt)} (hg_2 : ∀ {S : mSt} {v1 : Int32} {v2 : Int32} {v3 : Int32} {H : Heap} {locs : List Loc} {ls : Array Slot}, g_2 S v1 v2 v3 = some S9 → mW cM iS cI cZ mo ad S H → mS (mA mo ad) s.heap H locs → lv_has ls 8 [(0, .ref mo), (1, .int v1), (2, .int v2), (3, .int v3)] → W p l e R s m args below meth c H locs 0 0 (MQ below (mQw none cM iS cI cZ mo ad S9) args s 0 0 (mA mo ad)) (F0 m 2 ls [])) (hg_9 : ∀ {S : mSt} {v1 : Int32} {v2 : Int32} {v3 : Int32} {v4 : Int32} {H : Heap} {locs : List Loc} {ls : Array Slot}, g_9 S v1 v2 v3 v4 = some S9 → mW cM iS cI cZ mo ad S H → mS (mA mo ad) s.heap H locs → lv_has ls 8 [(0, .ref mo), (1, .int v1), (2, .int v2), (3, .int v3), (4, .int v4)] → W p l e R s m args below meth c H locs 0 0 (MQ below (mQw none cM iS cI cZ mo ad S9) args s 0 0 (mA mo ad)) (F0 m 9 ls [])) : ∀ {S : mSt} {v1 : Int32} {v2 : Int32} {v3 : Int32} {v4 : Int32} {v5 : Int32} {v6 : Int32} {H : Heap} {locs : List Loc} {ls : Array Slot}, fm_findCommon_126 g_2 g_9 S v1 v2 v3 v4 v5 v6 = some S9 → mW cM iS cI cZ mo ad S H → mS (mA mo ad) s.heap H locs → lv_has ls 8 [(0, .ref mo), (1, .int v1), (2, .int v2), (3, .int v3), (4, .int v4), (5, .int v5), (6, .int v6)] → W p l e R s m args below meth c H locs 0 0 (MQ below (mQw none cM iS cI cZ mo ad S9) args s 0 0 (mA mo ad)) (F0 m 126 ls []) := by
  intro S v1 v2 v3 v4 v5 v6 H locs ls h hW hS hl
  unfold fm_findCommon_126 at h
  refine lv_iconst (v := 0) C.1 C.2.1 dX12_findCommon_126 (by decide) ?_
  exact wm_findCommon_127 C X hg_2 hg_9 h hW hS (lv_sub hl [0, 1, 2, 3, 4, 5, 6] rfl)
noncomputable def fm_findCommon_82 (g_2 : mSt → Int32 → Int32 → Int32 → Option (mSt)) (g_9 : mSt → Int32 → Int32 → Int32 → Int32 → Option (mSt)) (S : mSt) (v1 : Int32) (v2 : Int32) (v3 : Int32) (v4 : Int32) (v5 : Int32) (s0 : Int32) : Option (mSt) :=
if v1 ≤ v3 then (
fm_findCommon_126 g_2 g_9 S v1 v2 v3 v4 v5 s0)
else (
if v2 ≤ v4 then (
fm_findCommon_126 g_2 g_9 S v1 v2 v3 v4 v5 s0)
else (
ck v3 1000 (
ck v4 40 (
if (rd S 73 v3) = (rd S 2 v4) then (
ck (v5 + (42 : Int32)) 41041 (
fm_findCommon_127 g_2 g_9 S v1 v2 v3 v4 v5 s0 ((1 : Int32) + (rd S 71 (v5 + (42 : Int32))))))
else (
fm_findCommon_126 g_2 g_9 S v1 v2 v3 v4 v5 s0)))))
set_option maxRecDepth 100000 in
set_option maxHeartbeats 4000000 in
theorem wm_findCommon_82 (C : mY p R s m args meth c cX12_findCommon 8 0 0 none) (X : mX s cM iS cI cZ mo ad) {g_2 : mSt → Int32 → Int32 → Int32 → Option (mSt)} {g_9 : mSt → Int32 → Int32 → Int32 → Int32 → Option (mSt)} (hg_2 : ∀ {S : mSt} {v1 : Int32} {v2 : Int32} {v3 : Int32} {H : Heap} {locs : List Loc} {ls : Array Slot}, g_2 S v1 v2 v3 = some S9 → mW cM iS cI cZ mo ad S H → mS (mA mo ad) s.heap H locs → lv_has ls 8 [(0, .ref mo), (1, .int v1), (2, .int v2), (3, .int v3)] → W p l e R s m args below meth c H locs 0 0 (MQ below (mQw none cM iS cI cZ mo ad S9) args s 0 0 (mA mo ad)) (F0 m 2 ls [])) (hg_9 : ∀ {S : mSt} {v1 : Int32} {v2 : Int32} {v3 : Int32} {v4 : Int32} {H : Heap} {locs : List Loc} {ls : Array Slot}, g_9 S v1 v2 v3 v4 = some S9 → mW cM iS cI cZ mo ad S H → mS (mA mo ad) s.heap H locs → lv_has ls 8 [(0, .ref mo), (1, .int v1), (2, .int v2), (3, .int v3), (4, .int v4)] → W p l e R s m args below meth c H locs 0 0 (MQ below (mQw none cM iS cI cZ mo ad S9) args s 0 0 (mA mo ad)) (F0 m 9 ls [])) : ∀ {S : mSt} {v1 : Int32} {v2 : Int32} {v3 : Int32} {v4 : Int32} {v5 : Int32} {s0 : Int32} {H : Heap} {locs : List Loc} {ls : Array Slot}, fm_findCommon_82 g_2 g_9 S v1 v2 v3 v4 v5 s0 = some S9 → mW cM iS cI cZ mo ad S H → mS (mA mo ad) s.heap H locs → lv_has ls 8 [(0, .ref mo), (1, .int v1), (2, .int v2), (3, .int v3), (4, .int v4), (5, .int v5)] → W p l e R s m args below meth c H locs 0 0 (MQ below (mQw none cM iS cI cZ mo ad S9) args s 0 0 (mA mo ad)) (F0 m 82 ls [.int s0]) := by
  intro S v1 v2 v3 v4 v5 s0 H locs ls h hW hS hl
  unfold fm_findCommon_82 at h
  refine lv_istore (lv' := [(6, .int s0), (0, .ref mo), (1, .int v1), (2, .int v2), (3, .int v3), (4, .int v4), (5, .int v5)]) C.1 C.2.1 dX12_findCommon_82 hl (by decide) rfl (fun ls hl => ?_)
  refine lv_iload_n C.1 C.2.1 dX12_findCommon_84 rfl (lv_at hl 4 rfl) ?_
  refine lv_iload_n C.1 C.2.1 dX12_findCommon_85 rfl (lv_at hl 2 rfl) ?_
  refine lv_icmp_ge (tgt := 126) C.1 C.2.1 dX12_findCommon_86 (by decide) (fun c1 => ?_) (fun c1 => ?_)
  · have h := if_t h c1
    exact wm_findCommon_126 C X hg_2 hg_9 h hW hS (lv_sub hl [1, 2, 3, 4, 5, 6, 0] rfl)
  · have h := if_f h c1
    refine lv_iload C.1 C.2.1 dX12_findCommon_89 (lv_at hl 5 rfl) ?_
    refine lv_iload_n C.1 C.2.1 dX12_findCommon_91 rfl (lv_at hl 3 rfl) ?_
    refine lv_icmp_ge (tgt := 126) C.1 C.2.1 dX12_findCommon_92 (by decide) (fun c2 => ?_) (fun c2 => ?_)
    · have h := if_t h c2
      exact wm_findCommon_126 C X hg_2 hg_9 h hW hS (lv_sub hl [1, 2, 3, 4, 5, 6, 0] rfl)
    · have h := if_f h c2
      refine lv_aload_n C.1 C.2.1 dX12_findCommon_95 rfl (lv_at hl 1 rfl) ?_
      refine gf_73 C X hW dX12_findCommon_96 ?_
      refine lv_iload_n C.1 C.2.1 dX12_findCommon_99 rfl (lv_at hl 4 rfl) ?_
      obtain ⟨hin, h⟩ := ck_ok h
      refine l_73 C X hW hin dX12_findCommon_100 ?_
      refine lv_aload_n C.1 C.2.1 dX12_findCommon_101 rfl (lv_at hl 1 rfl) ?_
      refine gf_2 C X hW dX12_findCommon_102 ?_
      refine lv_iload C.1 C.2.1 dX12_findCommon_105 (lv_at hl 5 rfl) ?_
      obtain ⟨hin, h⟩ := ck_ok h
      refine l_2 C X hW hin dX12_findCommon_107 ?_
      refine lv_icmp_ne (tgt := 126) C.1 C.2.1 dX12_findCommon_108 (by decide) (fun c3 => ?_) (fun c3 => ?_)
      · have h := if_f h c3
        exact wm_findCommon_126 C X hg_2 hg_9 h hW hS (lv_sub hl [1, 2, 3, 4, 5, 6, 0] rfl)
      · have h := if_t h c3
        refine lv_iconst (v := 1) C.1 C.2.1 dX12_findCommon_111 (by decide) ?_
        refine lv_aload_n C.1 C.2.1 dX12_findCommon_112 rfl (lv_at hl 1 rfl) ?_
        refine gf_71 C X hW dX12_findCommon_113 ?_
        refine lv_iload C.1 C.2.1 dX12_findCommon_116 (lv_at hl 6 rfl) ?_
        refine lv_bipush (v := 42) C.1 C.2.1 dX12_findCommon_118 (by decide) ?_
        refine lv_iadd C.1 C.2.1 dX12_findCommon_120 ?_
        obtain ⟨hin, h⟩ := ck_ok h
        refine l_71 C X hW hin dX12_findCommon_121 ?_
        refine lv_iadd C.1 C.2.1 dX12_findCommon_122 ?_
        refine lv_goto (tgt := 127) C.1 C.2.1 dX12_findCommon_123 (by decide) ?_
        exact wm_findCommon_127 C X hg_2 hg_9 h hW hS (lv_sub hl [1, 2, 3, 4, 5, 6, 0] rfl)
noncomputable def fm_findCommon_34 (g_2 : mSt → Int32 → Int32 → Int32 → Option (mSt)) (g_9 : mSt → Int32 → Int32 → Int32 → Int32 → Option (mSt)) (S : mSt) (v1 : Int32) (v2 : Int32) (v3 : Int32) (v4 : Int32) (v5 : Int32) : Option (mSt) :=
fm_findCommon_82 g_2 g_9 S v1 v2 v3 v4 v5 (0 : Int32)
set_option maxRecDepth 100000 in
set_option maxHeartbeats 4000000 in
theorem wm_findCommon_34 (C : mY p R s m args meth c cX12_findCommon 8 0 0 none) (X : mX s cM iS cI cZ mo ad) {g_2 : mSt → Int32 → Int32 → Int32 → Option (mSt)} {g_9 : mSt → Int32 → Int32 → Int32 → Int32 → Option (mSt)} (hg_2 : ∀ {S : mSt} {v1 : Int32} {v2 : Int32} {v3 : Int32} {H : Heap} {locs : List Loc} {ls : Array Slot}, g_2 S v1 v2 v3 = some S9 → mW cM iS cI cZ mo ad S H → mS (mA mo ad) s.heap H locs → lv_has ls 8 [(0, .ref mo), (1, .int v1), (2, .int v2), (3, .int v3)] → W p l e R s m args below meth c H locs 0 0 (MQ below (mQw none cM iS cI cZ mo ad S9) args s 0 0 (mA mo ad)) (F0 m 2 ls [])) (hg_9 : ∀ {S : mSt} {v1 : Int32} {v2 : Int32} {v3 : Int32} {v4 : Int32} {H : Heap} {locs : List Loc} {ls : Array Slot}, g_9 S v1 v2 v3 v4 = some S9 → mW cM iS cI cZ mo ad S H → mS (mA mo ad) s.heap H locs → lv_has ls 8 [(0, .ref mo), (1, .int v1), (2, .int v2), (3, .int v3), (4, .int v4)] → W p l e R s m args below meth c H locs 0 0 (MQ below (mQw none cM iS cI cZ mo ad S9) args s 0 0 (mA mo ad)) (F0 m 9 ls [])) : ∀ {S : mSt} {v1 : Int32} {v2 : Int32} {v3 : Int32} {v4 : Int32} {v5 : Int32} {H : Heap} {locs : List Loc} {ls : Array Slot}, fm_findCommon_34 g_2 g_9 S v1 v2 v3 v4 v5 = some S9 → mW cM iS cI cZ mo ad S H → mS (mA mo ad) s.heap H locs → lv_has ls 8 [(0, .ref mo), (1, .int v1), (2, .int v2), (3, .int v3), (4, .int v4), (5, .int v5)] → W p l e R s m args below meth c H locs 0 0 (MQ below (mQw none cM iS cI cZ mo ad S9) args s 0 0 (mA mo ad)) (F0 m 34 ls []) := by
  intro S v1 v2 v3 v4 v5 H locs ls h hW hS hl
  unfold fm_findCommon_34 at h
  refine lv_iconst (v := 0) C.1 C.2.1 dX12_findCommon_34 (by decide) ?_
  refine lv_goto (tgt := 82) C.1 C.2.1 dX12_findCommon_35 (by decide) ?_
  exact wm_findCommon_82 C X hg_2 hg_9 h hW hS (lv_sub hl [0, 1, 2, 3, 4, 5] rfl)
noncomputable def fm_findCommon_9 (g_2 : mSt → Int32 → Int32 → Int32 → Option (mSt)) : Nat → mSt → Int32 → Int32 → Int32 → Int32 → Option (mSt)
  | 0, _, _, _, _, _ => none
  | n + 1, S, v1, v2, v3, v4 =>
    if v4 < 0 then (
    lt (v3 + (-1 : Int32)) fun x2 =>
    g_2 S v1 v2 x2)
    else (
    lt (((41 : Int32) * v3) + v4) fun x3 =>
    if v3 = v1 then (
    fm_findCommon_34 g_2 (fm_findCommon_9 g_2 n) S v1 v2 v3 v4 x3)
    else (
    if v4 = v2 then (
    fm_findCommon_34 g_2 (fm_findCommon_9 g_2 n) S v1 v2 v3 v4 x3)
    else (
    ck (x3 + (41 : Int32)) 41041 (
    ck (x3 + (1 : Int32)) 41041 (
    if (rd S 71 (x3 + (41 : Int32))) ≤ (rd S 71 (x3 + (1 : Int32))) then (
    ck (x3 + (1 : Int32)) 41041 (
    fm_findCommon_82 g_2 (fm_findCommon_9 g_2 n) S v1 v2 v3 v4 x3 (rd S 71 (x3 + (1 : Int32)))))
    else (
    ck (x3 + (41 : Int32)) 41041 (
    fm_findCommon_82 g_2 (fm_findCommon_9 g_2 n) S v1 v2 v3 v4 x3 (rd S 71 (x3 + (41 : Int32))))))))))
set_option maxRecDepth 100000 in
set_option maxHeartbeats 4000000 in
theorem wm_findCommon_9 (C : mY p R s m args meth c cX12_findCommon 8 0 0 none) (X : mX s cM iS cI cZ mo ad) {g_2 : mSt → Int32 → Int32 → Int32 → Option (mSt)} (hg_2 : ∀ {S : mSt} {v1 : Int32} {v2 : Int32} {v3 : Int32} {H : Heap} {locs : List Loc} {ls : Array Slot}, g_2 S v1 v2 v3 = some S9 → mW cM iS cI cZ mo ad S H → mS (mA mo ad) s.heap H locs → lv_has ls 8 [(0, .ref mo), (1, .int v1), (2, .int v2), (3, .int v3)] → W p l e R s m args below meth c H locs 0 0 (MQ below (mQw none cM iS cI cZ mo ad S9) args s 0 0 (mA mo ad)) (F0 m 2 ls [])) : ∀ (n : Nat), ∀ {S : mSt} {v1 : Int32} {v2 : Int32} {v3 : Int32} {v4 : Int32} {H : Heap} {locs : List Loc} {ls : Array Slot}, fm_findCommon_9 g_2 n S v1 v2 v3 v4 = some S9 → mW cM iS cI cZ mo ad S H → mS (mA mo ad) s.heap H locs → lv_has ls 8 [(0, .ref mo), (1, .int v1), (2, .int v2), (3, .int v3), (4, .int v4)] → W p l e R s m args below meth c H locs 0 0 (MQ below (mQw none cM iS cI cZ mo ad S9) args s 0 0 (mA mo ad)) (F0 m 9 ls []) := by
  intro n
  induction n with
  | zero =>
    intro S v1 v2 v3 v4 H locs ls h hW hS hl
    exact absurd (show (none : Option (mSt)) = _ from h) (fun q => by cases q)
  | succ n ih =>
    intro S v1 v2 v3 v4 H locs ls h hW hS hl
    rw [fm_findCommon_9] at h
    refine lv_iload C.1 C.2.1 dX12_findCommon_9 (lv_at hl 4 rfl) ?_
    refine lv_if_lt (tgt := 156) C.1 C.2.1 dX12_findCommon_11 (by decide) (fun c1 => ?_) (fun c1 => ?_)
    · have h := if_t h c1
      refine lt_ok h (fun x2 e_x2 h => ?_)
      refine lv_iinc (v := x2) (lv' := [(3, .int x2), (0, .ref mo), (1, .int v1), (2, .int v2), (4, .int v4)]) C.1 C.2.1 dX12_findCommon_156 hl (k := 3) rfl (by rw [← e_x2]; rfl) (by decide) rfl (fun ls hl => ?_)
      refine lv_goto (tgt := 2) C.1 C.2.1 dX12_findCommon_159 (by decide) ?_
      exact hg_2 h hW hS (lv_sub hl [1, 2, 3, 0] rfl)
    · have h := if_f h c1
      refine lv_bipush (v := 41) C.1 C.2.1 dX12_findCommon_14 (by decide) ?_
      refine lv_iload_n C.1 C.2.1 dX12_findCommon_16 rfl (lv_at hl 3 rfl) ?_
      refine lv_imul C.1 C.2.1 dX12_findCommon_17 ?_
      refine lv_iload C.1 C.2.1 dX12_findCommon_18 (lv_at hl 4 rfl) ?_
      refine lv_iadd C.1 C.2.1 dX12_findCommon_20 ?_
      refine lt_ok h (fun x3 e_x3 h => ?_)
      refine lv_nm e_x3 ?_
      refine lv_istore (lv' := [(5, .int x3), (0, .ref mo), (1, .int v1), (2, .int v2), (3, .int v3), (4, .int v4)]) C.1 C.2.1 dX12_findCommon_21 hl (by decide) rfl (fun ls hl => ?_)
      refine lv_iload_n C.1 C.2.1 dX12_findCommon_23 rfl (lv_at hl 4 rfl) ?_
      refine lv_iload_n C.1 C.2.1 dX12_findCommon_24 rfl (lv_at hl 2 rfl) ?_
      refine lv_icmp_eq (tgt := 34) C.1 C.2.1 dX12_findCommon_25 (by decide) (fun c4 => ?_) (fun c4 => ?_)
      · have h := if_t h c4
        exact wm_findCommon_34 C X hg_2 ih h hW hS (lv_sub hl [1, 2, 3, 4, 5, 0] rfl)
      · have h := if_f h c4
        refine lv_iload C.1 C.2.1 dX12_findCommon_28 (lv_at hl 5 rfl) ?_
        refine lv_iload_n C.1 C.2.1 dX12_findCommon_30 rfl (lv_at hl 3 rfl) ?_
        refine lv_icmp_ne (tgt := 38) C.1 C.2.1 dX12_findCommon_31 (by decide) (fun c5 => ?_) (fun c5 => ?_)
        · have h := if_f h c5
          refine lv_aload_n C.1 C.2.1 dX12_findCommon_38 rfl (lv_at hl 1 rfl) ?_
          refine gf_71 C X hW dX12_findCommon_39 ?_
          refine lv_iload C.1 C.2.1 dX12_findCommon_42 (lv_at hl 0 rfl) ?_
          refine lv_bipush (v := 41) C.1 C.2.1 dX12_findCommon_44 (by decide) ?_
          refine lv_iadd C.1 C.2.1 dX12_findCommon_46 ?_
          obtain ⟨hin, h⟩ := ck_ok h
          refine l_71 C X hW hin dX12_findCommon_47 ?_
          refine lv_aload_n C.1 C.2.1 dX12_findCommon_48 rfl (lv_at hl 1 rfl) ?_
          refine gf_71 C X hW dX12_findCommon_49 ?_
          refine lv_iload C.1 C.2.1 dX12_findCommon_52 (lv_at hl 0 rfl) ?_
          refine lv_iconst (v := 1) C.1 C.2.1 dX12_findCommon_54 (by decide) ?_
          refine lv_iadd C.1 C.2.1 dX12_findCommon_55 ?_
          obtain ⟨hin, h⟩ := ck_ok h
          refine l_71 C X hW hin dX12_findCommon_56 ?_
          refine lv_icmp_le (tgt := 73) C.1 C.2.1 dX12_findCommon_57 (by decide) (fun c6 => ?_) (fun c6 => ?_)
          · have h := if_t h c6
            refine lv_aload_n C.1 C.2.1 dX12_findCommon_73 rfl (lv_at hl 1 rfl) ?_
            refine gf_71 C X hW dX12_findCommon_74 ?_
            refine lv_iload C.1 C.2.1 dX12_findCommon_77 (lv_at hl 0 rfl) ?_
            refine lv_iconst (v := 1) C.1 C.2.1 dX12_findCommon_79 (by decide) ?_
            refine lv_iadd C.1 C.2.1 dX12_findCommon_80 ?_
            obtain ⟨hin, h⟩ := ck_ok h
            refine l_71 C X hW hin dX12_findCommon_81 ?_
            exact wm_findCommon_82 C X hg_2 ih h hW hS (lv_sub hl [1, 2, 3, 4, 5, 0] rfl)
          · have h := if_f h c6
            refine lv_aload_n C.1 C.2.1 dX12_findCommon_60 rfl (lv_at hl 1 rfl) ?_
            refine gf_71 C X hW dX12_findCommon_61 ?_
            refine lv_iload C.1 C.2.1 dX12_findCommon_64 (lv_at hl 0 rfl) ?_
            refine lv_bipush (v := 41) C.1 C.2.1 dX12_findCommon_66 (by decide) ?_
            refine lv_iadd C.1 C.2.1 dX12_findCommon_68 ?_
            obtain ⟨hin, h⟩ := ck_ok h
            refine l_71 C X hW hin dX12_findCommon_69 ?_
            refine lv_goto (tgt := 82) C.1 C.2.1 dX12_findCommon_70 (by decide) ?_
            exact wm_findCommon_82 C X hg_2 ih h hW hS (lv_sub hl [1, 2, 3, 4, 5, 0] rfl)
        · have h := if_t h c5
          exact wm_findCommon_34 C X hg_2 ih h hW hS (lv_sub hl [1, 2, 3, 4, 5, 0] rfl)
noncomputable def fm_findCommon_2 : Nat → mSt → Int32 → Int32 → Int32 → Option (mSt)
  | 0, _, _, _, _ => none
  | n + 1, S, v1, v2, v3 =>
    if v3 < 0 then (
    some S)
    else (
    fm_findCommon_9 (fm_findCommon_2 n) mFU S v1 v2 v3 v2)
set_option maxRecDepth 100000 in
set_option maxHeartbeats 4000000 in
theorem wm_findCommon_2 (C : mY p R s m args meth c cX12_findCommon 8 0 0 none) (X : mX s cM iS cI cZ mo ad) : ∀ (n : Nat), ∀ {S : mSt} {v1 : Int32} {v2 : Int32} {v3 : Int32} {H : Heap} {locs : List Loc} {ls : Array Slot}, fm_findCommon_2 n S v1 v2 v3 = some S9 → mW cM iS cI cZ mo ad S H → mS (mA mo ad) s.heap H locs → lv_has ls 8 [(0, .ref mo), (1, .int v1), (2, .int v2), (3, .int v3)] → W p l e R s m args below meth c H locs 0 0 (MQ below (mQw none cM iS cI cZ mo ad S9) args s 0 0 (mA mo ad)) (F0 m 2 ls []) := by
  intro n
  induction n with
  | zero =>
    intro S v1 v2 v3 H locs ls h hW hS hl
    exact absurd (show (none : Option (mSt)) = _ from h) (fun q => by cases q)
  | succ n ih =>
    intro S v1 v2 v3 H locs ls h hW hS hl
    rw [fm_findCommon_2] at h
    refine lv_iload_n C.1 C.2.1 dX12_findCommon_2 rfl (lv_at hl 3 rfl) ?_
    refine lv_if_lt (tgt := 162) C.1 C.2.1 dX12_findCommon_3 (by decide) (fun c1 => ?_) (fun c1 => ?_)
    · have h := if_t h c1
      cases h
      exact m_retvW C hW hS dX12_findCommon_162
    · have h := if_f h c1
      refine lv_iload_n C.1 C.2.1 dX12_findCommon_6 rfl (lv_at hl 2 rfl) ?_
      refine lv_istore (lv' := [(4, .int v2), (0, .ref mo), (1, .int v1), (2, .int v2), (3, .int v3)]) C.1 C.2.1 dX12_findCommon_7 hl (by decide) rfl (fun ls hl => ?_)
      exact wm_findCommon_9 C X ih mFU h hW hS (lv_sub hl [1, 2, 3, 4, 0] rfl)
noncomputable def fm_findCommon (S : mSt) (v1 : Int32) (v2 : Int32) : Option (mSt) :=
fm_findCommon_2 mFU S v1 v2 v1
set_option maxRecDepth 100000 in
set_option maxHeartbeats 4000000 in
theorem tm_findCommon (l : Launch) {cM : ClassId} {iS : Nat → Nat} {cI cZ : ClassId} {mo : Nat} {ad : Nat → Nat} {S : mSt} {v1 : Int32} {v2 : Int32} {S9 : mSt} (h : fm_findCommon S v1 v2 = some S9) : Met l yX12_findCommon (Cond.code yX12_findCommon cX12_findCommon 8 none :: lw_g) { frames := 0, cells := 0, slots := 0, locals := 0 } (mPi [.int v1, .int v2] cM iS cI cZ mo ad S) (mQw none cM iS cI cZ mo ad S9) 0 0 (mA mo ad) := by
  refine Met.ofW (cc := cX12_findCommon) (maxL := 8) (ret := none) (by decide) rfl ?_
  intro p e s m args below meth c s₁ B hml hv
  obtain ⟨rfl, hW, X⟩ := hv
  have C : mY p (headSpec (Cond.code yX12_findCommon cX12_findCommon 8 none :: lw_g) { frames := 0, cells := 0, slots := 0, locals := 0 }).room s m _ meth c cX12_findCommon 8 0 0 none := ⟨B.exec, B.bytes, hml, findClass_of_methodNamed B.named, fun w hw => atoms_spec (ws := Cond.code yX12_findCommon cX12_findCommon 8 none :: lw_g) B.pre w (List.mem_cons_of_mem _ hw), ⟨Nat.le_refl _, Nat.le_refl _⟩, B.returns, B.notSynchronized⟩
  have hl := lv_entry ([.ref mo, .int v1, .int v2]) (n := 8) (Nat.le_of_ble_eq_true rfl)
  rw [lg_entry_eq]
  generalize (lg_sl ([.ref mo, .int v1, .int v2]) ++ List.replicate (8 - (lg_sl ([.ref mo, .int v1, .int v2])).length) Slot.unset).toArray = ls at hl ⊢
  have hl : lv_has ls 8 [(0, .ref mo), (1, .int v1), (2, .int v2)] := hl
  have hS : mS (mA mo ad) s.heap s.heap [] := mS.rf
  unfold fm_findCommon at h
  refine lv_iload_n C.1 C.2.1 dX12_findCommon_0 rfl (lv_at hl 1 rfl) ?_
  refine lv_istore_n (lv' := [(3, .int v1), (0, .ref mo), (1, .int v1), (2, .int v2)]) C.1 C.2.1 dX12_findCommon_1 rfl hl (by decide) rfl (fun ls hl => ?_)
  exact wm_findCommon_2 C X mFU h hW hS (lv_sub hl [1, 2, 3, 0] rfl)
end
