-- made by wip/whole/walk.py: the reference's row, frame, news, calm, stables, there, node
theorem dX12_row_0 : decode cX12_row 0 = .ok (.aload_n 0, 1) := by decide +kernel
theorem dX12_row_1 : decode cX12_row 1 = .ok (.iconst 0, 1) := by decide +kernel
theorem dX12_row_2 : decode cX12_row 2 = .ok (.putfield 200, 3) := by decide +kernel
theorem dX12_row_5 : decode cX12_row 5 = .ok (.iload_n 2, 1) := by decide +kernel
theorem dX12_row_6 : decode cX12_row 6 = .ok (.invokestatic 233, 3) := by decide +kernel
theorem dX12_row_9 : decode cX12_row 9 = .ok (.istore 4, 2) := by decide +kernel
theorem dX12_row_11 : decode cX12_row 11 = .ok (.iload_n 1, 1) := by decide +kernel
theorem dX12_row_12 : decode cX12_row 12 = .ok (.iconst 0, 1) := by decide +kernel
theorem dX12_row_13 : decode cX12_row 13 = .ok (.iconst 3, 1) := by decide +kernel
theorem dX12_row_14 : decode cX12_row 14 = .ok (.invokestatic 215, 3) := by decide +kernel
theorem dX12_row_17 : decode cX12_row 17 = .ok (.ifCond .eq 13, 3) := by decide +kernel
theorem dX12_row_20 : decode cX12_row 20 = .ok (.aload_n 0, 1) := by decide +kernel
theorem dX12_row_21 : decode cX12_row 21 = .ok (.iload_n 1, 1) := by decide +kernel
theorem dX12_row_22 : decode cX12_row 22 = .ok (.iload 4, 2) := by decide +kernel
theorem dX12_row_24 : decode cX12_row 24 = .ok (.invokevirtual 236, 3) := by decide +kernel
theorem dX12_row_27 : decode cX12_row 27 = .ok (.ifCond .ne 5, 3) := by decide +kernel
theorem dX12_row_30 : decode cX12_row 30 = .ok (.iconst (-1), 1) := by decide +kernel
theorem dX12_row_31 : decode cX12_row 31 = .ok (.ireturn, 1) := by decide +kernel
theorem dX12_row_32 : decode cX12_row 32 = .ok (.iload_n 3, 1) := by decide +kernel
theorem dX12_row_33 : decode cX12_row 33 = .ok (.bipush 10, 2) := by decide +kernel
theorem dX12_row_35 : decode cX12_row 35 = .ok (.bipush 13, 2) := by decide +kernel
theorem dX12_row_37 : decode cX12_row 37 = .ok (.invokestatic 215, 3) := by decide +kernel
theorem dX12_row_40 : decode cX12_row 40 = .ok (.ifCond .eq 18, 3) := by decide +kernel
theorem dX12_row_43 : decode cX12_row 43 = .ok (.aload_n 0, 1) := by decide +kernel
theorem dX12_row_44 : decode cX12_row 44 = .ok (.getfield 50, 3) := by decide +kernel
theorem dX12_row_47 : decode cX12_row 47 = .ok (.iconst 4, 1) := by decide +kernel
theorem dX12_row_48 : decode cX12_row 48 = .ok (.iload 4, 2) := by decide +kernel
theorem dX12_row_50 : decode cX12_row 50 = .ok (.imul, 1) := by decide +kernel
theorem dX12_row_51 : decode cX12_row 51 = .ok (.iload_n 3, 1) := by decide +kernel
theorem dX12_row_52 : decode cX12_row 52 = .ok (.iadd, 1) := by decide +kernel
theorem dX12_row_53 : decode cX12_row 53 = .ok (.bipush 10, 2) := by decide +kernel
theorem dX12_row_55 : decode cX12_row 55 = .ok (.isub, 1) := by decide +kernel
theorem dX12_row_56 : decode cX12_row 56 = .ok (.iaload, 1) := by decide +kernel
theorem dX12_row_57 : decode cX12_row 57 = .ok (.ireturn, 1) := by decide +kernel
theorem dX12_row_58 : decode cX12_row 58 = .ok (.iload_n 3, 1) := by decide +kernel
theorem dX12_row_59 : decode cX12_row 59 = .ok (.tableswitch 176 0 9 #[53, 61, 69, 77, 85, 93, 101, 109, 136, 152], 53) := by decide +kernel
theorem dX12_row_112 : decode cX12_row 112 = .ok (.aload_n 0, 1) := by decide +kernel
theorem dX12_row_113 : decode cX12_row 113 = .ok (.getfield 29, 3) := by decide +kernel
theorem dX12_row_116 : decode cX12_row 116 = .ok (.iload 4, 2) := by decide +kernel
theorem dX12_row_118 : decode cX12_row 118 = .ok (.iaload, 1) := by decide +kernel
theorem dX12_row_119 : decode cX12_row 119 = .ok (.ireturn, 1) := by decide +kernel
theorem dX12_row_120 : decode cX12_row 120 = .ok (.aload_n 0, 1) := by decide +kernel
theorem dX12_row_121 : decode cX12_row 121 = .ok (.getfield 32, 3) := by decide +kernel
theorem dX12_row_124 : decode cX12_row 124 = .ok (.iload 4, 2) := by decide +kernel
theorem dX12_row_126 : decode cX12_row 126 = .ok (.iaload, 1) := by decide +kernel
theorem dX12_row_127 : decode cX12_row 127 = .ok (.ireturn, 1) := by decide +kernel
theorem dX12_row_128 : decode cX12_row 128 = .ok (.aload_n 0, 1) := by decide +kernel
theorem dX12_row_129 : decode cX12_row 129 = .ok (.getfield 35, 3) := by decide +kernel
theorem dX12_row_132 : decode cX12_row 132 = .ok (.iload 4, 2) := by decide +kernel
theorem dX12_row_134 : decode cX12_row 134 = .ok (.iaload, 1) := by decide +kernel
theorem dX12_row_135 : decode cX12_row 135 = .ok (.ireturn, 1) := by decide +kernel
theorem dX12_row_136 : decode cX12_row 136 = .ok (.aload_n 0, 1) := by decide +kernel
theorem dX12_row_137 : decode cX12_row 137 = .ok (.getfield 38, 3) := by decide +kernel
theorem dX12_row_140 : decode cX12_row 140 = .ok (.iload 4, 2) := by decide +kernel
theorem dX12_row_142 : decode cX12_row 142 = .ok (.iaload, 1) := by decide +kernel
theorem dX12_row_143 : decode cX12_row 143 = .ok (.ireturn, 1) := by decide +kernel
theorem dX12_row_144 : decode cX12_row 144 = .ok (.aload_n 0, 1) := by decide +kernel
theorem dX12_row_145 : decode cX12_row 145 = .ok (.getfield 41, 3) := by decide +kernel
theorem dX12_row_148 : decode cX12_row 148 = .ok (.iload 4, 2) := by decide +kernel
theorem dX12_row_150 : decode cX12_row 150 = .ok (.iaload, 1) := by decide +kernel
theorem dX12_row_151 : decode cX12_row 151 = .ok (.ireturn, 1) := by decide +kernel
theorem dX12_row_152 : decode cX12_row 152 = .ok (.aload_n 0, 1) := by decide +kernel
theorem dX12_row_153 : decode cX12_row 153 = .ok (.getfield 44, 3) := by decide +kernel
theorem dX12_row_156 : decode cX12_row 156 = .ok (.iload 4, 2) := by decide +kernel
theorem dX12_row_158 : decode cX12_row 158 = .ok (.iaload, 1) := by decide +kernel
theorem dX12_row_159 : decode cX12_row 159 = .ok (.ireturn, 1) := by decide +kernel
theorem dX12_row_160 : decode cX12_row 160 = .ok (.aload_n 0, 1) := by decide +kernel
theorem dX12_row_161 : decode cX12_row 161 = .ok (.getfield 47, 3) := by decide +kernel
theorem dX12_row_164 : decode cX12_row 164 = .ok (.iload 4, 2) := by decide +kernel
theorem dX12_row_166 : decode cX12_row 166 = .ok (.iaload, 1) := by decide +kernel
theorem dX12_row_167 : decode cX12_row 167 = .ok (.ireturn, 1) := by decide +kernel
theorem dX12_row_168 : decode cX12_row 168 = .ok (.aload_n 0, 1) := by decide +kernel
theorem dX12_row_169 : decode cX12_row 169 = .ok (.iload_n 1, 1) := by decide +kernel
theorem dX12_row_170 : decode cX12_row 170 = .ok (.aload_n 0, 1) := by decide +kernel
theorem dX12_row_171 : decode cX12_row 171 = .ok (.getfield 71, 3) := by decide +kernel
theorem dX12_row_174 : decode cX12_row 174 = .ok (.iload_n 1, 1) := by decide +kernel
theorem dX12_row_175 : decode cX12_row 175 = .ok (.iaload, 1) := by decide +kernel
theorem dX12_row_176 : decode cX12_row 176 = .ok (.invokevirtual 243, 3) := by decide +kernel
theorem dX12_row_179 : decode cX12_row 179 = .ok (.aload_n 0, 1) := by decide +kernel
theorem dX12_row_180 : decode cX12_row 180 = .ok (.getfield 133, 3) := by decide +kernel
theorem dX12_row_183 : decode cX12_row 183 = .ok (.iload 4, 2) := by decide +kernel
theorem dX12_row_185 : decode cX12_row 185 = .ok (.baload, 1) := by decide +kernel
theorem dX12_row_186 : decode cX12_row 186 = .ok (.ifCond .eq 7, 3) := by decide +kernel
theorem dX12_row_189 : decode cX12_row 189 = .ok (.iconst 1, 1) := by decide +kernel
theorem dX12_row_190 : decode cX12_row 190 = .ok (.goto 4, 3) := by decide +kernel
theorem dX12_row_193 : decode cX12_row 193 = .ok (.iconst 0, 1) := by decide +kernel
theorem dX12_row_194 : decode cX12_row 194 = .ok (.ireturn, 1) := by decide +kernel
theorem dX12_row_195 : decode cX12_row 195 = .ok (.aload_n 0, 1) := by decide +kernel
theorem dX12_row_196 : decode cX12_row 196 = .ok (.iload_n 1, 1) := by decide +kernel
theorem dX12_row_197 : decode cX12_row 197 = .ok (.iload 4, 2) := by decide +kernel
theorem dX12_row_199 : decode cX12_row 199 = .ok (.invokevirtual 396, 3) := by decide +kernel
theorem dX12_row_202 : decode cX12_row 202 = .ok (.ifCond .eq 7, 3) := by decide +kernel
theorem dX12_row_205 : decode cX12_row 205 = .ok (.iconst 1, 1) := by decide +kernel
theorem dX12_row_206 : decode cX12_row 206 = .ok (.goto 4, 3) := by decide +kernel
theorem dX12_row_209 : decode cX12_row 209 = .ok (.iconst 0, 1) := by decide +kernel
theorem dX12_row_210 : decode cX12_row 210 = .ok (.ireturn, 1) := by decide +kernel
theorem dX12_row_211 : decode cX12_row 211 = .ok (.iconst 0, 1) := by decide +kernel
theorem dX12_row_212 : decode cX12_row 212 = .ok (.istore 5, 2) := by decide +kernel
theorem dX12_row_214 : decode cX12_row 214 = .ok (.aload_n 0, 1) := by decide +kernel
theorem dX12_row_215 : decode cX12_row 215 = .ok (.iload_n 1, 1) := by decide +kernel
theorem dX12_row_216 : decode cX12_row 216 = .ok (.iload 5, 2) := by decide +kernel
theorem dX12_row_218 : decode cX12_row 218 = .ok (.invokevirtual 230, 3) := by decide +kernel
theorem dX12_row_221 : decode cX12_row 221 = .ok (.iload 4, 2) := by decide +kernel
theorem dX12_row_223 : decode cX12_row 223 = .ok (.if_icmp .eq 9, 3) := by decide +kernel
theorem dX12_row_226 : decode cX12_row 226 = .ok (.iinc 5 1, 3) := by decide +kernel
theorem dX12_row_229 : decode cX12_row 229 = .ok (.goto (-15), 3) := by decide +kernel
theorem dX12_row_232 : decode cX12_row 232 = .ok (.iload 5, 2) := by decide +kernel
theorem dX12_row_234 : decode cX12_row 234 = .ok (.ireturn, 1) := by decide +kernel
theorem dX12_row_235 : decode cX12_row 235 = .ok (.iconst (-1), 1) := by decide +kernel
theorem dX12_row_236 : decode cX12_row 236 = .ok (.ireturn, 1) := by decide +kernel
theorem cd_row : Cond.code yX12_row cX12_row 6 (some .int) ∈ lw_g := mt_at 2352 (by decide +kernel) rfl
section
variable {p : Program} {l : Launch} {e : Env} {R : Room} {s : State} {m : MethodId} {args : Array Value} {below : List Frame} {meth : Method} {c : Code} {cM : ClassId} {iS : Nat → Nat} {cI cZ : ClassId} {mo : Nat} {ad : Nat → Nat} {r : Int32} {S9 : mSt}
noncomputable def fm_row_30 (S : mSt) : Option (Int32 × mSt) :=
some ((-1 : Int32), S)
set_option maxRecDepth 100000 in
set_option maxHeartbeats 4000000 in
theorem wm_row_30 (C : mY p R s m args meth c cX12_row 6 3 69 (some .int)) (X : mX s cM iS cI cZ mo ad) : ∀ {S : mSt} {H : Heap} {locs : List Loc} {ls : Array Slot}, fm_row_30 S = some (r, S9) → mW cM iS cI cZ mo ad S H → mS (mA mo ad) s.heap H locs → lv_has ls 6 [] → W p l e R s m args below meth c H locs 0 0 (MQ below (mQw (some (.int r)) cM iS cI cZ mo ad S9) args s 0 0 (mA mo ad)) (F0 m 30 ls []) := by
  intro S H locs ls h hW hS hl
  unfold fm_row_30 at h
  refine lv_iconst (v := -1) C.1 C.2.1 dX12_row_30 (by decide) ?_
  cases h
  exact m_retiW C hW hS dX12_row_31
noncomputable def fm_row_194 (S : mSt) (s0 : Int32) : Option (Int32 × mSt) :=
some (s0, S)
set_option maxRecDepth 100000 in
set_option maxHeartbeats 4000000 in
theorem wm_row_194 (C : mY p R s m args meth c cX12_row 6 3 69 (some .int)) (X : mX s cM iS cI cZ mo ad) : ∀ {S : mSt} {s0 : Int32} {H : Heap} {locs : List Loc} {ls : Array Slot}, fm_row_194 S s0 = some (r, S9) → mW cM iS cI cZ mo ad S H → mS (mA mo ad) s.heap H locs → lv_has ls 6 [] → W p l e R s m args below meth c H locs 0 0 (MQ below (mQw (some (.int r)) cM iS cI cZ mo ad S9) args s 0 0 (mA mo ad)) (F0 m 194 ls [.int s0]) := by
  intro S s0 H locs ls h hW hS hl
  unfold fm_row_194 at h
  cases h
  exact m_retiW C hW hS dX12_row_194
noncomputable def fm_row_210 (S : mSt) (s0 : Int32) : Option (Int32 × mSt) :=
some (s0, S)
set_option maxRecDepth 100000 in
set_option maxHeartbeats 4000000 in
theorem wm_row_210 (C : mY p R s m args meth c cX12_row 6 3 69 (some .int)) (X : mX s cM iS cI cZ mo ad) : ∀ {S : mSt} {s0 : Int32} {H : Heap} {locs : List Loc} {ls : Array Slot}, fm_row_210 S s0 = some (r, S9) → mW cM iS cI cZ mo ad S H → mS (mA mo ad) s.heap H locs → lv_has ls 6 [] → W p l e R s m args below meth c H locs 0 0 (MQ below (mQw (some (.int r)) cM iS cI cZ mo ad S9) args s 0 0 (mA mo ad)) (F0 m 210 ls [.int s0]) := by
  intro S s0 H locs ls h hW hS hl
  unfold fm_row_210 at h
  cases h
  exact m_retiW C hW hS dX12_row_210
noncomputable def fm_row_214 : Nat → mSt → Int32 → Int32 → Int32 → Option (Int32 × mSt)
  | 0, _, _, _, _ => none
  | n + 1, S, v1, v4, v5 =>
    bd (fm_rowAt S v1 v5) fun r1 =>
    if r1 = v4 then (
    some (v5, S))
    else (
    lt (v5 + (1 : Int32)) fun x3 =>
    fm_row_214 n S v1 v4 x3)
set_option maxRecDepth 100000 in
set_option maxHeartbeats 4000000 in
theorem wm_row_214 (C : mY p R s m args meth c cX12_row 6 3 69 (some .int)) (X : mX s cM iS cI cZ mo ad) : ∀ (n : Nat), ∀ {S : mSt} {v1 : Int32} {v4 : Int32} {v5 : Int32} {H : Heap} {locs : List Loc} {ls : Array Slot}, fm_row_214 n S v1 v4 v5 = some (r, S9) → mW cM iS cI cZ mo ad S H → mS (mA mo ad) s.heap H locs → lv_has ls 6 [(0, .ref mo), (1, .int v1), (4, .int v4), (5, .int v5)] → W p l e R s m args below meth c H locs 0 0 (MQ below (mQw (some (.int r)) cM iS cI cZ mo ad S9) args s 0 0 (mA mo ad)) (F0 m 214 ls []) := by
  intro n
  induction n with
  | zero =>
    intro S v1 v4 v5 H locs ls h hW hS hl
    exact absurd (show (none : Option (Int32 × mSt)) = _ from h) (fun q => by cases q)
  | succ n ih =>
    intro S v1 v4 v5 H locs ls h hW hS hl
    rw [fm_row_214] at h
    refine lv_aload_n C.1 C.2.1 dX12_row_214 rfl (lv_at hl 0 rfl) ?_
    refine lv_iload_n C.1 C.2.1 dX12_row_215 rfl (lv_at hl 1 rfl) ?_
    refine lv_iload C.1 C.2.1 dX12_row_216 (lv_at hl 3 rfl) ?_
    obtain ⟨r1, h_r1, h⟩ := bd_ok h
    refine m_callR (rest := []) C X hW hl.1 [.int v1, .int v5] (tm_rowAt l h_r1) mw_rowAt im_rowAt sl_rowAt rfl ⟨by decide, by decide⟩ rfl (Nat.le_of_ble_eq_true rfl) dX12_row_218 ?_
    refine lv_iload C.1 C.2.1 dX12_row_221 (lv_at hl 2 rfl) ?_
    refine lv_icmp_eq (tgt := 232) C.1 C.2.1 dX12_row_223 (by decide) (fun c2 => ?_) (fun c2 => ?_)
    · have h := if_t h c2
      refine lv_iload C.1 C.2.1 dX12_row_232 (lv_at hl 3 rfl) ?_
      cases h
      exact m_retiW C hW hS dX12_row_234
    · have h := if_f h c2
      refine lt_ok h (fun x3 e_x3 h => ?_)
      refine lv_iinc (v := x3) (lv' := [(5, .int x3), (0, .ref mo), (1, .int v1), (4, .int v4)]) C.1 C.2.1 dX12_row_226 hl (k := 3) rfl (by rw [← e_x3]; rfl) (by decide) rfl (fun ls hl => ?_)
      refine lv_goto (tgt := 214) C.1 C.2.1 dX12_row_229 (by decide) ?_
      exact ih h hW hS (lv_sub hl [1, 2, 3, 0] rfl)
noncomputable def fm_row (S : mSt) (v1 : Int32) (v2 : Int32) (v3 : Int32) : Option (Int32 × mSt) :=
lt (pu S 0 (0 : Int32)) fun S1 =>
bd (fm_rowOf v2) fun r2 =>
bd (fm_within v1 (0 : Int32) (3 : Int32)) fun r3 =>
if r3 = 0 then (
fm_row_30 S1)
else (
bd (fm_isApplied S1 v1 r2) fun r5 =>
if r5 = 0 then (
fm_row_30 S1)
else (
bd (fm_within v3 (10 : Int32) (13 : Int32)) fun r7 =>
if r7 = 0 then (
if v3 = (0 : Int32) then (
ck r2 1000 (
some (rd S1 9 r2, S1)))
else if v3 = (1 : Int32) then (
ck r2 1000 (
some (rd S1 10 r2, S1)))
else if v3 = (2 : Int32) then (
ck r2 1000 (
some (rd S1 11 r2, S1)))
else if v3 = (3 : Int32) then (
ck r2 1000 (
some (rd S1 12 r2, S1)))
else if v3 = (4 : Int32) then (
ck r2 1000 (
some (rd S1 13 r2, S1)))
else if v3 = (5 : Int32) then (
ck r2 1000 (
some (rd S1 14 r2, S1)))
else if v3 = (6 : Int32) then (
ck r2 1000 (
some (rd S1 15 r2, S1)))
else if v3 = (7 : Int32) then (
ck v1 4 (
bd (fm_judge S1 v1 (rd S1 23 v1)) fun S17 =>
ck r2 1000 (
if (rd S17 47 r2) = 0 then (
fm_row_194 S17 (0 : Int32))
else (
fm_row_194 S17 (1 : Int32)))))
else if v3 = (8 : Int32) then (
bd (fm_isStable S1 v1 r2) fun r20 =>
if r20 = 0 then (
fm_row_210 S1 (0 : Int32))
else (
fm_row_210 S1 (1 : Int32)))
else if v3 = (9 : Int32) then (
fm_row_214 mFU S1 v1 r2 (0 : Int32))
else (
some ((-1 : Int32), S1)))
else (
ck ((((4 : Int32) * r2) + v3) - (10 : Int32)) 4000 (
some (rd S1 16 ((((4 : Int32) * r2) + v3) - (10 : Int32)), S1)))))
set_option maxRecDepth 100000 in
set_option maxHeartbeats 4000000 in
theorem tm_row (l : Launch) {cM : ClassId} {iS : Nat → Nat} {cI cZ : ClassId} {mo : Nat} {ad : Nat → Nat} {S : mSt} {v1 : Int32} {v2 : Int32} {v3 : Int32} {r : Int32} {S9 : mSt} (h : fm_row S v1 v2 v3 = some (r, S9)) : Met l yX12_row (Cond.code yX12_row cX12_row 6 (some .int) :: lw_g) { frames := 3, cells := 0, slots := 0, locals := 69 } (mPi [.int v1, .int v2, .int v3] cM iS cI cZ mo ad S) (mQw (some (.int r)) cM iS cI cZ mo ad S9) 0 0 (mA mo ad) := by
  refine Met.ofW (cc := cX12_row) (maxL := 6) (ret := (some .int)) (by decide) rfl ?_
  intro p e s m args below meth c s₁ B hml hv
  obtain ⟨rfl, hW, X⟩ := hv
  have C : mY p (headSpec (Cond.code yX12_row cX12_row 6 (some .int) :: lw_g) { frames := 3, cells := 0, slots := 0, locals := 69 }).room s m _ meth c cX12_row 6 3 69 (some .int) := ⟨B.exec, B.bytes, hml, findClass_of_methodNamed B.named, fun w hw => atoms_spec (ws := Cond.code yX12_row cX12_row 6 (some .int) :: lw_g) B.pre w (List.mem_cons_of_mem _ hw), ⟨Nat.le_refl _, Nat.le_refl _⟩, B.returns, B.notSynchronized⟩
  have hl := lv_entry ([.ref mo, .int v1, .int v2, .int v3]) (n := 6) (Nat.le_of_ble_eq_true rfl)
  rw [lg_entry_eq]
  generalize (lg_sl ([.ref mo, .int v1, .int v2, .int v3]) ++ List.replicate (6 - (lg_sl ([.ref mo, .int v1, .int v2, .int v3])).length) Slot.unset).toArray = ls at hl ⊢
  have hl : lv_has ls 6 [(0, .ref mo), (1, .int v1), (2, .int v2), (3, .int v3)] := hl
  have hS : mS (mA mo ad) s.heap s.heap [] := mS.rf
  unfold fm_row at h
  refine lv_aload_n C.1 C.2.1 dX12_row_0 rfl (lv_at hl 0 rfl) ?_
  refine lv_iconst (v := 0) C.1 C.2.1 dX12_row_1 (by decide) ?_
  refine p_0 C X hW hS dX12_row_2 (fun H locs hW hS => ?_)
  refine lt_ok h (fun S1 e_S1 h => ?_)
  rw [e_S1] at hW
  refine lv_iload_n C.1 C.2.1 dX12_row_5 rfl (lv_at hl 2 rfl) ?_
  obtain ⟨r2, h_r2, h⟩ := bd_ok h
  refine m_callS (rest := []) C hl.1 [.int v2] (tm_rowOf l h_r2) mw_rowOf st_rowOf rfl ⟨by decide, by decide⟩ rfl (Nat.le_of_ble_eq_true rfl) dX12_row_6 ?_
  refine lv_istore (lv' := [(4, .int r2), (0, .ref mo), (1, .int v1), (2, .int v2), (3, .int v3)]) C.1 C.2.1 dX12_row_9 hl (by decide) rfl (fun ls hl => ?_)
  refine lv_iload_n C.1 C.2.1 dX12_row_11 rfl (lv_at hl 2 rfl) ?_
  refine lv_iconst (v := 0) C.1 C.2.1 dX12_row_12 (by decide) ?_
  refine lv_iconst (v := 3) C.1 C.2.1 dX12_row_13 (by decide) ?_
  obtain ⟨r3, h_r3, h⟩ := bd_ok h
  refine m_callS (rest := []) C hl.1 [.int v1, .int (0 : Int32), .int (3 : Int32)] (tm_within l h_r3) mw_within st_within rfl ⟨by decide, by decide⟩ rfl (Nat.le_of_ble_eq_true rfl) dX12_row_14 ?_
  refine lv_if_eq (tgt := 30) C.1 C.2.1 dX12_row_17 (by decide) (fun c4 => ?_) (fun c4 => ?_)
  · have h := if_t h c4
    exact wm_row_30 C X h hW hS (lv_sub hl [] rfl)
  · have h := if_f h c4
    refine lv_aload_n C.1 C.2.1 dX12_row_20 rfl (lv_at hl 1 rfl) ?_
    refine lv_iload_n C.1 C.2.1 dX12_row_21 rfl (lv_at hl 2 rfl) ?_
    refine lv_iload C.1 C.2.1 dX12_row_22 (lv_at hl 0 rfl) ?_
    obtain ⟨r5, h_r5, h⟩ := bd_ok h
    refine m_callR (rest := []) C X hW hl.1 [.int v1, .int r2] (tm_isApplied l h_r5) mw_isApplied im_isApplied sl_isApplied rfl ⟨by decide, by decide⟩ rfl (Nat.le_of_ble_eq_true rfl) dX12_row_24 ?_
    refine lv_if_ne (tgt := 32) C.1 C.2.1 dX12_row_27 (by decide) (fun c6 => ?_) (fun c6 => ?_)
    · have h := if_f h c6
      refine lv_iload_n C.1 C.2.1 dX12_row_32 rfl (lv_at hl 4 rfl) ?_
      refine lv_bipush (v := 10) C.1 C.2.1 dX12_row_33 (by decide) ?_
      refine lv_bipush (v := 13) C.1 C.2.1 dX12_row_35 (by decide) ?_
      obtain ⟨r7, h_r7, h⟩ := bd_ok h
      refine m_callS (rest := []) C hl.1 [.int v3, .int (10 : Int32), .int (13 : Int32)] (tm_within l h_r7) mw_within st_within rfl ⟨by decide, by decide⟩ rfl (Nat.le_of_ble_eq_true rfl) dX12_row_37 ?_
      refine lv_if_eq (tgt := 58) C.1 C.2.1 dX12_row_40 (by decide) (fun c8 => ?_) (fun c8 => ?_)
      · have h := if_t h c8
        refine lv_iload_n C.1 C.2.1 dX12_row_58 rfl (lv_at hl 4 rfl) ?_
        by_cases c9 : v3 = (0 : Int32)
        · have h := if_t h c9
          refine lv_tableIn (off := 53) (tgt := 112) C.1 C.2.1 dX12_row_59 (by rw [c9]; decide) (by rw [c9]; decide) (by rw [c9]; rfl) (by decide) ?_
          refine lv_aload_n C.1 C.2.1 dX12_row_112 rfl (lv_at hl 1 rfl) ?_
          refine gf_9 C X hW dX12_row_113 ?_
          refine lv_iload C.1 C.2.1 dX12_row_116 (lv_at hl 0 rfl) ?_
          obtain ⟨hin, h⟩ := ck_ok h
          refine l_9 C X hW hin dX12_row_118 ?_
          cases h
          exact m_retiW C hW hS dX12_row_119
        · have h := if_f h c9
          by_cases c10 : v3 = (1 : Int32)
          · have h := if_t h c10
            refine lv_tableIn (off := 61) (tgt := 120) C.1 C.2.1 dX12_row_59 (by rw [c10]; decide) (by rw [c10]; decide) (by rw [c10]; rfl) (by decide) ?_
            refine lv_aload_n C.1 C.2.1 dX12_row_120 rfl (lv_at hl 1 rfl) ?_
            refine gf_10 C X hW dX12_row_121 ?_
            refine lv_iload C.1 C.2.1 dX12_row_124 (lv_at hl 0 rfl) ?_
            obtain ⟨hin, h⟩ := ck_ok h
            refine l_10 C X hW hin dX12_row_126 ?_
            cases h
            exact m_retiW C hW hS dX12_row_127
          · have h := if_f h c10
            by_cases c11 : v3 = (2 : Int32)
            · have h := if_t h c11
              refine lv_tableIn (off := 69) (tgt := 128) C.1 C.2.1 dX12_row_59 (by rw [c11]; decide) (by rw [c11]; decide) (by rw [c11]; rfl) (by decide) ?_
              refine lv_aload_n C.1 C.2.1 dX12_row_128 rfl (lv_at hl 1 rfl) ?_
              refine gf_11 C X hW dX12_row_129 ?_
              refine lv_iload C.1 C.2.1 dX12_row_132 (lv_at hl 0 rfl) ?_
              obtain ⟨hin, h⟩ := ck_ok h
              refine l_11 C X hW hin dX12_row_134 ?_
              cases h
              exact m_retiW C hW hS dX12_row_135
            · have h := if_f h c11
              by_cases c12 : v3 = (3 : Int32)
              · have h := if_t h c12
                refine lv_tableIn (off := 77) (tgt := 136) C.1 C.2.1 dX12_row_59 (by rw [c12]; decide) (by rw [c12]; decide) (by rw [c12]; rfl) (by decide) ?_
                refine lv_aload_n C.1 C.2.1 dX12_row_136 rfl (lv_at hl 1 rfl) ?_
                refine gf_12 C X hW dX12_row_137 ?_
                refine lv_iload C.1 C.2.1 dX12_row_140 (lv_at hl 0 rfl) ?_
                obtain ⟨hin, h⟩ := ck_ok h
                refine l_12 C X hW hin dX12_row_142 ?_
                cases h
                exact m_retiW C hW hS dX12_row_143
              · have h := if_f h c12
                by_cases c13 : v3 = (4 : Int32)
                · have h := if_t h c13
                  refine lv_tableIn (off := 85) (tgt := 144) C.1 C.2.1 dX12_row_59 (by rw [c13]; decide) (by rw [c13]; decide) (by rw [c13]; rfl) (by decide) ?_
                  refine lv_aload_n C.1 C.2.1 dX12_row_144 rfl (lv_at hl 1 rfl) ?_
                  refine gf_13 C X hW dX12_row_145 ?_
                  refine lv_iload C.1 C.2.1 dX12_row_148 (lv_at hl 0 rfl) ?_
                  obtain ⟨hin, h⟩ := ck_ok h
                  refine l_13 C X hW hin dX12_row_150 ?_
                  cases h
                  exact m_retiW C hW hS dX12_row_151
                · have h := if_f h c13
                  by_cases c14 : v3 = (5 : Int32)
                  · have h := if_t h c14
                    refine lv_tableIn (off := 93) (tgt := 152) C.1 C.2.1 dX12_row_59 (by rw [c14]; decide) (by rw [c14]; decide) (by rw [c14]; rfl) (by decide) ?_
                    refine lv_aload_n C.1 C.2.1 dX12_row_152 rfl (lv_at hl 1 rfl) ?_
                    refine gf_14 C X hW dX12_row_153 ?_
                    refine lv_iload C.1 C.2.1 dX12_row_156 (lv_at hl 0 rfl) ?_
                    obtain ⟨hin, h⟩ := ck_ok h
                    refine l_14 C X hW hin dX12_row_158 ?_
                    cases h
                    exact m_retiW C hW hS dX12_row_159
                  · have h := if_f h c14
                    by_cases c15 : v3 = (6 : Int32)
                    · have h := if_t h c15
                      refine lv_tableIn (off := 101) (tgt := 160) C.1 C.2.1 dX12_row_59 (by rw [c15]; decide) (by rw [c15]; decide) (by rw [c15]; rfl) (by decide) ?_
                      refine lv_aload_n C.1 C.2.1 dX12_row_160 rfl (lv_at hl 1 rfl) ?_
                      refine gf_15 C X hW dX12_row_161 ?_
                      refine lv_iload C.1 C.2.1 dX12_row_164 (lv_at hl 0 rfl) ?_
                      obtain ⟨hin, h⟩ := ck_ok h
                      refine l_15 C X hW hin dX12_row_166 ?_
                      cases h
                      exact m_retiW C hW hS dX12_row_167
                    · have h := if_f h c15
                      by_cases c16 : v3 = (7 : Int32)
                      · have h := if_t h c16
                        refine lv_tableIn (off := 109) (tgt := 168) C.1 C.2.1 dX12_row_59 (by rw [c16]; decide) (by rw [c16]; decide) (by rw [c16]; rfl) (by decide) ?_
                        refine lv_aload_n C.1 C.2.1 dX12_row_168 rfl (lv_at hl 1 rfl) ?_
                        refine lv_iload_n C.1 C.2.1 dX12_row_169 rfl (lv_at hl 2 rfl) ?_
                        refine lv_aload_n C.1 C.2.1 dX12_row_170 rfl (lv_at hl 1 rfl) ?_
                        refine gf_23 C X hW dX12_row_171 ?_
                        refine lv_iload_n C.1 C.2.1 dX12_row_174 rfl (lv_at hl 2 rfl) ?_
                        obtain ⟨hin, h⟩ := ck_ok h
                        refine l_23 C X hW hin dX12_row_175 ?_
                        obtain ⟨S17, h_S17, h⟩ := bd_ok h
                        refine m_callW (rest := []) (ov := none) C X hW hS hl.1 [.int v1, .int (rd S1 23 v1)] (tm_judge l h_S17) mw_judge im_judge sl_judge rfl ⟨by decide, by decide⟩ rfl (Nat.le_of_ble_eq_true rfl) dX12_row_176 (fun H locs hW hS => ?_)
                        refine W.eq (g2 := F0 m 179 ls []) rfl ?_
                        refine lv_aload_n C.1 C.2.1 dX12_row_179 rfl (lv_at hl 1 rfl) ?_
                        refine gf_47 C X hW dX12_row_180 ?_
                        refine lv_iload C.1 C.2.1 dX12_row_183 (lv_at hl 0 rfl) ?_
                        obtain ⟨hin, h⟩ := ck_ok h
                        refine l_47 C X hW hin dX12_row_185 ?_
                        refine lv_if_eq (tgt := 193) C.1 C.2.1 dX12_row_186 (by decide) (fun c18 => ?_) (fun c18 => ?_)
                        · have h := if_t h c18
                          refine lv_iconst (v := 0) C.1 C.2.1 dX12_row_193 (by decide) ?_
                          exact wm_row_194 C X h hW hS (lv_sub hl [] rfl)
                        · have h := if_f h c18
                          refine lv_iconst (v := 1) C.1 C.2.1 dX12_row_189 (by decide) ?_
                          refine lv_goto (tgt := 194) C.1 C.2.1 dX12_row_190 (by decide) ?_
                          exact wm_row_194 C X h hW hS (lv_sub hl [] rfl)
                      · have h := if_f h c16
                        by_cases c19 : v3 = (8 : Int32)
                        · have h := if_t h c19
                          refine lv_tableIn (off := 136) (tgt := 195) C.1 C.2.1 dX12_row_59 (by rw [c19]; decide) (by rw [c19]; decide) (by rw [c19]; rfl) (by decide) ?_
                          refine lv_aload_n C.1 C.2.1 dX12_row_195 rfl (lv_at hl 1 rfl) ?_
                          refine lv_iload_n C.1 C.2.1 dX12_row_196 rfl (lv_at hl 2 rfl) ?_
                          refine lv_iload C.1 C.2.1 dX12_row_197 (lv_at hl 0 rfl) ?_
                          obtain ⟨r20, h_r20, h⟩ := bd_ok h
                          refine m_callR (rest := []) C X hW hl.1 [.int v1, .int r2] (tm_isStable l h_r20) mw_isStable im_isStable sl_isStable rfl ⟨by decide, by decide⟩ rfl (Nat.le_of_ble_eq_true rfl) dX12_row_199 ?_
                          refine lv_if_eq (tgt := 209) C.1 C.2.1 dX12_row_202 (by decide) (fun c21 => ?_) (fun c21 => ?_)
                          · have h := if_t h c21
                            refine lv_iconst (v := 0) C.1 C.2.1 dX12_row_209 (by decide) ?_
                            exact wm_row_210 C X h hW hS (lv_sub hl [] rfl)
                          · have h := if_f h c21
                            refine lv_iconst (v := 1) C.1 C.2.1 dX12_row_205 (by decide) ?_
                            refine lv_goto (tgt := 210) C.1 C.2.1 dX12_row_206 (by decide) ?_
                            exact wm_row_210 C X h hW hS (lv_sub hl [] rfl)
                        · have h := if_f h c19
                          by_cases c22 : v3 = (9 : Int32)
                          · have h := if_t h c22
                            refine lv_tableIn (off := 152) (tgt := 211) C.1 C.2.1 dX12_row_59 (by rw [c22]; decide) (by rw [c22]; decide) (by rw [c22]; rfl) (by decide) ?_
                            refine lv_iconst (v := 0) C.1 C.2.1 dX12_row_211 (by decide) ?_
                            refine lv_istore (lv' := [(5, .int (0 : Int32)), (4, .int r2), (0, .ref mo), (1, .int v1), (2, .int v2), (3, .int v3)]) C.1 C.2.1 dX12_row_212 hl (by decide) rfl (fun ls hl => ?_)
                            exact wm_row_214 C X mFU h hW hS (lv_sub hl [2, 3, 1, 0] rfl)
                          · have h := if_f h c22
                            have n_c9 := lv_neT c9 (a := 0) rfl
                            have n_c10 := lv_neT c10 (a := 1) rfl
                            have n_c11 := lv_neT c11 (a := 2) rfl
                            have n_c12 := lv_neT c12 (a := 3) rfl
                            have n_c13 := lv_neT c13 (a := 4) rfl
                            have n_c14 := lv_neT c14 (a := 5) rfl
                            have n_c15 := lv_neT c15 (a := 6) rfl
                            have n_c16 := lv_neT c16 (a := 7) rfl
                            have n_c19 := lv_neT c19 (a := 8) rfl
                            have n_c22 := lv_neT c22 (a := 9) rfl
                            refine lv_tableOut (tgt := 235) C.1 C.2.1 dX12_row_59 (by omega) (by decide) ?_
                            refine lv_iconst (v := -1) C.1 C.2.1 dX12_row_235 (by decide) ?_
                            cases h
                            exact m_retiW C hW hS dX12_row_236
      · have h := if_f h c8
        refine lv_aload_n C.1 C.2.1 dX12_row_43 rfl (lv_at hl 1 rfl) ?_
        refine gf_16 C X hW dX12_row_44 ?_
        refine lv_iconst (v := 4) C.1 C.2.1 dX12_row_47 (by decide) ?_
        refine lv_iload C.1 C.2.1 dX12_row_48 (lv_at hl 0 rfl) ?_
        refine lv_imul C.1 C.2.1 dX12_row_50 ?_
        refine lv_iload_n C.1 C.2.1 dX12_row_51 rfl (lv_at hl 4 rfl) ?_
        refine lv_iadd C.1 C.2.1 dX12_row_52 ?_
        refine lv_bipush (v := 10) C.1 C.2.1 dX12_row_53 (by decide) ?_
        refine lv_isub C.1 C.2.1 dX12_row_55 ?_
        obtain ⟨hin, h⟩ := ck_ok h
        refine l_16 C X hW hin dX12_row_56 ?_
        cases h
        exact m_retiW C hW hS dX12_row_57
    · have h := if_t h c6
      exact wm_row_30 C X h hW hS (lv_sub hl [] rfl)
end
theorem dX12_frame_0 : decode cX12_frame 0 = .ok (.aload_n 0, 1) := by decide +kernel
theorem dX12_frame_1 : decode cX12_frame 1 = .ok (.iconst 0, 1) := by decide +kernel
theorem dX12_frame_2 : decode cX12_frame 2 = .ok (.putfield 200, 3) := by decide +kernel
theorem dX12_frame_5 : decode cX12_frame 5 = .ok (.iload_n 1, 1) := by decide +kernel
theorem dX12_frame_6 : decode cX12_frame 6 = .ok (.iconst 0, 1) := by decide +kernel
theorem dX12_frame_7 : decode cX12_frame 7 = .ok (.aload_n 0, 1) := by decide +kernel
theorem dX12_frame_8 : decode cX12_frame 8 = .ok (.getfield 428, 3) := by decide +kernel
theorem dX12_frame_11 : decode cX12_frame 11 = .ok (.iconst 1, 1) := by decide +kernel
theorem dX12_frame_12 : decode cX12_frame 12 = .ok (.isub, 1) := by decide +kernel
theorem dX12_frame_13 : decode cX12_frame 13 = .ok (.invokestatic 215, 3) := by decide +kernel
theorem dX12_frame_16 : decode cX12_frame 16 = .ok (.ifCond .eq 7, 3) := by decide +kernel
theorem dX12_frame_19 : decode cX12_frame 19 = .ok (.iload_n 2, 1) := by decide +kernel
theorem dX12_frame_20 : decode cX12_frame 20 = .ok (.ifCond .ge 5, 3) := by decide +kernel
theorem dX12_frame_23 : decode cX12_frame 23 = .ok (.iconst (-1), 1) := by decide +kernel
theorem dX12_frame_24 : decode cX12_frame 24 = .ok (.ireturn, 1) := by decide +kernel
theorem dX12_frame_25 : decode cX12_frame 25 = .ok (.sipush 640, 3) := by decide +kernel
theorem dX12_frame_28 : decode cX12_frame 28 = .ok (.iload_n 1, 1) := by decide +kernel
theorem dX12_frame_29 : decode cX12_frame 29 = .ok (.imul, 1) := by decide +kernel
theorem dX12_frame_30 : decode cX12_frame 30 = .ok (.istore_n 3, 1) := by decide +kernel
theorem dX12_frame_31 : decode cX12_frame 31 = .ok (.iload_n 2, 1) := by decide +kernel
theorem dX12_frame_32 : decode cX12_frame 32 = .ok (.bipush 8, 2) := by decide +kernel
theorem dX12_frame_34 : decode cX12_frame 34 = .ok (.if_icmp .ge 12, 3) := by decide +kernel
theorem dX12_frame_37 : decode cX12_frame 37 = .ok (.aload_n 0, 1) := by decide +kernel
theorem dX12_frame_38 : decode cX12_frame 38 = .ok (.getfield 130, 3) := by decide +kernel
theorem dX12_frame_41 : decode cX12_frame 41 = .ok (.iload_n 3, 1) := by decide +kernel
theorem dX12_frame_42 : decode cX12_frame 42 = .ok (.iload_n 2, 1) := by decide +kernel
theorem dX12_frame_43 : decode cX12_frame 43 = .ok (.iadd, 1) := by decide +kernel
theorem dX12_frame_44 : decode cX12_frame 44 = .ok (.iaload, 1) := by decide +kernel
theorem dX12_frame_45 : decode cX12_frame 45 = .ok (.ireturn, 1) := by decide +kernel
theorem dX12_frame_46 : decode cX12_frame 46 = .ok (.iload_n 2, 1) := by decide +kernel
theorem dX12_frame_47 : decode cX12_frame 47 = .ok (.bipush 8, 2) := by decide +kernel
theorem dX12_frame_49 : decode cX12_frame 49 = .ok (.isub, 1) := by decide +kernel
theorem dX12_frame_50 : decode cX12_frame 50 = .ok (.aload_n 0, 1) := by decide +kernel
theorem dX12_frame_51 : decode cX12_frame 51 = .ok (.getfield 130, 3) := by decide +kernel
theorem dX12_frame_54 : decode cX12_frame 54 = .ok (.iload_n 3, 1) := by decide +kernel
theorem dX12_frame_55 : decode cX12_frame 55 = .ok (.iconst 3, 1) := by decide +kernel
theorem dX12_frame_56 : decode cX12_frame 56 = .ok (.iadd, 1) := by decide +kernel
theorem dX12_frame_57 : decode cX12_frame 57 = .ok (.iaload, 1) := by decide +kernel
theorem dX12_frame_58 : decode cX12_frame 58 = .ok (.if_icmp .ge 17, 3) := by decide +kernel
theorem dX12_frame_61 : decode cX12_frame 61 = .ok (.aload_n 0, 1) := by decide +kernel
theorem dX12_frame_62 : decode cX12_frame 62 = .ok (.getfield 130, 3) := by decide +kernel
theorem dX12_frame_65 : decode cX12_frame 65 = .ok (.iload_n 3, 1) := by decide +kernel
theorem dX12_frame_66 : decode cX12_frame 66 = .ok (.iload_n 2, 1) := by decide +kernel
theorem dX12_frame_67 : decode cX12_frame 67 = .ok (.iadd, 1) := by decide +kernel
theorem dX12_frame_68 : decode cX12_frame 68 = .ok (.iaload, 1) := by decide +kernel
theorem dX12_frame_69 : decode cX12_frame 69 = .ok (.invokestatic 303, 3) := by decide +kernel
theorem dX12_frame_72 : decode cX12_frame 72 = .ok (.goto 4, 3) := by decide +kernel
theorem dX12_frame_75 : decode cX12_frame 75 = .ok (.iconst (-1), 1) := by decide +kernel
theorem dX12_frame_76 : decode cX12_frame 76 = .ok (.ireturn, 1) := by decide +kernel
theorem cd_frame : Cond.code yX12_frame cX12_frame 4 (some .int) ∈ lw_g := mt_at 2356 (by decide +kernel) rfl
section
variable {p : Program} {l : Launch} {e : Env} {R : Room} {s : State} {m : MethodId} {args : Array Value} {below : List Frame} {meth : Method} {c : Code} {cM : ClassId} {iS : Nat → Nat} {cI cZ : ClassId} {mo : Nat} {ad : Nat → Nat} {r : Int32} {S9 : mSt}
noncomputable def fm_frame_23 (S : mSt) : Option (Int32 × mSt) :=
some ((-1 : Int32), S)
set_option maxRecDepth 100000 in
set_option maxHeartbeats 4000000 in
theorem wm_frame_23 (C : mY p R s m args meth c cX12_frame 4 2 40 (some .int)) (X : mX s cM iS cI cZ mo ad) : ∀ {S : mSt} {H : Heap} {locs : List Loc} {ls : Array Slot}, fm_frame_23 S = some (r, S9) → mW cM iS cI cZ mo ad S H → mS (mA mo ad) s.heap H locs → lv_has ls 4 [] → W p l e R s m args below meth c H locs 0 0 (MQ below (mQw (some (.int r)) cM iS cI cZ mo ad S9) args s 0 0 (mA mo ad)) (F0 m 23 ls []) := by
  intro S H locs ls h hW hS hl
  unfold fm_frame_23 at h
  refine lv_iconst (v := -1) C.1 C.2.1 dX12_frame_23 (by decide) ?_
  cases h
  exact m_retiW C hW hS dX12_frame_24
noncomputable def fm_frame_76 (S : mSt) (s0 : Int32) : Option (Int32 × mSt) :=
some (s0, S)
set_option maxRecDepth 100000 in
set_option maxHeartbeats 4000000 in
theorem wm_frame_76 (C : mY p R s m args meth c cX12_frame 4 2 40 (some .int)) (X : mX s cM iS cI cZ mo ad) : ∀ {S : mSt} {s0 : Int32} {H : Heap} {locs : List Loc} {ls : Array Slot}, fm_frame_76 S s0 = some (r, S9) → mW cM iS cI cZ mo ad S H → mS (mA mo ad) s.heap H locs → lv_has ls 4 [] → W p l e R s m args below meth c H locs 0 0 (MQ below (mQw (some (.int r)) cM iS cI cZ mo ad S9) args s 0 0 (mA mo ad)) (F0 m 76 ls [.int s0]) := by
  intro S s0 H locs ls h hW hS hl
  unfold fm_frame_76 at h
  cases h
  exact m_retiW C hW hS dX12_frame_76
noncomputable def fm_frame (S : mSt) (v1 : Int32) (v2 : Int32) : Option (Int32 × mSt) :=
lt (pu S 0 (0 : Int32)) fun S1 =>
bd (fm_within v1 (0 : Int32) ((S1.1 42) - (1 : Int32))) fun r2 =>
if r2 = 0 then (
fm_frame_23 S1)
else (
if 0 ≤ v2 then (
lt ((640 : Int32) * v1) fun x5 =>
if (8 : Int32) ≤ v2 then (
ck (x5 + (3 : Int32)) 38400 (
if (rd S1 46 (x5 + (3 : Int32))) ≤ (v2 - (8 : Int32)) then (
fm_frame_76 S1 (-1 : Int32))
else (
ck (x5 + v2) 38400 (
bd (fm_nameOf (rd S1 46 (x5 + v2))) fun r8 =>
fm_frame_76 S1 r8))))
else (
ck (x5 + v2) 38400 (
some (rd S1 46 (x5 + v2), S1))))
else (
fm_frame_23 S1))
set_option maxRecDepth 100000 in
set_option maxHeartbeats 4000000 in
theorem tm_frame (l : Launch) {cM : ClassId} {iS : Nat → Nat} {cI cZ : ClassId} {mo : Nat} {ad : Nat → Nat} {S : mSt} {v1 : Int32} {v2 : Int32} {r : Int32} {S9 : mSt} (h : fm_frame S v1 v2 = some (r, S9)) : Met l yX12_frame (Cond.code yX12_frame cX12_frame 4 (some .int) :: lw_g) { frames := 2, cells := 0, slots := 0, locals := 40 } (mPi [.int v1, .int v2] cM iS cI cZ mo ad S) (mQw (some (.int r)) cM iS cI cZ mo ad S9) 0 0 (mA mo ad) := by
  refine Met.ofW (cc := cX12_frame) (maxL := 4) (ret := (some .int)) (by decide) rfl ?_
  intro p e s m args below meth c s₁ B hml hv
  obtain ⟨rfl, hW, X⟩ := hv
  have C : mY p (headSpec (Cond.code yX12_frame cX12_frame 4 (some .int) :: lw_g) { frames := 2, cells := 0, slots := 0, locals := 40 }).room s m _ meth c cX12_frame 4 2 40 (some .int) := ⟨B.exec, B.bytes, hml, findClass_of_methodNamed B.named, fun w hw => atoms_spec (ws := Cond.code yX12_frame cX12_frame 4 (some .int) :: lw_g) B.pre w (List.mem_cons_of_mem _ hw), ⟨Nat.le_refl _, Nat.le_refl _⟩, B.returns, B.notSynchronized⟩
  have hl := lv_entry ([.ref mo, .int v1, .int v2]) (n := 4) (Nat.le_of_ble_eq_true rfl)
  rw [lg_entry_eq]
  generalize (lg_sl ([.ref mo, .int v1, .int v2]) ++ List.replicate (4 - (lg_sl ([.ref mo, .int v1, .int v2])).length) Slot.unset).toArray = ls at hl ⊢
  have hl : lv_has ls 4 [(0, .ref mo), (1, .int v1), (2, .int v2)] := hl
  have hS : mS (mA mo ad) s.heap s.heap [] := mS.rf
  unfold fm_frame at h
  refine lv_aload_n C.1 C.2.1 dX12_frame_0 rfl (lv_at hl 0 rfl) ?_
  refine lv_iconst (v := 0) C.1 C.2.1 dX12_frame_1 (by decide) ?_
  refine p_0 C X hW hS dX12_frame_2 (fun H locs hW hS => ?_)
  refine lt_ok h (fun S1 e_S1 h => ?_)
  rw [e_S1] at hW
  refine lv_iload_n C.1 C.2.1 dX12_frame_5 rfl (lv_at hl 1 rfl) ?_
  refine lv_iconst (v := 0) C.1 C.2.1 dX12_frame_6 (by decide) ?_
  refine lv_aload_n C.1 C.2.1 dX12_frame_7 rfl (lv_at hl 0 rfl) ?_
  refine gf_42 C X hW dX12_frame_8 ?_
  refine lv_iconst (v := 1) C.1 C.2.1 dX12_frame_11 (by decide) ?_
  refine lv_isub C.1 C.2.1 dX12_frame_12 ?_
  obtain ⟨r2, h_r2, h⟩ := bd_ok h
  refine m_callS (rest := []) C hl.1 [.int v1, .int (0 : Int32), .int ((S1.1 42) - (1 : Int32))] (tm_within l h_r2) mw_within st_within rfl ⟨by decide, by decide⟩ rfl (Nat.le_of_ble_eq_true rfl) dX12_frame_13 ?_
  refine lv_if_eq (tgt := 23) C.1 C.2.1 dX12_frame_16 (by decide) (fun c3 => ?_) (fun c3 => ?_)
  · have h := if_t h c3
    exact wm_frame_23 C X h hW hS (lv_sub hl [] rfl)
  · have h := if_f h c3
    refine lv_iload_n C.1 C.2.1 dX12_frame_19 rfl (lv_at hl 2 rfl) ?_
    refine lv_if_ge (tgt := 25) C.1 C.2.1 dX12_frame_20 (by decide) (fun c4 => ?_) (fun c4 => ?_)
    · have h := if_t h c4
      refine lv_sipush (v := 640) C.1 C.2.1 dX12_frame_25 (by decide) ?_
      refine lv_iload_n C.1 C.2.1 dX12_frame_28 rfl (lv_at hl 1 rfl) ?_
      refine lv_imul C.1 C.2.1 dX12_frame_29 ?_
      refine lt_ok h (fun x5 e_x5 h => ?_)
      refine lv_nm e_x5 ?_
      refine lv_istore_n (lv' := [(3, .int x5), (0, .ref mo), (1, .int v1), (2, .int v2)]) C.1 C.2.1 dX12_frame_30 rfl hl (by decide) rfl (fun ls hl => ?_)
      refine lv_iload_n C.1 C.2.1 dX12_frame_31 rfl (lv_at hl 3 rfl) ?_
      refine lv_bipush (v := 8) C.1 C.2.1 dX12_frame_32 (by decide) ?_
      refine lv_icmp_ge (tgt := 46) C.1 C.2.1 dX12_frame_34 (by decide) (fun c6 => ?_) (fun c6 => ?_)
      · have h := if_t h c6
        refine lv_iload_n C.1 C.2.1 dX12_frame_46 rfl (lv_at hl 3 rfl) ?_
        refine lv_bipush (v := 8) C.1 C.2.1 dX12_frame_47 (by decide) ?_
        refine lv_isub C.1 C.2.1 dX12_frame_49 ?_
        refine lv_aload_n C.1 C.2.1 dX12_frame_50 rfl (lv_at hl 1 rfl) ?_
        refine gf_46 C X hW dX12_frame_51 ?_
        refine lv_iload_n C.1 C.2.1 dX12_frame_54 rfl (lv_at hl 0 rfl) ?_
        refine lv_iconst (v := 3) C.1 C.2.1 dX12_frame_55 (by decide) ?_
        refine lv_iadd C.1 C.2.1 dX12_frame_56 ?_
        obtain ⟨hin, h⟩ := ck_ok h
        refine l_46 C X hW hin dX12_frame_57 ?_
        refine lv_icmp_ge (tgt := 75) C.1 C.2.1 dX12_frame_58 (by decide) (fun c7 => ?_) (fun c7 => ?_)
        · have h := if_t h c7
          refine lv_iconst (v := -1) C.1 C.2.1 dX12_frame_75 (by decide) ?_
          exact wm_frame_76 C X h hW hS (lv_sub hl [] rfl)
        · have h := if_f h c7
          refine lv_aload_n C.1 C.2.1 dX12_frame_61 rfl (lv_at hl 1 rfl) ?_
          refine gf_46 C X hW dX12_frame_62 ?_
          refine lv_iload_n C.1 C.2.1 dX12_frame_65 rfl (lv_at hl 0 rfl) ?_
          refine lv_iload_n C.1 C.2.1 dX12_frame_66 rfl (lv_at hl 3 rfl) ?_
          refine lv_iadd C.1 C.2.1 dX12_frame_67 ?_
          obtain ⟨hin, h⟩ := ck_ok h
          refine l_46 C X hW hin dX12_frame_68 ?_
          obtain ⟨r8, h_r8, h⟩ := bd_ok h
          refine m_callS (rest := []) C hl.1 [.int (rd S1 46 (x5 + v2))] (tm_nameOf l h_r8) mw_nameOf st_nameOf rfl ⟨by decide, by decide⟩ rfl (Nat.le_of_ble_eq_true rfl) dX12_frame_69 ?_
          refine lv_goto (tgt := 76) C.1 C.2.1 dX12_frame_72 (by decide) ?_
          exact wm_frame_76 C X h hW hS (lv_sub hl [] rfl)
      · have h := if_f h c6
        refine lv_aload_n C.1 C.2.1 dX12_frame_37 rfl (lv_at hl 1 rfl) ?_
        refine gf_46 C X hW dX12_frame_38 ?_
        refine lv_iload_n C.1 C.2.1 dX12_frame_41 rfl (lv_at hl 0 rfl) ?_
        refine lv_iload_n C.1 C.2.1 dX12_frame_42 rfl (lv_at hl 3 rfl) ?_
        refine lv_iadd C.1 C.2.1 dX12_frame_43 ?_
        obtain ⟨hin, h⟩ := ck_ok h
        refine l_46 C X hW hin dX12_frame_44 ?_
        cases h
        exact m_retiW C hW hS dX12_frame_45
    · have h := if_f h c4
      exact wm_frame_23 C X h hW hS (lv_sub hl [] rfl)
end
theorem dX12_news_0 : decode cX12_news 0 = .ok (.aload_n 0, 1) := by decide +kernel
theorem dX12_news_1 : decode cX12_news 1 = .ok (.iconst 0, 1) := by decide +kernel
theorem dX12_news_2 : decode cX12_news 2 = .ok (.putfield 200, 3) := by decide +kernel
theorem dX12_news_5 : decode cX12_news 5 = .ok (.iload_n 1, 1) := by decide +kernel
theorem dX12_news_6 : decode cX12_news 6 = .ok (.iconst 0, 1) := by decide +kernel
theorem dX12_news_7 : decode cX12_news 7 = .ok (.iconst 3, 1) := by decide +kernel
theorem dX12_news_8 : decode cX12_news 8 = .ok (.invokestatic 215, 3) := by decide +kernel
theorem dX12_news_11 : decode cX12_news 11 = .ok (.ifCond .eq 19, 3) := by decide +kernel
theorem dX12_news_14 : decode cX12_news 14 = .ok (.iload_n 2, 1) := by decide +kernel
theorem dX12_news_15 : decode cX12_news 15 = .ok (.iconst 0, 1) := by decide +kernel
theorem dX12_news_16 : decode cX12_news 16 = .ok (.aload_n 0, 1) := by decide +kernel
theorem dX12_news_17 : decode cX12_news 17 = .ok (.getfield 83, 3) := by decide +kernel
theorem dX12_news_20 : decode cX12_news 20 = .ok (.iload_n 1, 1) := by decide +kernel
theorem dX12_news_21 : decode cX12_news 21 = .ok (.iaload, 1) := by decide +kernel
theorem dX12_news_22 : decode cX12_news 22 = .ok (.iconst 1, 1) := by decide +kernel
theorem dX12_news_23 : decode cX12_news 23 = .ok (.isub, 1) := by decide +kernel
theorem dX12_news_24 : decode cX12_news 24 = .ok (.invokestatic 215, 3) := by decide +kernel
theorem dX12_news_27 : decode cX12_news 27 = .ok (.ifCond .ne 5, 3) := by decide +kernel
theorem dX12_news_30 : decode cX12_news 30 = .ok (.iconst (-1), 1) := by decide +kernel
theorem dX12_news_31 : decode cX12_news 31 = .ok (.ireturn, 1) := by decide +kernel
theorem dX12_news_32 : decode cX12_news 32 = .ok (.sipush 250, 3) := by decide +kernel
theorem dX12_news_35 : decode cX12_news 35 = .ok (.iload_n 1, 1) := by decide +kernel
theorem dX12_news_36 : decode cX12_news 36 = .ok (.imul, 1) := by decide +kernel
theorem dX12_news_37 : decode cX12_news 37 = .ok (.iload_n 2, 1) := by decide +kernel
theorem dX12_news_38 : decode cX12_news 38 = .ok (.iadd, 1) := by decide +kernel
theorem dX12_news_39 : decode cX12_news 39 = .ok (.istore 4, 2) := by decide +kernel
theorem dX12_news_41 : decode cX12_news 41 = .ok (.iload_n 3, 1) := by decide +kernel
theorem dX12_news_42 : decode cX12_news 42 = .ok (.ifCond .ne 13, 3) := by decide +kernel
theorem dX12_news_45 : decode cX12_news 45 = .ok (.aload_n 0, 1) := by decide +kernel
theorem dX12_news_46 : decode cX12_news 46 = .ok (.getfield 86, 3) := by decide +kernel
theorem dX12_news_49 : decode cX12_news 49 = .ok (.iload 4, 2) := by decide +kernel
theorem dX12_news_51 : decode cX12_news 51 = .ok (.iaload, 1) := by decide +kernel
theorem dX12_news_52 : decode cX12_news 52 = .ok (.goto 34, 3) := by decide +kernel
theorem dX12_news_55 : decode cX12_news 55 = .ok (.iload_n 3, 1) := by decide +kernel
theorem dX12_news_56 : decode cX12_news 56 = .ok (.iconst 1, 1) := by decide +kernel
theorem dX12_news_57 : decode cX12_news 57 = .ok (.if_icmp .ne 13, 3) := by decide +kernel
theorem dX12_news_60 : decode cX12_news 60 = .ok (.aload_n 0, 1) := by decide +kernel
theorem dX12_news_61 : decode cX12_news 61 = .ok (.getfield 89, 3) := by decide +kernel
theorem dX12_news_64 : decode cX12_news 64 = .ok (.iload 4, 2) := by decide +kernel
theorem dX12_news_66 : decode cX12_news 66 = .ok (.iaload, 1) := by decide +kernel
theorem dX12_news_67 : decode cX12_news 67 = .ok (.goto 19, 3) := by decide +kernel
theorem dX12_news_70 : decode cX12_news 70 = .ok (.iload_n 3, 1) := by decide +kernel
theorem dX12_news_71 : decode cX12_news 71 = .ok (.iconst 2, 1) := by decide +kernel
theorem dX12_news_72 : decode cX12_news 72 = .ok (.if_icmp .ne 13, 3) := by decide +kernel
theorem dX12_news_75 : decode cX12_news 75 = .ok (.aload_n 0, 1) := by decide +kernel
theorem dX12_news_76 : decode cX12_news 76 = .ok (.getfield 92, 3) := by decide +kernel
theorem dX12_news_79 : decode cX12_news 79 = .ok (.iload 4, 2) := by decide +kernel
theorem dX12_news_81 : decode cX12_news 81 = .ok (.iaload, 1) := by decide +kernel
theorem dX12_news_82 : decode cX12_news 82 = .ok (.goto 4, 3) := by decide +kernel
theorem dX12_news_85 : decode cX12_news 85 = .ok (.iconst (-1), 1) := by decide +kernel
theorem dX12_news_86 : decode cX12_news 86 = .ok (.ireturn, 1) := by decide +kernel
theorem cd_news : Cond.code yX12_news cX12_news 5 (some .int) ∈ lw_g := mt_at 2360 (by decide +kernel) rfl
section
variable {p : Program} {l : Launch} {e : Env} {R : Room} {s : State} {m : MethodId} {args : Array Value} {below : List Frame} {meth : Method} {c : Code} {cM : ClassId} {iS : Nat → Nat} {cI cZ : ClassId} {mo : Nat} {ad : Nat → Nat} {r : Int32} {S9 : mSt}
noncomputable def fm_news_30 (S : mSt) : Option (Int32 × mSt) :=
some ((-1 : Int32), S)
set_option maxRecDepth 100000 in
set_option maxHeartbeats 4000000 in
theorem wm_news_30 (C : mY p R s m args meth c cX12_news 5 1 22 (some .int)) (X : mX s cM iS cI cZ mo ad) : ∀ {S : mSt} {H : Heap} {locs : List Loc} {ls : Array Slot}, fm_news_30 S = some (r, S9) → mW cM iS cI cZ mo ad S H → mS (mA mo ad) s.heap H locs → lv_has ls 5 [] → W p l e R s m args below meth c H locs 0 0 (MQ below (mQw (some (.int r)) cM iS cI cZ mo ad S9) args s 0 0 (mA mo ad)) (F0 m 30 ls []) := by
  intro S H locs ls h hW hS hl
  unfold fm_news_30 at h
  refine lv_iconst (v := -1) C.1 C.2.1 dX12_news_30 (by decide) ?_
  cases h
  exact m_retiW C hW hS dX12_news_31
noncomputable def fm_news_86 (S : mSt) (s0 : Int32) : Option (Int32 × mSt) :=
some (s0, S)
set_option maxRecDepth 100000 in
set_option maxHeartbeats 4000000 in
theorem wm_news_86 (C : mY p R s m args meth c cX12_news 5 1 22 (some .int)) (X : mX s cM iS cI cZ mo ad) : ∀ {S : mSt} {s0 : Int32} {H : Heap} {locs : List Loc} {ls : Array Slot}, fm_news_86 S s0 = some (r, S9) → mW cM iS cI cZ mo ad S H → mS (mA mo ad) s.heap H locs → lv_has ls 5 [] → W p l e R s m args below meth c H locs 0 0 (MQ below (mQw (some (.int r)) cM iS cI cZ mo ad S9) args s 0 0 (mA mo ad)) (F0 m 86 ls [.int s0]) := by
  intro S s0 H locs ls h hW hS hl
  unfold fm_news_86 at h
  cases h
  exact m_retiW C hW hS dX12_news_86
noncomputable def fm_news (S : mSt) (v1 : Int32) (v2 : Int32) (v3 : Int32) : Option (Int32 × mSt) :=
lt (pu S 0 (0 : Int32)) fun S1 =>
bd (fm_within v1 (0 : Int32) (3 : Int32)) fun r2 =>
if r2 = 0 then (
fm_news_30 S1)
else (
ck v1 4 (
bd (fm_within v2 (0 : Int32) ((rd S1 27 v1) - (1 : Int32))) fun r4 =>
if r4 = 0 then (
fm_news_30 S1)
else (
lt (((250 : Int32) * v1) + v2) fun x6 =>
if v3 = 0 then (
ck x6 1000 (
fm_news_86 S1 (rd S1 28 x6)))
else (
if v3 = (1 : Int32) then (
ck x6 1000 (
fm_news_86 S1 (rd S1 29 x6)))
else (
if v3 = (2 : Int32) then (
ck x6 1000 (
fm_news_86 S1 (rd S1 30 x6)))
else (
fm_news_86 S1 (-1 : Int32)))))))
set_option maxRecDepth 100000 in
set_option maxHeartbeats 4000000 in
theorem tm_news (l : Launch) {cM : ClassId} {iS : Nat → Nat} {cI cZ : ClassId} {mo : Nat} {ad : Nat → Nat} {S : mSt} {v1 : Int32} {v2 : Int32} {v3 : Int32} {r : Int32} {S9 : mSt} (h : fm_news S v1 v2 v3 = some (r, S9)) : Met l yX12_news (Cond.code yX12_news cX12_news 5 (some .int) :: lw_g) { frames := 1, cells := 0, slots := 0, locals := 22 } (mPi [.int v1, .int v2, .int v3] cM iS cI cZ mo ad S) (mQw (some (.int r)) cM iS cI cZ mo ad S9) 0 0 (mA mo ad) := by
  refine Met.ofW (cc := cX12_news) (maxL := 5) (ret := (some .int)) (by decide) rfl ?_
  intro p e s m args below meth c s₁ B hml hv
  obtain ⟨rfl, hW, X⟩ := hv
  have C : mY p (headSpec (Cond.code yX12_news cX12_news 5 (some .int) :: lw_g) { frames := 1, cells := 0, slots := 0, locals := 22 }).room s m _ meth c cX12_news 5 1 22 (some .int) := ⟨B.exec, B.bytes, hml, findClass_of_methodNamed B.named, fun w hw => atoms_spec (ws := Cond.code yX12_news cX12_news 5 (some .int) :: lw_g) B.pre w (List.mem_cons_of_mem _ hw), ⟨Nat.le_refl _, Nat.le_refl _⟩, B.returns, B.notSynchronized⟩
  have hl := lv_entry ([.ref mo, .int v1, .int v2, .int v3]) (n := 5) (Nat.le_of_ble_eq_true rfl)
  rw [lg_entry_eq]
  generalize (lg_sl ([.ref mo, .int v1, .int v2, .int v3]) ++ List.replicate (5 - (lg_sl ([.ref mo, .int v1, .int v2, .int v3])).length) Slot.unset).toArray = ls at hl ⊢
  have hl : lv_has ls 5 [(0, .ref mo), (1, .int v1), (2, .int v2), (3, .int v3)] := hl
  have hS : mS (mA mo ad) s.heap s.heap [] := mS.rf
  unfold fm_news at h
  refine lv_aload_n C.1 C.2.1 dX12_news_0 rfl (lv_at hl 0 rfl) ?_
  refine lv_iconst (v := 0) C.1 C.2.1 dX12_news_1 (by decide) ?_
  refine p_0 C X hW hS dX12_news_2 (fun H locs hW hS => ?_)
  refine lt_ok h (fun S1 e_S1 h => ?_)
  rw [e_S1] at hW
  refine lv_iload_n C.1 C.2.1 dX12_news_5 rfl (lv_at hl 1 rfl) ?_
  refine lv_iconst (v := 0) C.1 C.2.1 dX12_news_6 (by decide) ?_
  refine lv_iconst (v := 3) C.1 C.2.1 dX12_news_7 (by decide) ?_
  obtain ⟨r2, h_r2, h⟩ := bd_ok h
  refine m_callS (rest := []) C hl.1 [.int v1, .int (0 : Int32), .int (3 : Int32)] (tm_within l h_r2) mw_within st_within rfl ⟨by decide, by decide⟩ rfl (Nat.le_of_ble_eq_true rfl) dX12_news_8 ?_
  refine lv_if_eq (tgt := 30) C.1 C.2.1 dX12_news_11 (by decide) (fun c3 => ?_) (fun c3 => ?_)
  · have h := if_t h c3
    exact wm_news_30 C X h hW hS (lv_sub hl [] rfl)
  · have h := if_f h c3
    refine lv_iload_n C.1 C.2.1 dX12_news_14 rfl (lv_at hl 2 rfl) ?_
    refine lv_iconst (v := 0) C.1 C.2.1 dX12_news_15 (by decide) ?_
    refine lv_aload_n C.1 C.2.1 dX12_news_16 rfl (lv_at hl 0 rfl) ?_
    refine gf_27 C X hW dX12_news_17 ?_
    refine lv_iload_n C.1 C.2.1 dX12_news_20 rfl (lv_at hl 1 rfl) ?_
    obtain ⟨hin, h⟩ := ck_ok h
    refine l_27 C X hW hin dX12_news_21 ?_
    refine lv_iconst (v := 1) C.1 C.2.1 dX12_news_22 (by decide) ?_
    refine lv_isub C.1 C.2.1 dX12_news_23 ?_
    obtain ⟨r4, h_r4, h⟩ := bd_ok h
    refine m_callS (rest := []) C hl.1 [.int v2, .int (0 : Int32), .int ((rd S1 27 v1) - (1 : Int32))] (tm_within l h_r4) mw_within st_within rfl ⟨by decide, by decide⟩ rfl (Nat.le_of_ble_eq_true rfl) dX12_news_24 ?_
    refine lv_if_ne (tgt := 32) C.1 C.2.1 dX12_news_27 (by decide) (fun c5 => ?_) (fun c5 => ?_)
    · have h := if_f h c5
      refine lv_sipush (v := 250) C.1 C.2.1 dX12_news_32 (by decide) ?_
      refine lv_iload_n C.1 C.2.1 dX12_news_35 rfl (lv_at hl 1 rfl) ?_
      refine lv_imul C.1 C.2.1 dX12_news_36 ?_
      refine lv_iload_n C.1 C.2.1 dX12_news_37 rfl (lv_at hl 2 rfl) ?_
      refine lv_iadd C.1 C.2.1 dX12_news_38 ?_
      refine lt_ok h (fun x6 e_x6 h => ?_)
      refine lv_nm e_x6 ?_
      refine lv_istore (lv' := [(4, .int x6), (0, .ref mo), (1, .int v1), (2, .int v2), (3, .int v3)]) C.1 C.2.1 dX12_news_39 hl (by decide) rfl (fun ls hl => ?_)
      refine lv_iload_n C.1 C.2.1 dX12_news_41 rfl (lv_at hl 4 rfl) ?_
      refine lv_if_ne (tgt := 55) C.1 C.2.1 dX12_news_42 (by decide) (fun c7 => ?_) (fun c7 => ?_)
      · have h := if_f h c7
        refine lv_iload_n C.1 C.2.1 dX12_news_55 rfl (lv_at hl 4 rfl) ?_
        refine lv_iconst (v := 1) C.1 C.2.1 dX12_news_56 (by decide) ?_
        refine lv_icmp_ne (tgt := 70) C.1 C.2.1 dX12_news_57 (by decide) (fun c8 => ?_) (fun c8 => ?_)
        · have h := if_f h c8
          refine lv_iload_n C.1 C.2.1 dX12_news_70 rfl (lv_at hl 4 rfl) ?_
          refine lv_iconst (v := 2) C.1 C.2.1 dX12_news_71 (by decide) ?_
          refine lv_icmp_ne (tgt := 85) C.1 C.2.1 dX12_news_72 (by decide) (fun c9 => ?_) (fun c9 => ?_)
          · have h := if_f h c9
            refine lv_iconst (v := -1) C.1 C.2.1 dX12_news_85 (by decide) ?_
            exact wm_news_86 C X h hW hS (lv_sub hl [] rfl)
          · have h := if_t h c9
            refine lv_aload_n C.1 C.2.1 dX12_news_75 rfl (lv_at hl 1 rfl) ?_
            refine gf_30 C X hW dX12_news_76 ?_
            refine lv_iload C.1 C.2.1 dX12_news_79 (lv_at hl 0 rfl) ?_
            obtain ⟨hin, h⟩ := ck_ok h
            refine l_30 C X hW hin dX12_news_81 ?_
            refine lv_goto (tgt := 86) C.1 C.2.1 dX12_news_82 (by decide) ?_
            exact wm_news_86 C X h hW hS (lv_sub hl [] rfl)
        · have h := if_t h c8
          refine lv_aload_n C.1 C.2.1 dX12_news_60 rfl (lv_at hl 1 rfl) ?_
          refine gf_29 C X hW dX12_news_61 ?_
          refine lv_iload C.1 C.2.1 dX12_news_64 (lv_at hl 0 rfl) ?_
          obtain ⟨hin, h⟩ := ck_ok h
          refine l_29 C X hW hin dX12_news_66 ?_
          refine lv_goto (tgt := 86) C.1 C.2.1 dX12_news_67 (by decide) ?_
          exact wm_news_86 C X h hW hS (lv_sub hl [] rfl)
      · have h := if_t h c7
        refine lv_aload_n C.1 C.2.1 dX12_news_45 rfl (lv_at hl 1 rfl) ?_
        refine gf_28 C X hW dX12_news_46 ?_
        refine lv_iload C.1 C.2.1 dX12_news_49 (lv_at hl 0 rfl) ?_
        obtain ⟨hin, h⟩ := ck_ok h
        refine l_28 C X hW hin dX12_news_51 ?_
        refine lv_goto (tgt := 86) C.1 C.2.1 dX12_news_52 (by decide) ?_
        exact wm_news_86 C X h hW hS (lv_sub hl [] rfl)
    · have h := if_t h c5
      exact wm_news_30 C X h hW hS (lv_sub hl [] rfl)
end
theorem dX12_calm_0 : decode cX12_calm 0 = .ok (.aload_n 0, 1) := by decide +kernel
theorem dX12_calm_1 : decode cX12_calm 1 = .ok (.iconst 0, 1) := by decide +kernel
theorem dX12_calm_2 : decode cX12_calm 2 = .ok (.putfield 200, 3) := by decide +kernel
theorem dX12_calm_5 : decode cX12_calm 5 = .ok (.iload_n 1, 1) := by decide +kernel
theorem dX12_calm_6 : decode cX12_calm 6 = .ok (.iconst 0, 1) := by decide +kernel
theorem dX12_calm_7 : decode cX12_calm 7 = .ok (.iconst 3, 1) := by decide +kernel
theorem dX12_calm_8 : decode cX12_calm 8 = .ok (.invokestatic 215, 3) := by decide +kernel
theorem dX12_calm_11 : decode cX12_calm 11 = .ok (.ifCond .ne 5, 3) := by decide +kernel
theorem dX12_calm_14 : decode cX12_calm 14 = .ok (.iconst (-1), 1) := by decide +kernel
theorem dX12_calm_15 : decode cX12_calm 15 = .ok (.ireturn, 1) := by decide +kernel
theorem dX12_calm_16 : decode cX12_calm 16 = .ok (.aload_n 0, 1) := by decide +kernel
theorem dX12_calm_17 : decode cX12_calm 17 = .ok (.getfield 83, 3) := by decide +kernel
theorem dX12_calm_20 : decode cX12_calm 20 = .ok (.iload_n 1, 1) := by decide +kernel
theorem dX12_calm_21 : decode cX12_calm 21 = .ok (.iaload, 1) := by decide +kernel
theorem dX12_calm_22 : decode cX12_calm 22 = .ok (.istore_n 2, 1) := by decide +kernel
theorem dX12_calm_23 : decode cX12_calm 23 = .ok (.aload_n 0, 1) := by decide +kernel
theorem dX12_calm_24 : decode cX12_calm 24 = .ok (.getfield 83, 3) := by decide +kernel
theorem dX12_calm_27 : decode cX12_calm 27 = .ok (.iload_n 1, 1) := by decide +kernel
theorem dX12_calm_28 : decode cX12_calm 28 = .ok (.iconst 0, 1) := by decide +kernel
theorem dX12_calm_29 : decode cX12_calm 29 = .ok (.iastore, 1) := by decide +kernel
theorem dX12_calm_30 : decode cX12_calm 30 = .ok (.aload_n 0, 1) := by decide +kernel
theorem dX12_calm_31 : decode cX12_calm 31 = .ok (.getfield 114, 3) := by decide +kernel
theorem dX12_calm_34 : decode cX12_calm 34 = .ok (.iload_n 1, 1) := by decide +kernel
theorem dX12_calm_35 : decode cX12_calm 35 = .ok (.iconst 0, 1) := by decide +kernel
theorem dX12_calm_36 : decode cX12_calm 36 = .ok (.iastore, 1) := by decide +kernel
theorem dX12_calm_37 : decode cX12_calm 37 = .ok (.iload_n 2, 1) := by decide +kernel
theorem dX12_calm_38 : decode cX12_calm 38 = .ok (.ireturn, 1) := by decide +kernel
theorem cd_calm : Cond.code yX12_calm cX12_calm 3 (some .int) ∈ lw_g := mt_at 2364 (by decide +kernel) rfl
section
variable {p : Program} {l : Launch} {e : Env} {R : Room} {s : State} {m : MethodId} {args : Array Value} {below : List Frame} {meth : Method} {c : Code} {cM : ClassId} {iS : Nat → Nat} {cI cZ : ClassId} {mo : Nat} {ad : Nat → Nat} {r : Int32} {S9 : mSt}
noncomputable def fm_calm (S : mSt) (v1 : Int32) : Option (Int32 × mSt) :=
lt (pu S 0 (0 : Int32)) fun S1 =>
bd (fm_within v1 (0 : Int32) (3 : Int32)) fun r2 =>
if r2 = 0 then (
some ((-1 : Int32), S1))
else (
ck v1 4 (
lt (rd S1 27 v1) fun x4 =>
ck v1 4 (lt (wr S1 27 v1 (0 : Int32)) fun S5 =>
ck v1 4 (lt (wr S5 37 v1 (0 : Int32)) fun S6 =>
some (x4, S6)))))
set_option maxRecDepth 100000 in
set_option maxHeartbeats 4000000 in
theorem tm_calm (l : Launch) {cM : ClassId} {iS : Nat → Nat} {cI cZ : ClassId} {mo : Nat} {ad : Nat → Nat} {S : mSt} {v1 : Int32} {r : Int32} {S9 : mSt} (h : fm_calm S v1 = some (r, S9)) : Met l yX12_calm (Cond.code yX12_calm cX12_calm 3 (some .int) :: lw_g) { frames := 1, cells := 0, slots := 0, locals := 22 } (mPi [.int v1] cM iS cI cZ mo ad S) (mQw (some (.int r)) cM iS cI cZ mo ad S9) 0 0 (mA mo ad) := by
  refine Met.ofW (cc := cX12_calm) (maxL := 3) (ret := (some .int)) (by decide) rfl ?_
  intro p e s m args below meth c s₁ B hml hv
  obtain ⟨rfl, hW, X⟩ := hv
  have C : mY p (headSpec (Cond.code yX12_calm cX12_calm 3 (some .int) :: lw_g) { frames := 1, cells := 0, slots := 0, locals := 22 }).room s m _ meth c cX12_calm 3 1 22 (some .int) := ⟨B.exec, B.bytes, hml, findClass_of_methodNamed B.named, fun w hw => atoms_spec (ws := Cond.code yX12_calm cX12_calm 3 (some .int) :: lw_g) B.pre w (List.mem_cons_of_mem _ hw), ⟨Nat.le_refl _, Nat.le_refl _⟩, B.returns, B.notSynchronized⟩
  have hl := lv_entry ([.ref mo, .int v1]) (n := 3) (Nat.le_of_ble_eq_true rfl)
  rw [lg_entry_eq]
  generalize (lg_sl ([.ref mo, .int v1]) ++ List.replicate (3 - (lg_sl ([.ref mo, .int v1])).length) Slot.unset).toArray = ls at hl ⊢
  have hl : lv_has ls 3 [(0, .ref mo), (1, .int v1)] := hl
  have hS : mS (mA mo ad) s.heap s.heap [] := mS.rf
  unfold fm_calm at h
  refine lv_aload_n C.1 C.2.1 dX12_calm_0 rfl (lv_at hl 0 rfl) ?_
  refine lv_iconst (v := 0) C.1 C.2.1 dX12_calm_1 (by decide) ?_
  refine p_0 C X hW hS dX12_calm_2 (fun H locs hW hS => ?_)
  refine lt_ok h (fun S1 e_S1 h => ?_)
  rw [e_S1] at hW
  refine lv_iload_n C.1 C.2.1 dX12_calm_5 rfl (lv_at hl 1 rfl) ?_
  refine lv_iconst (v := 0) C.1 C.2.1 dX12_calm_6 (by decide) ?_
  refine lv_iconst (v := 3) C.1 C.2.1 dX12_calm_7 (by decide) ?_
  obtain ⟨r2, h_r2, h⟩ := bd_ok h
  refine m_callS (rest := []) C hl.1 [.int v1, .int (0 : Int32), .int (3 : Int32)] (tm_within l h_r2) mw_within st_within rfl ⟨by decide, by decide⟩ rfl (Nat.le_of_ble_eq_true rfl) dX12_calm_8 ?_
  refine lv_if_ne (tgt := 16) C.1 C.2.1 dX12_calm_11 (by decide) (fun c3 => ?_) (fun c3 => ?_)
  · have h := if_f h c3
    refine lv_aload_n C.1 C.2.1 dX12_calm_16 rfl (lv_at hl 0 rfl) ?_
    refine gf_27 C X hW dX12_calm_17 ?_
    refine lv_iload_n C.1 C.2.1 dX12_calm_20 rfl (lv_at hl 1 rfl) ?_
    obtain ⟨hin, h⟩ := ck_ok h
    refine l_27 C X hW hin dX12_calm_21 ?_
    refine lt_ok h (fun x4 e_x4 h => ?_)
    refine lv_nm e_x4 ?_
    refine lv_istore_n (lv' := [(2, .int x4), (0, .ref mo), (1, .int v1)]) C.1 C.2.1 dX12_calm_22 rfl hl (by decide) rfl (fun ls hl => ?_)
    refine lv_aload_n C.1 C.2.1 dX12_calm_23 rfl (lv_at hl 1 rfl) ?_
    refine gf_27 C X hW dX12_calm_24 ?_
    refine lv_iload_n C.1 C.2.1 dX12_calm_27 rfl (lv_at hl 2 rfl) ?_
    refine lv_iconst (v := 0) C.1 C.2.1 dX12_calm_28 (by decide) ?_
    obtain ⟨hin, h⟩ := ck_ok h
    refine s_27 C X hW hS hin dX12_calm_29 (fun H locs hW hS => ?_)
    refine lt_ok h (fun S5 e_S5 h => ?_)
    rw [e_S5] at hW
    refine lv_aload_n C.1 C.2.1 dX12_calm_30 rfl (lv_at hl 1 rfl) ?_
    refine gf_37 C X hW dX12_calm_31 ?_
    refine lv_iload_n C.1 C.2.1 dX12_calm_34 rfl (lv_at hl 2 rfl) ?_
    refine lv_iconst (v := 0) C.1 C.2.1 dX12_calm_35 (by decide) ?_
    obtain ⟨hin, h⟩ := ck_ok h
    refine s_37 C X hW hS hin dX12_calm_36 (fun H locs hW hS => ?_)
    refine lt_ok h (fun S6 e_S6 h => ?_)
    rw [e_S6] at hW
    refine lv_iload_n C.1 C.2.1 dX12_calm_37 rfl (lv_at hl 0 rfl) ?_
    cases h
    exact m_retiW C hW hS dX12_calm_38
  · have h := if_t h c3
    refine lv_iconst (v := -1) C.1 C.2.1 dX12_calm_14 (by decide) ?_
    cases h
    exact m_retiW C hW hS dX12_calm_15
end
theorem dX12_stables_0 : decode cX12_stables 0 = .ok (.iconst 0, 1) := by decide +kernel
theorem dX12_stables_1 : decode cX12_stables 1 = .ok (.istore_n 2, 1) := by decide +kernel
theorem dX12_stables_2 : decode cX12_stables 2 = .ok (.iconst 0, 1) := by decide +kernel
theorem dX12_stables_3 : decode cX12_stables 3 = .ok (.istore_n 3, 1) := by decide +kernel
theorem dX12_stables_4 : decode cX12_stables 4 = .ok (.iload_n 3, 1) := by decide +kernel
theorem dX12_stables_5 : decode cX12_stables 5 = .ok (.aload_n 0, 1) := by decide +kernel
theorem dX12_stables_6 : decode cX12_stables 6 = .ok (.getfield 71, 3) := by decide +kernel
theorem dX12_stables_9 : decode cX12_stables 9 = .ok (.iload_n 1, 1) := by decide +kernel
theorem dX12_stables_10 : decode cX12_stables 10 = .ok (.iaload, 1) := by decide +kernel
theorem dX12_stables_11 : decode cX12_stables 11 = .ok (.if_icmp .ge 31, 3) := by decide +kernel
theorem dX12_stables_14 : decode cX12_stables 14 = .ok (.iload_n 2, 1) := by decide +kernel
theorem dX12_stables_15 : decode cX12_stables 15 = .ok (.aload_n 0, 1) := by decide +kernel
theorem dX12_stables_16 : decode cX12_stables 16 = .ok (.iload_n 1, 1) := by decide +kernel
theorem dX12_stables_17 : decode cX12_stables 17 = .ok (.aload_n 0, 1) := by decide +kernel
theorem dX12_stables_18 : decode cX12_stables 18 = .ok (.iload_n 1, 1) := by decide +kernel
theorem dX12_stables_19 : decode cX12_stables 19 = .ok (.iload_n 3, 1) := by decide +kernel
theorem dX12_stables_20 : decode cX12_stables 20 = .ok (.invokevirtual 230, 3) := by decide +kernel
theorem dX12_stables_23 : decode cX12_stables 23 = .ok (.invokevirtual 396, 3) := by decide +kernel
theorem dX12_stables_26 : decode cX12_stables 26 = .ok (.ifCond .eq 7, 3) := by decide +kernel
theorem dX12_stables_29 : decode cX12_stables 29 = .ok (.iconst 1, 1) := by decide +kernel
theorem dX12_stables_30 : decode cX12_stables 30 = .ok (.goto 4, 3) := by decide +kernel
theorem dX12_stables_33 : decode cX12_stables 33 = .ok (.iconst 0, 1) := by decide +kernel
theorem dX12_stables_34 : decode cX12_stables 34 = .ok (.iadd, 1) := by decide +kernel
theorem dX12_stables_35 : decode cX12_stables 35 = .ok (.istore_n 2, 1) := by decide +kernel
theorem dX12_stables_36 : decode cX12_stables 36 = .ok (.iinc 3 1, 3) := by decide +kernel
theorem dX12_stables_39 : decode cX12_stables 39 = .ok (.goto (-35), 3) := by decide +kernel
theorem dX12_stables_42 : decode cX12_stables 42 = .ok (.iload_n 2, 1) := by decide +kernel
theorem dX12_stables_43 : decode cX12_stables 43 = .ok (.ireturn, 1) := by decide +kernel
theorem cd_stables : Cond.code yX12_stables cX12_stables 4 (some .int) ∈ lw_g := mt_at 2376 (by decide +kernel) rfl
theorem mw_stables : mCw 505 yX12_stables cX12_stables 4 (some .int) 1 := ⟨cd_stables, mt_at 2373 (by decide +kernel) rfl, in_M, by decide +kernel⟩
theorem im_stables : Cond.instanceMethod yX12_stables ∈ lw_g := mt_at 2375 (by decide +kernel) rfl
theorem sl_stables : Cond.selects RX12 yX12_stables yX12_stables ∈ lw_g := mt_sel 110 (by decide +kernel) rfl
section
variable {p : Program} {l : Launch} {e : Env} {R : Room} {s : State} {m : MethodId} {args : Array Value} {below : List Frame} {meth : Method} {c : Code} {cM : ClassId} {iS : Nat → Nat} {cI cZ : ClassId} {mo : Nat} {ad : Nat → Nat} {S : mSt} {r : Int32}
noncomputable def fm_stables_34 (g_4 : Int32 → Int32 → Int32 → Option (Int32)) (S : mSt) (v1 : Int32) (v3 : Int32) (s0 : Int32) (s1 : Int32) : Option (Int32) :=
lt (s0 + s1) fun x1 =>
lt (v3 + (1 : Int32)) fun x2 =>
g_4 v1 x1 x2
set_option maxRecDepth 100000 in
set_option maxHeartbeats 4000000 in
theorem wm_stables_34 (C : mY p R s m args meth c cX12_stables 4 3 68 (some .int)) (X : mX s cM iS cI cZ mo ad) (hW : mW cM iS cI cZ mo ad S s.heap) {g_4 : Int32 → Int32 → Int32 → Option (Int32)} (hg_4 : ∀ {v1 : Int32} {v2 : Int32} {v3 : Int32} {ls : Array Slot}, g_4 v1 v2 v3 = some r → lv_has ls 4 [(0, .ref mo), (1, .int v1), (2, .int v2), (3, .int v3)] → W p l e R s m args below meth c s.heap [] 0 0 (MQ below (mQi r) args s 0 0 mNo) (F0 m 4 ls [])) : ∀ {v1 : Int32} {v3 : Int32} {s0 : Int32} {s1 : Int32} {ls : Array Slot}, fm_stables_34 g_4 S v1 v3 s0 s1 = some r → lv_has ls 4 [(0, .ref mo), (1, .int v1), (3, .int v3)] → W p l e R s m args below meth c s.heap [] 0 0 (MQ below (mQi r) args s 0 0 mNo) (F0 m 34 ls [.int s1, .int s0]) := by
  intro v1 v3 s0 s1 ls h hl
  unfold fm_stables_34 at h
  refine lv_iadd C.1 C.2.1 dX12_stables_34 ?_
  refine lt_ok h (fun x1 e_x1 h => ?_)
  refine lv_nm e_x1 ?_
  refine lv_istore_n (lv' := [(2, .int x1), (0, .ref mo), (1, .int v1), (3, .int v3)]) C.1 C.2.1 dX12_stables_35 rfl hl (by decide) rfl (fun ls hl => ?_)
  refine lt_ok h (fun x2 e_x2 h => ?_)
  refine lv_iinc (v := x2) (lv' := [(3, .int x2), (2, .int x1), (0, .ref mo), (1, .int v1)]) C.1 C.2.1 dX12_stables_36 hl (k := 3) rfl (by rw [← e_x2]; rfl) (by decide) rfl (fun ls hl => ?_)
  refine lv_goto (tgt := 4) C.1 C.2.1 dX12_stables_39 (by decide) ?_
  exact hg_4 h (lv_sub hl [2, 3, 1, 0] rfl)
noncomputable def fm_stables_4 (S : mSt) : Nat → Int32 → Int32 → Int32 → Option (Int32)
  | 0, _, _, _ => none
  | n + 1, v1, v2, v3 =>
    ck v1 4 (
    if (rd S 23 v1) ≤ v3 then (
    some v2)
    else (
    bd (fm_rowAt S v1 v3) fun r2 =>
    bd (fm_isStable S v1 r2) fun r3 =>
    if r3 = 0 then (
    fm_stables_34 (fm_stables_4 S n) S v1 v3 v2 (0 : Int32))
    else (
    fm_stables_34 (fm_stables_4 S n) S v1 v3 v2 (1 : Int32))))
set_option maxRecDepth 100000 in
set_option maxHeartbeats 4000000 in
theorem wm_stables_4 (C : mY p R s m args meth c cX12_stables 4 3 68 (some .int)) (X : mX s cM iS cI cZ mo ad) (hW : mW cM iS cI cZ mo ad S s.heap) : ∀ (n : Nat), ∀ {v1 : Int32} {v2 : Int32} {v3 : Int32} {ls : Array Slot}, fm_stables_4 S n v1 v2 v3 = some r → lv_has ls 4 [(0, .ref mo), (1, .int v1), (2, .int v2), (3, .int v3)] → W p l e R s m args below meth c s.heap [] 0 0 (MQ below (mQi r) args s 0 0 mNo) (F0 m 4 ls []) := by
  intro n
  induction n with
  | zero =>
    intro v1 v2 v3 ls h hl
    exact absurd (show (none : Option (Int32)) = _ from h) (fun q => by cases q)
  | succ n ih =>
    intro v1 v2 v3 ls h hl
    rw [fm_stables_4] at h
    refine lv_iload_n C.1 C.2.1 dX12_stables_4 rfl (lv_at hl 3 rfl) ?_
    refine lv_aload_n C.1 C.2.1 dX12_stables_5 rfl (lv_at hl 0 rfl) ?_
    refine gf_23 C X hW dX12_stables_6 ?_
    refine lv_iload_n C.1 C.2.1 dX12_stables_9 rfl (lv_at hl 1 rfl) ?_
    obtain ⟨hin, h⟩ := ck_ok h
    refine l_23 C X hW hin dX12_stables_10 ?_
    refine lv_icmp_ge (tgt := 42) C.1 C.2.1 dX12_stables_11 (by decide) (fun c1 => ?_) (fun c1 => ?_)
    · have h := if_t h c1
      refine lv_iload_n C.1 C.2.1 dX12_stables_42 rfl (lv_at hl 2 rfl) ?_
      cases h
      exact m_reti C rfl rfl dX12_stables_43
    · have h := if_f h c1
      refine lv_iload_n C.1 C.2.1 dX12_stables_14 rfl (lv_at hl 2 rfl) ?_
      refine lv_aload_n C.1 C.2.1 dX12_stables_15 rfl (lv_at hl 0 rfl) ?_
      refine lv_iload_n C.1 C.2.1 dX12_stables_16 rfl (lv_at hl 1 rfl) ?_
      refine lv_aload_n C.1 C.2.1 dX12_stables_17 rfl (lv_at hl 0 rfl) ?_
      refine lv_iload_n C.1 C.2.1 dX12_stables_18 rfl (lv_at hl 1 rfl) ?_
      refine lv_iload_n C.1 C.2.1 dX12_stables_19 rfl (lv_at hl 3 rfl) ?_
      obtain ⟨r2, h_r2, h⟩ := bd_ok h
      refine m_callR (rest := [.int v1, .ref mo, .int v2]) C X hW hl.1 [.int v1, .int v3] (tm_rowAt l h_r2) mw_rowAt im_rowAt sl_rowAt rfl ⟨by decide, by decide⟩ rfl (Nat.le_of_ble_eq_true rfl) dX12_stables_20 ?_
      obtain ⟨r3, h_r3, h⟩ := bd_ok h
      refine m_callR (rest := [.int v2]) C X hW hl.1 [.int v1, .int r2] (tm_isStable l h_r3) mw_isStable im_isStable sl_isStable rfl ⟨by decide, by decide⟩ rfl (Nat.le_of_ble_eq_true rfl) dX12_stables_23 ?_
      refine lv_if_eq (tgt := 33) C.1 C.2.1 dX12_stables_26 (by decide) (fun c4 => ?_) (fun c4 => ?_)
      · have h := if_t h c4
        refine lv_iconst (v := 0) C.1 C.2.1 dX12_stables_33 (by decide) ?_
        exact wm_stables_34 C X hW ih h (lv_sub hl [0, 1, 3] rfl)
      · have h := if_f h c4
        refine lv_iconst (v := 1) C.1 C.2.1 dX12_stables_29 (by decide) ?_
        refine lv_goto (tgt := 34) C.1 C.2.1 dX12_stables_30 (by decide) ?_
        exact wm_stables_34 C X hW ih h (lv_sub hl [0, 1, 3] rfl)
noncomputable def fm_stables (S : mSt) (v1 : Int32) : Option (Int32) :=
fm_stables_4 S mFU v1 (0 : Int32) (0 : Int32)
set_option maxRecDepth 100000 in
set_option maxHeartbeats 4000000 in
theorem tm_stables (l : Launch) {cM : ClassId} {iS : Nat → Nat} {cI cZ : ClassId} {mo : Nat} {ad : Nat → Nat} {S : mSt} {v1 : Int32} {r : Int32} (h : fm_stables S v1 = some r) : Met l yX12_stables (Cond.code yX12_stables cX12_stables 4 (some .int) :: lw_g) { frames := 3, cells := 0, slots := 0, locals := 68 } (mPi [.int v1] cM iS cI cZ mo ad S) (mQi r) 0 0 (mNo) := by
  refine Met.ofW (cc := cX12_stables) (maxL := 4) (ret := (some .int)) (by decide) rfl ?_
  intro p e s m args below meth c s₁ B hml hv
  obtain ⟨rfl, hW, X⟩ := hv
  have C : mY p (headSpec (Cond.code yX12_stables cX12_stables 4 (some .int) :: lw_g) { frames := 3, cells := 0, slots := 0, locals := 68 }).room s m _ meth c cX12_stables 4 3 68 (some .int) := ⟨B.exec, B.bytes, hml, findClass_of_methodNamed B.named, fun w hw => atoms_spec (ws := Cond.code yX12_stables cX12_stables 4 (some .int) :: lw_g) B.pre w (List.mem_cons_of_mem _ hw), ⟨Nat.le_refl _, Nat.le_refl _⟩, B.returns, B.notSynchronized⟩
  have hl := lv_entry ([.ref mo, .int v1]) (n := 4) (Nat.le_of_ble_eq_true rfl)
  rw [lg_entry_eq]
  generalize (lg_sl ([.ref mo, .int v1]) ++ List.replicate (4 - (lg_sl ([.ref mo, .int v1])).length) Slot.unset).toArray = ls at hl ⊢
  have hl : lv_has ls 4 [(0, .ref mo), (1, .int v1)] := hl
  unfold fm_stables at h
  refine lv_iconst (v := 0) C.1 C.2.1 dX12_stables_0 (by decide) ?_
  refine lv_istore_n (lv' := [(2, .int (0 : Int32)), (0, .ref mo), (1, .int v1)]) C.1 C.2.1 dX12_stables_1 rfl hl (by decide) rfl (fun ls hl => ?_)
  refine lv_iconst (v := 0) C.1 C.2.1 dX12_stables_2 (by decide) ?_
  refine lv_istore_n (lv' := [(3, .int (0 : Int32)), (2, .int (0 : Int32)), (0, .ref mo), (1, .int v1)]) C.1 C.2.1 dX12_stables_3 rfl hl (by decide) rfl (fun ls hl => ?_)
  exact wm_stables_4 C X hW mFU h (lv_sub hl [2, 3, 1, 0] rfl)
end
theorem dX12_there_0 : decode cX12_there 0 = .ok (.aload_n 0, 1) := by decide +kernel
theorem dX12_there_1 : decode cX12_there 1 = .ok (.iload_n 1, 1) := by decide +kernel
theorem dX12_there_2 : decode cX12_there 2 = .ok (.aload_n 0, 1) := by decide +kernel
theorem dX12_there_3 : decode cX12_there 3 = .ok (.getfield 71, 3) := by decide +kernel
theorem dX12_there_6 : decode cX12_there 6 = .ok (.iload_n 1, 1) := by decide +kernel
theorem dX12_there_7 : decode cX12_there 7 = .ok (.iaload, 1) := by decide +kernel
theorem dX12_there_8 : decode cX12_there 8 = .ok (.invokevirtual 312, 3) := by decide +kernel
theorem dX12_there_11 : decode cX12_there 11 = .ok (.iconst 0, 1) := by decide +kernel
theorem dX12_there_12 : decode cX12_there 12 = .ok (.istore_n 2, 1) := by decide +kernel
theorem dX12_there_13 : decode cX12_there 13 = .ok (.iconst 0, 1) := by decide +kernel
theorem dX12_there_14 : decode cX12_there 14 = .ok (.istore_n 3, 1) := by decide +kernel
theorem dX12_there_15 : decode cX12_there 15 = .ok (.iload_n 3, 1) := by decide +kernel
theorem dX12_there_16 : decode cX12_there 16 = .ok (.aload_n 0, 1) := by decide +kernel
theorem dX12_there_17 : decode cX12_there 17 = .ok (.getfield 309, 3) := by decide +kernel
theorem dX12_there_20 : decode cX12_there 20 = .ok (.if_icmp .ge 31, 3) := by decide +kernel
theorem dX12_there_23 : decode cX12_there 23 = .ok (.iload_n 2, 1) := by decide +kernel
theorem dX12_there_24 : decode cX12_there 24 = .ok (.aload_n 0, 1) := by decide +kernel
theorem dX12_there_25 : decode cX12_there 25 = .ok (.iload_n 1, 1) := by decide +kernel
theorem dX12_there_26 : decode cX12_there 26 = .ok (.aload_n 0, 1) := by decide +kernel
theorem dX12_there_27 : decode cX12_there 27 = .ok (.getfield 148, 3) := by decide +kernel
theorem dX12_there_30 : decode cX12_there 30 = .ok (.iload_n 3, 1) := by decide +kernel
theorem dX12_there_31 : decode cX12_there 31 = .ok (.iaload, 1) := by decide +kernel
theorem dX12_there_32 : decode cX12_there 32 = .ok (.invokevirtual 365, 3) := by decide +kernel
theorem dX12_there_35 : decode cX12_there 35 = .ok (.ifCond .eq 7, 3) := by decide +kernel
theorem dX12_there_38 : decode cX12_there 38 = .ok (.iconst 1, 1) := by decide +kernel
theorem dX12_there_39 : decode cX12_there 39 = .ok (.goto 4, 3) := by decide +kernel
theorem dX12_there_42 : decode cX12_there 42 = .ok (.iconst 0, 1) := by decide +kernel
theorem dX12_there_43 : decode cX12_there 43 = .ok (.iadd, 1) := by decide +kernel
theorem dX12_there_44 : decode cX12_there 44 = .ok (.istore_n 2, 1) := by decide +kernel
theorem dX12_there_45 : decode cX12_there 45 = .ok (.iinc 3 1, 3) := by decide +kernel
theorem dX12_there_48 : decode cX12_there 48 = .ok (.goto (-33), 3) := by decide +kernel
theorem dX12_there_51 : decode cX12_there 51 = .ok (.iload_n 2, 1) := by decide +kernel
theorem dX12_there_52 : decode cX12_there 52 = .ok (.ireturn, 1) := by decide +kernel
theorem cd_there : Cond.code yX12_there cX12_there 4 (some .int) ∈ lw_g := mt_at 2372 (by decide +kernel) rfl
theorem mw_there : mCw 503 yX12_there cX12_there 4 (some .int) 1 := ⟨cd_there, mt_at 2369 (by decide +kernel) rfl, in_M, by decide +kernel⟩
theorem im_there : Cond.instanceMethod yX12_there ∈ lw_g := mt_at 2371 (by decide +kernel) rfl
theorem sl_there : Cond.selects RX12 yX12_there yX12_there ∈ lw_g := mt_sel 109 (by decide +kernel) rfl
section
variable {p : Program} {l : Launch} {e : Env} {R : Room} {s : State} {m : MethodId} {args : Array Value} {below : List Frame} {meth : Method} {c : Code} {cM : ClassId} {iS : Nat → Nat} {cI cZ : ClassId} {mo : Nat} {ad : Nat → Nat} {r : Int32} {S9 : mSt}
noncomputable def fm_there_43 (g_15 : mSt → Int32 → Int32 → Int32 → Option (Int32 × mSt)) (S : mSt) (v1 : Int32) (v3 : Int32) (s0 : Int32) (s1 : Int32) : Option (Int32 × mSt) :=
lt (s0 + s1) fun x1 =>
lt (v3 + (1 : Int32)) fun x2 =>
g_15 S v1 x1 x2
set_option maxRecDepth 100000 in
set_option maxHeartbeats 4000000 in
theorem wm_there_43 (C : mY p R s m args meth c cX12_there 4 5 116 (some .int)) (X : mX s cM iS cI cZ mo ad) {g_15 : mSt → Int32 → Int32 → Int32 → Option (Int32 × mSt)} (hg_15 : ∀ {S : mSt} {v1 : Int32} {v2 : Int32} {v3 : Int32} {H : Heap} {locs : List Loc} {ls : Array Slot}, g_15 S v1 v2 v3 = some (r, S9) → mW cM iS cI cZ mo ad S H → mS (mA mo ad) s.heap H locs → lv_has ls 4 [(0, .ref mo), (1, .int v1), (2, .int v2), (3, .int v3)] → W p l e R s m args below meth c H locs 0 0 (MQ below (mQw (some (.int r)) cM iS cI cZ mo ad S9) args s 0 0 (mA mo ad)) (F0 m 15 ls [])) : ∀ {S : mSt} {v1 : Int32} {v3 : Int32} {s0 : Int32} {s1 : Int32} {H : Heap} {locs : List Loc} {ls : Array Slot}, fm_there_43 g_15 S v1 v3 s0 s1 = some (r, S9) → mW cM iS cI cZ mo ad S H → mS (mA mo ad) s.heap H locs → lv_has ls 4 [(0, .ref mo), (1, .int v1), (3, .int v3)] → W p l e R s m args below meth c H locs 0 0 (MQ below (mQw (some (.int r)) cM iS cI cZ mo ad S9) args s 0 0 (mA mo ad)) (F0 m 43 ls [.int s1, .int s0]) := by
  intro S v1 v3 s0 s1 H locs ls h hW hS hl
  unfold fm_there_43 at h
  refine lv_iadd C.1 C.2.1 dX12_there_43 ?_
  refine lt_ok h (fun x1 e_x1 h => ?_)
  refine lv_nm e_x1 ?_
  refine lv_istore_n (lv' := [(2, .int x1), (0, .ref mo), (1, .int v1), (3, .int v3)]) C.1 C.2.1 dX12_there_44 rfl hl (by decide) rfl (fun ls hl => ?_)
  refine lt_ok h (fun x2 e_x2 h => ?_)
  refine lv_iinc (v := x2) (lv' := [(3, .int x2), (2, .int x1), (0, .ref mo), (1, .int v1)]) C.1 C.2.1 dX12_there_45 hl (k := 3) rfl (by rw [← e_x2]; rfl) (by decide) rfl (fun ls hl => ?_)
  refine lv_goto (tgt := 15) C.1 C.2.1 dX12_there_48 (by decide) ?_
  exact hg_15 h hW hS (lv_sub hl [2, 3, 1, 0] rfl)
noncomputable def fm_there_15 : Nat → mSt → Int32 → Int32 → Int32 → Option (Int32 × mSt)
  | 0, _, _, _, _ => none
  | n + 1, S, v1, v2, v3 =>
    if (S.1 54) ≤ v3 then (
    some (v2, S))
    else (
    ck v3 48 (
    bd (fm_isThereNow S v1 (rd S 55 v3)) fun q_r3 => lt q_r3.1 fun r3 => lt q_r3.2 fun S2 =>
    if r3 = 0 then (
    fm_there_43 (fm_there_15 n) S2 v1 v3 v2 (0 : Int32))
    else (
    fm_there_43 (fm_there_15 n) S2 v1 v3 v2 (1 : Int32))))
set_option maxRecDepth 100000 in
set_option maxHeartbeats 4000000 in
theorem wm_there_15 (C : mY p R s m args meth c cX12_there 4 5 116 (some .int)) (X : mX s cM iS cI cZ mo ad) : ∀ (n : Nat), ∀ {S : mSt} {v1 : Int32} {v2 : Int32} {v3 : Int32} {H : Heap} {locs : List Loc} {ls : Array Slot}, fm_there_15 n S v1 v2 v3 = some (r, S9) → mW cM iS cI cZ mo ad S H → mS (mA mo ad) s.heap H locs → lv_has ls 4 [(0, .ref mo), (1, .int v1), (2, .int v2), (3, .int v3)] → W p l e R s m args below meth c H locs 0 0 (MQ below (mQw (some (.int r)) cM iS cI cZ mo ad S9) args s 0 0 (mA mo ad)) (F0 m 15 ls []) := by
  intro n
  induction n with
  | zero =>
    intro S v1 v2 v3 H locs ls h hW hS hl
    exact absurd (show (none : Option (Int32 × mSt)) = _ from h) (fun q => by cases q)
  | succ n ih =>
    intro S v1 v2 v3 H locs ls h hW hS hl
    rw [fm_there_15] at h
    refine lv_iload_n C.1 C.2.1 dX12_there_15 rfl (lv_at hl 3 rfl) ?_
    refine lv_aload_n C.1 C.2.1 dX12_there_16 rfl (lv_at hl 0 rfl) ?_
    refine gf_54 C X hW dX12_there_17 ?_
    refine lv_icmp_ge (tgt := 51) C.1 C.2.1 dX12_there_20 (by decide) (fun c1 => ?_) (fun c1 => ?_)
    · have h := if_t h c1
      refine lv_iload_n C.1 C.2.1 dX12_there_51 rfl (lv_at hl 2 rfl) ?_
      cases h
      exact m_retiW C hW hS dX12_there_52
    · have h := if_f h c1
      refine lv_iload_n C.1 C.2.1 dX12_there_23 rfl (lv_at hl 2 rfl) ?_
      refine lv_aload_n C.1 C.2.1 dX12_there_24 rfl (lv_at hl 0 rfl) ?_
      refine lv_iload_n C.1 C.2.1 dX12_there_25 rfl (lv_at hl 1 rfl) ?_
      refine lv_aload_n C.1 C.2.1 dX12_there_26 rfl (lv_at hl 0 rfl) ?_
      refine gf_55 C X hW dX12_there_27 ?_
      refine lv_iload_n C.1 C.2.1 dX12_there_30 rfl (lv_at hl 3 rfl) ?_
      obtain ⟨hin, h⟩ := ck_ok h
      refine l_55 C X hW hin dX12_there_31 ?_
      obtain ⟨⟨r3, S2⟩, h_S2, h⟩ := bd_ok h
      replace h := lt2_ok h
      refine m_callW (rest := [.int v2]) (ov := some (.int r3)) C X hW hS hl.1 [.int v1, .int (rd S 55 v3)] (tm_isThereNow l h_S2) mw_isThereNow im_isThereNow sl_isThereNow rfl ⟨by decide, by decide⟩ rfl (Nat.le_of_ble_eq_true rfl) dX12_there_32 (fun H locs hW hS => ?_)
      refine W.eq (g2 := F0 m 35 ls [.int r3, .int v2]) rfl ?_
      refine lv_if_eq (tgt := 42) C.1 C.2.1 dX12_there_35 (by decide) (fun c4 => ?_) (fun c4 => ?_)
      · have h := if_t h c4
        refine lv_iconst (v := 0) C.1 C.2.1 dX12_there_42 (by decide) ?_
        exact wm_there_43 C X ih h hW hS (lv_sub hl [0, 1, 3] rfl)
      · have h := if_f h c4
        refine lv_iconst (v := 1) C.1 C.2.1 dX12_there_38 (by decide) ?_
        refine lv_goto (tgt := 43) C.1 C.2.1 dX12_there_39 (by decide) ?_
        exact wm_there_43 C X ih h hW hS (lv_sub hl [0, 1, 3] rfl)
noncomputable def fm_there (S : mSt) (v1 : Int32) : Option (Int32 × mSt) :=
ck v1 4 (
bd (fm_findObjects S v1 (rd S 23 v1)) fun S1 =>
fm_there_15 mFU S1 v1 (0 : Int32) (0 : Int32))
set_option maxRecDepth 100000 in
set_option maxHeartbeats 4000000 in
theorem tm_there (l : Launch) {cM : ClassId} {iS : Nat → Nat} {cI cZ : ClassId} {mo : Nat} {ad : Nat → Nat} {S : mSt} {v1 : Int32} {r : Int32} {S9 : mSt} (h : fm_there S v1 = some (r, S9)) : Met l yX12_there (Cond.code yX12_there cX12_there 4 (some .int) :: lw_g) { frames := 5, cells := 0, slots := 0, locals := 116 } (mPi [.int v1] cM iS cI cZ mo ad S) (mQw (some (.int r)) cM iS cI cZ mo ad S9) 0 0 (mA mo ad) := by
  refine Met.ofW (cc := cX12_there) (maxL := 4) (ret := (some .int)) (by decide) rfl ?_
  intro p e s m args below meth c s₁ B hml hv
  obtain ⟨rfl, hW, X⟩ := hv
  have C : mY p (headSpec (Cond.code yX12_there cX12_there 4 (some .int) :: lw_g) { frames := 5, cells := 0, slots := 0, locals := 116 }).room s m _ meth c cX12_there 4 5 116 (some .int) := ⟨B.exec, B.bytes, hml, findClass_of_methodNamed B.named, fun w hw => atoms_spec (ws := Cond.code yX12_there cX12_there 4 (some .int) :: lw_g) B.pre w (List.mem_cons_of_mem _ hw), ⟨Nat.le_refl _, Nat.le_refl _⟩, B.returns, B.notSynchronized⟩
  have hl := lv_entry ([.ref mo, .int v1]) (n := 4) (Nat.le_of_ble_eq_true rfl)
  rw [lg_entry_eq]
  generalize (lg_sl ([.ref mo, .int v1]) ++ List.replicate (4 - (lg_sl ([.ref mo, .int v1])).length) Slot.unset).toArray = ls at hl ⊢
  have hl : lv_has ls 4 [(0, .ref mo), (1, .int v1)] := hl
  have hS : mS (mA mo ad) s.heap s.heap [] := mS.rf
  unfold fm_there at h
  refine lv_aload_n C.1 C.2.1 dX12_there_0 rfl (lv_at hl 0 rfl) ?_
  refine lv_iload_n C.1 C.2.1 dX12_there_1 rfl (lv_at hl 1 rfl) ?_
  refine lv_aload_n C.1 C.2.1 dX12_there_2 rfl (lv_at hl 0 rfl) ?_
  refine gf_23 C X hW dX12_there_3 ?_
  refine lv_iload_n C.1 C.2.1 dX12_there_6 rfl (lv_at hl 1 rfl) ?_
  obtain ⟨hin, h⟩ := ck_ok h
  refine l_23 C X hW hin dX12_there_7 ?_
  obtain ⟨S1, h_S1, h⟩ := bd_ok h
  refine m_callW (rest := []) (ov := none) C X hW hS hl.1 [.int v1, .int (rd S 23 v1)] (tm_findObjects l h_S1) mw_findObjects im_findObjects sl_findObjects rfl ⟨by decide, by decide⟩ rfl (Nat.le_of_ble_eq_true rfl) dX12_there_8 (fun H locs hW hS => ?_)
  refine W.eq (g2 := F0 m 11 ls []) rfl ?_
  refine lv_iconst (v := 0) C.1 C.2.1 dX12_there_11 (by decide) ?_
  refine lv_istore_n (lv' := [(2, .int (0 : Int32)), (0, .ref mo), (1, .int v1)]) C.1 C.2.1 dX12_there_12 rfl hl (by decide) rfl (fun ls hl => ?_)
  refine lv_iconst (v := 0) C.1 C.2.1 dX12_there_13 (by decide) ?_
  refine lv_istore_n (lv' := [(3, .int (0 : Int32)), (2, .int (0 : Int32)), (0, .ref mo), (1, .int v1)]) C.1 C.2.1 dX12_there_14 rfl hl (by decide) rfl (fun ls hl => ?_)
  exact wm_there_15 C X mFU h hW hS (lv_sub hl [2, 3, 1, 0] rfl)
end
theorem dX12_node_0 : decode cX12_node 0 = .ok (.aload_n 0, 1) := by decide +kernel
theorem dX12_node_1 : decode cX12_node 1 = .ok (.iconst 0, 1) := by decide +kernel
theorem dX12_node_2 : decode cX12_node 2 = .ok (.putfield 200, 3) := by decide +kernel
theorem dX12_node_5 : decode cX12_node 5 = .ok (.iload_n 1, 1) := by decide +kernel
theorem dX12_node_6 : decode cX12_node 6 = .ok (.iconst 0, 1) := by decide +kernel
theorem dX12_node_7 : decode cX12_node 7 = .ok (.iconst 3, 1) := by decide +kernel
theorem dX12_node_8 : decode cX12_node 8 = .ok (.invokestatic 215, 3) := by decide +kernel
theorem dX12_node_11 : decode cX12_node 11 = .ok (.ifCond .ne 5, 3) := by decide +kernel
theorem dX12_node_14 : decode cX12_node 14 = .ok (.iconst (-1), 1) := by decide +kernel
theorem dX12_node_15 : decode cX12_node 15 = .ok (.ireturn, 1) := by decide +kernel
theorem dX12_node_16 : decode cX12_node 16 = .ok (.iload_n 2, 1) := by decide +kernel
theorem dX12_node_17 : decode cX12_node 17 = .ok (.bipush 10, 2) := by decide +kernel
theorem dX12_node_19 : decode cX12_node 19 = .ok (.bipush 13, 2) := by decide +kernel
theorem dX12_node_21 : decode cX12_node 21 = .ok (.invokestatic 215, 3) := by decide +kernel
theorem dX12_node_24 : decode cX12_node 24 = .ok (.ifCond .eq 13, 3) := by decide +kernel
theorem dX12_node_27 : decode cX12_node 27 = .ok (.aload_n 0, 1) := by decide +kernel
theorem dX12_node_28 : decode cX12_node 28 = .ok (.iload_n 1, 1) := by decide +kernel
theorem dX12_node_29 : decode cX12_node 29 = .ok (.iload_n 2, 1) := by decide +kernel
theorem dX12_node_30 : decode cX12_node 30 = .ok (.bipush 10, 2) := by decide +kernel
theorem dX12_node_32 : decode cX12_node 32 = .ok (.isub, 1) := by decide +kernel
theorem dX12_node_33 : decode cX12_node 33 = .ok (.invokevirtual 226, 3) := by decide +kernel
theorem dX12_node_36 : decode cX12_node 36 = .ok (.ireturn, 1) := by decide +kernel
theorem dX12_node_37 : decode cX12_node 37 = .ok (.iload_n 2, 1) := by decide +kernel
theorem dX12_node_38 : decode cX12_node 38 = .ok (.bipush 20, 2) := by decide +kernel
theorem dX12_node_40 : decode cX12_node 40 = .ok (.bipush 35, 2) := by decide +kernel
theorem dX12_node_42 : decode cX12_node 42 = .ok (.invokestatic 215, 3) := by decide +kernel
theorem dX12_node_45 : decode cX12_node 45 = .ok (.ifCond .eq 21, 3) := by decide +kernel
theorem dX12_node_48 : decode cX12_node 48 = .ok (.aload_n 0, 1) := by decide +kernel
theorem dX12_node_49 : decode cX12_node 49 = .ok (.iload_n 1, 1) := by decide +kernel
theorem dX12_node_50 : decode cX12_node 50 = .ok (.iload_n 2, 1) := by decide +kernel
theorem dX12_node_51 : decode cX12_node 51 = .ok (.bipush 20, 2) := by decide +kernel
theorem dX12_node_53 : decode cX12_node 53 = .ok (.isub, 1) := by decide +kernel
theorem dX12_node_54 : decode cX12_node 54 = .ok (.iconst 4, 1) := by decide +kernel
theorem dX12_node_55 : decode cX12_node 55 = .ok (.idiv, 1) := by decide +kernel
theorem dX12_node_56 : decode cX12_node 56 = .ok (.iload_n 2, 1) := by decide +kernel
theorem dX12_node_57 : decode cX12_node 57 = .ok (.bipush 20, 2) := by decide +kernel
theorem dX12_node_59 : decode cX12_node 59 = .ok (.isub, 1) := by decide +kernel
theorem dX12_node_60 : decode cX12_node 60 = .ok (.iconst 4, 1) := by decide +kernel
theorem dX12_node_61 : decode cX12_node 61 = .ok (.irem, 1) := by decide +kernel
theorem dX12_node_62 : decode cX12_node 62 = .ok (.invokevirtual 333, 3) := by decide +kernel
theorem dX12_node_65 : decode cX12_node 65 = .ok (.ireturn, 1) := by decide +kernel
theorem dX12_node_66 : decode cX12_node 66 = .ok (.iload_n 2, 1) := by decide +kernel
theorem dX12_node_67 : decode cX12_node 67 = .ok (.bipush 40, 2) := by decide +kernel
theorem dX12_node_69 : decode cX12_node 69 = .ok (.bipush 55, 2) := by decide +kernel
theorem dX12_node_71 : decode cX12_node 71 = .ok (.invokestatic 215, 3) := by decide +kernel
theorem dX12_node_74 : decode cX12_node 74 = .ok (.ifCond .eq 21, 3) := by decide +kernel
theorem dX12_node_77 : decode cX12_node 77 = .ok (.aload_n 0, 1) := by decide +kernel
theorem dX12_node_78 : decode cX12_node 78 = .ok (.iload_n 1, 1) := by decide +kernel
theorem dX12_node_79 : decode cX12_node 79 = .ok (.iload_n 2, 1) := by decide +kernel
theorem dX12_node_80 : decode cX12_node 80 = .ok (.bipush 40, 2) := by decide +kernel
theorem dX12_node_82 : decode cX12_node 82 = .ok (.isub, 1) := by decide +kernel
theorem dX12_node_83 : decode cX12_node 83 = .ok (.iconst 4, 1) := by decide +kernel
theorem dX12_node_84 : decode cX12_node 84 = .ok (.idiv, 1) := by decide +kernel
theorem dX12_node_85 : decode cX12_node 85 = .ok (.iload_n 2, 1) := by decide +kernel
theorem dX12_node_86 : decode cX12_node 86 = .ok (.bipush 40, 2) := by decide +kernel
theorem dX12_node_88 : decode cX12_node 88 = .ok (.isub, 1) := by decide +kernel
theorem dX12_node_89 : decode cX12_node 89 = .ok (.iconst 4, 1) := by decide +kernel
theorem dX12_node_90 : decode cX12_node 90 = .ok (.irem, 1) := by decide +kernel
theorem dX12_node_91 : decode cX12_node 91 = .ok (.invokevirtual 431, 3) := by decide +kernel
theorem dX12_node_94 : decode cX12_node 94 = .ok (.ireturn, 1) := by decide +kernel
theorem dX12_node_95 : decode cX12_node 95 = .ok (.iload_n 2, 1) := by decide +kernel
theorem dX12_node_96 : decode cX12_node 96 = .ok (.tableswitch 123 0 9 #[56, 63, 70, 77, 84, 90, 97, 104, 110, 117], 56) := by decide +kernel
theorem dX12_node_152 : decode cX12_node 152 = .ok (.aload_n 0, 1) := by decide +kernel
theorem dX12_node_153 : decode cX12_node 153 = .ok (.getfield 53, 3) := by decide +kernel
theorem dX12_node_156 : decode cX12_node 156 = .ok (.iload_n 1, 1) := by decide +kernel
theorem dX12_node_157 : decode cX12_node 157 = .ok (.iaload, 1) := by decide +kernel
theorem dX12_node_158 : decode cX12_node 158 = .ok (.ireturn, 1) := by decide +kernel
theorem dX12_node_159 : decode cX12_node 159 = .ok (.aload_n 0, 1) := by decide +kernel
theorem dX12_node_160 : decode cX12_node 160 = .ok (.getfield 71, 3) := by decide +kernel
theorem dX12_node_163 : decode cX12_node 163 = .ok (.iload_n 1, 1) := by decide +kernel
theorem dX12_node_164 : decode cX12_node 164 = .ok (.iaload, 1) := by decide +kernel
theorem dX12_node_165 : decode cX12_node 165 = .ok (.ireturn, 1) := by decide +kernel
theorem dX12_node_166 : decode cX12_node 166 = .ok (.aload_n 0, 1) := by decide +kernel
theorem dX12_node_167 : decode cX12_node 167 = .ok (.getfield 77, 3) := by decide +kernel
theorem dX12_node_170 : decode cX12_node 170 = .ok (.iload_n 1, 1) := by decide +kernel
theorem dX12_node_171 : decode cX12_node 171 = .ok (.iaload, 1) := by decide +kernel
theorem dX12_node_172 : decode cX12_node 172 = .ok (.ireturn, 1) := by decide +kernel
theorem dX12_node_173 : decode cX12_node 173 = .ok (.aload_n 0, 1) := by decide +kernel
theorem dX12_node_174 : decode cX12_node 174 = .ok (.getfield 83, 3) := by decide +kernel
theorem dX12_node_177 : decode cX12_node 177 = .ok (.iload_n 1, 1) := by decide +kernel
theorem dX12_node_178 : decode cX12_node 178 = .ok (.iaload, 1) := by decide +kernel
theorem dX12_node_179 : decode cX12_node 179 = .ok (.ireturn, 1) := by decide +kernel
theorem dX12_node_180 : decode cX12_node 180 = .ok (.aload_n 0, 1) := by decide +kernel
theorem dX12_node_181 : decode cX12_node 181 = .ok (.iload_n 1, 1) := by decide +kernel
theorem dX12_node_182 : decode cX12_node 182 = .ok (.invokevirtual 503, 3) := by decide +kernel
theorem dX12_node_185 : decode cX12_node 185 = .ok (.ireturn, 1) := by decide +kernel
theorem dX12_node_186 : decode cX12_node 186 = .ok (.aload_n 0, 1) := by decide +kernel
theorem dX12_node_187 : decode cX12_node 187 = .ok (.getfield 56, 3) := by decide +kernel
theorem dX12_node_190 : decode cX12_node 190 = .ok (.iload_n 1, 1) := by decide +kernel
theorem dX12_node_191 : decode cX12_node 191 = .ok (.iaload, 1) := by decide +kernel
theorem dX12_node_192 : decode cX12_node 192 = .ok (.ireturn, 1) := by decide +kernel
theorem dX12_node_193 : decode cX12_node 193 = .ok (.aload_n 0, 1) := by decide +kernel
theorem dX12_node_194 : decode cX12_node 194 = .ok (.getfield 59, 3) := by decide +kernel
theorem dX12_node_197 : decode cX12_node 197 = .ok (.iload_n 1, 1) := by decide +kernel
theorem dX12_node_198 : decode cX12_node 198 = .ok (.iaload, 1) := by decide +kernel
theorem dX12_node_199 : decode cX12_node 199 = .ok (.ireturn, 1) := by decide +kernel
theorem dX12_node_200 : decode cX12_node 200 = .ok (.aload_n 0, 1) := by decide +kernel
theorem dX12_node_201 : decode cX12_node 201 = .ok (.iload_n 1, 1) := by decide +kernel
theorem dX12_node_202 : decode cX12_node 202 = .ok (.invokevirtual 505, 3) := by decide +kernel
theorem dX12_node_205 : decode cX12_node 205 = .ok (.ireturn, 1) := by decide +kernel
theorem dX12_node_206 : decode cX12_node 206 = .ok (.aload_n 0, 1) := by decide +kernel
theorem dX12_node_207 : decode cX12_node 207 = .ok (.getfield 114, 3) := by decide +kernel
theorem dX12_node_210 : decode cX12_node 210 = .ok (.iload_n 1, 1) := by decide +kernel
theorem dX12_node_211 : decode cX12_node 211 = .ok (.iaload, 1) := by decide +kernel
theorem dX12_node_212 : decode cX12_node 212 = .ok (.ireturn, 1) := by decide +kernel
theorem dX12_node_213 : decode cX12_node 213 = .ok (.aload_n 0, 1) := by decide +kernel
theorem dX12_node_214 : decode cX12_node 214 = .ok (.iload_n 1, 1) := by decide +kernel
theorem dX12_node_215 : decode cX12_node 215 = .ok (.invokevirtual 330, 3) := by decide +kernel
theorem dX12_node_218 : decode cX12_node 218 = .ok (.ireturn, 1) := by decide +kernel
theorem dX12_node_219 : decode cX12_node 219 = .ok (.iconst (-1), 1) := by decide +kernel
theorem dX12_node_220 : decode cX12_node 220 = .ok (.ireturn, 1) := by decide +kernel
theorem cd_node : Cond.code yX12_node cX12_node 3 (some .int) ∈ lw_g := mt_at 2368 (by decide +kernel) rfl
section
variable {p : Program} {l : Launch} {e : Env} {R : Room} {s : State} {m : MethodId} {args : Array Value} {below : List Frame} {meth : Method} {c : Code} {cM : ClassId} {iS : Nat → Nat} {cI cZ : ClassId} {mo : Nat} {ad : Nat → Nat} {r : Int32} {S9 : mSt}
noncomputable def fm_node (S : mSt) (v1 : Int32) (v2 : Int32) : Option (Int32 × mSt) :=
lt (pu S 0 (0 : Int32)) fun S1 =>
bd (fm_within v1 (0 : Int32) (3 : Int32)) fun r2 =>
if r2 = 0 then (
some ((-1 : Int32), S1))
else (
bd (fm_within v2 (10 : Int32) (13 : Int32)) fun r4 =>
if r4 = 0 then (
bd (fm_within v2 (20 : Int32) (35 : Int32)) fun r6 =>
if r6 = 0 then (
bd (fm_within v2 (40 : Int32) (55 : Int32)) fun r8 =>
if r8 = 0 then (
if v2 = (0 : Int32) then (
ck v1 4 (
some (rd S1 17 v1, S1)))
else if v2 = (1 : Int32) then (
ck v1 4 (
some (rd S1 23 v1, S1)))
else if v2 = (2 : Int32) then (
ck v1 4 (
some (rd S1 25 v1, S1)))
else if v2 = (3 : Int32) then (
ck v1 4 (
some (rd S1 27 v1, S1)))
else if v2 = (4 : Int32) then (
bd (fm_there S1 v1) fun q_r16 => lt q_r16.1 fun r16 => lt q_r16.2 fun S15 =>
some (r16, S15))
else if v2 = (5 : Int32) then (
ck v1 4 (
some (rd S1 18 v1, S1)))
else if v2 = (6 : Int32) then (
ck v1 4 (
some (rd S1 19 v1, S1)))
else if v2 = (7 : Int32) then (
bd (fm_stables S1 v1) fun r20 =>
some (r20, S1))
else if v2 = (8 : Int32) then (
ck v1 4 (
some (rd S1 37 v1, S1)))
else if v2 = (9 : Int32) then (
bd (fm_nowOf S1 v1) fun r23 =>
some (r23, S1))
else (
some ((-1 : Int32), S1)))
else (
bd (fm_sentOf S1 v1 ((v2 - (40 : Int32)) / (4 : Int32)) ((v2 - (40 : Int32)) - (v2 - (40 : Int32)) / (4 : Int32) * (4 : Int32))) fun r24 =>
some (r24, S1)))
else (
bd (fm_seenOf S1 v1 ((v2 - (20 : Int32)) / (4 : Int32)) ((v2 - (20 : Int32)) - (v2 - (20 : Int32)) / (4 : Int32) * (4 : Int32))) fun r25 =>
some (r25, S1)))
else (
bd (fm_knownOf S1 v1 (v2 - (10 : Int32))) fun r26 =>
some (r26, S1)))
set_option maxRecDepth 100000 in
set_option maxHeartbeats 4000000 in
theorem tm_node (l : Launch) {cM : ClassId} {iS : Nat → Nat} {cI cZ : ClassId} {mo : Nat} {ad : Nat → Nat} {S : mSt} {v1 : Int32} {v2 : Int32} {r : Int32} {S9 : mSt} (h : fm_node S v1 v2 = some (r, S9)) : Met l yX12_node (Cond.code yX12_node cX12_node 3 (some .int) :: lw_g) { frames := 6, cells := 0, slots := 0, locals := 139 } (mPi [.int v1, .int v2] cM iS cI cZ mo ad S) (mQw (some (.int r)) cM iS cI cZ mo ad S9) 0 0 (mA mo ad) := by
  refine Met.ofW (cc := cX12_node) (maxL := 3) (ret := (some .int)) (by decide) rfl ?_
  intro p e s m args below meth c s₁ B hml hv
  obtain ⟨rfl, hW, X⟩ := hv
  have C : mY p (headSpec (Cond.code yX12_node cX12_node 3 (some .int) :: lw_g) { frames := 6, cells := 0, slots := 0, locals := 139 }).room s m _ meth c cX12_node 3 6 139 (some .int) := ⟨B.exec, B.bytes, hml, findClass_of_methodNamed B.named, fun w hw => atoms_spec (ws := Cond.code yX12_node cX12_node 3 (some .int) :: lw_g) B.pre w (List.mem_cons_of_mem _ hw), ⟨Nat.le_refl _, Nat.le_refl _⟩, B.returns, B.notSynchronized⟩
  have hl := lv_entry ([.ref mo, .int v1, .int v2]) (n := 3) (Nat.le_of_ble_eq_true rfl)
  rw [lg_entry_eq]
  generalize (lg_sl ([.ref mo, .int v1, .int v2]) ++ List.replicate (3 - (lg_sl ([.ref mo, .int v1, .int v2])).length) Slot.unset).toArray = ls at hl ⊢
  have hl : lv_has ls 3 [(0, .ref mo), (1, .int v1), (2, .int v2)] := hl
  have hS : mS (mA mo ad) s.heap s.heap [] := mS.rf
  unfold fm_node at h
  refine lv_aload_n C.1 C.2.1 dX12_node_0 rfl (lv_at hl 0 rfl) ?_
  refine lv_iconst (v := 0) C.1 C.2.1 dX12_node_1 (by decide) ?_
  refine p_0 C X hW hS dX12_node_2 (fun H locs hW hS => ?_)
  refine lt_ok h (fun S1 e_S1 h => ?_)
  rw [e_S1] at hW
  refine lv_iload_n C.1 C.2.1 dX12_node_5 rfl (lv_at hl 1 rfl) ?_
  refine lv_iconst (v := 0) C.1 C.2.1 dX12_node_6 (by decide) ?_
  refine lv_iconst (v := 3) C.1 C.2.1 dX12_node_7 (by decide) ?_
  obtain ⟨r2, h_r2, h⟩ := bd_ok h
  refine m_callS (rest := []) C hl.1 [.int v1, .int (0 : Int32), .int (3 : Int32)] (tm_within l h_r2) mw_within st_within rfl ⟨by decide, by decide⟩ rfl (Nat.le_of_ble_eq_true rfl) dX12_node_8 ?_
  refine lv_if_ne (tgt := 16) C.1 C.2.1 dX12_node_11 (by decide) (fun c3 => ?_) (fun c3 => ?_)
  · have h := if_f h c3
    refine lv_iload_n C.1 C.2.1 dX12_node_16 rfl (lv_at hl 2 rfl) ?_
    refine lv_bipush (v := 10) C.1 C.2.1 dX12_node_17 (by decide) ?_
    refine lv_bipush (v := 13) C.1 C.2.1 dX12_node_19 (by decide) ?_
    obtain ⟨r4, h_r4, h⟩ := bd_ok h
    refine m_callS (rest := []) C hl.1 [.int v2, .int (10 : Int32), .int (13 : Int32)] (tm_within l h_r4) mw_within st_within rfl ⟨by decide, by decide⟩ rfl (Nat.le_of_ble_eq_true rfl) dX12_node_21 ?_
    refine lv_if_eq (tgt := 37) C.1 C.2.1 dX12_node_24 (by decide) (fun c5 => ?_) (fun c5 => ?_)
    · have h := if_t h c5
      refine lv_iload_n C.1 C.2.1 dX12_node_37 rfl (lv_at hl 2 rfl) ?_
      refine lv_bipush (v := 20) C.1 C.2.1 dX12_node_38 (by decide) ?_
      refine lv_bipush (v := 35) C.1 C.2.1 dX12_node_40 (by decide) ?_
      obtain ⟨r6, h_r6, h⟩ := bd_ok h
      refine m_callS (rest := []) C hl.1 [.int v2, .int (20 : Int32), .int (35 : Int32)] (tm_within l h_r6) mw_within st_within rfl ⟨by decide, by decide⟩ rfl (Nat.le_of_ble_eq_true rfl) dX12_node_42 ?_
      refine lv_if_eq (tgt := 66) C.1 C.2.1 dX12_node_45 (by decide) (fun c7 => ?_) (fun c7 => ?_)
      · have h := if_t h c7
        refine lv_iload_n C.1 C.2.1 dX12_node_66 rfl (lv_at hl 2 rfl) ?_
        refine lv_bipush (v := 40) C.1 C.2.1 dX12_node_67 (by decide) ?_
        refine lv_bipush (v := 55) C.1 C.2.1 dX12_node_69 (by decide) ?_
        obtain ⟨r8, h_r8, h⟩ := bd_ok h
        refine m_callS (rest := []) C hl.1 [.int v2, .int (40 : Int32), .int (55 : Int32)] (tm_within l h_r8) mw_within st_within rfl ⟨by decide, by decide⟩ rfl (Nat.le_of_ble_eq_true rfl) dX12_node_71 ?_
        refine lv_if_eq (tgt := 95) C.1 C.2.1 dX12_node_74 (by decide) (fun c9 => ?_) (fun c9 => ?_)
        · have h := if_t h c9
          refine lv_iload_n C.1 C.2.1 dX12_node_95 rfl (lv_at hl 2 rfl) ?_
          by_cases c10 : v2 = (0 : Int32)
          · have h := if_t h c10
            refine lv_tableIn (off := 56) (tgt := 152) C.1 C.2.1 dX12_node_96 (by rw [c10]; decide) (by rw [c10]; decide) (by rw [c10]; rfl) (by decide) ?_
            refine lv_aload_n C.1 C.2.1 dX12_node_152 rfl (lv_at hl 0 rfl) ?_
            refine gf_17 C X hW dX12_node_153 ?_
            refine lv_iload_n C.1 C.2.1 dX12_node_156 rfl (lv_at hl 1 rfl) ?_
            obtain ⟨hin, h⟩ := ck_ok h
            refine l_17 C X hW hin dX12_node_157 ?_
            cases h
            exact m_retiW C hW hS dX12_node_158
          · have h := if_f h c10
            by_cases c11 : v2 = (1 : Int32)
            · have h := if_t h c11
              refine lv_tableIn (off := 63) (tgt := 159) C.1 C.2.1 dX12_node_96 (by rw [c11]; decide) (by rw [c11]; decide) (by rw [c11]; rfl) (by decide) ?_
              refine lv_aload_n C.1 C.2.1 dX12_node_159 rfl (lv_at hl 0 rfl) ?_
              refine gf_23 C X hW dX12_node_160 ?_
              refine lv_iload_n C.1 C.2.1 dX12_node_163 rfl (lv_at hl 1 rfl) ?_
              obtain ⟨hin, h⟩ := ck_ok h
              refine l_23 C X hW hin dX12_node_164 ?_
              cases h
              exact m_retiW C hW hS dX12_node_165
            · have h := if_f h c11
              by_cases c12 : v2 = (2 : Int32)
              · have h := if_t h c12
                refine lv_tableIn (off := 70) (tgt := 166) C.1 C.2.1 dX12_node_96 (by rw [c12]; decide) (by rw [c12]; decide) (by rw [c12]; rfl) (by decide) ?_
                refine lv_aload_n C.1 C.2.1 dX12_node_166 rfl (lv_at hl 0 rfl) ?_
                refine gf_25 C X hW dX12_node_167 ?_
                refine lv_iload_n C.1 C.2.1 dX12_node_170 rfl (lv_at hl 1 rfl) ?_
                obtain ⟨hin, h⟩ := ck_ok h
                refine l_25 C X hW hin dX12_node_171 ?_
                cases h
                exact m_retiW C hW hS dX12_node_172
              · have h := if_f h c12
                by_cases c13 : v2 = (3 : Int32)
                · have h := if_t h c13
                  refine lv_tableIn (off := 77) (tgt := 173) C.1 C.2.1 dX12_node_96 (by rw [c13]; decide) (by rw [c13]; decide) (by rw [c13]; rfl) (by decide) ?_
                  refine lv_aload_n C.1 C.2.1 dX12_node_173 rfl (lv_at hl 0 rfl) ?_
                  refine gf_27 C X hW dX12_node_174 ?_
                  refine lv_iload_n C.1 C.2.1 dX12_node_177 rfl (lv_at hl 1 rfl) ?_
                  obtain ⟨hin, h⟩ := ck_ok h
                  refine l_27 C X hW hin dX12_node_178 ?_
                  cases h
                  exact m_retiW C hW hS dX12_node_179
                · have h := if_f h c13
                  by_cases c14 : v2 = (4 : Int32)
                  · have h := if_t h c14
                    refine lv_tableIn (off := 84) (tgt := 180) C.1 C.2.1 dX12_node_96 (by rw [c14]; decide) (by rw [c14]; decide) (by rw [c14]; rfl) (by decide) ?_
                    refine lv_aload_n C.1 C.2.1 dX12_node_180 rfl (lv_at hl 0 rfl) ?_
                    refine lv_iload_n C.1 C.2.1 dX12_node_181 rfl (lv_at hl 1 rfl) ?_
                    obtain ⟨⟨r16, S15⟩, h_S15, h⟩ := bd_ok h
                    replace h := lt2_ok h
                    refine m_callW (rest := []) (ov := some (.int r16)) C X hW hS hl.1 [.int v1] (tm_there l h_S15) mw_there im_there sl_there rfl ⟨by decide, by decide⟩ rfl (Nat.le_of_ble_eq_true rfl) dX12_node_182 (fun H locs hW hS => ?_)
                    refine W.eq (g2 := F0 m 185 ls [.int r16]) rfl ?_
                    cases h
                    exact m_retiW C hW hS dX12_node_185
                  · have h := if_f h c14
                    by_cases c17 : v2 = (5 : Int32)
                    · have h := if_t h c17
                      refine lv_tableIn (off := 90) (tgt := 186) C.1 C.2.1 dX12_node_96 (by rw [c17]; decide) (by rw [c17]; decide) (by rw [c17]; rfl) (by decide) ?_
                      refine lv_aload_n C.1 C.2.1 dX12_node_186 rfl (lv_at hl 0 rfl) ?_
                      refine gf_18 C X hW dX12_node_187 ?_
                      refine lv_iload_n C.1 C.2.1 dX12_node_190 rfl (lv_at hl 1 rfl) ?_
                      obtain ⟨hin, h⟩ := ck_ok h
                      refine l_18 C X hW hin dX12_node_191 ?_
                      cases h
                      exact m_retiW C hW hS dX12_node_192
                    · have h := if_f h c17
                      by_cases c18 : v2 = (6 : Int32)
                      · have h := if_t h c18
                        refine lv_tableIn (off := 97) (tgt := 193) C.1 C.2.1 dX12_node_96 (by rw [c18]; decide) (by rw [c18]; decide) (by rw [c18]; rfl) (by decide) ?_
                        refine lv_aload_n C.1 C.2.1 dX12_node_193 rfl (lv_at hl 0 rfl) ?_
                        refine gf_19 C X hW dX12_node_194 ?_
                        refine lv_iload_n C.1 C.2.1 dX12_node_197 rfl (lv_at hl 1 rfl) ?_
                        obtain ⟨hin, h⟩ := ck_ok h
                        refine l_19 C X hW hin dX12_node_198 ?_
                        cases h
                        exact m_retiW C hW hS dX12_node_199
                      · have h := if_f h c18
                        by_cases c19 : v2 = (7 : Int32)
                        · have h := if_t h c19
                          refine lv_tableIn (off := 104) (tgt := 200) C.1 C.2.1 dX12_node_96 (by rw [c19]; decide) (by rw [c19]; decide) (by rw [c19]; rfl) (by decide) ?_
                          refine lv_aload_n C.1 C.2.1 dX12_node_200 rfl (lv_at hl 0 rfl) ?_
                          refine lv_iload_n C.1 C.2.1 dX12_node_201 rfl (lv_at hl 1 rfl) ?_
                          obtain ⟨r20, h_r20, h⟩ := bd_ok h
                          refine m_callR (rest := []) C X hW hl.1 [.int v1] (tm_stables l h_r20) mw_stables im_stables sl_stables rfl ⟨by decide, by decide⟩ rfl (Nat.le_of_ble_eq_true rfl) dX12_node_202 ?_
                          cases h
                          exact m_retiW C hW hS dX12_node_205
                        · have h := if_f h c19
                          by_cases c21 : v2 = (8 : Int32)
                          · have h := if_t h c21
                            refine lv_tableIn (off := 110) (tgt := 206) C.1 C.2.1 dX12_node_96 (by rw [c21]; decide) (by rw [c21]; decide) (by rw [c21]; rfl) (by decide) ?_
                            refine lv_aload_n C.1 C.2.1 dX12_node_206 rfl (lv_at hl 0 rfl) ?_
                            refine gf_37 C X hW dX12_node_207 ?_
                            refine lv_iload_n C.1 C.2.1 dX12_node_210 rfl (lv_at hl 1 rfl) ?_
                            obtain ⟨hin, h⟩ := ck_ok h
                            refine l_37 C X hW hin dX12_node_211 ?_
                            cases h
                            exact m_retiW C hW hS dX12_node_212
                          · have h := if_f h c21
                            by_cases c22 : v2 = (9 : Int32)
                            · have h := if_t h c22
                              refine lv_tableIn (off := 117) (tgt := 213) C.1 C.2.1 dX12_node_96 (by rw [c22]; decide) (by rw [c22]; decide) (by rw [c22]; rfl) (by decide) ?_
                              refine lv_aload_n C.1 C.2.1 dX12_node_213 rfl (lv_at hl 0 rfl) ?_
                              refine lv_iload_n C.1 C.2.1 dX12_node_214 rfl (lv_at hl 1 rfl) ?_
                              obtain ⟨r23, h_r23, h⟩ := bd_ok h
                              refine m_callR (rest := []) C X hW hl.1 [.int v1] (tm_nowOf l h_r23) mw_nowOf im_nowOf sl_nowOf rfl ⟨by decide, by decide⟩ rfl (Nat.le_of_ble_eq_true rfl) dX12_node_215 ?_
                              cases h
                              exact m_retiW C hW hS dX12_node_218
                            · have h := if_f h c22
                              have n_c10 := lv_neT c10 (a := 0) rfl
                              have n_c11 := lv_neT c11 (a := 1) rfl
                              have n_c12 := lv_neT c12 (a := 2) rfl
                              have n_c13 := lv_neT c13 (a := 3) rfl
                              have n_c14 := lv_neT c14 (a := 4) rfl
                              have n_c17 := lv_neT c17 (a := 5) rfl
                              have n_c18 := lv_neT c18 (a := 6) rfl
                              have n_c19 := lv_neT c19 (a := 7) rfl
                              have n_c21 := lv_neT c21 (a := 8) rfl
                              have n_c22 := lv_neT c22 (a := 9) rfl
                              refine lv_tableOut (tgt := 219) C.1 C.2.1 dX12_node_96 (by omega) (by decide) ?_
                              refine lv_iconst (v := -1) C.1 C.2.1 dX12_node_219 (by decide) ?_
                              cases h
                              exact m_retiW C hW hS dX12_node_220
        · have h := if_f h c9
          refine lv_aload_n C.1 C.2.1 dX12_node_77 rfl (lv_at hl 0 rfl) ?_
          refine lv_iload_n C.1 C.2.1 dX12_node_78 rfl (lv_at hl 1 rfl) ?_
          refine lv_iload_n C.1 C.2.1 dX12_node_79 rfl (lv_at hl 2 rfl) ?_
          refine lv_bipush (v := 40) C.1 C.2.1 dX12_node_80 (by decide) ?_
          refine lv_isub C.1 C.2.1 dX12_node_82 ?_
          refine lv_iconst (v := 4) C.1 C.2.1 dX12_node_83 (by decide) ?_
          refine lv_idiv C.1 C.2.1 dX12_node_84 (by decide) ?_
          refine lv_iload_n C.1 C.2.1 dX12_node_85 rfl (lv_at hl 2 rfl) ?_
          refine lv_bipush (v := 40) C.1 C.2.1 dX12_node_86 (by decide) ?_
          refine lv_isub C.1 C.2.1 dX12_node_88 ?_
          refine lv_iconst (v := 4) C.1 C.2.1 dX12_node_89 (by decide) ?_
          refine lv_irem C.1 C.2.1 dX12_node_90 (by decide) ?_
          obtain ⟨r24, h_r24, h⟩ := bd_ok h
          refine m_callR (rest := []) C X hW hl.1 [.int v1, .int ((v2 - (40 : Int32)) / (4 : Int32)), .int ((v2 - (40 : Int32)) - (v2 - (40 : Int32)) / (4 : Int32) * (4 : Int32))] (tm_sentOf l h_r24) mw_sentOf im_sentOf sl_sentOf rfl ⟨by decide, by decide⟩ rfl (Nat.le_of_ble_eq_true rfl) dX12_node_91 ?_
          cases h
          exact m_retiW C hW hS dX12_node_94
      · have h := if_f h c7
        refine lv_aload_n C.1 C.2.1 dX12_node_48 rfl (lv_at hl 0 rfl) ?_
        refine lv_iload_n C.1 C.2.1 dX12_node_49 rfl (lv_at hl 1 rfl) ?_
        refine lv_iload_n C.1 C.2.1 dX12_node_50 rfl (lv_at hl 2 rfl) ?_
        refine lv_bipush (v := 20) C.1 C.2.1 dX12_node_51 (by decide) ?_
        refine lv_isub C.1 C.2.1 dX12_node_53 ?_
        refine lv_iconst (v := 4) C.1 C.2.1 dX12_node_54 (by decide) ?_
        refine lv_idiv C.1 C.2.1 dX12_node_55 (by decide) ?_
        refine lv_iload_n C.1 C.2.1 dX12_node_56 rfl (lv_at hl 2 rfl) ?_
        refine lv_bipush (v := 20) C.1 C.2.1 dX12_node_57 (by decide) ?_
        refine lv_isub C.1 C.2.1 dX12_node_59 ?_
        refine lv_iconst (v := 4) C.1 C.2.1 dX12_node_60 (by decide) ?_
        refine lv_irem C.1 C.2.1 dX12_node_61 (by decide) ?_
        obtain ⟨r25, h_r25, h⟩ := bd_ok h
        refine m_callR (rest := []) C X hW hl.1 [.int v1, .int ((v2 - (20 : Int32)) / (4 : Int32)), .int ((v2 - (20 : Int32)) - (v2 - (20 : Int32)) / (4 : Int32) * (4 : Int32))] (tm_seenOf l h_r25) mw_seenOf im_seenOf sl_seenOf rfl ⟨by decide, by decide⟩ rfl (Nat.le_of_ble_eq_true rfl) dX12_node_62 ?_
        cases h
        exact m_retiW C hW hS dX12_node_65
    · have h := if_f h c5
      refine lv_aload_n C.1 C.2.1 dX12_node_27 rfl (lv_at hl 0 rfl) ?_
      refine lv_iload_n C.1 C.2.1 dX12_node_28 rfl (lv_at hl 1 rfl) ?_
      refine lv_iload_n C.1 C.2.1 dX12_node_29 rfl (lv_at hl 2 rfl) ?_
      refine lv_bipush (v := 10) C.1 C.2.1 dX12_node_30 (by decide) ?_
      refine lv_isub C.1 C.2.1 dX12_node_32 ?_
      obtain ⟨r26, h_r26, h⟩ := bd_ok h
      refine m_callR (rest := []) C X hW hl.1 [.int v1, .int (v2 - (10 : Int32))] (tm_knownOf l h_r26) mw_knownOf im_knownOf sl_knownOf rfl ⟨by decide, by decide⟩ rfl (Nat.le_of_ble_eq_true rfl) dX12_node_33 ?_
      cases h
      exact m_retiW C hW hS dX12_node_36
  · have h := if_t h c3
    refine lv_iconst (v := -1) C.1 C.2.1 dX12_node_14 (by decide) ?_
    cases h
    exact m_retiW C hW hS dX12_node_15
end
