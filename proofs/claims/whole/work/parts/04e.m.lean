-- made by wip/whole/walk.py: the reference's nowOf, holder, isStable, tell, boundAt, drop, isOnPart, latestOf, findList
theorem dX12_nowOf_0 : decode cX12_nowOf 0 = .ok (.aload_n 0, 1) := by decide +kernel
theorem dX12_nowOf_1 : decode cX12_nowOf 1 = .ok (.getfield 53, 3) := by decide +kernel
theorem dX12_nowOf_4 : decode cX12_nowOf 4 = .ok (.iload_n 1, 1) := by decide +kernel
theorem dX12_nowOf_5 : decode cX12_nowOf 5 = .ok (.iaload, 1) := by decide +kernel
theorem dX12_nowOf_6 : decode cX12_nowOf 6 = .ok (.aload_n 0, 1) := by decide +kernel
theorem dX12_nowOf_7 : decode cX12_nowOf 7 = .ok (.getfield 56, 3) := by decide +kernel
theorem dX12_nowOf_10 : decode cX12_nowOf 10 = .ok (.iload_n 1, 1) := by decide +kernel
theorem dX12_nowOf_11 : decode cX12_nowOf 11 = .ok (.iaload, 1) := by decide +kernel
theorem dX12_nowOf_12 : decode cX12_nowOf 12 = .ok (.if_icmp .le 12, 3) := by decide +kernel
theorem dX12_nowOf_15 : decode cX12_nowOf 15 = .ok (.aload_n 0, 1) := by decide +kernel
theorem dX12_nowOf_16 : decode cX12_nowOf 16 = .ok (.getfield 53, 3) := by decide +kernel
theorem dX12_nowOf_19 : decode cX12_nowOf 19 = .ok (.iload_n 1, 1) := by decide +kernel
theorem dX12_nowOf_20 : decode cX12_nowOf 20 = .ok (.iaload, 1) := by decide +kernel
theorem dX12_nowOf_21 : decode cX12_nowOf 21 = .ok (.goto 9, 3) := by decide +kernel
theorem dX12_nowOf_24 : decode cX12_nowOf 24 = .ok (.aload_n 0, 1) := by decide +kernel
theorem dX12_nowOf_25 : decode cX12_nowOf 25 = .ok (.getfield 56, 3) := by decide +kernel
theorem dX12_nowOf_28 : decode cX12_nowOf 28 = .ok (.iload_n 1, 1) := by decide +kernel
theorem dX12_nowOf_29 : decode cX12_nowOf 29 = .ok (.iaload, 1) := by decide +kernel
theorem dX12_nowOf_30 : decode cX12_nowOf 30 = .ok (.ireturn, 1) := by decide +kernel
theorem cd_nowOf : Cond.code yX12_nowOf cX12_nowOf 2 (some .int) ∈ lw_g := mt_at 2096 (by decide +kernel) rfl
theorem mw_nowOf : mCw 330 yX12_nowOf cX12_nowOf 2 (some .int) 1 := ⟨cd_nowOf, mt_at 2093 (by decide +kernel) rfl, in_M, by decide +kernel⟩
theorem im_nowOf : Cond.instanceMethod yX12_nowOf ∈ lw_g := mt_at 2095 (by decide +kernel) rfl
theorem sl_nowOf : Cond.selects RX12 yX12_nowOf yX12_nowOf ∈ lw_g := mt_sel 70 (by decide +kernel) rfl
section
variable {p : Program} {l : Launch} {e : Env} {R : Room} {s : State} {m : MethodId} {args : Array Value} {below : List Frame} {meth : Method} {c : Code} {cM : ClassId} {iS : Nat → Nat} {cI cZ : ClassId} {mo : Nat} {ad : Nat → Nat} {S : mSt} {r : Int32}
noncomputable def fm_nowOf_30 (S : mSt) (s0 : Int32) : Option (Int32) :=
some s0
set_option maxRecDepth 100000 in
set_option maxHeartbeats 4000000 in
theorem wm_nowOf_30 (C : mY p R s m args meth c cX12_nowOf 2 0 0 (some .int)) (X : mX s cM iS cI cZ mo ad) (hW : mW cM iS cI cZ mo ad S s.heap) : ∀ {s0 : Int32} {ls : Array Slot}, fm_nowOf_30 S s0 = some r → lv_has ls 2 [] → W p l e R s m args below meth c s.heap [] 0 0 (MQ below (mQi r) args s 0 0 mNo) (F0 m 30 ls [.int s0]) := by
  intro s0 ls h hl
  unfold fm_nowOf_30 at h
  cases h
  exact m_reti C rfl rfl dX12_nowOf_30
noncomputable def fm_nowOf (S : mSt) (v1 : Int32) : Option (Int32) :=
ck v1 4 (
ck v1 4 (
if (rd S 17 v1) ≤ (rd S 18 v1) then (
ck v1 4 (
fm_nowOf_30 S (rd S 18 v1)))
else (
ck v1 4 (
fm_nowOf_30 S (rd S 17 v1)))))
set_option maxRecDepth 100000 in
set_option maxHeartbeats 4000000 in
theorem tm_nowOf (l : Launch) {cM : ClassId} {iS : Nat → Nat} {cI cZ : ClassId} {mo : Nat} {ad : Nat → Nat} {S : mSt} {v1 : Int32} {r : Int32} (h : fm_nowOf S v1 = some r) : Met l yX12_nowOf (Cond.code yX12_nowOf cX12_nowOf 2 (some .int) :: lw_g) { frames := 0, cells := 0, slots := 0, locals := 0 } (mPi [.int v1] cM iS cI cZ mo ad S) (mQi r) 0 0 (mNo) := by
  refine Met.ofW (cc := cX12_nowOf) (maxL := 2) (ret := (some .int)) (by decide) rfl ?_
  intro p e s m args below meth c s₁ B hml hv
  obtain ⟨rfl, hW, X⟩ := hv
  have C : mY p (headSpec (Cond.code yX12_nowOf cX12_nowOf 2 (some .int) :: lw_g) { frames := 0, cells := 0, slots := 0, locals := 0 }).room s m _ meth c cX12_nowOf 2 0 0 (some .int) := ⟨B.exec, B.bytes, hml, findClass_of_methodNamed B.named, fun w hw => atoms_spec (ws := Cond.code yX12_nowOf cX12_nowOf 2 (some .int) :: lw_g) B.pre w (List.mem_cons_of_mem _ hw), ⟨Nat.le_refl _, Nat.le_refl _⟩, B.returns, B.notSynchronized⟩
  have hl := lv_entry ([.ref mo, .int v1]) (n := 2) (Nat.le_of_ble_eq_true rfl)
  rw [lg_entry_eq]
  generalize (lg_sl ([.ref mo, .int v1]) ++ List.replicate (2 - (lg_sl ([.ref mo, .int v1])).length) Slot.unset).toArray = ls at hl ⊢
  have hl : lv_has ls 2 [(0, .ref mo), (1, .int v1)] := hl
  unfold fm_nowOf at h
  refine lv_aload_n C.1 C.2.1 dX12_nowOf_0 rfl (lv_at hl 0 rfl) ?_
  refine gf_17 C X hW dX12_nowOf_1 ?_
  refine lv_iload_n C.1 C.2.1 dX12_nowOf_4 rfl (lv_at hl 1 rfl) ?_
  obtain ⟨hin, h⟩ := ck_ok h
  refine l_17 C X hW hin dX12_nowOf_5 ?_
  refine lv_aload_n C.1 C.2.1 dX12_nowOf_6 rfl (lv_at hl 0 rfl) ?_
  refine gf_18 C X hW dX12_nowOf_7 ?_
  refine lv_iload_n C.1 C.2.1 dX12_nowOf_10 rfl (lv_at hl 1 rfl) ?_
  obtain ⟨hin, h⟩ := ck_ok h
  refine l_18 C X hW hin dX12_nowOf_11 ?_
  refine lv_icmp_le (tgt := 24) C.1 C.2.1 dX12_nowOf_12 (by decide) (fun c1 => ?_) (fun c1 => ?_)
  · have h := if_t h c1
    refine lv_aload_n C.1 C.2.1 dX12_nowOf_24 rfl (lv_at hl 0 rfl) ?_
    refine gf_18 C X hW dX12_nowOf_25 ?_
    refine lv_iload_n C.1 C.2.1 dX12_nowOf_28 rfl (lv_at hl 1 rfl) ?_
    obtain ⟨hin, h⟩ := ck_ok h
    refine l_18 C X hW hin dX12_nowOf_29 ?_
    exact wm_nowOf_30 C X hW h (lv_sub hl [] rfl)
  · have h := if_f h c1
    refine lv_aload_n C.1 C.2.1 dX12_nowOf_15 rfl (lv_at hl 0 rfl) ?_
    refine gf_17 C X hW dX12_nowOf_16 ?_
    refine lv_iload_n C.1 C.2.1 dX12_nowOf_19 rfl (lv_at hl 1 rfl) ?_
    obtain ⟨hin, h⟩ := ck_ok h
    refine l_17 C X hW hin dX12_nowOf_20 ?_
    refine lv_goto (tgt := 30) C.1 C.2.1 dX12_nowOf_21 (by decide) ?_
    exact wm_nowOf_30 C X hW h (lv_sub hl [] rfl)
end
theorem dX12_holder_0 : decode cX12_holder 0 = .ok (.aload_n 0, 1) := by decide +kernel
theorem dX12_holder_1 : decode cX12_holder 1 = .ok (.iconst 0, 1) := by decide +kernel
theorem dX12_holder_2 : decode cX12_holder 2 = .ok (.putfield 327, 3) := by decide +kernel
theorem dX12_holder_5 : decode cX12_holder 5 = .ok (.iconst 0, 1) := by decide +kernel
theorem dX12_holder_6 : decode cX12_holder 6 = .ok (.istore_n 3, 1) := by decide +kernel
theorem dX12_holder_7 : decode cX12_holder 7 = .ok (.iload_n 3, 1) := by decide +kernel
theorem dX12_holder_8 : decode cX12_holder 8 = .ok (.aload_n 0, 1) := by decide +kernel
theorem dX12_holder_9 : decode cX12_holder 9 = .ok (.getfield 71, 3) := by decide +kernel
theorem dX12_holder_12 : decode cX12_holder 12 = .ok (.iload_n 1, 1) := by decide +kernel
theorem dX12_holder_13 : decode cX12_holder 13 = .ok (.iaload, 1) := by decide +kernel
theorem dX12_holder_14 : decode cX12_holder 14 = .ok (.if_icmp .ge 125, 3) := by decide +kernel
theorem dX12_holder_17 : decode cX12_holder 17 = .ok (.aload_n 0, 1) := by decide +kernel
theorem dX12_holder_18 : decode cX12_holder 18 = .ok (.iload_n 1, 1) := by decide +kernel
theorem dX12_holder_19 : decode cX12_holder 19 = .ok (.iload_n 3, 1) := by decide +kernel
theorem dX12_holder_20 : decode cX12_holder 20 = .ok (.invokevirtual 230, 3) := by decide +kernel
theorem dX12_holder_23 : decode cX12_holder 23 = .ok (.istore 4, 2) := by decide +kernel
theorem dX12_holder_25 : decode cX12_holder 25 = .ok (.aload_n 0, 1) := by decide +kernel
theorem dX12_holder_26 : decode cX12_holder 26 = .ok (.getfield 29, 3) := by decide +kernel
theorem dX12_holder_29 : decode cX12_holder 29 = .ok (.iload 4, 2) := by decide +kernel
theorem dX12_holder_31 : decode cX12_holder 31 = .ok (.iaload, 1) := by decide +kernel
theorem dX12_holder_32 : decode cX12_holder 32 = .ok (.bipush 17, 2) := by decide +kernel
theorem dX12_holder_34 : decode cX12_holder 34 = .ok (.if_icmp .eq 15, 3) := by decide +kernel
theorem dX12_holder_37 : decode cX12_holder 37 = .ok (.aload_n 0, 1) := by decide +kernel
theorem dX12_holder_38 : decode cX12_holder 38 = .ok (.getfield 29, 3) := by decide +kernel
theorem dX12_holder_41 : decode cX12_holder 41 = .ok (.iload 4, 2) := by decide +kernel
theorem dX12_holder_43 : decode cX12_holder 43 = .ok (.iaload, 1) := by decide +kernel
theorem dX12_holder_44 : decode cX12_holder 44 = .ok (.bipush 18, 2) := by decide +kernel
theorem dX12_holder_46 : decode cX12_holder 46 = .ok (.if_icmp .ne 87, 3) := by decide +kernel
theorem dX12_holder_49 : decode cX12_holder 49 = .ok (.aload_n 0, 1) := by decide +kernel
theorem dX12_holder_50 : decode cX12_holder 50 = .ok (.getfield 32, 3) := by decide +kernel
theorem dX12_holder_53 : decode cX12_holder 53 = .ok (.iload 4, 2) := by decide +kernel
theorem dX12_holder_55 : decode cX12_holder 55 = .ok (.iaload, 1) := by decide +kernel
theorem dX12_holder_56 : decode cX12_holder 56 = .ok (.iload_n 2, 1) := by decide +kernel
theorem dX12_holder_57 : decode cX12_holder 57 = .ok (.if_icmp .eq 6, 3) := by decide +kernel
theorem dX12_holder_60 : decode cX12_holder 60 = .ok (.goto 73, 3) := by decide +kernel
theorem dX12_holder_63 : decode cX12_holder 63 = .ok (.aload_n 0, 1) := by decide +kernel
theorem dX12_holder_64 : decode cX12_holder 64 = .ok (.getfield 327, 3) := by decide +kernel
theorem dX12_holder_67 : decode cX12_holder 67 = .ok (.istore 5, 2) := by decide +kernel
theorem dX12_holder_69 : decode cX12_holder 69 = .ok (.iload 5, 2) := by decide +kernel
theorem dX12_holder_71 : decode cX12_holder 71 = .ok (.ifCond .le 43, 3) := by decide +kernel
theorem dX12_holder_74 : decode cX12_holder 74 = .ok (.aload_n 0, 1) := by decide +kernel
theorem dX12_holder_75 : decode cX12_holder 75 = .ok (.iload 4, 2) := by decide +kernel
theorem dX12_holder_77 : decode cX12_holder 77 = .ok (.aload_n 0, 1) := by decide +kernel
theorem dX12_holder_78 : decode cX12_holder 78 = .ok (.getfield 157, 3) := by decide +kernel
theorem dX12_holder_81 : decode cX12_holder 81 = .ok (.iload 5, 2) := by decide +kernel
theorem dX12_holder_83 : decode cX12_holder 83 = .ok (.iconst 1, 1) := by decide +kernel
theorem dX12_holder_84 : decode cX12_holder 84 = .ok (.isub, 1) := by decide +kernel
theorem dX12_holder_85 : decode cX12_holder 85 = .ok (.iaload, 1) := by decide +kernel
theorem dX12_holder_86 : decode cX12_holder 86 = .ok (.invokevirtual 285, 3) := by decide +kernel
theorem dX12_holder_89 : decode cX12_holder 89 = .ok (.ifCond .eq 25, 3) := by decide +kernel
theorem dX12_holder_92 : decode cX12_holder 92 = .ok (.aload_n 0, 1) := by decide +kernel
theorem dX12_holder_93 : decode cX12_holder 93 = .ok (.getfield 157, 3) := by decide +kernel
theorem dX12_holder_96 : decode cX12_holder 96 = .ok (.iload 5, 2) := by decide +kernel
theorem dX12_holder_98 : decode cX12_holder 98 = .ok (.aload_n 0, 1) := by decide +kernel
theorem dX12_holder_99 : decode cX12_holder 99 = .ok (.getfield 157, 3) := by decide +kernel
theorem dX12_holder_102 : decode cX12_holder 102 = .ok (.iload 5, 2) := by decide +kernel
theorem dX12_holder_104 : decode cX12_holder 104 = .ok (.iconst 1, 1) := by decide +kernel
theorem dX12_holder_105 : decode cX12_holder 105 = .ok (.isub, 1) := by decide +kernel
theorem dX12_holder_106 : decode cX12_holder 106 = .ok (.iaload, 1) := by decide +kernel
theorem dX12_holder_107 : decode cX12_holder 107 = .ok (.iastore, 1) := by decide +kernel
theorem dX12_holder_108 : decode cX12_holder 108 = .ok (.iinc 5 (-1), 3) := by decide +kernel
theorem dX12_holder_111 : decode cX12_holder 111 = .ok (.goto (-42), 3) := by decide +kernel
theorem dX12_holder_114 : decode cX12_holder 114 = .ok (.aload_n 0, 1) := by decide +kernel
theorem dX12_holder_115 : decode cX12_holder 115 = .ok (.getfield 157, 3) := by decide +kernel
theorem dX12_holder_118 : decode cX12_holder 118 = .ok (.iload 5, 2) := by decide +kernel
theorem dX12_holder_120 : decode cX12_holder 120 = .ok (.iload 4, 2) := by decide +kernel
theorem dX12_holder_122 : decode cX12_holder 122 = .ok (.iastore, 1) := by decide +kernel
theorem dX12_holder_123 : decode cX12_holder 123 = .ok (.aload_n 0, 1) := by decide +kernel
theorem dX12_holder_124 : decode cX12_holder 124 = .ok (.dup, 1) := by decide +kernel
theorem dX12_holder_125 : decode cX12_holder 125 = .ok (.getfield 327, 3) := by decide +kernel
theorem dX12_holder_128 : decode cX12_holder 128 = .ok (.iconst 1, 1) := by decide +kernel
theorem dX12_holder_129 : decode cX12_holder 129 = .ok (.iadd, 1) := by decide +kernel
theorem dX12_holder_130 : decode cX12_holder 130 = .ok (.putfield 327, 3) := by decide +kernel
theorem dX12_holder_133 : decode cX12_holder 133 = .ok (.iinc 3 1, 3) := by decide +kernel
theorem dX12_holder_136 : decode cX12_holder 136 = .ok (.goto (-129), 3) := by decide +kernel
theorem dX12_holder_139 : decode cX12_holder 139 = .ok (.iconst (-1), 1) := by decide +kernel
theorem dX12_holder_140 : decode cX12_holder 140 = .ok (.istore_n 3, 1) := by decide +kernel
theorem dX12_holder_141 : decode cX12_holder 141 = .ok (.iconst 0, 1) := by decide +kernel
theorem dX12_holder_142 : decode cX12_holder 142 = .ok (.istore 4, 2) := by decide +kernel
theorem dX12_holder_144 : decode cX12_holder 144 = .ok (.iconst 0, 1) := by decide +kernel
theorem dX12_holder_145 : decode cX12_holder 145 = .ok (.istore 5, 2) := by decide +kernel
theorem dX12_holder_147 : decode cX12_holder 147 = .ok (.iload 5, 2) := by decide +kernel
theorem dX12_holder_149 : decode cX12_holder 149 = .ok (.aload_n 0, 1) := by decide +kernel
theorem dX12_holder_150 : decode cX12_holder 150 = .ok (.getfield 327, 3) := by decide +kernel
theorem dX12_holder_153 : decode cX12_holder 153 = .ok (.if_icmp .ge 182, 3) := by decide +kernel
theorem dX12_holder_156 : decode cX12_holder 156 = .ok (.aload_n 0, 1) := by decide +kernel
theorem dX12_holder_157 : decode cX12_holder 157 = .ok (.getfield 157, 3) := by decide +kernel
theorem dX12_holder_160 : decode cX12_holder 160 = .ok (.iload 5, 2) := by decide +kernel
theorem dX12_holder_162 : decode cX12_holder 162 = .ok (.iaload, 1) := by decide +kernel
theorem dX12_holder_163 : decode cX12_holder 163 = .ok (.istore 6, 2) := by decide +kernel
theorem dX12_holder_165 : decode cX12_holder 165 = .ok (.iload_n 3, 1) := by decide +kernel
theorem dX12_holder_166 : decode cX12_holder 166 = .ok (.iload 6, 2) := by decide +kernel
theorem dX12_holder_168 : decode cX12_holder 168 = .ok (.invokestatic 219, 3) := by decide +kernel
theorem dX12_holder_171 : decode cX12_holder 171 = .ok (.if_icmp .ne 19, 3) := by decide +kernel
theorem dX12_holder_174 : decode cX12_holder 174 = .ok (.aload_n 0, 1) := by decide +kernel
theorem dX12_holder_175 : decode cX12_holder 175 = .ok (.getfield 44, 3) := by decide +kernel
theorem dX12_holder_178 : decode cX12_holder 178 = .ok (.iload 6, 2) := by decide +kernel
theorem dX12_holder_180 : decode cX12_holder 180 = .ok (.iaload, 1) := by decide +kernel
theorem dX12_holder_181 : decode cX12_holder 181 = .ok (.iload 4, 2) := by decide +kernel
theorem dX12_holder_183 : decode cX12_holder 183 = .ok (.if_icmp .ge 7, 3) := by decide +kernel
theorem dX12_holder_186 : decode cX12_holder 186 = .ok (.iconst 1, 1) := by decide +kernel
theorem dX12_holder_187 : decode cX12_holder 187 = .ok (.goto 4, 3) := by decide +kernel
theorem dX12_holder_190 : decode cX12_holder 190 = .ok (.iconst 0, 1) := by decide +kernel
theorem dX12_holder_191 : decode cX12_holder 191 = .ok (.istore 7, 2) := by decide +kernel
theorem dX12_holder_193 : decode cX12_holder 193 = .ok (.iload_n 3, 1) := by decide +kernel
theorem dX12_holder_194 : decode cX12_holder 194 = .ok (.iconst (-1), 1) := by decide +kernel
theorem dX12_holder_195 : decode cX12_holder 195 = .ok (.if_icmp .eq 15, 3) := by decide +kernel
theorem dX12_holder_198 : decode cX12_holder 198 = .ok (.aload_n 0, 1) := by decide +kernel
theorem dX12_holder_199 : decode cX12_holder 199 = .ok (.getfield 44, 3) := by decide +kernel
theorem dX12_holder_202 : decode cX12_holder 202 = .ok (.iload 6, 2) := by decide +kernel
theorem dX12_holder_204 : decode cX12_holder 204 = .ok (.iaload, 1) := by decide +kernel
theorem dX12_holder_205 : decode cX12_holder 205 = .ok (.iload 4, 2) := by decide +kernel
theorem dX12_holder_207 : decode cX12_holder 207 = .ok (.if_icmp .lt 7, 3) := by decide +kernel
theorem dX12_holder_210 : decode cX12_holder 210 = .ok (.iconst 1, 1) := by decide +kernel
theorem dX12_holder_211 : decode cX12_holder 211 = .ok (.goto 4, 3) := by decide +kernel
theorem dX12_holder_214 : decode cX12_holder 214 = .ok (.iconst 0, 1) := by decide +kernel
theorem dX12_holder_215 : decode cX12_holder 215 = .ok (.istore 8, 2) := by decide +kernel
theorem dX12_holder_217 : decode cX12_holder 217 = .ok (.aload_n 0, 1) := by decide +kernel
theorem dX12_holder_218 : decode cX12_holder 218 = .ok (.getfield 29, 3) := by decide +kernel
theorem dX12_holder_221 : decode cX12_holder 221 = .ok (.iload 6, 2) := by decide +kernel
theorem dX12_holder_223 : decode cX12_holder 223 = .ok (.iaload, 1) := by decide +kernel
theorem dX12_holder_224 : decode cX12_holder 224 = .ok (.bipush 18, 2) := by decide +kernel
theorem dX12_holder_226 : decode cX12_holder 226 = .ok (.if_icmp .ne 25, 3) := by decide +kernel
theorem dX12_holder_229 : decode cX12_holder 229 = .ok (.iload 7, 2) := by decide +kernel
theorem dX12_holder_231 : decode cX12_holder 231 = .ok (.ifCond .eq 13, 3) := by decide +kernel
theorem dX12_holder_234 : decode cX12_holder 234 = .ok (.aload_n 0, 1) := by decide +kernel
theorem dX12_holder_235 : decode cX12_holder 235 = .ok (.getfield 44, 3) := by decide +kernel
theorem dX12_holder_238 : decode cX12_holder 238 = .ok (.iload 6, 2) := by decide +kernel
theorem dX12_holder_240 : decode cX12_holder 240 = .ok (.iaload, 1) := by decide +kernel
theorem dX12_holder_241 : decode cX12_holder 241 = .ok (.goto 5, 3) := by decide +kernel
theorem dX12_holder_244 : decode cX12_holder 244 = .ok (.iload 4, 2) := by decide +kernel
theorem dX12_holder_246 : decode cX12_holder 246 = .ok (.istore 4, 2) := by decide +kernel
theorem dX12_holder_248 : decode cX12_holder 248 = .ok (.goto 81, 3) := by decide +kernel
theorem dX12_holder_251 : decode cX12_holder 251 = .ok (.iload 7, 2) := by decide +kernel
theorem dX12_holder_253 : decode cX12_holder 253 = .ok (.ifCond .eq 48, 3) := by decide +kernel
theorem dX12_holder_256 : decode cX12_holder 256 = .ok (.aload_n 0, 1) := by decide +kernel
theorem dX12_holder_257 : decode cX12_holder 257 = .ok (.getfield 44, 3) := by decide +kernel
theorem dX12_holder_260 : decode cX12_holder 260 = .ok (.iload 6, 2) := by decide +kernel
theorem dX12_holder_262 : decode cX12_holder 262 = .ok (.iaload, 1) := by decide +kernel
theorem dX12_holder_263 : decode cX12_holder 263 = .ok (.aload_n 0, 1) := by decide +kernel
theorem dX12_holder_264 : decode cX12_holder 264 = .ok (.getfield 38, 3) := by decide +kernel
theorem dX12_holder_267 : decode cX12_holder 267 = .ok (.iload 6, 2) := by decide +kernel
theorem dX12_holder_269 : decode cX12_holder 269 = .ok (.iaload, 1) := by decide +kernel
theorem dX12_holder_270 : decode cX12_holder 270 = .ok (.iadd, 1) := by decide +kernel
theorem dX12_holder_271 : decode cX12_holder 271 = .ok (.iload 4, 2) := by decide +kernel
theorem dX12_holder_273 : decode cX12_holder 273 = .ok (.if_icmp .le 21, 3) := by decide +kernel
theorem dX12_holder_276 : decode cX12_holder 276 = .ok (.aload_n 0, 1) := by decide +kernel
theorem dX12_holder_277 : decode cX12_holder 277 = .ok (.getfield 44, 3) := by decide +kernel
theorem dX12_holder_280 : decode cX12_holder 280 = .ok (.iload 6, 2) := by decide +kernel
theorem dX12_holder_282 : decode cX12_holder 282 = .ok (.iaload, 1) := by decide +kernel
theorem dX12_holder_283 : decode cX12_holder 283 = .ok (.aload_n 0, 1) := by decide +kernel
theorem dX12_holder_284 : decode cX12_holder 284 = .ok (.getfield 38, 3) := by decide +kernel
theorem dX12_holder_287 : decode cX12_holder 287 = .ok (.iload 6, 2) := by decide +kernel
theorem dX12_holder_289 : decode cX12_holder 289 = .ok (.iaload, 1) := by decide +kernel
theorem dX12_holder_290 : decode cX12_holder 290 = .ok (.iadd, 1) := by decide +kernel
theorem dX12_holder_291 : decode cX12_holder 291 = .ok (.goto 5, 3) := by decide +kernel
theorem dX12_holder_294 : decode cX12_holder 294 = .ok (.iload 4, 2) := by decide +kernel
theorem dX12_holder_296 : decode cX12_holder 296 = .ok (.istore 4, 2) := by decide +kernel
theorem dX12_holder_298 : decode cX12_holder 298 = .ok (.goto 31, 3) := by decide +kernel
theorem dX12_holder_301 : decode cX12_holder 301 = .ok (.iload 8, 2) := by decide +kernel
theorem dX12_holder_303 : decode cX12_holder 303 = .ok (.ifCond .eq 26, 3) := by decide +kernel
theorem dX12_holder_306 : decode cX12_holder 306 = .ok (.iload 6, 2) := by decide +kernel
theorem dX12_holder_308 : decode cX12_holder 308 = .ok (.invokestatic 219, 3) := by decide +kernel
theorem dX12_holder_311 : decode cX12_holder 311 = .ok (.istore_n 3, 1) := by decide +kernel
theorem dX12_holder_312 : decode cX12_holder 312 = .ok (.aload_n 0, 1) := by decide +kernel
theorem dX12_holder_313 : decode cX12_holder 313 = .ok (.getfield 44, 3) := by decide +kernel
theorem dX12_holder_316 : decode cX12_holder 316 = .ok (.iload 6, 2) := by decide +kernel
theorem dX12_holder_318 : decode cX12_holder 318 = .ok (.iaload, 1) := by decide +kernel
theorem dX12_holder_319 : decode cX12_holder 319 = .ok (.aload_n 0, 1) := by decide +kernel
theorem dX12_holder_320 : decode cX12_holder 320 = .ok (.getfield 38, 3) := by decide +kernel
theorem dX12_holder_323 : decode cX12_holder 323 = .ok (.iload 6, 2) := by decide +kernel
theorem dX12_holder_325 : decode cX12_holder 325 = .ok (.iaload, 1) := by decide +kernel
theorem dX12_holder_326 : decode cX12_holder 326 = .ok (.iadd, 1) := by decide +kernel
theorem dX12_holder_327 : decode cX12_holder 327 = .ok (.istore 4, 2) := by decide +kernel
theorem dX12_holder_329 : decode cX12_holder 329 = .ok (.iinc 5 1, 3) := by decide +kernel
theorem dX12_holder_332 : decode cX12_holder 332 = .ok (.goto (-185), 3) := by decide +kernel
theorem dX12_holder_335 : decode cX12_holder 335 = .ok (.iload_n 3, 1) := by decide +kernel
theorem dX12_holder_336 : decode cX12_holder 336 = .ok (.iconst (-1), 1) := by decide +kernel
theorem dX12_holder_337 : decode cX12_holder 337 = .ok (.if_icmp .eq 17, 3) := by decide +kernel
theorem dX12_holder_340 : decode cX12_holder 340 = .ok (.aload_n 0, 1) := by decide +kernel
theorem dX12_holder_341 : decode cX12_holder 341 = .ok (.iload_n 1, 1) := by decide +kernel
theorem dX12_holder_342 : decode cX12_holder 342 = .ok (.invokevirtual 330, 3) := by decide +kernel
theorem dX12_holder_345 : decode cX12_holder 345 = .ok (.iload 4, 2) := by decide +kernel
theorem dX12_holder_347 : decode cX12_holder 347 = .ok (.if_icmp .ge 7, 3) := by decide +kernel
theorem dX12_holder_350 : decode cX12_holder 350 = .ok (.iload_n 3, 1) := by decide +kernel
theorem dX12_holder_351 : decode cX12_holder 351 = .ok (.goto 4, 3) := by decide +kernel
theorem dX12_holder_354 : decode cX12_holder 354 = .ok (.iconst (-1), 1) := by decide +kernel
theorem dX12_holder_355 : decode cX12_holder 355 = .ok (.ireturn, 1) := by decide +kernel
theorem cd_holder : Cond.code yX12_holder cX12_holder 9 (some .int) ∈ lw_g := mt_at 2092 (by decide +kernel) rfl
theorem mw_holder : mCw 384 yX12_holder cX12_holder 9 (some .int) 2 := ⟨cd_holder, mt_at 2089 (by decide +kernel) rfl, in_M, by decide +kernel⟩
theorem im_holder : Cond.instanceMethod yX12_holder ∈ lw_g := mt_at 2091 (by decide +kernel) rfl
theorem sl_holder : Cond.selects RX12 yX12_holder yX12_holder ∈ lw_g := mt_sel 69 (by decide +kernel) rfl
section
variable {p : Program} {l : Launch} {e : Env} {R : Room} {s : State} {m : MethodId} {args : Array Value} {below : List Frame} {meth : Method} {c : Code} {cM : ClassId} {iS : Nat → Nat} {cI cZ : ClassId} {mo : Nat} {ad : Nat → Nat} {r : Int32} {S9 : mSt}
noncomputable def fm_holder_355 (S : mSt) (s0 : Int32) : Option (Int32 × mSt) :=
some (s0, S)
set_option maxRecDepth 100000 in
set_option maxHeartbeats 4000000 in
theorem wm_holder_355 (C : mY p R s m args meth c cX12_holder 9 2 42 (some .int)) (X : mX s cM iS cI cZ mo ad) : ∀ {S : mSt} {s0 : Int32} {H : Heap} {locs : List Loc} {ls : Array Slot}, fm_holder_355 S s0 = some (r, S9) → mW cM iS cI cZ mo ad S H → mS (mA mo ad) s.heap H locs → lv_has ls 9 [] → W p l e R s m args below meth c H locs 0 0 (MQ below (mQw (some (.int r)) cM iS cI cZ mo ad S9) args s 0 0 (mA mo ad)) (F0 m 355 ls [.int s0]) := by
  intro S s0 H locs ls h hW hS hl
  unfold fm_holder_355 at h
  cases h
  exact m_retiW C hW hS dX12_holder_355
noncomputable def fm_holder_354 (S : mSt) : Option (Int32 × mSt) :=
fm_holder_355 S (-1 : Int32)
set_option maxRecDepth 100000 in
set_option maxHeartbeats 4000000 in
theorem wm_holder_354 (C : mY p R s m args meth c cX12_holder 9 2 42 (some .int)) (X : mX s cM iS cI cZ mo ad) : ∀ {S : mSt} {H : Heap} {locs : List Loc} {ls : Array Slot}, fm_holder_354 S = some (r, S9) → mW cM iS cI cZ mo ad S H → mS (mA mo ad) s.heap H locs → lv_has ls 9 [] → W p l e R s m args below meth c H locs 0 0 (MQ below (mQw (some (.int r)) cM iS cI cZ mo ad S9) args s 0 0 (mA mo ad)) (F0 m 354 ls []) := by
  intro S H locs ls h hW hS hl
  unfold fm_holder_354 at h
  refine lv_iconst (v := -1) C.1 C.2.1 dX12_holder_354 (by decide) ?_
  exact wm_holder_355 C X h hW hS (lv_sub hl [] rfl)
noncomputable def fm_holder_329 (g_147 : mSt → Int32 → Int32 → Int32 → Int32 → Option (Int32 × mSt)) (S : mSt) (v1 : Int32) (v3 : Int32) (v4 : Int32) (v5 : Int32) : Option (Int32 × mSt) :=
lt (v5 + (1 : Int32)) fun x1 =>
g_147 S v1 v3 v4 x1
set_option maxRecDepth 100000 in
set_option maxHeartbeats 4000000 in
theorem wm_holder_329 (C : mY p R s m args meth c cX12_holder 9 2 42 (some .int)) (X : mX s cM iS cI cZ mo ad) {g_147 : mSt → Int32 → Int32 → Int32 → Int32 → Option (Int32 × mSt)} (hg_147 : ∀ {S : mSt} {v1 : Int32} {v3 : Int32} {v4 : Int32} {v5 : Int32} {H : Heap} {locs : List Loc} {ls : Array Slot}, g_147 S v1 v3 v4 v5 = some (r, S9) → mW cM iS cI cZ mo ad S H → mS (mA mo ad) s.heap H locs → lv_has ls 9 [(0, .ref mo), (1, .int v1), (3, .int v3), (4, .int v4), (5, .int v5)] → W p l e R s m args below meth c H locs 0 0 (MQ below (mQw (some (.int r)) cM iS cI cZ mo ad S9) args s 0 0 (mA mo ad)) (F0 m 147 ls [])) : ∀ {S : mSt} {v1 : Int32} {v3 : Int32} {v4 : Int32} {v5 : Int32} {H : Heap} {locs : List Loc} {ls : Array Slot}, fm_holder_329 g_147 S v1 v3 v4 v5 = some (r, S9) → mW cM iS cI cZ mo ad S H → mS (mA mo ad) s.heap H locs → lv_has ls 9 [(0, .ref mo), (1, .int v1), (3, .int v3), (4, .int v4), (5, .int v5)] → W p l e R s m args below meth c H locs 0 0 (MQ below (mQw (some (.int r)) cM iS cI cZ mo ad S9) args s 0 0 (mA mo ad)) (F0 m 329 ls []) := by
  intro S v1 v3 v4 v5 H locs ls h hW hS hl
  unfold fm_holder_329 at h
  refine lt_ok h (fun x1 e_x1 h => ?_)
  refine lv_iinc (v := x1) (lv' := [(5, .int x1), (0, .ref mo), (1, .int v1), (3, .int v3), (4, .int v4)]) C.1 C.2.1 dX12_holder_329 hl (k := 4) rfl (by rw [← e_x1]; rfl) (by decide) rfl (fun ls hl => ?_)
  refine lv_goto (tgt := 147) C.1 C.2.1 dX12_holder_332 (by decide) ?_
  exact hg_147 h hW hS (lv_sub hl [1, 2, 3, 4, 0] rfl)
noncomputable def fm_holder_296 (g_147 : mSt → Int32 → Int32 → Int32 → Int32 → Option (Int32 × mSt)) (S : mSt) (v1 : Int32) (v3 : Int32) (v5 : Int32) (s0 : Int32) : Option (Int32 × mSt) :=
fm_holder_329 g_147 S v1 v3 s0 v5
set_option maxRecDepth 100000 in
set_option maxHeartbeats 4000000 in
theorem wm_holder_296 (C : mY p R s m args meth c cX12_holder 9 2 42 (some .int)) (X : mX s cM iS cI cZ mo ad) {g_147 : mSt → Int32 → Int32 → Int32 → Int32 → Option (Int32 × mSt)} (hg_147 : ∀ {S : mSt} {v1 : Int32} {v3 : Int32} {v4 : Int32} {v5 : Int32} {H : Heap} {locs : List Loc} {ls : Array Slot}, g_147 S v1 v3 v4 v5 = some (r, S9) → mW cM iS cI cZ mo ad S H → mS (mA mo ad) s.heap H locs → lv_has ls 9 [(0, .ref mo), (1, .int v1), (3, .int v3), (4, .int v4), (5, .int v5)] → W p l e R s m args below meth c H locs 0 0 (MQ below (mQw (some (.int r)) cM iS cI cZ mo ad S9) args s 0 0 (mA mo ad)) (F0 m 147 ls [])) : ∀ {S : mSt} {v1 : Int32} {v3 : Int32} {v5 : Int32} {s0 : Int32} {H : Heap} {locs : List Loc} {ls : Array Slot}, fm_holder_296 g_147 S v1 v3 v5 s0 = some (r, S9) → mW cM iS cI cZ mo ad S H → mS (mA mo ad) s.heap H locs → lv_has ls 9 [(0, .ref mo), (1, .int v1), (3, .int v3), (5, .int v5)] → W p l e R s m args below meth c H locs 0 0 (MQ below (mQw (some (.int r)) cM iS cI cZ mo ad S9) args s 0 0 (mA mo ad)) (F0 m 296 ls [.int s0]) := by
  intro S v1 v3 v5 s0 H locs ls h hW hS hl
  unfold fm_holder_296 at h
  refine lv_istore (lv' := [(4, .int s0), (0, .ref mo), (1, .int v1), (3, .int v3), (5, .int v5)]) C.1 C.2.1 dX12_holder_296 hl (by decide) rfl (fun ls hl => ?_)
  refine lv_goto (tgt := 329) C.1 C.2.1 dX12_holder_298 (by decide) ?_
  exact wm_holder_329 C X hg_147 h hW hS (lv_sub hl [1, 2, 3, 0, 4] rfl)
noncomputable def fm_holder_246 (g_147 : mSt → Int32 → Int32 → Int32 → Int32 → Option (Int32 × mSt)) (S : mSt) (v1 : Int32) (v3 : Int32) (v5 : Int32) (s0 : Int32) : Option (Int32 × mSt) :=
fm_holder_329 g_147 S v1 v3 s0 v5
set_option maxRecDepth 100000 in
set_option maxHeartbeats 4000000 in
theorem wm_holder_246 (C : mY p R s m args meth c cX12_holder 9 2 42 (some .int)) (X : mX s cM iS cI cZ mo ad) {g_147 : mSt → Int32 → Int32 → Int32 → Int32 → Option (Int32 × mSt)} (hg_147 : ∀ {S : mSt} {v1 : Int32} {v3 : Int32} {v4 : Int32} {v5 : Int32} {H : Heap} {locs : List Loc} {ls : Array Slot}, g_147 S v1 v3 v4 v5 = some (r, S9) → mW cM iS cI cZ mo ad S H → mS (mA mo ad) s.heap H locs → lv_has ls 9 [(0, .ref mo), (1, .int v1), (3, .int v3), (4, .int v4), (5, .int v5)] → W p l e R s m args below meth c H locs 0 0 (MQ below (mQw (some (.int r)) cM iS cI cZ mo ad S9) args s 0 0 (mA mo ad)) (F0 m 147 ls [])) : ∀ {S : mSt} {v1 : Int32} {v3 : Int32} {v5 : Int32} {s0 : Int32} {H : Heap} {locs : List Loc} {ls : Array Slot}, fm_holder_246 g_147 S v1 v3 v5 s0 = some (r, S9) → mW cM iS cI cZ mo ad S H → mS (mA mo ad) s.heap H locs → lv_has ls 9 [(0, .ref mo), (1, .int v1), (3, .int v3), (5, .int v5)] → W p l e R s m args below meth c H locs 0 0 (MQ below (mQw (some (.int r)) cM iS cI cZ mo ad S9) args s 0 0 (mA mo ad)) (F0 m 246 ls [.int s0]) := by
  intro S v1 v3 v5 s0 H locs ls h hW hS hl
  unfold fm_holder_246 at h
  refine lv_istore (lv' := [(4, .int s0), (0, .ref mo), (1, .int v1), (3, .int v3), (5, .int v5)]) C.1 C.2.1 dX12_holder_246 hl (by decide) rfl (fun ls hl => ?_)
  refine lv_goto (tgt := 329) C.1 C.2.1 dX12_holder_248 (by decide) ?_
  exact wm_holder_329 C X hg_147 h hW hS (lv_sub hl [1, 2, 3, 0, 4] rfl)
noncomputable def fm_holder_215 (g_147 : mSt → Int32 → Int32 → Int32 → Int32 → Option (Int32 × mSt)) (S : mSt) (v1 : Int32) (v3 : Int32) (v4 : Int32) (v5 : Int32) (v6 : Int32) (v7 : Int32) (s0 : Int32) : Option (Int32 × mSt) :=
ck v6 1000 (
if (rd S 9 v6) = (18 : Int32) then (
if v7 = 0 then (
fm_holder_246 g_147 S v1 v3 v5 v4)
else (
ck v6 1000 (
fm_holder_246 g_147 S v1 v3 v5 (rd S 14 v6))))
else (
if v7 = 0 then (
if s0 = 0 then (
fm_holder_329 g_147 S v1 v3 v4 v5)
else (
bd (fm_nodeOf v6) fun r4 =>
ck v6 1000 (
ck v6 1000 (
lt ((rd S 14 v6) + (rd S 12 v6)) fun x5 =>
fm_holder_329 g_147 S v1 r4 x5 v5))))
else (
ck v6 1000 (
ck v6 1000 (
if ((rd S 14 v6) + (rd S 12 v6)) ≤ v4 then (
fm_holder_296 g_147 S v1 v3 v5 v4)
else (
ck v6 1000 (
ck v6 1000 (
fm_holder_296 g_147 S v1 v3 v5 ((rd S 14 v6) + (rd S 12 v6))))))))))
set_option maxRecDepth 100000 in
set_option maxHeartbeats 4000000 in
theorem wm_holder_215 (C : mY p R s m args meth c cX12_holder 9 2 42 (some .int)) (X : mX s cM iS cI cZ mo ad) {g_147 : mSt → Int32 → Int32 → Int32 → Int32 → Option (Int32 × mSt)} (hg_147 : ∀ {S : mSt} {v1 : Int32} {v3 : Int32} {v4 : Int32} {v5 : Int32} {H : Heap} {locs : List Loc} {ls : Array Slot}, g_147 S v1 v3 v4 v5 = some (r, S9) → mW cM iS cI cZ mo ad S H → mS (mA mo ad) s.heap H locs → lv_has ls 9 [(0, .ref mo), (1, .int v1), (3, .int v3), (4, .int v4), (5, .int v5)] → W p l e R s m args below meth c H locs 0 0 (MQ below (mQw (some (.int r)) cM iS cI cZ mo ad S9) args s 0 0 (mA mo ad)) (F0 m 147 ls [])) : ∀ {S : mSt} {v1 : Int32} {v3 : Int32} {v4 : Int32} {v5 : Int32} {v6 : Int32} {v7 : Int32} {s0 : Int32} {H : Heap} {locs : List Loc} {ls : Array Slot}, fm_holder_215 g_147 S v1 v3 v4 v5 v6 v7 s0 = some (r, S9) → mW cM iS cI cZ mo ad S H → mS (mA mo ad) s.heap H locs → lv_has ls 9 [(0, .ref mo), (1, .int v1), (3, .int v3), (4, .int v4), (5, .int v5), (6, .int v6), (7, .int v7)] → W p l e R s m args below meth c H locs 0 0 (MQ below (mQw (some (.int r)) cM iS cI cZ mo ad S9) args s 0 0 (mA mo ad)) (F0 m 215 ls [.int s0]) := by
  intro S v1 v3 v4 v5 v6 v7 s0 H locs ls h hW hS hl
  unfold fm_holder_215 at h
  refine lv_istore (lv' := [(8, .int s0), (0, .ref mo), (1, .int v1), (3, .int v3), (4, .int v4), (5, .int v5), (6, .int v6), (7, .int v7)]) C.1 C.2.1 dX12_holder_215 hl (by decide) rfl (fun ls hl => ?_)
  refine lv_aload_n C.1 C.2.1 dX12_holder_217 rfl (lv_at hl 1 rfl) ?_
  refine gf_9 C X hW dX12_holder_218 ?_
  refine lv_iload C.1 C.2.1 dX12_holder_221 (lv_at hl 6 rfl) ?_
  obtain ⟨hin, h⟩ := ck_ok h
  refine l_9 C X hW hin dX12_holder_223 ?_
  refine lv_bipush (v := 18) C.1 C.2.1 dX12_holder_224 (by decide) ?_
  refine lv_icmp_ne (tgt := 251) C.1 C.2.1 dX12_holder_226 (by decide) (fun c1 => ?_) (fun c1 => ?_)
  · have h := if_f h c1
    refine lv_iload C.1 C.2.1 dX12_holder_251 (lv_at hl 7 rfl) ?_
    refine lv_if_eq (tgt := 301) C.1 C.2.1 dX12_holder_253 (by decide) (fun c2 => ?_) (fun c2 => ?_)
    · have h := if_t h c2
      refine lv_iload C.1 C.2.1 dX12_holder_301 (lv_at hl 0 rfl) ?_
      refine lv_if_eq (tgt := 329) C.1 C.2.1 dX12_holder_303 (by decide) (fun c3 => ?_) (fun c3 => ?_)
      · have h := if_t h c3
        exact wm_holder_329 C X hg_147 h hW hS (lv_sub hl [1, 2, 3, 4, 5] rfl)
      · have h := if_f h c3
        refine lv_iload C.1 C.2.1 dX12_holder_306 (lv_at hl 6 rfl) ?_
        obtain ⟨r4, h_r4, h⟩ := bd_ok h
        refine m_callS (rest := []) C hl.1 [.int v6] (tm_nodeOf l h_r4) mw_nodeOf st_nodeOf rfl ⟨by decide, by decide⟩ rfl (Nat.le_of_ble_eq_true rfl) dX12_holder_308 ?_
        refine lv_istore_n (lv' := [(3, .int r4), (8, .int s0), (0, .ref mo), (1, .int v1), (4, .int v4), (5, .int v5), (6, .int v6), (7, .int v7)]) C.1 C.2.1 dX12_holder_311 rfl hl (by decide) rfl (fun ls hl => ?_)
        refine lv_aload_n C.1 C.2.1 dX12_holder_312 rfl (lv_at hl 2 rfl) ?_
        refine gf_14 C X hW dX12_holder_313 ?_
        refine lv_iload C.1 C.2.1 dX12_holder_316 (lv_at hl 6 rfl) ?_
        obtain ⟨hin, h⟩ := ck_ok h
        refine l_14 C X hW hin dX12_holder_318 ?_
        refine lv_aload_n C.1 C.2.1 dX12_holder_319 rfl (lv_at hl 2 rfl) ?_
        refine gf_12 C X hW dX12_holder_320 ?_
        refine lv_iload C.1 C.2.1 dX12_holder_323 (lv_at hl 6 rfl) ?_
        obtain ⟨hin, h⟩ := ck_ok h
        refine l_12 C X hW hin dX12_holder_325 ?_
        refine lv_iadd C.1 C.2.1 dX12_holder_326 ?_
        refine lt_ok h (fun x5 e_x5 h => ?_)
        refine lv_nm e_x5 ?_
        refine lv_istore (lv' := [(4, .int x5), (3, .int r4), (8, .int s0), (0, .ref mo), (1, .int v1), (5, .int v5), (6, .int v6), (7, .int v7)]) C.1 C.2.1 dX12_holder_327 hl (by decide) rfl (fun ls hl => ?_)
        exact wm_holder_329 C X hg_147 h hW hS (lv_sub hl [3, 4, 1, 0, 5] rfl)
    · have h := if_f h c2
      refine lv_aload_n C.1 C.2.1 dX12_holder_256 rfl (lv_at hl 1 rfl) ?_
      refine gf_14 C X hW dX12_holder_257 ?_
      refine lv_iload C.1 C.2.1 dX12_holder_260 (lv_at hl 6 rfl) ?_
      obtain ⟨hin, h⟩ := ck_ok h
      refine l_14 C X hW hin dX12_holder_262 ?_
      refine lv_aload_n C.1 C.2.1 dX12_holder_263 rfl (lv_at hl 1 rfl) ?_
      refine gf_12 C X hW dX12_holder_264 ?_
      refine lv_iload C.1 C.2.1 dX12_holder_267 (lv_at hl 6 rfl) ?_
      obtain ⟨hin, h⟩ := ck_ok h
      refine l_12 C X hW hin dX12_holder_269 ?_
      refine lv_iadd C.1 C.2.1 dX12_holder_270 ?_
      refine lv_iload C.1 C.2.1 dX12_holder_271 (lv_at hl 4 rfl) ?_
      refine lv_icmp_le (tgt := 294) C.1 C.2.1 dX12_holder_273 (by decide) (fun c6 => ?_) (fun c6 => ?_)
      · have h := if_t h c6
        refine lv_iload C.1 C.2.1 dX12_holder_294 (lv_at hl 4 rfl) ?_
        exact wm_holder_296 C X hg_147 h hW hS (lv_sub hl [1, 2, 3, 5] rfl)
      · have h := if_f h c6
        refine lv_aload_n C.1 C.2.1 dX12_holder_276 rfl (lv_at hl 1 rfl) ?_
        refine gf_14 C X hW dX12_holder_277 ?_
        refine lv_iload C.1 C.2.1 dX12_holder_280 (lv_at hl 6 rfl) ?_
        obtain ⟨hin, h⟩ := ck_ok h
        refine l_14 C X hW hin dX12_holder_282 ?_
        refine lv_aload_n C.1 C.2.1 dX12_holder_283 rfl (lv_at hl 1 rfl) ?_
        refine gf_12 C X hW dX12_holder_284 ?_
        refine lv_iload C.1 C.2.1 dX12_holder_287 (lv_at hl 6 rfl) ?_
        obtain ⟨hin, h⟩ := ck_ok h
        refine l_12 C X hW hin dX12_holder_289 ?_
        refine lv_iadd C.1 C.2.1 dX12_holder_290 ?_
        refine lv_goto (tgt := 296) C.1 C.2.1 dX12_holder_291 (by decide) ?_
        exact wm_holder_296 C X hg_147 h hW hS (lv_sub hl [1, 2, 3, 5] rfl)
  · have h := if_t h c1
    refine lv_iload C.1 C.2.1 dX12_holder_229 (lv_at hl 7 rfl) ?_
    refine lv_if_eq (tgt := 244) C.1 C.2.1 dX12_holder_231 (by decide) (fun c7 => ?_) (fun c7 => ?_)
    · have h := if_t h c7
      refine lv_iload C.1 C.2.1 dX12_holder_244 (lv_at hl 4 rfl) ?_
      exact wm_holder_246 C X hg_147 h hW hS (lv_sub hl [1, 2, 3, 5] rfl)
    · have h := if_f h c7
      refine lv_aload_n C.1 C.2.1 dX12_holder_234 rfl (lv_at hl 1 rfl) ?_
      refine gf_14 C X hW dX12_holder_235 ?_
      refine lv_iload C.1 C.2.1 dX12_holder_238 (lv_at hl 6 rfl) ?_
      obtain ⟨hin, h⟩ := ck_ok h
      refine l_14 C X hW hin dX12_holder_240 ?_
      refine lv_goto (tgt := 246) C.1 C.2.1 dX12_holder_241 (by decide) ?_
      exact wm_holder_246 C X hg_147 h hW hS (lv_sub hl [1, 2, 3, 5] rfl)
noncomputable def fm_holder_210 (g_147 : mSt → Int32 → Int32 → Int32 → Int32 → Option (Int32 × mSt)) (S : mSt) (v1 : Int32) (v3 : Int32) (v4 : Int32) (v5 : Int32) (v6 : Int32) (v7 : Int32) : Option (Int32 × mSt) :=
fm_holder_215 g_147 S v1 v3 v4 v5 v6 v7 (1 : Int32)
set_option maxRecDepth 100000 in
set_option maxHeartbeats 4000000 in
theorem wm_holder_210 (C : mY p R s m args meth c cX12_holder 9 2 42 (some .int)) (X : mX s cM iS cI cZ mo ad) {g_147 : mSt → Int32 → Int32 → Int32 → Int32 → Option (Int32 × mSt)} (hg_147 : ∀ {S : mSt} {v1 : Int32} {v3 : Int32} {v4 : Int32} {v5 : Int32} {H : Heap} {locs : List Loc} {ls : Array Slot}, g_147 S v1 v3 v4 v5 = some (r, S9) → mW cM iS cI cZ mo ad S H → mS (mA mo ad) s.heap H locs → lv_has ls 9 [(0, .ref mo), (1, .int v1), (3, .int v3), (4, .int v4), (5, .int v5)] → W p l e R s m args below meth c H locs 0 0 (MQ below (mQw (some (.int r)) cM iS cI cZ mo ad S9) args s 0 0 (mA mo ad)) (F0 m 147 ls [])) : ∀ {S : mSt} {v1 : Int32} {v3 : Int32} {v4 : Int32} {v5 : Int32} {v6 : Int32} {v7 : Int32} {H : Heap} {locs : List Loc} {ls : Array Slot}, fm_holder_210 g_147 S v1 v3 v4 v5 v6 v7 = some (r, S9) → mW cM iS cI cZ mo ad S H → mS (mA mo ad) s.heap H locs → lv_has ls 9 [(0, .ref mo), (1, .int v1), (3, .int v3), (4, .int v4), (5, .int v5), (6, .int v6), (7, .int v7)] → W p l e R s m args below meth c H locs 0 0 (MQ below (mQw (some (.int r)) cM iS cI cZ mo ad S9) args s 0 0 (mA mo ad)) (F0 m 210 ls []) := by
  intro S v1 v3 v4 v5 v6 v7 H locs ls h hW hS hl
  unfold fm_holder_210 at h
  refine lv_iconst (v := 1) C.1 C.2.1 dX12_holder_210 (by decide) ?_
  refine lv_goto (tgt := 215) C.1 C.2.1 dX12_holder_211 (by decide) ?_
  exact wm_holder_215 C X hg_147 h hW hS (lv_sub hl [0, 1, 2, 3, 4, 5, 6] rfl)
noncomputable def fm_holder_191 (g_147 : mSt → Int32 → Int32 → Int32 → Int32 → Option (Int32 × mSt)) (S : mSt) (v1 : Int32) (v3 : Int32) (v4 : Int32) (v5 : Int32) (v6 : Int32) (s0 : Int32) : Option (Int32 × mSt) :=
if v3 = (-1 : Int32) then (
fm_holder_210 g_147 S v1 v3 v4 v5 v6 s0)
else (
ck v6 1000 (
if (rd S 14 v6) < v4 then (
fm_holder_215 g_147 S v1 v3 v4 v5 v6 s0 (0 : Int32))
else (
fm_holder_210 g_147 S v1 v3 v4 v5 v6 s0)))
set_option maxRecDepth 100000 in
set_option maxHeartbeats 4000000 in
theorem wm_holder_191 (C : mY p R s m args meth c cX12_holder 9 2 42 (some .int)) (X : mX s cM iS cI cZ mo ad) {g_147 : mSt → Int32 → Int32 → Int32 → Int32 → Option (Int32 × mSt)} (hg_147 : ∀ {S : mSt} {v1 : Int32} {v3 : Int32} {v4 : Int32} {v5 : Int32} {H : Heap} {locs : List Loc} {ls : Array Slot}, g_147 S v1 v3 v4 v5 = some (r, S9) → mW cM iS cI cZ mo ad S H → mS (mA mo ad) s.heap H locs → lv_has ls 9 [(0, .ref mo), (1, .int v1), (3, .int v3), (4, .int v4), (5, .int v5)] → W p l e R s m args below meth c H locs 0 0 (MQ below (mQw (some (.int r)) cM iS cI cZ mo ad S9) args s 0 0 (mA mo ad)) (F0 m 147 ls [])) : ∀ {S : mSt} {v1 : Int32} {v3 : Int32} {v4 : Int32} {v5 : Int32} {v6 : Int32} {s0 : Int32} {H : Heap} {locs : List Loc} {ls : Array Slot}, fm_holder_191 g_147 S v1 v3 v4 v5 v6 s0 = some (r, S9) → mW cM iS cI cZ mo ad S H → mS (mA mo ad) s.heap H locs → lv_has ls 9 [(0, .ref mo), (1, .int v1), (3, .int v3), (4, .int v4), (5, .int v5), (6, .int v6)] → W p l e R s m args below meth c H locs 0 0 (MQ below (mQw (some (.int r)) cM iS cI cZ mo ad S9) args s 0 0 (mA mo ad)) (F0 m 191 ls [.int s0]) := by
  intro S v1 v3 v4 v5 v6 s0 H locs ls h hW hS hl
  unfold fm_holder_191 at h
  refine lv_istore (lv' := [(7, .int s0), (0, .ref mo), (1, .int v1), (3, .int v3), (4, .int v4), (5, .int v5), (6, .int v6)]) C.1 C.2.1 dX12_holder_191 hl (by decide) rfl (fun ls hl => ?_)
  refine lv_iload_n C.1 C.2.1 dX12_holder_193 rfl (lv_at hl 3 rfl) ?_
  refine lv_iconst (v := -1) C.1 C.2.1 dX12_holder_194 (by decide) ?_
  refine lv_icmp_eq (tgt := 210) C.1 C.2.1 dX12_holder_195 (by decide) (fun c1 => ?_) (fun c1 => ?_)
  · have h := if_t h c1
    exact wm_holder_210 C X hg_147 h hW hS (lv_sub hl [1, 2, 3, 4, 5, 6, 0] rfl)
  · have h := if_f h c1
    refine lv_aload_n C.1 C.2.1 dX12_holder_198 rfl (lv_at hl 1 rfl) ?_
    refine gf_14 C X hW dX12_holder_199 ?_
    refine lv_iload C.1 C.2.1 dX12_holder_202 (lv_at hl 6 rfl) ?_
    obtain ⟨hin, h⟩ := ck_ok h
    refine l_14 C X hW hin dX12_holder_204 ?_
    refine lv_iload C.1 C.2.1 dX12_holder_205 (lv_at hl 4 rfl) ?_
    refine lv_icmp_lt (tgt := 214) C.1 C.2.1 dX12_holder_207 (by decide) (fun c2 => ?_) (fun c2 => ?_)
    · have h := if_t h c2
      refine lv_iconst (v := 0) C.1 C.2.1 dX12_holder_214 (by decide) ?_
      exact wm_holder_215 C X hg_147 h hW hS (lv_sub hl [1, 2, 3, 4, 5, 6, 0] rfl)
    · have h := if_f h c2
      exact wm_holder_210 C X hg_147 h hW hS (lv_sub hl [1, 2, 3, 4, 5, 6, 0] rfl)
noncomputable def fm_holder_190 (g_147 : mSt → Int32 → Int32 → Int32 → Int32 → Option (Int32 × mSt)) (S : mSt) (v1 : Int32) (v3 : Int32) (v4 : Int32) (v5 : Int32) (v6 : Int32) : Option (Int32 × mSt) :=
fm_holder_191 g_147 S v1 v3 v4 v5 v6 (0 : Int32)
set_option maxRecDepth 100000 in
set_option maxHeartbeats 4000000 in
theorem wm_holder_190 (C : mY p R s m args meth c cX12_holder 9 2 42 (some .int)) (X : mX s cM iS cI cZ mo ad) {g_147 : mSt → Int32 → Int32 → Int32 → Int32 → Option (Int32 × mSt)} (hg_147 : ∀ {S : mSt} {v1 : Int32} {v3 : Int32} {v4 : Int32} {v5 : Int32} {H : Heap} {locs : List Loc} {ls : Array Slot}, g_147 S v1 v3 v4 v5 = some (r, S9) → mW cM iS cI cZ mo ad S H → mS (mA mo ad) s.heap H locs → lv_has ls 9 [(0, .ref mo), (1, .int v1), (3, .int v3), (4, .int v4), (5, .int v5)] → W p l e R s m args below meth c H locs 0 0 (MQ below (mQw (some (.int r)) cM iS cI cZ mo ad S9) args s 0 0 (mA mo ad)) (F0 m 147 ls [])) : ∀ {S : mSt} {v1 : Int32} {v3 : Int32} {v4 : Int32} {v5 : Int32} {v6 : Int32} {H : Heap} {locs : List Loc} {ls : Array Slot}, fm_holder_190 g_147 S v1 v3 v4 v5 v6 = some (r, S9) → mW cM iS cI cZ mo ad S H → mS (mA mo ad) s.heap H locs → lv_has ls 9 [(0, .ref mo), (1, .int v1), (3, .int v3), (4, .int v4), (5, .int v5), (6, .int v6)] → W p l e R s m args below meth c H locs 0 0 (MQ below (mQw (some (.int r)) cM iS cI cZ mo ad S9) args s 0 0 (mA mo ad)) (F0 m 190 ls []) := by
  intro S v1 v3 v4 v5 v6 H locs ls h hW hS hl
  unfold fm_holder_190 at h
  refine lv_iconst (v := 0) C.1 C.2.1 dX12_holder_190 (by decide) ?_
  exact wm_holder_191 C X hg_147 h hW hS (lv_sub hl [0, 1, 2, 3, 4, 5] rfl)
noncomputable def fm_holder_147 : Nat → mSt → Int32 → Int32 → Int32 → Int32 → Option (Int32 × mSt)
  | 0, _, _, _, _, _ => none
  | n + 1, S, v1, v3, v4, v5 =>
    if (S.1 59) ≤ v5 then (
    if v3 = (-1 : Int32) then (
    fm_holder_354 S)
    else (
    bd (fm_nowOf S v1) fun r3 =>
    if v4 ≤ r3 then (
    fm_holder_354 S)
    else (
    fm_holder_355 S v3)))
    else (
    ck v5 1000 (
    lt (rd S 60 v5) fun x5 =>
    bd (fm_nodeOf x5) fun r6 =>
    if v3 = r6 then (
    ck x5 1000 (
    if v4 ≤ (rd S 14 x5) then (
    fm_holder_190 (fm_holder_147 n) S v1 v3 v4 v5 x5)
    else (
    fm_holder_191 (fm_holder_147 n) S v1 v3 v4 v5 x5 (1 : Int32))))
    else (
    fm_holder_190 (fm_holder_147 n) S v1 v3 v4 v5 x5)))
set_option maxRecDepth 100000 in
set_option maxHeartbeats 4000000 in
theorem wm_holder_147 (C : mY p R s m args meth c cX12_holder 9 2 42 (some .int)) (X : mX s cM iS cI cZ mo ad) : ∀ (n : Nat), ∀ {S : mSt} {v1 : Int32} {v3 : Int32} {v4 : Int32} {v5 : Int32} {H : Heap} {locs : List Loc} {ls : Array Slot}, fm_holder_147 n S v1 v3 v4 v5 = some (r, S9) → mW cM iS cI cZ mo ad S H → mS (mA mo ad) s.heap H locs → lv_has ls 9 [(0, .ref mo), (1, .int v1), (3, .int v3), (4, .int v4), (5, .int v5)] → W p l e R s m args below meth c H locs 0 0 (MQ below (mQw (some (.int r)) cM iS cI cZ mo ad S9) args s 0 0 (mA mo ad)) (F0 m 147 ls []) := by
  intro n
  induction n with
  | zero =>
    intro S v1 v3 v4 v5 H locs ls h hW hS hl
    exact absurd (show (none : Option (Int32 × mSt)) = _ from h) (fun q => by cases q)
  | succ n ih =>
    intro S v1 v3 v4 v5 H locs ls h hW hS hl
    rw [fm_holder_147] at h
    refine lv_iload C.1 C.2.1 dX12_holder_147 (lv_at hl 4 rfl) ?_
    refine lv_aload_n C.1 C.2.1 dX12_holder_149 rfl (lv_at hl 0 rfl) ?_
    refine gf_59 C X hW dX12_holder_150 ?_
    refine lv_icmp_ge (tgt := 335) C.1 C.2.1 dX12_holder_153 (by decide) (fun c1 => ?_) (fun c1 => ?_)
    · have h := if_t h c1
      refine lv_iload_n C.1 C.2.1 dX12_holder_335 rfl (lv_at hl 2 rfl) ?_
      refine lv_iconst (v := -1) C.1 C.2.1 dX12_holder_336 (by decide) ?_
      refine lv_icmp_eq (tgt := 354) C.1 C.2.1 dX12_holder_337 (by decide) (fun c2 => ?_) (fun c2 => ?_)
      · have h := if_t h c2
        exact wm_holder_354 C X h hW hS (lv_sub hl [] rfl)
      · have h := if_f h c2
        refine lv_aload_n C.1 C.2.1 dX12_holder_340 rfl (lv_at hl 0 rfl) ?_
        refine lv_iload_n C.1 C.2.1 dX12_holder_341 rfl (lv_at hl 1 rfl) ?_
        obtain ⟨r3, h_r3, h⟩ := bd_ok h
        refine m_callR (rest := []) C X hW hl.1 [.int v1] (tm_nowOf l h_r3) mw_nowOf im_nowOf sl_nowOf rfl ⟨by decide, by decide⟩ rfl (Nat.le_of_ble_eq_true rfl) dX12_holder_342 ?_
        refine lv_iload C.1 C.2.1 dX12_holder_345 (lv_at hl 3 rfl) ?_
        refine lv_icmp_ge (tgt := 354) C.1 C.2.1 dX12_holder_347 (by decide) (fun c4 => ?_) (fun c4 => ?_)
        · have h := if_t h c4
          exact wm_holder_354 C X h hW hS (lv_sub hl [] rfl)
        · have h := if_f h c4
          refine lv_iload_n C.1 C.2.1 dX12_holder_350 rfl (lv_at hl 2 rfl) ?_
          refine lv_goto (tgt := 355) C.1 C.2.1 dX12_holder_351 (by decide) ?_
          exact wm_holder_355 C X h hW hS (lv_sub hl [] rfl)
    · have h := if_f h c1
      refine lv_aload_n C.1 C.2.1 dX12_holder_156 rfl (lv_at hl 0 rfl) ?_
      refine gf_60 C X hW dX12_holder_157 ?_
      refine lv_iload C.1 C.2.1 dX12_holder_160 (lv_at hl 4 rfl) ?_
      obtain ⟨hin, h⟩ := ck_ok h
      refine l_60 C X hW hin dX12_holder_162 ?_
      refine lt_ok h (fun x5 e_x5 h => ?_)
      refine lv_nm e_x5 ?_
      refine lv_istore (lv' := [(6, .int x5), (0, .ref mo), (1, .int v1), (3, .int v3), (4, .int v4), (5, .int v5)]) C.1 C.2.1 dX12_holder_163 hl (by decide) rfl (fun ls hl => ?_)
      refine lv_iload_n C.1 C.2.1 dX12_holder_165 rfl (lv_at hl 3 rfl) ?_
      refine lv_iload C.1 C.2.1 dX12_holder_166 (lv_at hl 0 rfl) ?_
      obtain ⟨r6, h_r6, h⟩ := bd_ok h
      refine m_callS (rest := [.int v3]) C hl.1 [.int x5] (tm_nodeOf l h_r6) mw_nodeOf st_nodeOf rfl ⟨by decide, by decide⟩ rfl (Nat.le_of_ble_eq_true rfl) dX12_holder_168 ?_
      refine lv_icmp_ne (tgt := 190) C.1 C.2.1 dX12_holder_171 (by decide) (fun c7 => ?_) (fun c7 => ?_)
      · have h := if_f h c7
        exact wm_holder_190 C X ih h hW hS (lv_sub hl [1, 2, 3, 4, 5, 0] rfl)
      · have h := if_t h c7
        refine lv_aload_n C.1 C.2.1 dX12_holder_174 rfl (lv_at hl 1 rfl) ?_
        refine gf_14 C X hW dX12_holder_175 ?_
        refine lv_iload C.1 C.2.1 dX12_holder_178 (lv_at hl 0 rfl) ?_
        obtain ⟨hin, h⟩ := ck_ok h
        refine l_14 C X hW hin dX12_holder_180 ?_
        refine lv_iload C.1 C.2.1 dX12_holder_181 (lv_at hl 4 rfl) ?_
        refine lv_icmp_ge (tgt := 190) C.1 C.2.1 dX12_holder_183 (by decide) (fun c8 => ?_) (fun c8 => ?_)
        · have h := if_t h c8
          exact wm_holder_190 C X ih h hW hS (lv_sub hl [1, 2, 3, 4, 5, 0] rfl)
        · have h := if_f h c8
          refine lv_iconst (v := 1) C.1 C.2.1 dX12_holder_186 (by decide) ?_
          refine lv_goto (tgt := 191) C.1 C.2.1 dX12_holder_187 (by decide) ?_
          exact wm_holder_191 C X ih h hW hS (lv_sub hl [1, 2, 3, 4, 5, 0] rfl)
noncomputable def fm_holder_133 (g_7 : mSt → Int32 → Int32 → Int32 → Option (Int32 × mSt)) (S : mSt) (v1 : Int32) (v2 : Int32) (v3 : Int32) : Option (Int32 × mSt) :=
lt (v3 + (1 : Int32)) fun x1 =>
g_7 S v1 v2 x1
set_option maxRecDepth 100000 in
set_option maxHeartbeats 4000000 in
theorem wm_holder_133 (C : mY p R s m args meth c cX12_holder 9 2 42 (some .int)) (X : mX s cM iS cI cZ mo ad) {g_7 : mSt → Int32 → Int32 → Int32 → Option (Int32 × mSt)} (hg_7 : ∀ {S : mSt} {v1 : Int32} {v2 : Int32} {v3 : Int32} {H : Heap} {locs : List Loc} {ls : Array Slot}, g_7 S v1 v2 v3 = some (r, S9) → mW cM iS cI cZ mo ad S H → mS (mA mo ad) s.heap H locs → lv_has ls 9 [(0, .ref mo), (1, .int v1), (2, .int v2), (3, .int v3)] → W p l e R s m args below meth c H locs 0 0 (MQ below (mQw (some (.int r)) cM iS cI cZ mo ad S9) args s 0 0 (mA mo ad)) (F0 m 7 ls [])) : ∀ {S : mSt} {v1 : Int32} {v2 : Int32} {v3 : Int32} {H : Heap} {locs : List Loc} {ls : Array Slot}, fm_holder_133 g_7 S v1 v2 v3 = some (r, S9) → mW cM iS cI cZ mo ad S H → mS (mA mo ad) s.heap H locs → lv_has ls 9 [(0, .ref mo), (1, .int v1), (2, .int v2), (3, .int v3)] → W p l e R s m args below meth c H locs 0 0 (MQ below (mQw (some (.int r)) cM iS cI cZ mo ad S9) args s 0 0 (mA mo ad)) (F0 m 133 ls []) := by
  intro S v1 v2 v3 H locs ls h hW hS hl
  unfold fm_holder_133 at h
  refine lt_ok h (fun x1 e_x1 h => ?_)
  refine lv_iinc (v := x1) (lv' := [(3, .int x1), (0, .ref mo), (1, .int v1), (2, .int v2)]) C.1 C.2.1 dX12_holder_133 hl (k := 3) rfl (by rw [← e_x1]; rfl) (by decide) rfl (fun ls hl => ?_)
  refine lv_goto (tgt := 7) C.1 C.2.1 dX12_holder_136 (by decide) ?_
  exact hg_7 h hW hS (lv_sub hl [1, 2, 3, 0] rfl)
noncomputable def fm_holder_114 (g_7 : mSt → Int32 → Int32 → Int32 → Option (Int32 × mSt)) (S : mSt) (v1 : Int32) (v2 : Int32) (v3 : Int32) (v4 : Int32) (v5 : Int32) : Option (Int32 × mSt) :=
ck v5 1000 (lt (wr S 60 v5 v4) fun S1 =>
lt (pu S1 59 ((S1.1 59) + (1 : Int32))) fun S2 =>
fm_holder_133 g_7 S2 v1 v2 v3)
set_option maxRecDepth 100000 in
set_option maxHeartbeats 4000000 in
theorem wm_holder_114 (C : mY p R s m args meth c cX12_holder 9 2 42 (some .int)) (X : mX s cM iS cI cZ mo ad) {g_7 : mSt → Int32 → Int32 → Int32 → Option (Int32 × mSt)} (hg_7 : ∀ {S : mSt} {v1 : Int32} {v2 : Int32} {v3 : Int32} {H : Heap} {locs : List Loc} {ls : Array Slot}, g_7 S v1 v2 v3 = some (r, S9) → mW cM iS cI cZ mo ad S H → mS (mA mo ad) s.heap H locs → lv_has ls 9 [(0, .ref mo), (1, .int v1), (2, .int v2), (3, .int v3)] → W p l e R s m args below meth c H locs 0 0 (MQ below (mQw (some (.int r)) cM iS cI cZ mo ad S9) args s 0 0 (mA mo ad)) (F0 m 7 ls [])) : ∀ {S : mSt} {v1 : Int32} {v2 : Int32} {v3 : Int32} {v4 : Int32} {v5 : Int32} {H : Heap} {locs : List Loc} {ls : Array Slot}, fm_holder_114 g_7 S v1 v2 v3 v4 v5 = some (r, S9) → mW cM iS cI cZ mo ad S H → mS (mA mo ad) s.heap H locs → lv_has ls 9 [(0, .ref mo), (1, .int v1), (2, .int v2), (3, .int v3), (4, .int v4), (5, .int v5)] → W p l e R s m args below meth c H locs 0 0 (MQ below (mQw (some (.int r)) cM iS cI cZ mo ad S9) args s 0 0 (mA mo ad)) (F0 m 114 ls []) := by
  intro S v1 v2 v3 v4 v5 H locs ls h hW hS hl
  unfold fm_holder_114 at h
  refine lv_aload_n C.1 C.2.1 dX12_holder_114 rfl (lv_at hl 0 rfl) ?_
  refine gf_60 C X hW dX12_holder_115 ?_
  refine lv_iload C.1 C.2.1 dX12_holder_118 (lv_at hl 5 rfl) ?_
  refine lv_iload C.1 C.2.1 dX12_holder_120 (lv_at hl 4 rfl) ?_
  obtain ⟨hin, h⟩ := ck_ok h
  refine s_60 C X hW hS hin dX12_holder_122 (fun H locs hW hS => ?_)
  refine lt_ok h (fun S1 e_S1 h => ?_)
  rw [e_S1] at hW
  refine lv_aload_n C.1 C.2.1 dX12_holder_123 rfl (lv_at hl 0 rfl) ?_
  refine lv_dup C.1 C.2.1 dX12_holder_124 rfl ?_
  refine gf_59 C X hW dX12_holder_125 ?_
  refine lv_iconst (v := 1) C.1 C.2.1 dX12_holder_128 (by decide) ?_
  refine lv_iadd C.1 C.2.1 dX12_holder_129 ?_
  refine p_59 C X hW hS dX12_holder_130 (fun H locs hW hS => ?_)
  refine lt_ok h (fun S2 e_S2 h => ?_)
  rw [e_S2] at hW
  exact wm_holder_133 C X hg_7 h hW hS (lv_sub hl [0, 1, 2, 3] rfl)
noncomputable def fm_holder_69 (g_7 : mSt → Int32 → Int32 → Int32 → Option (Int32 × mSt)) : Nat → mSt → Int32 → Int32 → Int32 → Int32 → Int32 → Option (Int32 × mSt)
  | 0, _, _, _, _, _, _ => none
  | n + 1, S, v1, v2, v3, v4, v5 =>
    if v5 ≤ 0 then (
    fm_holder_114 g_7 S v1 v2 v3 v4 v5)
    else (
    ck (v5 - (1 : Int32)) 1000 (
    bd (fm_isBefore S v4 (rd S 60 (v5 - (1 : Int32)))) fun r2 =>
    if r2 = 0 then (
    fm_holder_114 g_7 S v1 v2 v3 v4 v5)
    else (
    ck (v5 - (1 : Int32)) 1000 (
    ck v5 1000 (lt (wr S 60 v5 (rd S 60 (v5 - (1 : Int32)))) fun S4 =>
    lt (v5 + (-1 : Int32)) fun x5 =>
    fm_holder_69 g_7 n S4 v1 v2 v3 v4 x5)))))
set_option maxRecDepth 100000 in
set_option maxHeartbeats 4000000 in
theorem wm_holder_69 (C : mY p R s m args meth c cX12_holder 9 2 42 (some .int)) (X : mX s cM iS cI cZ mo ad) {g_7 : mSt → Int32 → Int32 → Int32 → Option (Int32 × mSt)} (hg_7 : ∀ {S : mSt} {v1 : Int32} {v2 : Int32} {v3 : Int32} {H : Heap} {locs : List Loc} {ls : Array Slot}, g_7 S v1 v2 v3 = some (r, S9) → mW cM iS cI cZ mo ad S H → mS (mA mo ad) s.heap H locs → lv_has ls 9 [(0, .ref mo), (1, .int v1), (2, .int v2), (3, .int v3)] → W p l e R s m args below meth c H locs 0 0 (MQ below (mQw (some (.int r)) cM iS cI cZ mo ad S9) args s 0 0 (mA mo ad)) (F0 m 7 ls [])) : ∀ (n : Nat), ∀ {S : mSt} {v1 : Int32} {v2 : Int32} {v3 : Int32} {v4 : Int32} {v5 : Int32} {H : Heap} {locs : List Loc} {ls : Array Slot}, fm_holder_69 g_7 n S v1 v2 v3 v4 v5 = some (r, S9) → mW cM iS cI cZ mo ad S H → mS (mA mo ad) s.heap H locs → lv_has ls 9 [(0, .ref mo), (1, .int v1), (2, .int v2), (3, .int v3), (4, .int v4), (5, .int v5)] → W p l e R s m args below meth c H locs 0 0 (MQ below (mQw (some (.int r)) cM iS cI cZ mo ad S9) args s 0 0 (mA mo ad)) (F0 m 69 ls []) := by
  intro n
  induction n with
  | zero =>
    intro S v1 v2 v3 v4 v5 H locs ls h hW hS hl
    exact absurd (show (none : Option (Int32 × mSt)) = _ from h) (fun q => by cases q)
  | succ n ih =>
    intro S v1 v2 v3 v4 v5 H locs ls h hW hS hl
    rw [fm_holder_69] at h
    refine lv_iload C.1 C.2.1 dX12_holder_69 (lv_at hl 5 rfl) ?_
    refine lv_if_le (tgt := 114) C.1 C.2.1 dX12_holder_71 (by decide) (fun c1 => ?_) (fun c1 => ?_)
    · have h := if_t h c1
      exact wm_holder_114 C X hg_7 h hW hS (lv_sub hl [0, 1, 2, 3, 4, 5] rfl)
    · have h := if_f h c1
      refine lv_aload_n C.1 C.2.1 dX12_holder_74 rfl (lv_at hl 0 rfl) ?_
      refine lv_iload C.1 C.2.1 dX12_holder_75 (lv_at hl 4 rfl) ?_
      refine lv_aload_n C.1 C.2.1 dX12_holder_77 rfl (lv_at hl 0 rfl) ?_
      refine gf_60 C X hW dX12_holder_78 ?_
      refine lv_iload C.1 C.2.1 dX12_holder_81 (lv_at hl 5 rfl) ?_
      refine lv_iconst (v := 1) C.1 C.2.1 dX12_holder_83 (by decide) ?_
      refine lv_isub C.1 C.2.1 dX12_holder_84 ?_
      obtain ⟨hin, h⟩ := ck_ok h
      refine l_60 C X hW hin dX12_holder_85 ?_
      obtain ⟨r2, h_r2, h⟩ := bd_ok h
      refine m_callR (rest := []) C X hW hl.1 [.int v4, .int (rd S 60 (v5 - (1 : Int32)))] (tm_isBefore l h_r2) mw_isBefore im_isBefore sl_isBefore rfl ⟨by decide, by decide⟩ rfl (Nat.le_of_ble_eq_true rfl) dX12_holder_86 ?_
      refine lv_if_eq (tgt := 114) C.1 C.2.1 dX12_holder_89 (by decide) (fun c3 => ?_) (fun c3 => ?_)
      · have h := if_t h c3
        exact wm_holder_114 C X hg_7 h hW hS (lv_sub hl [0, 1, 2, 3, 4, 5] rfl)
      · have h := if_f h c3
        refine lv_aload_n C.1 C.2.1 dX12_holder_92 rfl (lv_at hl 0 rfl) ?_
        refine gf_60 C X hW dX12_holder_93 ?_
        refine lv_iload C.1 C.2.1 dX12_holder_96 (lv_at hl 5 rfl) ?_
        refine lv_aload_n C.1 C.2.1 dX12_holder_98 rfl (lv_at hl 0 rfl) ?_
        refine gf_60 C X hW dX12_holder_99 ?_
        refine lv_iload C.1 C.2.1 dX12_holder_102 (lv_at hl 5 rfl) ?_
        refine lv_iconst (v := 1) C.1 C.2.1 dX12_holder_104 (by decide) ?_
        refine lv_isub C.1 C.2.1 dX12_holder_105 ?_
        obtain ⟨hin, h⟩ := ck_ok h
        refine l_60 C X hW hin dX12_holder_106 ?_
        obtain ⟨hin, h⟩ := ck_ok h
        refine s_60 C X hW hS hin dX12_holder_107 (fun H locs hW hS => ?_)
        refine lt_ok h (fun S4 e_S4 h => ?_)
        rw [e_S4] at hW
        refine lt_ok h (fun x5 e_x5 h => ?_)
        refine lv_iinc (v := x5) (lv' := [(5, .int x5), (0, .ref mo), (1, .int v1), (2, .int v2), (3, .int v3), (4, .int v4)]) C.1 C.2.1 dX12_holder_108 hl (k := 5) rfl (by rw [← e_x5]; rfl) (by decide) rfl (fun ls hl => ?_)
        refine lv_goto (tgt := 69) C.1 C.2.1 dX12_holder_111 (by decide) ?_
        exact ih h hW hS (lv_sub hl [1, 2, 3, 4, 5, 0] rfl)
noncomputable def fm_holder_49 (g_7 : mSt → Int32 → Int32 → Int32 → Option (Int32 × mSt)) (S : mSt) (v1 : Int32) (v2 : Int32) (v3 : Int32) (v4 : Int32) : Option (Int32 × mSt) :=
ck v4 1000 (
if (rd S 10 v4) = v2 then (
lt (S.1 59) fun x2 =>
fm_holder_69 g_7 mFU S v1 v2 v3 v4 x2)
else (
fm_holder_133 g_7 S v1 v2 v3))
set_option maxRecDepth 100000 in
set_option maxHeartbeats 4000000 in
theorem wm_holder_49 (C : mY p R s m args meth c cX12_holder 9 2 42 (some .int)) (X : mX s cM iS cI cZ mo ad) {g_7 : mSt → Int32 → Int32 → Int32 → Option (Int32 × mSt)} (hg_7 : ∀ {S : mSt} {v1 : Int32} {v2 : Int32} {v3 : Int32} {H : Heap} {locs : List Loc} {ls : Array Slot}, g_7 S v1 v2 v3 = some (r, S9) → mW cM iS cI cZ mo ad S H → mS (mA mo ad) s.heap H locs → lv_has ls 9 [(0, .ref mo), (1, .int v1), (2, .int v2), (3, .int v3)] → W p l e R s m args below meth c H locs 0 0 (MQ below (mQw (some (.int r)) cM iS cI cZ mo ad S9) args s 0 0 (mA mo ad)) (F0 m 7 ls [])) : ∀ {S : mSt} {v1 : Int32} {v2 : Int32} {v3 : Int32} {v4 : Int32} {H : Heap} {locs : List Loc} {ls : Array Slot}, fm_holder_49 g_7 S v1 v2 v3 v4 = some (r, S9) → mW cM iS cI cZ mo ad S H → mS (mA mo ad) s.heap H locs → lv_has ls 9 [(0, .ref mo), (1, .int v1), (2, .int v2), (3, .int v3), (4, .int v4)] → W p l e R s m args below meth c H locs 0 0 (MQ below (mQw (some (.int r)) cM iS cI cZ mo ad S9) args s 0 0 (mA mo ad)) (F0 m 49 ls []) := by
  intro S v1 v2 v3 v4 H locs ls h hW hS hl
  unfold fm_holder_49 at h
  refine lv_aload_n C.1 C.2.1 dX12_holder_49 rfl (lv_at hl 0 rfl) ?_
  refine gf_10 C X hW dX12_holder_50 ?_
  refine lv_iload C.1 C.2.1 dX12_holder_53 (lv_at hl 4 rfl) ?_
  obtain ⟨hin, h⟩ := ck_ok h
  refine l_10 C X hW hin dX12_holder_55 ?_
  refine lv_iload_n C.1 C.2.1 dX12_holder_56 rfl (lv_at hl 2 rfl) ?_
  refine lv_icmp_eq (tgt := 63) C.1 C.2.1 dX12_holder_57 (by decide) (fun c1 => ?_) (fun c1 => ?_)
  · have h := if_t h c1
    refine lv_aload_n C.1 C.2.1 dX12_holder_63 rfl (lv_at hl 0 rfl) ?_
    refine gf_59 C X hW dX12_holder_64 ?_
    refine lt_ok h (fun x2 e_x2 h => ?_)
    refine lv_nm e_x2 ?_
    refine lv_istore (lv' := [(5, .int x2), (0, .ref mo), (1, .int v1), (2, .int v2), (3, .int v3), (4, .int v4)]) C.1 C.2.1 dX12_holder_67 hl (by decide) rfl (fun ls hl => ?_)
    exact wm_holder_69 C X hg_7 mFU h hW hS (lv_sub hl [1, 2, 3, 4, 5, 0] rfl)
  · have h := if_f h c1
    refine lv_goto (tgt := 133) C.1 C.2.1 dX12_holder_60 (by decide) ?_
    exact wm_holder_133 C X hg_7 h hW hS (lv_sub hl [0, 1, 2, 3] rfl)
noncomputable def fm_holder_7 : Nat → mSt → Int32 → Int32 → Int32 → Option (Int32 × mSt)
  | 0, _, _, _, _ => none
  | n + 1, S, v1, v2, v3 =>
    ck v1 4 (
    if (rd S 23 v1) ≤ v3 then (
    fm_holder_147 mFU S v1 (-1 : Int32) (0 : Int32) (0 : Int32))
    else (
    bd (fm_rowAt S v1 v3) fun r2 =>
    ck r2 1000 (
    if (rd S 9 r2) = (17 : Int32) then (
    fm_holder_49 (fm_holder_7 n) S v1 v2 v3 r2)
    else (
    ck r2 1000 (
    if (rd S 9 r2) = (18 : Int32) then (
    fm_holder_49 (fm_holder_7 n) S v1 v2 v3 r2)
    else (
    fm_holder_133 (fm_holder_7 n) S v1 v2 v3))))))
set_option maxRecDepth 100000 in
set_option maxHeartbeats 4000000 in
theorem wm_holder_7 (C : mY p R s m args meth c cX12_holder 9 2 42 (some .int)) (X : mX s cM iS cI cZ mo ad) : ∀ (n : Nat), ∀ {S : mSt} {v1 : Int32} {v2 : Int32} {v3 : Int32} {H : Heap} {locs : List Loc} {ls : Array Slot}, fm_holder_7 n S v1 v2 v3 = some (r, S9) → mW cM iS cI cZ mo ad S H → mS (mA mo ad) s.heap H locs → lv_has ls 9 [(0, .ref mo), (1, .int v1), (2, .int v2), (3, .int v3)] → W p l e R s m args below meth c H locs 0 0 (MQ below (mQw (some (.int r)) cM iS cI cZ mo ad S9) args s 0 0 (mA mo ad)) (F0 m 7 ls []) := by
  intro n
  induction n with
  | zero =>
    intro S v1 v2 v3 H locs ls h hW hS hl
    exact absurd (show (none : Option (Int32 × mSt)) = _ from h) (fun q => by cases q)
  | succ n ih =>
    intro S v1 v2 v3 H locs ls h hW hS hl
    rw [fm_holder_7] at h
    refine lv_iload_n C.1 C.2.1 dX12_holder_7 rfl (lv_at hl 3 rfl) ?_
    refine lv_aload_n C.1 C.2.1 dX12_holder_8 rfl (lv_at hl 0 rfl) ?_
    refine gf_23 C X hW dX12_holder_9 ?_
    refine lv_iload_n C.1 C.2.1 dX12_holder_12 rfl (lv_at hl 1 rfl) ?_
    obtain ⟨hin, h⟩ := ck_ok h
    refine l_23 C X hW hin dX12_holder_13 ?_
    refine lv_icmp_ge (tgt := 139) C.1 C.2.1 dX12_holder_14 (by decide) (fun c1 => ?_) (fun c1 => ?_)
    · have h := if_t h c1
      refine lv_iconst (v := -1) C.1 C.2.1 dX12_holder_139 (by decide) ?_
      refine lv_istore_n (lv' := [(3, .int (-1 : Int32)), (0, .ref mo), (1, .int v1), (2, .int v2)]) C.1 C.2.1 dX12_holder_140 rfl hl (by decide) rfl (fun ls hl => ?_)
      refine lv_iconst (v := 0) C.1 C.2.1 dX12_holder_141 (by decide) ?_
      refine lv_istore (lv' := [(4, .int (0 : Int32)), (3, .int (-1 : Int32)), (0, .ref mo), (1, .int v1), (2, .int v2)]) C.1 C.2.1 dX12_holder_142 hl (by decide) rfl (fun ls hl => ?_)
      refine lv_iconst (v := 0) C.1 C.2.1 dX12_holder_144 (by decide) ?_
      refine lv_istore (lv' := [(5, .int (0 : Int32)), (4, .int (0 : Int32)), (3, .int (-1 : Int32)), (0, .ref mo), (1, .int v1), (2, .int v2)]) C.1 C.2.1 dX12_holder_145 hl (by decide) rfl (fun ls hl => ?_)
      exact wm_holder_147 C X mFU h hW hS (lv_sub hl [3, 4, 2, 1, 0] rfl)
    · have h := if_f h c1
      refine lv_aload_n C.1 C.2.1 dX12_holder_17 rfl (lv_at hl 0 rfl) ?_
      refine lv_iload_n C.1 C.2.1 dX12_holder_18 rfl (lv_at hl 1 rfl) ?_
      refine lv_iload_n C.1 C.2.1 dX12_holder_19 rfl (lv_at hl 3 rfl) ?_
      obtain ⟨r2, h_r2, h⟩ := bd_ok h
      refine m_callR (rest := []) C X hW hl.1 [.int v1, .int v3] (tm_rowAt l h_r2) mw_rowAt im_rowAt sl_rowAt rfl ⟨by decide, by decide⟩ rfl (Nat.le_of_ble_eq_true rfl) dX12_holder_20 ?_
      refine lv_istore (lv' := [(4, .int r2), (0, .ref mo), (1, .int v1), (2, .int v2), (3, .int v3)]) C.1 C.2.1 dX12_holder_23 hl (by decide) rfl (fun ls hl => ?_)
      refine lv_aload_n C.1 C.2.1 dX12_holder_25 rfl (lv_at hl 1 rfl) ?_
      refine gf_9 C X hW dX12_holder_26 ?_
      refine lv_iload C.1 C.2.1 dX12_holder_29 (lv_at hl 0 rfl) ?_
      obtain ⟨hin, h⟩ := ck_ok h
      refine l_9 C X hW hin dX12_holder_31 ?_
      refine lv_bipush (v := 17) C.1 C.2.1 dX12_holder_32 (by decide) ?_
      refine lv_icmp_eq (tgt := 49) C.1 C.2.1 dX12_holder_34 (by decide) (fun c3 => ?_) (fun c3 => ?_)
      · have h := if_t h c3
        exact wm_holder_49 C X ih h hW hS (lv_sub hl [1, 2, 3, 4, 0] rfl)
      · have h := if_f h c3
        refine lv_aload_n C.1 C.2.1 dX12_holder_37 rfl (lv_at hl 1 rfl) ?_
        refine gf_9 C X hW dX12_holder_38 ?_
        refine lv_iload C.1 C.2.1 dX12_holder_41 (lv_at hl 0 rfl) ?_
        obtain ⟨hin, h⟩ := ck_ok h
        refine l_9 C X hW hin dX12_holder_43 ?_
        refine lv_bipush (v := 18) C.1 C.2.1 dX12_holder_44 (by decide) ?_
        refine lv_icmp_ne (tgt := 133) C.1 C.2.1 dX12_holder_46 (by decide) (fun c4 => ?_) (fun c4 => ?_)
        · have h := if_f h c4
          exact wm_holder_133 C X ih h hW hS (lv_sub hl [1, 2, 3, 4] rfl)
        · have h := if_t h c4
          exact wm_holder_49 C X ih h hW hS (lv_sub hl [1, 2, 3, 4, 0] rfl)
noncomputable def fm_holder (S : mSt) (v1 : Int32) (v2 : Int32) : Option (Int32 × mSt) :=
lt (pu S 59 (0 : Int32)) fun S1 =>
fm_holder_7 mFU S1 v1 v2 (0 : Int32)
set_option maxRecDepth 100000 in
set_option maxHeartbeats 4000000 in
theorem tm_holder (l : Launch) {cM : ClassId} {iS : Nat → Nat} {cI cZ : ClassId} {mo : Nat} {ad : Nat → Nat} {S : mSt} {v1 : Int32} {v2 : Int32} {r : Int32} {S9 : mSt} (h : fm_holder S v1 v2 = some (r, S9)) : Met l yX12_holder (Cond.code yX12_holder cX12_holder 9 (some .int) :: lw_g) { frames := 2, cells := 0, slots := 0, locals := 42 } (mPi [.int v1, .int v2] cM iS cI cZ mo ad S) (mQw (some (.int r)) cM iS cI cZ mo ad S9) 0 0 (mA mo ad) := by
  refine Met.ofW (cc := cX12_holder) (maxL := 9) (ret := (some .int)) (by decide) rfl ?_
  intro p e s m args below meth c s₁ B hml hv
  obtain ⟨rfl, hW, X⟩ := hv
  have C : mY p (headSpec (Cond.code yX12_holder cX12_holder 9 (some .int) :: lw_g) { frames := 2, cells := 0, slots := 0, locals := 42 }).room s m _ meth c cX12_holder 9 2 42 (some .int) := ⟨B.exec, B.bytes, hml, findClass_of_methodNamed B.named, fun w hw => atoms_spec (ws := Cond.code yX12_holder cX12_holder 9 (some .int) :: lw_g) B.pre w (List.mem_cons_of_mem _ hw), ⟨Nat.le_refl _, Nat.le_refl _⟩, B.returns, B.notSynchronized⟩
  have hl := lv_entry ([.ref mo, .int v1, .int v2]) (n := 9) (Nat.le_of_ble_eq_true rfl)
  rw [lg_entry_eq]
  generalize (lg_sl ([.ref mo, .int v1, .int v2]) ++ List.replicate (9 - (lg_sl ([.ref mo, .int v1, .int v2])).length) Slot.unset).toArray = ls at hl ⊢
  have hl : lv_has ls 9 [(0, .ref mo), (1, .int v1), (2, .int v2)] := hl
  have hS : mS (mA mo ad) s.heap s.heap [] := mS.rf
  unfold fm_holder at h
  refine lv_aload_n C.1 C.2.1 dX12_holder_0 rfl (lv_at hl 0 rfl) ?_
  refine lv_iconst (v := 0) C.1 C.2.1 dX12_holder_1 (by decide) ?_
  refine p_59 C X hW hS dX12_holder_2 (fun H locs hW hS => ?_)
  refine lt_ok h (fun S1 e_S1 h => ?_)
  rw [e_S1] at hW
  refine lv_iconst (v := 0) C.1 C.2.1 dX12_holder_5 (by decide) ?_
  refine lv_istore_n (lv' := [(3, .int (0 : Int32)), (0, .ref mo), (1, .int v1), (2, .int v2)]) C.1 C.2.1 dX12_holder_6 rfl hl (by decide) rfl (fun ls hl => ?_)
  exact wm_holder_7 C X mFU h hW hS (lv_sub hl [1, 2, 3, 0] rfl)
end
theorem dX12_isStable_0 : decode cX12_isStable 0 = .ok (.iconst 0, 1) := by decide +kernel
theorem dX12_isStable_1 : decode cX12_isStable 1 = .ok (.istore_n 3, 1) := by decide +kernel
theorem dX12_isStable_2 : decode cX12_isStable 2 = .ok (.iload_n 3, 1) := by decide +kernel
theorem dX12_isStable_3 : decode cX12_isStable 3 = .ok (.iconst 4, 1) := by decide +kernel
theorem dX12_isStable_4 : decode cX12_isStable 4 = .ok (.if_icmp .ge 33, 3) := by decide +kernel
theorem dX12_isStable_7 : decode cX12_isStable 7 = .ok (.iload_n 3, 1) := by decide +kernel
theorem dX12_isStable_8 : decode cX12_isStable 8 = .ok (.iload_n 1, 1) := by decide +kernel
theorem dX12_isStable_9 : decode cX12_isStable 9 = .ok (.if_icmp .eq 22, 3) := by decide +kernel
theorem dX12_isStable_12 : decode cX12_isStable 12 = .ok (.aload_n 0, 1) := by decide +kernel
theorem dX12_isStable_13 : decode cX12_isStable 13 = .ok (.iload_n 1, 1) := by decide +kernel
theorem dX12_isStable_14 : decode cX12_isStable 14 = .ok (.iload_n 3, 1) := by decide +kernel
theorem dX12_isStable_15 : decode cX12_isStable 15 = .ok (.iload_n 2, 1) := by decide +kernel
theorem dX12_isStable_16 : decode cX12_isStable 16 = .ok (.invokestatic 219, 3) := by decide +kernel
theorem dX12_isStable_19 : decode cX12_isStable 19 = .ok (.invokevirtual 333, 3) := by decide +kernel
theorem dX12_isStable_22 : decode cX12_isStable 22 = .ok (.iload_n 2, 1) := by decide +kernel
theorem dX12_isStable_23 : decode cX12_isStable 23 = .ok (.invokestatic 223, 3) := by decide +kernel
theorem dX12_isStable_26 : decode cX12_isStable 26 = .ok (.if_icmp .ge 5, 3) := by decide +kernel
theorem dX12_isStable_29 : decode cX12_isStable 29 = .ok (.iconst 0, 1) := by decide +kernel
theorem dX12_isStable_30 : decode cX12_isStable 30 = .ok (.ireturn, 1) := by decide +kernel
theorem dX12_isStable_31 : decode cX12_isStable 31 = .ok (.iinc 3 1, 3) := by decide +kernel
theorem dX12_isStable_34 : decode cX12_isStable 34 = .ok (.goto (-32), 3) := by decide +kernel
theorem dX12_isStable_37 : decode cX12_isStable 37 = .ok (.iconst 1, 1) := by decide +kernel
theorem dX12_isStable_38 : decode cX12_isStable 38 = .ok (.ireturn, 1) := by decide +kernel
theorem cd_isStable : Cond.code yX12_isStable cX12_isStable 4 (some .boolean) ∈ lw_g := mt_at 2107 (by decide +kernel) rfl
theorem mw_isStable : mCw 396 yX12_isStable cX12_isStable 4 (some .boolean) 2 := ⟨cd_isStable, mt_at 2104 (by decide +kernel) rfl, in_M, by decide +kernel⟩
theorem im_isStable : Cond.instanceMethod yX12_isStable ∈ lw_g := mt_at 2106 (by decide +kernel) rfl
theorem sl_isStable : Cond.selects RX12 yX12_isStable yX12_isStable ∈ lw_g := mt_sel 72 (by decide +kernel) rfl
section
variable {p : Program} {l : Launch} {e : Env} {R : Room} {s : State} {m : MethodId} {args : Array Value} {below : List Frame} {meth : Method} {c : Code} {cM : ClassId} {iS : Nat → Nat} {cI cZ : ClassId} {mo : Nat} {ad : Nat → Nat} {S : mSt} {r : Int32}
noncomputable def fm_isStable_31 (g_2 : Int32 → Int32 → Int32 → Option (Int32)) (S : mSt) (v1 : Int32) (v2 : Int32) (v3 : Int32) : Option (Int32) :=
lt (v3 + (1 : Int32)) fun x1 =>
g_2 v1 v2 x1
set_option maxRecDepth 100000 in
set_option maxHeartbeats 4000000 in
theorem wm_isStable_31 (C : mY p R s m args meth c cX12_isStable 4 2 45 (some .boolean)) (X : mX s cM iS cI cZ mo ad) (hW : mW cM iS cI cZ mo ad S s.heap) {g_2 : Int32 → Int32 → Int32 → Option (Int32)} (hg_2 : ∀ {v1 : Int32} {v2 : Int32} {v3 : Int32} {ls : Array Slot}, g_2 v1 v2 v3 = some r → lv_has ls 4 [(0, .ref mo), (1, .int v1), (2, .int v2), (3, .int v3)] → W p l e R s m args below meth c s.heap [] 0 0 (MQ below (mQi r) args s 0 0 mNo) (F0 m 2 ls [])) : ∀ {v1 : Int32} {v2 : Int32} {v3 : Int32} {ls : Array Slot}, fm_isStable_31 g_2 S v1 v2 v3 = some r → lv_has ls 4 [(0, .ref mo), (1, .int v1), (2, .int v2), (3, .int v3)] → W p l e R s m args below meth c s.heap [] 0 0 (MQ below (mQi r) args s 0 0 mNo) (F0 m 31 ls []) := by
  intro v1 v2 v3 ls h hl
  unfold fm_isStable_31 at h
  refine lt_ok h (fun x1 e_x1 h => ?_)
  refine lv_iinc (v := x1) (lv' := [(3, .int x1), (0, .ref mo), (1, .int v1), (2, .int v2)]) C.1 C.2.1 dX12_isStable_31 hl (k := 3) rfl (by rw [← e_x1]; rfl) (by decide) rfl (fun ls hl => ?_)
  refine lv_goto (tgt := 2) C.1 C.2.1 dX12_isStable_34 (by decide) ?_
  exact hg_2 h (lv_sub hl [1, 2, 3, 0] rfl)
noncomputable def fm_isStable_2 (S : mSt) : Nat → Int32 → Int32 → Int32 → Option (Int32)
  | 0, _, _, _ => none
  | n + 1, v1, v2, v3 =>
    if (4 : Int32) ≤ v3 then (
    ckz (1 : Int32) (some (1 : Int32)))
    else (
    if v3 = v1 then (
    fm_isStable_31 (fm_isStable_2 S n) S v1 v2 v3)
    else (
    bd (fm_nodeOf v2) fun r3 =>
    bd (fm_seenOf S v1 v3 r3) fun r4 =>
    bd (fm_numberOf v2) fun r5 =>
    if r5 ≤ r4 then (
    fm_isStable_31 (fm_isStable_2 S n) S v1 v2 v3)
    else (
    ckz (0 : Int32) (some (0 : Int32)))))
set_option maxRecDepth 100000 in
set_option maxHeartbeats 4000000 in
theorem wm_isStable_2 (C : mY p R s m args meth c cX12_isStable 4 2 45 (some .boolean)) (X : mX s cM iS cI cZ mo ad) (hW : mW cM iS cI cZ mo ad S s.heap) : ∀ (n : Nat), ∀ {v1 : Int32} {v2 : Int32} {v3 : Int32} {ls : Array Slot}, fm_isStable_2 S n v1 v2 v3 = some r → lv_has ls 4 [(0, .ref mo), (1, .int v1), (2, .int v2), (3, .int v3)] → W p l e R s m args below meth c s.heap [] 0 0 (MQ below (mQi r) args s 0 0 mNo) (F0 m 2 ls []) := by
  intro n
  induction n with
  | zero =>
    intro v1 v2 v3 ls h hl
    exact absurd (show (none : Option (Int32)) = _ from h) (fun q => by cases q)
  | succ n ih =>
    intro v1 v2 v3 ls h hl
    rw [fm_isStable_2] at h
    refine lv_iload_n C.1 C.2.1 dX12_isStable_2 rfl (lv_at hl 3 rfl) ?_
    refine lv_iconst (v := 4) C.1 C.2.1 dX12_isStable_3 (by decide) ?_
    refine lv_icmp_ge (tgt := 37) C.1 C.2.1 dX12_isStable_4 (by decide) (fun c1 => ?_) (fun c1 => ?_)
    · have h := if_t h c1
      refine lv_iconst (v := 1) C.1 C.2.1 dX12_isStable_37 (by decide) ?_
      obtain ⟨hzo, h⟩ := ckz_ok h
      cases h
      exact m_retz C hzo rfl rfl dX12_isStable_38
    · have h := if_f h c1
      refine lv_iload_n C.1 C.2.1 dX12_isStable_7 rfl (lv_at hl 3 rfl) ?_
      refine lv_iload_n C.1 C.2.1 dX12_isStable_8 rfl (lv_at hl 1 rfl) ?_
      refine lv_icmp_eq (tgt := 31) C.1 C.2.1 dX12_isStable_9 (by decide) (fun c2 => ?_) (fun c2 => ?_)
      · have h := if_t h c2
        exact wm_isStable_31 C X hW ih h (lv_sub hl [0, 1, 2, 3] rfl)
      · have h := if_f h c2
        refine lv_aload_n C.1 C.2.1 dX12_isStable_12 rfl (lv_at hl 0 rfl) ?_
        refine lv_iload_n C.1 C.2.1 dX12_isStable_13 rfl (lv_at hl 1 rfl) ?_
        refine lv_iload_n C.1 C.2.1 dX12_isStable_14 rfl (lv_at hl 3 rfl) ?_
        refine lv_iload_n C.1 C.2.1 dX12_isStable_15 rfl (lv_at hl 2 rfl) ?_
        obtain ⟨r3, h_r3, h⟩ := bd_ok h
        refine m_callS (rest := [.int v3, .int v1, .ref mo]) C hl.1 [.int v2] (tm_nodeOf l h_r3) mw_nodeOf st_nodeOf rfl ⟨by decide, by decide⟩ rfl (Nat.le_of_ble_eq_true rfl) dX12_isStable_16 ?_
        obtain ⟨r4, h_r4, h⟩ := bd_ok h
        refine m_callR (rest := []) C X hW hl.1 [.int v1, .int v3, .int r3] (tm_seenOf l h_r4) mw_seenOf im_seenOf sl_seenOf rfl ⟨by decide, by decide⟩ rfl (Nat.le_of_ble_eq_true rfl) dX12_isStable_19 ?_
        refine lv_iload_n C.1 C.2.1 dX12_isStable_22 rfl (lv_at hl 2 rfl) ?_
        obtain ⟨r5, h_r5, h⟩ := bd_ok h
        refine m_callS (rest := [.int r4]) C hl.1 [.int v2] (tm_numberOf l h_r5) mw_numberOf st_numberOf rfl ⟨by decide, by decide⟩ rfl (Nat.le_of_ble_eq_true rfl) dX12_isStable_23 ?_
        refine lv_icmp_ge (tgt := 31) C.1 C.2.1 dX12_isStable_26 (by decide) (fun c6 => ?_) (fun c6 => ?_)
        · have h := if_t h c6
          exact wm_isStable_31 C X hW ih h (lv_sub hl [0, 1, 2, 3] rfl)
        · have h := if_f h c6
          refine lv_iconst (v := 0) C.1 C.2.1 dX12_isStable_29 (by decide) ?_
          obtain ⟨hzo, h⟩ := ckz_ok h
          cases h
          exact m_retz C hzo rfl rfl dX12_isStable_30
noncomputable def fm_isStable (S : mSt) (v1 : Int32) (v2 : Int32) : Option (Int32) :=
fm_isStable_2 S mFU v1 v2 (0 : Int32)
set_option maxRecDepth 100000 in
set_option maxHeartbeats 4000000 in
theorem tm_isStable (l : Launch) {cM : ClassId} {iS : Nat → Nat} {cI cZ : ClassId} {mo : Nat} {ad : Nat → Nat} {S : mSt} {v1 : Int32} {v2 : Int32} {r : Int32} (h : fm_isStable S v1 v2 = some r) : Met l yX12_isStable (Cond.code yX12_isStable cX12_isStable 4 (some .boolean) :: lw_g) { frames := 2, cells := 0, slots := 0, locals := 45 } (mPi [.int v1, .int v2] cM iS cI cZ mo ad S) (mQi r) 0 0 (mNo) := by
  refine Met.ofW (cc := cX12_isStable) (maxL := 4) (ret := (some .boolean)) (by decide) rfl ?_
  intro p e s m args below meth c s₁ B hml hv
  obtain ⟨rfl, hW, X⟩ := hv
  have C : mY p (headSpec (Cond.code yX12_isStable cX12_isStable 4 (some .boolean) :: lw_g) { frames := 2, cells := 0, slots := 0, locals := 45 }).room s m _ meth c cX12_isStable 4 2 45 (some .boolean) := ⟨B.exec, B.bytes, hml, findClass_of_methodNamed B.named, fun w hw => atoms_spec (ws := Cond.code yX12_isStable cX12_isStable 4 (some .boolean) :: lw_g) B.pre w (List.mem_cons_of_mem _ hw), ⟨Nat.le_refl _, Nat.le_refl _⟩, B.returns, B.notSynchronized⟩
  have hl := lv_entry ([.ref mo, .int v1, .int v2]) (n := 4) (Nat.le_of_ble_eq_true rfl)
  rw [lg_entry_eq]
  generalize (lg_sl ([.ref mo, .int v1, .int v2]) ++ List.replicate (4 - (lg_sl ([.ref mo, .int v1, .int v2])).length) Slot.unset).toArray = ls at hl ⊢
  have hl : lv_has ls 4 [(0, .ref mo), (1, .int v1), (2, .int v2)] := hl
  unfold fm_isStable at h
  refine lv_iconst (v := 0) C.1 C.2.1 dX12_isStable_0 (by decide) ?_
  refine lv_istore_n (lv' := [(3, .int (0 : Int32)), (0, .ref mo), (1, .int v1), (2, .int v2)]) C.1 C.2.1 dX12_isStable_1 rfl hl (by decide) rfl (fun ls hl => ?_)
  exact wm_isStable_2 C X hW mFU h (lv_sub hl [1, 2, 3, 0] rfl)
end
theorem dX12_tell_0 : decode cX12_tell 0 = .ok (.aload_n 0, 1) := by decide +kernel
theorem dX12_tell_1 : decode cX12_tell 1 = .ok (.getfield 83, 3) := by decide +kernel
theorem dX12_tell_4 : decode cX12_tell 4 = .ok (.iload_n 1, 1) := by decide +kernel
theorem dX12_tell_5 : decode cX12_tell 5 = .ok (.iaload, 1) := by decide +kernel
theorem dX12_tell_6 : decode cX12_tell 6 = .ok (.sipush 250, 3) := by decide +kernel
theorem dX12_tell_9 : decode cX12_tell 9 = .ok (.if_icmp .ne 4, 3) := by decide +kernel
theorem dX12_tell_12 : decode cX12_tell 12 = .ok (.return_, 1) := by decide +kernel
theorem dX12_tell_13 : decode cX12_tell 13 = .ok (.sipush 250, 3) := by decide +kernel
theorem dX12_tell_16 : decode cX12_tell 16 = .ok (.iload_n 1, 1) := by decide +kernel
theorem dX12_tell_17 : decode cX12_tell 17 = .ok (.imul, 1) := by decide +kernel
theorem dX12_tell_18 : decode cX12_tell 18 = .ok (.aload_n 0, 1) := by decide +kernel
theorem dX12_tell_19 : decode cX12_tell 19 = .ok (.getfield 83, 3) := by decide +kernel
theorem dX12_tell_22 : decode cX12_tell 22 = .ok (.iload_n 1, 1) := by decide +kernel
theorem dX12_tell_23 : decode cX12_tell 23 = .ok (.iaload, 1) := by decide +kernel
theorem dX12_tell_24 : decode cX12_tell 24 = .ok (.iadd, 1) := by decide +kernel
theorem dX12_tell_25 : decode cX12_tell 25 = .ok (.istore 5, 2) := by decide +kernel
theorem dX12_tell_27 : decode cX12_tell 27 = .ok (.aload_n 0, 1) := by decide +kernel
theorem dX12_tell_28 : decode cX12_tell 28 = .ok (.getfield 86, 3) := by decide +kernel
theorem dX12_tell_31 : decode cX12_tell 31 = .ok (.iload 5, 2) := by decide +kernel
theorem dX12_tell_33 : decode cX12_tell 33 = .ok (.iload_n 2, 1) := by decide +kernel
theorem dX12_tell_34 : decode cX12_tell 34 = .ok (.invokestatic 303, 3) := by decide +kernel
theorem dX12_tell_37 : decode cX12_tell 37 = .ok (.iastore, 1) := by decide +kernel
theorem dX12_tell_38 : decode cX12_tell 38 = .ok (.aload_n 0, 1) := by decide +kernel
theorem dX12_tell_39 : decode cX12_tell 39 = .ok (.getfield 89, 3) := by decide +kernel
theorem dX12_tell_42 : decode cX12_tell 42 = .ok (.iload 5, 2) := by decide +kernel
theorem dX12_tell_44 : decode cX12_tell 44 = .ok (.iload_n 3, 1) := by decide +kernel
theorem dX12_tell_45 : decode cX12_tell 45 = .ok (.iastore, 1) := by decide +kernel
theorem dX12_tell_46 : decode cX12_tell 46 = .ok (.aload_n 0, 1) := by decide +kernel
theorem dX12_tell_47 : decode cX12_tell 47 = .ok (.getfield 92, 3) := by decide +kernel
theorem dX12_tell_50 : decode cX12_tell 50 = .ok (.iload 5, 2) := by decide +kernel
theorem dX12_tell_52 : decode cX12_tell 52 = .ok (.iload 4, 2) := by decide +kernel
theorem dX12_tell_54 : decode cX12_tell 54 = .ok (.iastore, 1) := by decide +kernel
theorem dX12_tell_55 : decode cX12_tell 55 = .ok (.aload_n 0, 1) := by decide +kernel
theorem dX12_tell_56 : decode cX12_tell 56 = .ok (.getfield 83, 3) := by decide +kernel
theorem dX12_tell_59 : decode cX12_tell 59 = .ok (.iload_n 1, 1) := by decide +kernel
theorem dX12_tell_60 : decode cX12_tell 60 = .ok (.dup2, 1) := by decide +kernel
theorem dX12_tell_61 : decode cX12_tell 61 = .ok (.iaload, 1) := by decide +kernel
theorem dX12_tell_62 : decode cX12_tell 62 = .ok (.iconst 1, 1) := by decide +kernel
theorem dX12_tell_63 : decode cX12_tell 63 = .ok (.iadd, 1) := by decide +kernel
theorem dX12_tell_64 : decode cX12_tell 64 = .ok (.iastore, 1) := by decide +kernel
theorem dX12_tell_65 : decode cX12_tell 65 = .ok (.return_, 1) := by decide +kernel
theorem cd_tell : Cond.code yX12_tell cX12_tell 6 none ∈ lw_g := mt_at 2163 (by decide +kernel) rfl
theorem mw_tell : mCw 356 yX12_tell cX12_tell 6 none 4 := ⟨cd_tell, mt_at 2160 (by decide +kernel) rfl, in_M, by decide +kernel⟩
theorem im_tell : Cond.instanceMethod yX12_tell ∈ lw_g := mt_at 2162 (by decide +kernel) rfl
theorem sl_tell : Cond.selects RX12 yX12_tell yX12_tell ∈ lw_g := mt_sel 86 (by decide +kernel) rfl
section
variable {p : Program} {l : Launch} {e : Env} {R : Room} {s : State} {m : MethodId} {args : Array Value} {below : List Frame} {meth : Method} {c : Code} {cM : ClassId} {iS : Nat → Nat} {cI cZ : ClassId} {mo : Nat} {ad : Nat → Nat} {r : Int32} {S9 : mSt}
noncomputable def fm_tell (S : mSt) (v1 : Int32) (v2 : Int32) (v3 : Int32) (v4 : Int32) : Option (mSt) :=
ck v1 4 (
if (rd S 27 v1) = (250 : Int32) then (
some S)
else (
ck v1 4 (
lt (((250 : Int32) * v1) + (rd S 27 v1)) fun x2 =>
bd (fm_nameOf v2) fun r3 =>
ck x2 1000 (lt (wr S 28 x2 r3) fun S4 =>
ck x2 1000 (lt (wr S4 29 x2 v3) fun S5 =>
ck x2 1000 (lt (wr S5 30 x2 v4) fun S6 =>
ck v1 4 (
ck v1 4 (lt (wr S6 27 v1 ((rd S6 27 v1) + (1 : Int32))) fun S7 =>
some S7))))))))
set_option maxRecDepth 100000 in
set_option maxHeartbeats 4000000 in
theorem tm_tell (l : Launch) {cM : ClassId} {iS : Nat → Nat} {cI cZ : ClassId} {mo : Nat} {ad : Nat → Nat} {S : mSt} {v1 : Int32} {v2 : Int32} {v3 : Int32} {v4 : Int32} {S9 : mSt} (h : fm_tell S v1 v2 v3 v4 = some S9) : Met l yX12_tell (Cond.code yX12_tell cX12_tell 6 none :: lw_g) { frames := 2, cells := 0, slots := 0, locals := 40 } (mPi [.int v1, .int v2, .int v3, .int v4] cM iS cI cZ mo ad S) (mQw none cM iS cI cZ mo ad S9) 0 0 (mA mo ad) := by
  refine Met.ofW (cc := cX12_tell) (maxL := 6) (ret := none) (by decide) rfl ?_
  intro p e s m args below meth c s₁ B hml hv
  obtain ⟨rfl, hW, X⟩ := hv
  have C : mY p (headSpec (Cond.code yX12_tell cX12_tell 6 none :: lw_g) { frames := 2, cells := 0, slots := 0, locals := 40 }).room s m _ meth c cX12_tell 6 2 40 none := ⟨B.exec, B.bytes, hml, findClass_of_methodNamed B.named, fun w hw => atoms_spec (ws := Cond.code yX12_tell cX12_tell 6 none :: lw_g) B.pre w (List.mem_cons_of_mem _ hw), ⟨Nat.le_refl _, Nat.le_refl _⟩, B.returns, B.notSynchronized⟩
  have hl := lv_entry ([.ref mo, .int v1, .int v2, .int v3, .int v4]) (n := 6) (Nat.le_of_ble_eq_true rfl)
  rw [lg_entry_eq]
  generalize (lg_sl ([.ref mo, .int v1, .int v2, .int v3, .int v4]) ++ List.replicate (6 - (lg_sl ([.ref mo, .int v1, .int v2, .int v3, .int v4])).length) Slot.unset).toArray = ls at hl ⊢
  have hl : lv_has ls 6 [(0, .ref mo), (1, .int v1), (2, .int v2), (3, .int v3), (4, .int v4)] := hl
  have hS : mS (mA mo ad) s.heap s.heap [] := mS.rf
  unfold fm_tell at h
  refine lv_aload_n C.1 C.2.1 dX12_tell_0 rfl (lv_at hl 0 rfl) ?_
  refine gf_27 C X hW dX12_tell_1 ?_
  refine lv_iload_n C.1 C.2.1 dX12_tell_4 rfl (lv_at hl 1 rfl) ?_
  obtain ⟨hin, h⟩ := ck_ok h
  refine l_27 C X hW hin dX12_tell_5 ?_
  refine lv_sipush (v := 250) C.1 C.2.1 dX12_tell_6 (by decide) ?_
  refine lv_icmp_ne (tgt := 13) C.1 C.2.1 dX12_tell_9 (by decide) (fun c1 => ?_) (fun c1 => ?_)
  · have h := if_f h c1
    refine lv_sipush (v := 250) C.1 C.2.1 dX12_tell_13 (by decide) ?_
    refine lv_iload_n C.1 C.2.1 dX12_tell_16 rfl (lv_at hl 1 rfl) ?_
    refine lv_imul C.1 C.2.1 dX12_tell_17 ?_
    refine lv_aload_n C.1 C.2.1 dX12_tell_18 rfl (lv_at hl 0 rfl) ?_
    refine gf_27 C X hW dX12_tell_19 ?_
    refine lv_iload_n C.1 C.2.1 dX12_tell_22 rfl (lv_at hl 1 rfl) ?_
    obtain ⟨hin, h⟩ := ck_ok h
    refine l_27 C X hW hin dX12_tell_23 ?_
    refine lv_iadd C.1 C.2.1 dX12_tell_24 ?_
    refine lt_ok h (fun x2 e_x2 h => ?_)
    refine lv_nm e_x2 ?_
    refine lv_istore (lv' := [(5, .int x2), (0, .ref mo), (1, .int v1), (2, .int v2), (3, .int v3), (4, .int v4)]) C.1 C.2.1 dX12_tell_25 hl (by decide) rfl (fun ls hl => ?_)
    refine lv_aload_n C.1 C.2.1 dX12_tell_27 rfl (lv_at hl 1 rfl) ?_
    refine gf_28 C X hW dX12_tell_28 ?_
    refine lv_iload C.1 C.2.1 dX12_tell_31 (lv_at hl 0 rfl) ?_
    refine lv_iload_n C.1 C.2.1 dX12_tell_33 rfl (lv_at hl 3 rfl) ?_
    obtain ⟨r3, h_r3, h⟩ := bd_ok h
    refine m_callS (rest := [.int x2, .ref (ad 28)]) C hl.1 [.int v2] (tm_nameOf l h_r3) mw_nameOf st_nameOf rfl ⟨by decide, by decide⟩ rfl (Nat.le_of_ble_eq_true rfl) dX12_tell_34 ?_
    obtain ⟨hin, h⟩ := ck_ok h
    refine s_28 C X hW hS hin dX12_tell_37 (fun H locs hW hS => ?_)
    refine lt_ok h (fun S4 e_S4 h => ?_)
    rw [e_S4] at hW
    refine lv_aload_n C.1 C.2.1 dX12_tell_38 rfl (lv_at hl 1 rfl) ?_
    refine gf_29 C X hW dX12_tell_39 ?_
    refine lv_iload C.1 C.2.1 dX12_tell_42 (lv_at hl 0 rfl) ?_
    refine lv_iload_n C.1 C.2.1 dX12_tell_44 rfl (lv_at hl 4 rfl) ?_
    obtain ⟨hin, h⟩ := ck_ok h
    refine s_29 C X hW hS hin dX12_tell_45 (fun H locs hW hS => ?_)
    refine lt_ok h (fun S5 e_S5 h => ?_)
    rw [e_S5] at hW
    refine lv_aload_n C.1 C.2.1 dX12_tell_46 rfl (lv_at hl 1 rfl) ?_
    refine gf_30 C X hW dX12_tell_47 ?_
    refine lv_iload C.1 C.2.1 dX12_tell_50 (lv_at hl 0 rfl) ?_
    refine lv_iload C.1 C.2.1 dX12_tell_52 (lv_at hl 5 rfl) ?_
    obtain ⟨hin, h⟩ := ck_ok h
    refine s_30 C X hW hS hin dX12_tell_54 (fun H locs hW hS => ?_)
    refine lt_ok h (fun S6 e_S6 h => ?_)
    rw [e_S6] at hW
    refine lv_aload_n C.1 C.2.1 dX12_tell_55 rfl (lv_at hl 1 rfl) ?_
    refine gf_27 C X hW dX12_tell_56 ?_
    refine lv_iload_n C.1 C.2.1 dX12_tell_59 rfl (lv_at hl 2 rfl) ?_
    refine lv_dup2_11 C.1 C.2.1 dX12_tell_60 rfl rfl ?_
    obtain ⟨hin, h⟩ := ck_ok h
    refine l_27 C X hW hin dX12_tell_61 ?_
    refine lv_iconst (v := 1) C.1 C.2.1 dX12_tell_62 (by decide) ?_
    refine lv_iadd C.1 C.2.1 dX12_tell_63 ?_
    obtain ⟨hin, h⟩ := ck_ok h
    refine s_27 C X hW hS hin dX12_tell_64 (fun H locs hW hS => ?_)
    refine lt_ok h (fun S7 e_S7 h => ?_)
    rw [e_S7] at hW
    cases h
    exact m_retvW C hW hS dX12_tell_65
  · have h := if_t h c1
    cases h
    exact m_retvW C hW hS dX12_tell_12
end
theorem dX12_boundAt_0 : decode cX12_boundAt 0 = .ok (.aload_n 0, 1) := by decide +kernel
theorem dX12_boundAt_1 : decode cX12_boundAt 1 = .ok (.getfield 142, 3) := by decide +kernel
theorem dX12_boundAt_4 : decode cX12_boundAt 4 = .ok (.iload_n 1, 1) := by decide +kernel
theorem dX12_boundAt_5 : decode cX12_boundAt 5 = .ok (.iaload, 1) := by decide +kernel
theorem dX12_boundAt_6 : decode cX12_boundAt 6 = .ok (.iconst (-1), 1) := by decide +kernel
theorem dX12_boundAt_7 : decode cX12_boundAt 7 = .ok (.if_icmp .eq 33, 3) := by decide +kernel
theorem dX12_boundAt_10 : decode cX12_boundAt 10 = .ok (.aload_n 0, 1) := by decide +kernel
theorem dX12_boundAt_11 : decode cX12_boundAt 11 = .ok (.getfield 29, 3) := by decide +kernel
theorem dX12_boundAt_14 : decode cX12_boundAt 14 = .ok (.aload_n 0, 1) := by decide +kernel
theorem dX12_boundAt_15 : decode cX12_boundAt 15 = .ok (.getfield 142, 3) := by decide +kernel
theorem dX12_boundAt_18 : decode cX12_boundAt 18 = .ok (.iload_n 1, 1) := by decide +kernel
theorem dX12_boundAt_19 : decode cX12_boundAt 19 = .ok (.iaload, 1) := by decide +kernel
theorem dX12_boundAt_20 : decode cX12_boundAt 20 = .ok (.iaload, 1) := by decide +kernel
theorem dX12_boundAt_21 : decode cX12_boundAt 21 = .ok (.bipush 15, 2) := by decide +kernel
theorem dX12_boundAt_23 : decode cX12_boundAt 23 = .ok (.if_icmp .ne 17, 3) := by decide +kernel
theorem dX12_boundAt_26 : decode cX12_boundAt 26 = .ok (.aload_n 0, 1) := by decide +kernel
theorem dX12_boundAt_27 : decode cX12_boundAt 27 = .ok (.getfield 41, 3) := by decide +kernel
theorem dX12_boundAt_30 : decode cX12_boundAt 30 = .ok (.aload_n 0, 1) := by decide +kernel
theorem dX12_boundAt_31 : decode cX12_boundAt 31 = .ok (.getfield 142, 3) := by decide +kernel
theorem dX12_boundAt_34 : decode cX12_boundAt 34 = .ok (.iload_n 1, 1) := by decide +kernel
theorem dX12_boundAt_35 : decode cX12_boundAt 35 = .ok (.iaload, 1) := by decide +kernel
theorem dX12_boundAt_36 : decode cX12_boundAt 36 = .ok (.iaload, 1) := by decide +kernel
theorem dX12_boundAt_37 : decode cX12_boundAt 37 = .ok (.goto 4, 3) := by decide +kernel
theorem dX12_boundAt_40 : decode cX12_boundAt 40 = .ok (.iconst 0, 1) := by decide +kernel
theorem dX12_boundAt_41 : decode cX12_boundAt 41 = .ok (.ireturn, 1) := by decide +kernel
theorem cd_boundAt : Cond.code yX12_boundAt cX12_boundAt 2 (some .int) ∈ lw_g := mt_at 2127 (by decide +kernel) rfl
theorem mw_boundAt : mCw 346 yX12_boundAt cX12_boundAt 2 (some .int) 1 := ⟨cd_boundAt, mt_at 2124 (by decide +kernel) rfl, in_M, by decide +kernel⟩
theorem im_boundAt : Cond.instanceMethod yX12_boundAt ∈ lw_g := mt_at 2126 (by decide +kernel) rfl
theorem sl_boundAt : Cond.selects RX12 yX12_boundAt yX12_boundAt ∈ lw_g := mt_sel 77 (by decide +kernel) rfl
section
variable {p : Program} {l : Launch} {e : Env} {R : Room} {s : State} {m : MethodId} {args : Array Value} {below : List Frame} {meth : Method} {c : Code} {cM : ClassId} {iS : Nat → Nat} {cI cZ : ClassId} {mo : Nat} {ad : Nat → Nat} {S : mSt} {r : Int32}
noncomputable def fm_boundAt_41 (S : mSt) (s0 : Int32) : Option (Int32) :=
some s0
set_option maxRecDepth 100000 in
set_option maxHeartbeats 4000000 in
theorem wm_boundAt_41 (C : mY p R s m args meth c cX12_boundAt 2 0 0 (some .int)) (X : mX s cM iS cI cZ mo ad) (hW : mW cM iS cI cZ mo ad S s.heap) : ∀ {s0 : Int32} {ls : Array Slot}, fm_boundAt_41 S s0 = some r → lv_has ls 2 [] → W p l e R s m args below meth c s.heap [] 0 0 (MQ below (mQi r) args s 0 0 mNo) (F0 m 41 ls [.int s0]) := by
  intro s0 ls h hl
  unfold fm_boundAt_41 at h
  cases h
  exact m_reti C rfl rfl dX12_boundAt_41
noncomputable def fm_boundAt_40 (S : mSt) : Option (Int32) :=
fm_boundAt_41 S (0 : Int32)
set_option maxRecDepth 100000 in
set_option maxHeartbeats 4000000 in
theorem wm_boundAt_40 (C : mY p R s m args meth c cX12_boundAt 2 0 0 (some .int)) (X : mX s cM iS cI cZ mo ad) (hW : mW cM iS cI cZ mo ad S s.heap) : ∀ {ls : Array Slot}, fm_boundAt_40 S = some r → lv_has ls 2 [] → W p l e R s m args below meth c s.heap [] 0 0 (MQ below (mQi r) args s 0 0 mNo) (F0 m 40 ls []) := by
  intro ls h hl
  unfold fm_boundAt_40 at h
  refine lv_iconst (v := 0) C.1 C.2.1 dX12_boundAt_40 (by decide) ?_
  exact wm_boundAt_41 C X hW h (lv_sub hl [] rfl)
noncomputable def fm_boundAt (S : mSt) (v1 : Int32) : Option (Int32) :=
ck v1 1000 (
if (rd S 51 v1) = (-1 : Int32) then (
fm_boundAt_40 S)
else (
ck v1 1000 (
ck (rd S 51 v1) 1000 (
if (rd S 9 (rd S 51 v1)) = (15 : Int32) then (
ck v1 1000 (
ck (rd S 51 v1) 1000 (
fm_boundAt_41 S (rd S 13 (rd S 51 v1)))))
else (
fm_boundAt_40 S)))))
set_option maxRecDepth 100000 in
set_option maxHeartbeats 4000000 in
theorem tm_boundAt (l : Launch) {cM : ClassId} {iS : Nat → Nat} {cI cZ : ClassId} {mo : Nat} {ad : Nat → Nat} {S : mSt} {v1 : Int32} {r : Int32} (h : fm_boundAt S v1 = some r) : Met l yX12_boundAt (Cond.code yX12_boundAt cX12_boundAt 2 (some .int) :: lw_g) { frames := 0, cells := 0, slots := 0, locals := 0 } (mPi [.int v1] cM iS cI cZ mo ad S) (mQi r) 0 0 (mNo) := by
  refine Met.ofW (cc := cX12_boundAt) (maxL := 2) (ret := (some .int)) (by decide) rfl ?_
  intro p e s m args below meth c s₁ B hml hv
  obtain ⟨rfl, hW, X⟩ := hv
  have C : mY p (headSpec (Cond.code yX12_boundAt cX12_boundAt 2 (some .int) :: lw_g) { frames := 0, cells := 0, slots := 0, locals := 0 }).room s m _ meth c cX12_boundAt 2 0 0 (some .int) := ⟨B.exec, B.bytes, hml, findClass_of_methodNamed B.named, fun w hw => atoms_spec (ws := Cond.code yX12_boundAt cX12_boundAt 2 (some .int) :: lw_g) B.pre w (List.mem_cons_of_mem _ hw), ⟨Nat.le_refl _, Nat.le_refl _⟩, B.returns, B.notSynchronized⟩
  have hl := lv_entry ([.ref mo, .int v1]) (n := 2) (Nat.le_of_ble_eq_true rfl)
  rw [lg_entry_eq]
  generalize (lg_sl ([.ref mo, .int v1]) ++ List.replicate (2 - (lg_sl ([.ref mo, .int v1])).length) Slot.unset).toArray = ls at hl ⊢
  have hl : lv_has ls 2 [(0, .ref mo), (1, .int v1)] := hl
  unfold fm_boundAt at h
  refine lv_aload_n C.1 C.2.1 dX12_boundAt_0 rfl (lv_at hl 0 rfl) ?_
  refine gf_51 C X hW dX12_boundAt_1 ?_
  refine lv_iload_n C.1 C.2.1 dX12_boundAt_4 rfl (lv_at hl 1 rfl) ?_
  obtain ⟨hin, h⟩ := ck_ok h
  refine l_51 C X hW hin dX12_boundAt_5 ?_
  refine lv_iconst (v := -1) C.1 C.2.1 dX12_boundAt_6 (by decide) ?_
  refine lv_icmp_eq (tgt := 40) C.1 C.2.1 dX12_boundAt_7 (by decide) (fun c1 => ?_) (fun c1 => ?_)
  · have h := if_t h c1
    exact wm_boundAt_40 C X hW h (lv_sub hl [] rfl)
  · have h := if_f h c1
    refine lv_aload_n C.1 C.2.1 dX12_boundAt_10 rfl (lv_at hl 0 rfl) ?_
    refine gf_9 C X hW dX12_boundAt_11 ?_
    refine lv_aload_n C.1 C.2.1 dX12_boundAt_14 rfl (lv_at hl 0 rfl) ?_
    refine gf_51 C X hW dX12_boundAt_15 ?_
    refine lv_iload_n C.1 C.2.1 dX12_boundAt_18 rfl (lv_at hl 1 rfl) ?_
    obtain ⟨hin, h⟩ := ck_ok h
    refine l_51 C X hW hin dX12_boundAt_19 ?_
    obtain ⟨hin, h⟩ := ck_ok h
    refine l_9 C X hW hin dX12_boundAt_20 ?_
    refine lv_bipush (v := 15) C.1 C.2.1 dX12_boundAt_21 (by decide) ?_
    refine lv_icmp_ne (tgt := 40) C.1 C.2.1 dX12_boundAt_23 (by decide) (fun c2 => ?_) (fun c2 => ?_)
    · have h := if_f h c2
      exact wm_boundAt_40 C X hW h (lv_sub hl [] rfl)
    · have h := if_t h c2
      refine lv_aload_n C.1 C.2.1 dX12_boundAt_26 rfl (lv_at hl 0 rfl) ?_
      refine gf_13 C X hW dX12_boundAt_27 ?_
      refine lv_aload_n C.1 C.2.1 dX12_boundAt_30 rfl (lv_at hl 0 rfl) ?_
      refine gf_51 C X hW dX12_boundAt_31 ?_
      refine lv_iload_n C.1 C.2.1 dX12_boundAt_34 rfl (lv_at hl 1 rfl) ?_
      obtain ⟨hin, h⟩ := ck_ok h
      refine l_51 C X hW hin dX12_boundAt_35 ?_
      obtain ⟨hin, h⟩ := ck_ok h
      refine l_13 C X hW hin dX12_boundAt_36 ?_
      refine lv_goto (tgt := 41) C.1 C.2.1 dX12_boundAt_37 (by decide) ?_
      exact wm_boundAt_41 C X hW h (lv_sub hl [] rfl)
end
theorem dX12_drop_0 : decode cX12_drop 0 = .ok (.iconst 0, 1) := by decide +kernel
theorem dX12_drop_1 : decode cX12_drop 1 = .ok (.istore_n 3, 1) := by decide +kernel
theorem dX12_drop_2 : decode cX12_drop 2 = .ok (.iconst 0, 1) := by decide +kernel
theorem dX12_drop_3 : decode cX12_drop 3 = .ok (.istore 4, 2) := by decide +kernel
theorem dX12_drop_5 : decode cX12_drop 5 = .ok (.iload 4, 2) := by decide +kernel
theorem dX12_drop_7 : decode cX12_drop 7 = .ok (.aload_n 0, 1) := by decide +kernel
theorem dX12_drop_8 : decode cX12_drop 8 = .ok (.getfield 77, 3) := by decide +kernel
theorem dX12_drop_11 : decode cX12_drop 11 = .ok (.iload_n 1, 1) := by decide +kernel
theorem dX12_drop_12 : decode cX12_drop 12 = .ok (.iaload, 1) := by decide +kernel
theorem dX12_drop_13 : decode cX12_drop 13 = .ok (.if_icmp .ge 48, 3) := by decide +kernel
theorem dX12_drop_16 : decode cX12_drop 16 = .ok (.aload_n 0, 1) := by decide +kernel
theorem dX12_drop_17 : decode cX12_drop 17 = .ok (.getfield 80, 3) := by decide +kernel
theorem dX12_drop_20 : decode cX12_drop 20 = .ok (.bipush 30, 2) := by decide +kernel
theorem dX12_drop_22 : decode cX12_drop 22 = .ok (.iload_n 1, 1) := by decide +kernel
theorem dX12_drop_23 : decode cX12_drop 23 = .ok (.imul, 1) := by decide +kernel
theorem dX12_drop_24 : decode cX12_drop 24 = .ok (.iload 4, 2) := by decide +kernel
theorem dX12_drop_26 : decode cX12_drop 26 = .ok (.iadd, 1) := by decide +kernel
theorem dX12_drop_27 : decode cX12_drop 27 = .ok (.iaload, 1) := by decide +kernel
theorem dX12_drop_28 : decode cX12_drop 28 = .ok (.istore 5, 2) := by decide +kernel
theorem dX12_drop_30 : decode cX12_drop 30 = .ok (.iload 5, 2) := by decide +kernel
theorem dX12_drop_32 : decode cX12_drop 32 = .ok (.iload_n 2, 1) := by decide +kernel
theorem dX12_drop_33 : decode cX12_drop 33 = .ok (.if_icmp .ne 6, 3) := by decide +kernel
theorem dX12_drop_36 : decode cX12_drop 36 = .ok (.goto 19, 3) := by decide +kernel
theorem dX12_drop_39 : decode cX12_drop 39 = .ok (.aload_n 0, 1) := by decide +kernel
theorem dX12_drop_40 : decode cX12_drop 40 = .ok (.getfield 80, 3) := by decide +kernel
theorem dX12_drop_43 : decode cX12_drop 43 = .ok (.bipush 30, 2) := by decide +kernel
theorem dX12_drop_45 : decode cX12_drop 45 = .ok (.iload_n 1, 1) := by decide +kernel
theorem dX12_drop_46 : decode cX12_drop 46 = .ok (.imul, 1) := by decide +kernel
theorem dX12_drop_47 : decode cX12_drop 47 = .ok (.iload_n 3, 1) := by decide +kernel
theorem dX12_drop_48 : decode cX12_drop 48 = .ok (.iadd, 1) := by decide +kernel
theorem dX12_drop_49 : decode cX12_drop 49 = .ok (.iload 5, 2) := by decide +kernel
theorem dX12_drop_51 : decode cX12_drop 51 = .ok (.iastore, 1) := by decide +kernel
theorem dX12_drop_52 : decode cX12_drop 52 = .ok (.iinc 3 1, 3) := by decide +kernel
theorem dX12_drop_55 : decode cX12_drop 55 = .ok (.iinc 4 1, 3) := by decide +kernel
theorem dX12_drop_58 : decode cX12_drop 58 = .ok (.goto (-53), 3) := by decide +kernel
theorem dX12_drop_61 : decode cX12_drop 61 = .ok (.aload_n 0, 1) := by decide +kernel
theorem dX12_drop_62 : decode cX12_drop 62 = .ok (.getfield 77, 3) := by decide +kernel
theorem dX12_drop_65 : decode cX12_drop 65 = .ok (.iload_n 1, 1) := by decide +kernel
theorem dX12_drop_66 : decode cX12_drop 66 = .ok (.iload_n 3, 1) := by decide +kernel
theorem dX12_drop_67 : decode cX12_drop 67 = .ok (.iastore, 1) := by decide +kernel
theorem dX12_drop_68 : decode cX12_drop 68 = .ok (.return_, 1) := by decide +kernel
theorem cd_drop : Cond.code yX12_drop cX12_drop 6 none ∈ lw_g := mt_at 2159 (by decide +kernel) rfl
theorem mw_drop : mCw 353 yX12_drop cX12_drop 6 none 2 := ⟨cd_drop, mt_at 2156 (by decide +kernel) rfl, in_M, by decide +kernel⟩
theorem im_drop : Cond.instanceMethod yX12_drop ∈ lw_g := mt_at 2158 (by decide +kernel) rfl
theorem sl_drop : Cond.selects RX12 yX12_drop yX12_drop ∈ lw_g := mt_sel 85 (by decide +kernel) rfl
section
variable {p : Program} {l : Launch} {e : Env} {R : Room} {s : State} {m : MethodId} {args : Array Value} {below : List Frame} {meth : Method} {c : Code} {cM : ClassId} {iS : Nat → Nat} {cI cZ : ClassId} {mo : Nat} {ad : Nat → Nat} {r : Int32} {S9 : mSt}
noncomputable def fm_drop_55 (g_5 : mSt → Int32 → Int32 → Int32 → Int32 → Option (mSt)) (S : mSt) (v1 : Int32) (v2 : Int32) (v3 : Int32) (v4 : Int32) : Option (mSt) :=
lt (v4 + (1 : Int32)) fun x1 =>
g_5 S v1 v2 v3 x1
set_option maxRecDepth 100000 in
set_option maxHeartbeats 4000000 in
theorem wm_drop_55 (C : mY p R s m args meth c cX12_drop 6 0 0 none) (X : mX s cM iS cI cZ mo ad) {g_5 : mSt → Int32 → Int32 → Int32 → Int32 → Option (mSt)} (hg_5 : ∀ {S : mSt} {v1 : Int32} {v2 : Int32} {v3 : Int32} {v4 : Int32} {H : Heap} {locs : List Loc} {ls : Array Slot}, g_5 S v1 v2 v3 v4 = some S9 → mW cM iS cI cZ mo ad S H → mS (mA mo ad) s.heap H locs → lv_has ls 6 [(0, .ref mo), (1, .int v1), (2, .int v2), (3, .int v3), (4, .int v4)] → W p l e R s m args below meth c H locs 0 0 (MQ below (mQw none cM iS cI cZ mo ad S9) args s 0 0 (mA mo ad)) (F0 m 5 ls [])) : ∀ {S : mSt} {v1 : Int32} {v2 : Int32} {v3 : Int32} {v4 : Int32} {H : Heap} {locs : List Loc} {ls : Array Slot}, fm_drop_55 g_5 S v1 v2 v3 v4 = some S9 → mW cM iS cI cZ mo ad S H → mS (mA mo ad) s.heap H locs → lv_has ls 6 [(0, .ref mo), (1, .int v1), (2, .int v2), (3, .int v3), (4, .int v4)] → W p l e R s m args below meth c H locs 0 0 (MQ below (mQw none cM iS cI cZ mo ad S9) args s 0 0 (mA mo ad)) (F0 m 55 ls []) := by
  intro S v1 v2 v3 v4 H locs ls h hW hS hl
  unfold fm_drop_55 at h
  refine lt_ok h (fun x1 e_x1 h => ?_)
  refine lv_iinc (v := x1) (lv' := [(4, .int x1), (0, .ref mo), (1, .int v1), (2, .int v2), (3, .int v3)]) C.1 C.2.1 dX12_drop_55 hl (k := 4) rfl (by rw [← e_x1]; rfl) (by decide) rfl (fun ls hl => ?_)
  refine lv_goto (tgt := 5) C.1 C.2.1 dX12_drop_58 (by decide) ?_
  exact hg_5 h hW hS (lv_sub hl [1, 2, 3, 4, 0] rfl)
noncomputable def fm_drop_5 : Nat → mSt → Int32 → Int32 → Int32 → Int32 → Option (mSt)
  | 0, _, _, _, _, _ => none
  | n + 1, S, v1, v2, v3, v4 =>
    ck v1 4 (
    if (rd S 25 v1) ≤ v4 then (
    ck v1 4 (lt (wr S 25 v1 v3) fun S2 =>
    some S2))
    else (
    ck (((30 : Int32) * v1) + v4) 120 (
    lt (rd S 26 (((30 : Int32) * v1) + v4)) fun x3 =>
    if x3 = v2 then (
    fm_drop_55 (fm_drop_5 n) S v1 v2 v3 v4)
    else (
    ck (((30 : Int32) * v1) + v3) 120 (lt (wr S 26 (((30 : Int32) * v1) + v3) x3) fun S5 =>
    lt (v3 + (1 : Int32)) fun x6 =>
    fm_drop_55 (fm_drop_5 n) S5 v1 v2 x6 v4)))))
set_option maxRecDepth 100000 in
set_option maxHeartbeats 4000000 in
theorem wm_drop_5 (C : mY p R s m args meth c cX12_drop 6 0 0 none) (X : mX s cM iS cI cZ mo ad) : ∀ (n : Nat), ∀ {S : mSt} {v1 : Int32} {v2 : Int32} {v3 : Int32} {v4 : Int32} {H : Heap} {locs : List Loc} {ls : Array Slot}, fm_drop_5 n S v1 v2 v3 v4 = some S9 → mW cM iS cI cZ mo ad S H → mS (mA mo ad) s.heap H locs → lv_has ls 6 [(0, .ref mo), (1, .int v1), (2, .int v2), (3, .int v3), (4, .int v4)] → W p l e R s m args below meth c H locs 0 0 (MQ below (mQw none cM iS cI cZ mo ad S9) args s 0 0 (mA mo ad)) (F0 m 5 ls []) := by
  intro n
  induction n with
  | zero =>
    intro S v1 v2 v3 v4 H locs ls h hW hS hl
    exact absurd (show (none : Option (mSt)) = _ from h) (fun q => by cases q)
  | succ n ih =>
    intro S v1 v2 v3 v4 H locs ls h hW hS hl
    rw [fm_drop_5] at h
    refine lv_iload C.1 C.2.1 dX12_drop_5 (lv_at hl 4 rfl) ?_
    refine lv_aload_n C.1 C.2.1 dX12_drop_7 rfl (lv_at hl 0 rfl) ?_
    refine gf_25 C X hW dX12_drop_8 ?_
    refine lv_iload_n C.1 C.2.1 dX12_drop_11 rfl (lv_at hl 1 rfl) ?_
    obtain ⟨hin, h⟩ := ck_ok h
    refine l_25 C X hW hin dX12_drop_12 ?_
    refine lv_icmp_ge (tgt := 61) C.1 C.2.1 dX12_drop_13 (by decide) (fun c1 => ?_) (fun c1 => ?_)
    · have h := if_t h c1
      refine lv_aload_n C.1 C.2.1 dX12_drop_61 rfl (lv_at hl 0 rfl) ?_
      refine gf_25 C X hW dX12_drop_62 ?_
      refine lv_iload_n C.1 C.2.1 dX12_drop_65 rfl (lv_at hl 1 rfl) ?_
      refine lv_iload_n C.1 C.2.1 dX12_drop_66 rfl (lv_at hl 3 rfl) ?_
      obtain ⟨hin, h⟩ := ck_ok h
      refine s_25 C X hW hS hin dX12_drop_67 (fun H locs hW hS => ?_)
      refine lt_ok h (fun S2 e_S2 h => ?_)
      rw [e_S2] at hW
      cases h
      exact m_retvW C hW hS dX12_drop_68
    · have h := if_f h c1
      refine lv_aload_n C.1 C.2.1 dX12_drop_16 rfl (lv_at hl 0 rfl) ?_
      refine gf_26 C X hW dX12_drop_17 ?_
      refine lv_bipush (v := 30) C.1 C.2.1 dX12_drop_20 (by decide) ?_
      refine lv_iload_n C.1 C.2.1 dX12_drop_22 rfl (lv_at hl 1 rfl) ?_
      refine lv_imul C.1 C.2.1 dX12_drop_23 ?_
      refine lv_iload C.1 C.2.1 dX12_drop_24 (lv_at hl 4 rfl) ?_
      refine lv_iadd C.1 C.2.1 dX12_drop_26 ?_
      obtain ⟨hin, h⟩ := ck_ok h
      refine l_26 C X hW hin dX12_drop_27 ?_
      refine lt_ok h (fun x3 e_x3 h => ?_)
      refine lv_nm e_x3 ?_
      refine lv_istore (lv' := [(5, .int x3), (0, .ref mo), (1, .int v1), (2, .int v2), (3, .int v3), (4, .int v4)]) C.1 C.2.1 dX12_drop_28 hl (by decide) rfl (fun ls hl => ?_)
      refine lv_iload C.1 C.2.1 dX12_drop_30 (lv_at hl 0 rfl) ?_
      refine lv_iload_n C.1 C.2.1 dX12_drop_32 rfl (lv_at hl 3 rfl) ?_
      refine lv_icmp_ne (tgt := 39) C.1 C.2.1 dX12_drop_33 (by decide) (fun c4 => ?_) (fun c4 => ?_)
      · have h := if_f h c4
        refine lv_aload_n C.1 C.2.1 dX12_drop_39 rfl (lv_at hl 1 rfl) ?_
        refine gf_26 C X hW dX12_drop_40 ?_
        refine lv_bipush (v := 30) C.1 C.2.1 dX12_drop_43 (by decide) ?_
        refine lv_iload_n C.1 C.2.1 dX12_drop_45 rfl (lv_at hl 2 rfl) ?_
        refine lv_imul C.1 C.2.1 dX12_drop_46 ?_
        refine lv_iload_n C.1 C.2.1 dX12_drop_47 rfl (lv_at hl 4 rfl) ?_
        refine lv_iadd C.1 C.2.1 dX12_drop_48 ?_
        refine lv_iload C.1 C.2.1 dX12_drop_49 (lv_at hl 0 rfl) ?_
        obtain ⟨hin, h⟩ := ck_ok h
        refine s_26 C X hW hS hin dX12_drop_51 (fun H locs hW hS => ?_)
        refine lt_ok h (fun S5 e_S5 h => ?_)
        rw [e_S5] at hW
        refine lt_ok h (fun x6 e_x6 h => ?_)
        refine lv_iinc (v := x6) (lv' := [(3, .int x6), (5, .int x3), (0, .ref mo), (1, .int v1), (2, .int v2), (4, .int v4)]) C.1 C.2.1 dX12_drop_52 hl (k := 4) rfl (by rw [← e_x6]; rfl) (by decide) rfl (fun ls hl => ?_)
        exact wm_drop_55 C X ih h hW hS (lv_sub hl [2, 3, 4, 0, 5] rfl)
      · have h := if_t h c4
        refine lv_goto (tgt := 55) C.1 C.2.1 dX12_drop_36 (by decide) ?_
        exact wm_drop_55 C X ih h hW hS (lv_sub hl [1, 2, 3, 4, 5] rfl)
noncomputable def fm_drop (S : mSt) (v1 : Int32) (v2 : Int32) : Option (mSt) :=
fm_drop_5 mFU S v1 v2 (0 : Int32) (0 : Int32)
set_option maxRecDepth 100000 in
set_option maxHeartbeats 4000000 in
theorem tm_drop (l : Launch) {cM : ClassId} {iS : Nat → Nat} {cI cZ : ClassId} {mo : Nat} {ad : Nat → Nat} {S : mSt} {v1 : Int32} {v2 : Int32} {S9 : mSt} (h : fm_drop S v1 v2 = some S9) : Met l yX12_drop (Cond.code yX12_drop cX12_drop 6 none :: lw_g) { frames := 0, cells := 0, slots := 0, locals := 0 } (mPi [.int v1, .int v2] cM iS cI cZ mo ad S) (mQw none cM iS cI cZ mo ad S9) 0 0 (mA mo ad) := by
  refine Met.ofW (cc := cX12_drop) (maxL := 6) (ret := none) (by decide) rfl ?_
  intro p e s m args below meth c s₁ B hml hv
  obtain ⟨rfl, hW, X⟩ := hv
  have C : mY p (headSpec (Cond.code yX12_drop cX12_drop 6 none :: lw_g) { frames := 0, cells := 0, slots := 0, locals := 0 }).room s m _ meth c cX12_drop 6 0 0 none := ⟨B.exec, B.bytes, hml, findClass_of_methodNamed B.named, fun w hw => atoms_spec (ws := Cond.code yX12_drop cX12_drop 6 none :: lw_g) B.pre w (List.mem_cons_of_mem _ hw), ⟨Nat.le_refl _, Nat.le_refl _⟩, B.returns, B.notSynchronized⟩
  have hl := lv_entry ([.ref mo, .int v1, .int v2]) (n := 6) (Nat.le_of_ble_eq_true rfl)
  rw [lg_entry_eq]
  generalize (lg_sl ([.ref mo, .int v1, .int v2]) ++ List.replicate (6 - (lg_sl ([.ref mo, .int v1, .int v2])).length) Slot.unset).toArray = ls at hl ⊢
  have hl : lv_has ls 6 [(0, .ref mo), (1, .int v1), (2, .int v2)] := hl
  have hS : mS (mA mo ad) s.heap s.heap [] := mS.rf
  unfold fm_drop at h
  refine lv_iconst (v := 0) C.1 C.2.1 dX12_drop_0 (by decide) ?_
  refine lv_istore_n (lv' := [(3, .int (0 : Int32)), (0, .ref mo), (1, .int v1), (2, .int v2)]) C.1 C.2.1 dX12_drop_1 rfl hl (by decide) rfl (fun ls hl => ?_)
  refine lv_iconst (v := 0) C.1 C.2.1 dX12_drop_2 (by decide) ?_
  refine lv_istore (lv' := [(4, .int (0 : Int32)), (3, .int (0 : Int32)), (0, .ref mo), (1, .int v1), (2, .int v2)]) C.1 C.2.1 dX12_drop_3 hl (by decide) rfl (fun ls hl => ?_)
  exact wm_drop_5 C X mFU h hW hS (lv_sub hl [2, 3, 4, 1, 0] rfl)
end
theorem dX12_isOnPart_0 : decode cX12_isOnPart 0 = .ok (.iload_n 0, 1) := by decide +kernel
theorem dX12_isOnPart_1 : decode cX12_isOnPart 1 = .ok (.iconst 1, 1) := by decide +kernel
theorem dX12_isOnPart_2 : decode cX12_isOnPart 2 = .ok (.if_icmp .lt 9, 3) := by decide +kernel
theorem dX12_isOnPart_5 : decode cX12_isOnPart 5 = .ok (.iload_n 0, 1) := by decide +kernel
theorem dX12_isOnPart_6 : decode cX12_isOnPart 6 = .ok (.bipush 10, 2) := by decide +kernel
theorem dX12_isOnPart_8 : decode cX12_isOnPart 8 = .ok (.if_icmp .le 15, 3) := by decide +kernel
theorem dX12_isOnPart_11 : decode cX12_isOnPart 11 = .ok (.iload_n 0, 1) := by decide +kernel
theorem dX12_isOnPart_12 : decode cX12_isOnPart 12 = .ok (.bipush 15, 2) := by decide +kernel
theorem dX12_isOnPart_14 : decode cX12_isOnPart 14 = .ok (.if_icmp .eq 9, 3) := by decide +kernel
theorem dX12_isOnPart_17 : decode cX12_isOnPart 17 = .ok (.iload_n 0, 1) := by decide +kernel
theorem dX12_isOnPart_18 : decode cX12_isOnPart 18 = .ok (.bipush 16, 2) := by decide +kernel
theorem dX12_isOnPart_20 : decode cX12_isOnPart 20 = .ok (.if_icmp .ne 7, 3) := by decide +kernel
theorem dX12_isOnPart_23 : decode cX12_isOnPart 23 = .ok (.iconst 1, 1) := by decide +kernel
theorem dX12_isOnPart_24 : decode cX12_isOnPart 24 = .ok (.goto 4, 3) := by decide +kernel
theorem dX12_isOnPart_27 : decode cX12_isOnPart 27 = .ok (.iconst 0, 1) := by decide +kernel
theorem dX12_isOnPart_28 : decode cX12_isOnPart 28 = .ok (.ireturn, 1) := by decide +kernel
theorem cd_isOnPart : Cond.code yX12_isOnPart cX12_isOnPart 1 (some .boolean) ∈ lw_g := mt_at 1969 (by decide +kernel) rfl
theorem mw_isOnPart : mCw 337 yX12_isOnPart cX12_isOnPart 1 (some .boolean) 1 := ⟨cd_isOnPart, mt_at 1967 (by decide +kernel) rfl, in_M, by decide +kernel⟩
theorem st_isOnPart : Cond.static yX12_isOnPart ∈ lw_g := mt_at 1968 (by decide +kernel) rfl
section
variable {p : Program} {l : Launch} {e : Env} {R : Room} {s : State} {m : MethodId} {args : Array Value} {below : List Frame} {meth : Method} {c : Code} {cM : ClassId} {iS : Nat → Nat} {cI cZ : ClassId} {mo : Nat} {ad : Nat → Nat} {r : Int32}
noncomputable def fm_isOnPart_28 (s0 : Int32) : Option (Int32) :=
ckz s0 (some s0)
set_option maxRecDepth 100000 in
set_option maxHeartbeats 4000000 in
theorem wm_isOnPart_28 (C : mY p R s m args meth c cX12_isOnPart 1 0 0 (some .boolean)) : ∀ {s0 : Int32} {ls : Array Slot}, fm_isOnPart_28 s0 = some r → lv_has ls 1 [] → W p l e R s m args below meth c s.heap [] 0 0 (MQ below (mQi r) args s 0 0 mNo) (F0 m 28 ls [.int s0]) := by
  intro s0 ls h hl
  unfold fm_isOnPart_28 at h
  obtain ⟨hzo, h⟩ := ckz_ok h
  cases h
  exact m_retz C hzo rfl rfl dX12_isOnPart_28
noncomputable def fm_isOnPart_23 : Option (Int32) :=
fm_isOnPart_28 (1 : Int32)
set_option maxRecDepth 100000 in
set_option maxHeartbeats 4000000 in
theorem wm_isOnPart_23 (C : mY p R s m args meth c cX12_isOnPart 1 0 0 (some .boolean)) : ∀ {ls : Array Slot}, fm_isOnPart_23 = some r → lv_has ls 1 [] → W p l e R s m args below meth c s.heap [] 0 0 (MQ below (mQi r) args s 0 0 mNo) (F0 m 23 ls []) := by
  intro ls h hl
  unfold fm_isOnPart_23 at h
  refine lv_iconst (v := 1) C.1 C.2.1 dX12_isOnPart_23 (by decide) ?_
  refine lv_goto (tgt := 28) C.1 C.2.1 dX12_isOnPart_24 (by decide) ?_
  exact wm_isOnPart_28 C h (lv_sub hl [] rfl)
noncomputable def fm_isOnPart_11 (v0 : Int32) : Option (Int32) :=
if v0 = (15 : Int32) then (
fm_isOnPart_23)
else (
if v0 = (16 : Int32) then (
fm_isOnPart_23)
else (
fm_isOnPart_28 (0 : Int32)))
set_option maxRecDepth 100000 in
set_option maxHeartbeats 4000000 in
theorem wm_isOnPart_11 (C : mY p R s m args meth c cX12_isOnPart 1 0 0 (some .boolean)) : ∀ {v0 : Int32} {ls : Array Slot}, fm_isOnPart_11 v0 = some r → lv_has ls 1 [(0, .int v0)] → W p l e R s m args below meth c s.heap [] 0 0 (MQ below (mQi r) args s 0 0 mNo) (F0 m 11 ls []) := by
  intro v0 ls h hl
  unfold fm_isOnPart_11 at h
  refine lv_iload_n C.1 C.2.1 dX12_isOnPart_11 rfl (lv_at hl 0 rfl) ?_
  refine lv_bipush (v := 15) C.1 C.2.1 dX12_isOnPart_12 (by decide) ?_
  refine lv_icmp_eq (tgt := 23) C.1 C.2.1 dX12_isOnPart_14 (by decide) (fun c1 => ?_) (fun c1 => ?_)
  · have h := if_t h c1
    exact wm_isOnPart_23 C h (lv_sub hl [] rfl)
  · have h := if_f h c1
    refine lv_iload_n C.1 C.2.1 dX12_isOnPart_17 rfl (lv_at hl 0 rfl) ?_
    refine lv_bipush (v := 16) C.1 C.2.1 dX12_isOnPart_18 (by decide) ?_
    refine lv_icmp_ne (tgt := 27) C.1 C.2.1 dX12_isOnPart_20 (by decide) (fun c2 => ?_) (fun c2 => ?_)
    · have h := if_f h c2
      refine lv_iconst (v := 0) C.1 C.2.1 dX12_isOnPart_27 (by decide) ?_
      exact wm_isOnPart_28 C h (lv_sub hl [] rfl)
    · have h := if_t h c2
      exact wm_isOnPart_23 C h (lv_sub hl [] rfl)
noncomputable def fm_isOnPart (v0 : Int32) : Option (Int32) :=
if v0 < (1 : Int32) then (
fm_isOnPart_11 v0)
else (
if v0 ≤ (10 : Int32) then (
fm_isOnPart_23)
else (
fm_isOnPart_11 v0))
set_option maxRecDepth 100000 in
set_option maxHeartbeats 4000000 in
theorem tm_isOnPart (l : Launch) {v0 : Int32} {r : Int32} (h : fm_isOnPart v0 = some r) : Met l yX12_isOnPart (Cond.code yX12_isOnPart cX12_isOnPart 1 (some .boolean) :: lw_g) { frames := 0, cells := 0, slots := 0, locals := 0 } (mPs [.int v0]) (mQi r) 0 0 (mNo) := by
  refine Met.ofW (cc := cX12_isOnPart) (maxL := 1) (ret := (some .boolean)) (by decide) rfl ?_
  intro p e s m args below meth c s₁ B hml hv
  obtain rfl := hv
  have C : mY p (headSpec (Cond.code yX12_isOnPart cX12_isOnPart 1 (some .boolean) :: lw_g) { frames := 0, cells := 0, slots := 0, locals := 0 }).room s m _ meth c cX12_isOnPart 1 0 0 (some .boolean) := ⟨B.exec, B.bytes, hml, findClass_of_methodNamed B.named, fun w hw => atoms_spec (ws := Cond.code yX12_isOnPart cX12_isOnPart 1 (some .boolean) :: lw_g) B.pre w (List.mem_cons_of_mem _ hw), ⟨Nat.le_refl _, Nat.le_refl _⟩, B.returns, B.notSynchronized⟩
  have hl := lv_entry ([.int v0]) (n := 1) (Nat.le_of_ble_eq_true rfl)
  rw [lg_entry_eq]
  generalize (lg_sl ([.int v0]) ++ List.replicate (1 - (lg_sl ([.int v0])).length) Slot.unset).toArray = ls at hl ⊢
  have hl : lv_has ls 1 [(0, .int v0)] := hl
  unfold fm_isOnPart at h
  refine lv_iload_n C.1 C.2.1 dX12_isOnPart_0 rfl (lv_at hl 0 rfl) ?_
  refine lv_iconst (v := 1) C.1 C.2.1 dX12_isOnPart_1 (by decide) ?_
  refine lv_icmp_lt (tgt := 11) C.1 C.2.1 dX12_isOnPart_2 (by decide) (fun c1 => ?_) (fun c1 => ?_)
  · have h := if_t h c1
    exact wm_isOnPart_11 C h (lv_sub hl [0] rfl)
  · have h := if_f h c1
    refine lv_iload_n C.1 C.2.1 dX12_isOnPart_5 rfl (lv_at hl 0 rfl) ?_
    refine lv_bipush (v := 10) C.1 C.2.1 dX12_isOnPart_6 (by decide) ?_
    refine lv_icmp_le (tgt := 23) C.1 C.2.1 dX12_isOnPart_8 (by decide) (fun c2 => ?_) (fun c2 => ?_)
    · have h := if_t h c2
      exact wm_isOnPart_23 C h (lv_sub hl [] rfl)
    · have h := if_f h c2
      exact wm_isOnPart_11 C h (lv_sub hl [0] rfl)
end
theorem dX12_latestOf_0 : decode cX12_latestOf 0 = .ok (.aload_n 0, 1) := by decide +kernel
theorem dX12_latestOf_1 : decode cX12_latestOf 1 = .ok (.iload_n 1, 1) := by decide +kernel
theorem dX12_latestOf_2 : decode cX12_latestOf 2 = .ok (.aload_n 0, 1) := by decide +kernel
theorem dX12_latestOf_3 : decode cX12_latestOf 3 = .ok (.getfield 71, 3) := by decide +kernel
theorem dX12_latestOf_6 : decode cX12_latestOf 6 = .ok (.iload_n 1, 1) := by decide +kernel
theorem dX12_latestOf_7 : decode cX12_latestOf 7 = .ok (.iaload, 1) := by decide +kernel
theorem dX12_latestOf_8 : decode cX12_latestOf 8 = .ok (.iload_n 2, 1) := by decide +kernel
theorem dX12_latestOf_9 : decode cX12_latestOf 9 = .ok (.iload_n 3, 1) := by decide +kernel
theorem dX12_latestOf_10 : decode cX12_latestOf 10 = .ok (.invokevirtual 340, 3) := by decide +kernel
theorem dX12_latestOf_13 : decode cX12_latestOf 13 = .ok (.aload_n 0, 1) := by decide +kernel
theorem dX12_latestOf_14 : decode cX12_latestOf 14 = .ok (.getfield 139, 3) := by decide +kernel
theorem dX12_latestOf_17 : decode cX12_latestOf 17 = .ok (.iconst 0, 1) := by decide +kernel
theorem dX12_latestOf_18 : decode cX12_latestOf 18 = .ok (.iaload, 1) := by decide +kernel
theorem dX12_latestOf_19 : decode cX12_latestOf 19 = .ok (.ireturn, 1) := by decide +kernel
theorem cd_latestOf : Cond.code yX12_latestOf cX12_latestOf 4 (some .int) ∈ lw_g := mt_at 2155 (by decide +kernel) rfl
theorem mw_latestOf : mCw 368 yX12_latestOf cX12_latestOf 4 (some .int) 3 := ⟨cd_latestOf, mt_at 2152 (by decide +kernel) rfl, in_M, by decide +kernel⟩
theorem im_latestOf : Cond.instanceMethod yX12_latestOf ∈ lw_g := mt_at 2154 (by decide +kernel) rfl
theorem sl_latestOf : Cond.selects RX12 yX12_latestOf yX12_latestOf ∈ lw_g := mt_sel 84 (by decide +kernel) rfl
section
variable {p : Program} {l : Launch} {e : Env} {R : Room} {s : State} {m : MethodId} {args : Array Value} {below : List Frame} {meth : Method} {c : Code} {cM : ClassId} {iS : Nat → Nat} {cI cZ : ClassId} {mo : Nat} {ad : Nat → Nat} {r : Int32} {S9 : mSt}
noncomputable def fm_latestOf (S : mSt) (v1 : Int32) (v2 : Int32) (v3 : Int32) : Option (Int32 × mSt) :=
ck v1 4 (
bd (fm_look S v1 (rd S 23 v1) v2 v3) fun S1 =>
ck (0 : Int32) 1000 (
some (rd S1 50 (0 : Int32), S1)))
set_option maxRecDepth 100000 in
set_option maxHeartbeats 4000000 in
theorem tm_latestOf (l : Launch) {cM : ClassId} {iS : Nat → Nat} {cI cZ : ClassId} {mo : Nat} {ad : Nat → Nat} {S : mSt} {v1 : Int32} {v2 : Int32} {v3 : Int32} {r : Int32} {S9 : mSt} (h : fm_latestOf S v1 v2 v3 = some (r, S9)) : Met l yX12_latestOf (Cond.code yX12_latestOf cX12_latestOf 4 (some .int) :: lw_g) { frames := 5, cells := 0, slots := 0, locals := 119 } (mPi [.int v1, .int v2, .int v3] cM iS cI cZ mo ad S) (mQw (some (.int r)) cM iS cI cZ mo ad S9) 0 0 (mA mo ad) := by
  refine Met.ofW (cc := cX12_latestOf) (maxL := 4) (ret := (some .int)) (by decide) rfl ?_
  intro p e s m args below meth c s₁ B hml hv
  obtain ⟨rfl, hW, X⟩ := hv
  have C : mY p (headSpec (Cond.code yX12_latestOf cX12_latestOf 4 (some .int) :: lw_g) { frames := 5, cells := 0, slots := 0, locals := 119 }).room s m _ meth c cX12_latestOf 4 5 119 (some .int) := ⟨B.exec, B.bytes, hml, findClass_of_methodNamed B.named, fun w hw => atoms_spec (ws := Cond.code yX12_latestOf cX12_latestOf 4 (some .int) :: lw_g) B.pre w (List.mem_cons_of_mem _ hw), ⟨Nat.le_refl _, Nat.le_refl _⟩, B.returns, B.notSynchronized⟩
  have hl := lv_entry ([.ref mo, .int v1, .int v2, .int v3]) (n := 4) (Nat.le_of_ble_eq_true rfl)
  rw [lg_entry_eq]
  generalize (lg_sl ([.ref mo, .int v1, .int v2, .int v3]) ++ List.replicate (4 - (lg_sl ([.ref mo, .int v1, .int v2, .int v3])).length) Slot.unset).toArray = ls at hl ⊢
  have hl : lv_has ls 4 [(0, .ref mo), (1, .int v1), (2, .int v2), (3, .int v3)] := hl
  have hS : mS (mA mo ad) s.heap s.heap [] := mS.rf
  unfold fm_latestOf at h
  refine lv_aload_n C.1 C.2.1 dX12_latestOf_0 rfl (lv_at hl 0 rfl) ?_
  refine lv_iload_n C.1 C.2.1 dX12_latestOf_1 rfl (lv_at hl 1 rfl) ?_
  refine lv_aload_n C.1 C.2.1 dX12_latestOf_2 rfl (lv_at hl 0 rfl) ?_
  refine gf_23 C X hW dX12_latestOf_3 ?_
  refine lv_iload_n C.1 C.2.1 dX12_latestOf_6 rfl (lv_at hl 1 rfl) ?_
  obtain ⟨hin, h⟩ := ck_ok h
  refine l_23 C X hW hin dX12_latestOf_7 ?_
  refine lv_iload_n C.1 C.2.1 dX12_latestOf_8 rfl (lv_at hl 2 rfl) ?_
  refine lv_iload_n C.1 C.2.1 dX12_latestOf_9 rfl (lv_at hl 3 rfl) ?_
  obtain ⟨S1, h_S1, h⟩ := bd_ok h
  refine m_callW (rest := []) (ov := none) C X hW hS hl.1 [.int v1, .int (rd S 23 v1), .int v2, .int v3] (tm_look l h_S1) mw_look im_look sl_look rfl ⟨by decide, by decide⟩ rfl (Nat.le_of_ble_eq_true rfl) dX12_latestOf_10 (fun H locs hW hS => ?_)
  refine W.eq (g2 := F0 m 13 ls []) rfl ?_
  refine lv_aload_n C.1 C.2.1 dX12_latestOf_13 rfl (lv_at hl 0 rfl) ?_
  refine gf_50 C X hW dX12_latestOf_14 ?_
  refine lv_iconst (v := 0) C.1 C.2.1 dX12_latestOf_17 (by decide) ?_
  obtain ⟨hin, h⟩ := ck_ok h
  refine l_50 C X hW hin dX12_latestOf_18 ?_
  cases h
  exact m_retiW C hW hS dX12_latestOf_19
end
theorem dX12_findList_0 : decode cX12_findList 0 = .ok (.aload_n 0, 1) := by decide +kernel
theorem dX12_findList_1 : decode cX12_findList 1 = .ok (.iconst 0, 1) := by decide +kernel
theorem dX12_findList_2 : decode cX12_findList 2 = .ok (.putfield 362, 3) := by decide +kernel
theorem dX12_findList_5 : decode cX12_findList 5 = .ok (.iconst 4, 1) := by decide +kernel
theorem dX12_findList_6 : decode cX12_findList 6 = .ok (.iload_n 1, 1) := by decide +kernel
theorem dX12_findList_7 : decode cX12_findList 7 = .ok (.imul, 1) := by decide +kernel
theorem dX12_findList_8 : decode cX12_findList 8 = .ok (.iload_n 2, 1) := by decide +kernel
theorem dX12_findList_9 : decode cX12_findList 9 = .ok (.iadd, 1) := by decide +kernel
theorem dX12_findList_10 : decode cX12_findList 10 = .ok (.istore_n 3, 1) := by decide +kernel
theorem dX12_findList_11 : decode cX12_findList 11 = .ok (.aload_n 0, 1) := by decide +kernel
theorem dX12_findList_12 : decode cX12_findList 12 = .ok (.getfield 98, 3) := by decide +kernel
theorem dX12_findList_15 : decode cX12_findList 15 = .ok (.iload_n 3, 1) := by decide +kernel
theorem dX12_findList_16 : decode cX12_findList 16 = .ok (.baload, 1) := by decide +kernel
theorem dX12_findList_17 : decode cX12_findList 17 = .ok (.ifCond .ne 4, 3) := by decide +kernel
theorem dX12_findList_20 : decode cX12_findList 20 = .ok (.return_, 1) := by decide +kernel
theorem dX12_findList_21 : decode cX12_findList 21 = .ok (.aload_n 0, 1) := by decide +kernel
theorem dX12_findList_22 : decode cX12_findList 22 = .ok (.iload_n 1, 1) := by decide +kernel
theorem dX12_findList_23 : decode cX12_findList 23 = .ok (.aload_n 0, 1) := by decide +kernel
theorem dX12_findList_24 : decode cX12_findList 24 = .ok (.getfield 71, 3) := by decide +kernel
theorem dX12_findList_27 : decode cX12_findList 27 = .ok (.iload_n 1, 1) := by decide +kernel
theorem dX12_findList_28 : decode cX12_findList 28 = .ok (.iaload, 1) := by decide +kernel
theorem dX12_findList_29 : decode cX12_findList 29 = .ok (.invokevirtual 312, 3) := by decide +kernel
theorem dX12_findList_32 : decode cX12_findList 32 = .ok (.iconst 0, 1) := by decide +kernel
theorem dX12_findList_33 : decode cX12_findList 33 = .ok (.istore 4, 2) := by decide +kernel
theorem dX12_findList_35 : decode cX12_findList 35 = .ok (.iload 4, 2) := by decide +kernel
theorem dX12_findList_37 : decode cX12_findList 37 = .ok (.aload_n 0, 1) := by decide +kernel
theorem dX12_findList_38 : decode cX12_findList 38 = .ok (.getfield 309, 3) := by decide +kernel
theorem dX12_findList_41 : decode cX12_findList 41 = .ok (.if_icmp .ge 101, 3) := by decide +kernel
theorem dX12_findList_44 : decode cX12_findList 44 = .ok (.aload_n 0, 1) := by decide +kernel
theorem dX12_findList_45 : decode cX12_findList 45 = .ok (.getfield 148, 3) := by decide +kernel
theorem dX12_findList_48 : decode cX12_findList 48 = .ok (.iload 4, 2) := by decide +kernel
theorem dX12_findList_50 : decode cX12_findList 50 = .ok (.iaload, 1) := by decide +kernel
theorem dX12_findList_51 : decode cX12_findList 51 = .ok (.istore 5, 2) := by decide +kernel
theorem dX12_findList_53 : decode cX12_findList 53 = .ok (.aload_n 0, 1) := by decide +kernel
theorem dX12_findList_54 : decode cX12_findList 54 = .ok (.iload 5, 2) := by decide +kernel
theorem dX12_findList_56 : decode cX12_findList 56 = .ok (.invokevirtual 250, 3) := by decide +kernel
theorem dX12_findList_59 : decode cX12_findList 59 = .ok (.aload_n 0, 1) := by decide +kernel
theorem dX12_findList_60 : decode cX12_findList 60 = .ok (.getfield 102, 3) := by decide +kernel
theorem dX12_findList_63 : decode cX12_findList 63 = .ok (.iload_n 3, 1) := by decide +kernel
theorem dX12_findList_64 : decode cX12_findList 64 = .ok (.iaload, 1) := by decide +kernel
theorem dX12_findList_65 : decode cX12_findList 65 = .ok (.if_icmp .ne 71, 3) := by decide +kernel
theorem dX12_findList_68 : decode cX12_findList 68 = .ok (.aload_n 0, 1) := by decide +kernel
theorem dX12_findList_69 : decode cX12_findList 69 = .ok (.iload_n 1, 1) := by decide +kernel
theorem dX12_findList_70 : decode cX12_findList 70 = .ok (.iload 5, 2) := by decide +kernel
theorem dX12_findList_72 : decode cX12_findList 72 = .ok (.invokevirtual 365, 3) := by decide +kernel
theorem dX12_findList_75 : decode cX12_findList 75 = .ok (.ifCond .ne 6, 3) := by decide +kernel
theorem dX12_findList_78 : decode cX12_findList 78 = .ok (.goto 58, 3) := by decide +kernel
theorem dX12_findList_81 : decode cX12_findList 81 = .ok (.aload_n 0, 1) := by decide +kernel
theorem dX12_findList_82 : decode cX12_findList 82 = .ok (.iload_n 1, 1) := by decide +kernel
theorem dX12_findList_83 : decode cX12_findList 83 = .ok (.iload 5, 2) := by decide +kernel
theorem dX12_findList_85 : decode cX12_findList 85 = .ok (.aload_n 0, 1) := by decide +kernel
theorem dX12_findList_86 : decode cX12_findList 86 = .ok (.getfield 105, 3) := by decide +kernel
theorem dX12_findList_89 : decode cX12_findList 89 = .ok (.iload_n 3, 1) := by decide +kernel
theorem dX12_findList_90 : decode cX12_findList 90 = .ok (.iaload, 1) := by decide +kernel
theorem dX12_findList_91 : decode cX12_findList 91 = .ok (.invokevirtual 368, 3) := by decide +kernel
theorem dX12_findList_94 : decode cX12_findList 94 = .ok (.aload_n 0, 1) := by decide +kernel
theorem dX12_findList_95 : decode cX12_findList 95 = .ok (.getfield 108, 3) := by decide +kernel
theorem dX12_findList_98 : decode cX12_findList 98 = .ok (.iload_n 3, 1) := by decide +kernel
theorem dX12_findList_99 : decode cX12_findList 99 = .ok (.iaload, 1) := by decide +kernel
theorem dX12_findList_100 : decode cX12_findList 100 = .ok (.aload_n 0, 1) := by decide +kernel
theorem dX12_findList_101 : decode cX12_findList 101 = .ok (.getfield 111, 3) := by decide +kernel
theorem dX12_findList_104 : decode cX12_findList 104 = .ok (.iload_n 3, 1) := by decide +kernel
theorem dX12_findList_105 : decode cX12_findList 105 = .ok (.iaload, 1) := by decide +kernel
theorem dX12_findList_106 : decode cX12_findList 106 = .ok (.invokestatic 215, 3) := by decide +kernel
theorem dX12_findList_109 : decode cX12_findList 109 = .ok (.ifCond .ne 6, 3) := by decide +kernel
theorem dX12_findList_112 : decode cX12_findList 112 = .ok (.goto 24, 3) := by decide +kernel
theorem dX12_findList_115 : decode cX12_findList 115 = .ok (.aload_n 0, 1) := by decide +kernel
theorem dX12_findList_116 : decode cX12_findList 116 = .ok (.getfield 175, 3) := by decide +kernel
theorem dX12_findList_119 : decode cX12_findList 119 = .ok (.aload_n 0, 1) := by decide +kernel
theorem dX12_findList_120 : decode cX12_findList 120 = .ok (.getfield 362, 3) := by decide +kernel
theorem dX12_findList_123 : decode cX12_findList 123 = .ok (.iload 5, 2) := by decide +kernel
theorem dX12_findList_125 : decode cX12_findList 125 = .ok (.iastore, 1) := by decide +kernel
theorem dX12_findList_126 : decode cX12_findList 126 = .ok (.aload_n 0, 1) := by decide +kernel
theorem dX12_findList_127 : decode cX12_findList 127 = .ok (.dup, 1) := by decide +kernel
theorem dX12_findList_128 : decode cX12_findList 128 = .ok (.getfield 362, 3) := by decide +kernel
theorem dX12_findList_131 : decode cX12_findList 131 = .ok (.iconst 1, 1) := by decide +kernel
theorem dX12_findList_132 : decode cX12_findList 132 = .ok (.iadd, 1) := by decide +kernel
theorem dX12_findList_133 : decode cX12_findList 133 = .ok (.putfield 362, 3) := by decide +kernel
theorem dX12_findList_136 : decode cX12_findList 136 = .ok (.iinc 4 1, 3) := by decide +kernel
theorem dX12_findList_139 : decode cX12_findList 139 = .ok (.goto (-104), 3) := by decide +kernel
theorem dX12_findList_142 : decode cX12_findList 142 = .ok (.return_, 1) := by decide +kernel
theorem cd_findList : Cond.code yX12_findList cX12_findList 6 none ∈ lw_g := mt_at 2151 (by decide +kernel) rfl
theorem mw_findList : mCw 371 yX12_findList cX12_findList 6 none 2 := ⟨cd_findList, mt_at 2148 (by decide +kernel) rfl, in_M, by decide +kernel⟩
theorem im_findList : Cond.instanceMethod yX12_findList ∈ lw_g := mt_at 2150 (by decide +kernel) rfl
theorem sl_findList : Cond.selects RX12 yX12_findList yX12_findList ∈ lw_g := mt_sel 83 (by decide +kernel) rfl
section
variable {p : Program} {l : Launch} {e : Env} {R : Room} {s : State} {m : MethodId} {args : Array Value} {below : List Frame} {meth : Method} {c : Code} {cM : ClassId} {iS : Nat → Nat} {cI cZ : ClassId} {mo : Nat} {ad : Nat → Nat} {r : Int32} {S9 : mSt}
noncomputable def fm_findList_136 (g_35 : mSt → Int32 → Int32 → Int32 → Option (mSt)) (S : mSt) (v1 : Int32) (v3 : Int32) (v4 : Int32) : Option (mSt) :=
lt (v4 + (1 : Int32)) fun x1 =>
g_35 S v1 v3 x1
set_option maxRecDepth 100000 in
set_option maxHeartbeats 4000000 in
theorem wm_findList_136 (C : mY p R s m args meth c cX12_findList 6 6 142 none) (X : mX s cM iS cI cZ mo ad) {g_35 : mSt → Int32 → Int32 → Int32 → Option (mSt)} (hg_35 : ∀ {S : mSt} {v1 : Int32} {v3 : Int32} {v4 : Int32} {H : Heap} {locs : List Loc} {ls : Array Slot}, g_35 S v1 v3 v4 = some S9 → mW cM iS cI cZ mo ad S H → mS (mA mo ad) s.heap H locs → lv_has ls 6 [(0, .ref mo), (1, .int v1), (3, .int v3), (4, .int v4)] → W p l e R s m args below meth c H locs 0 0 (MQ below (mQw none cM iS cI cZ mo ad S9) args s 0 0 (mA mo ad)) (F0 m 35 ls [])) : ∀ {S : mSt} {v1 : Int32} {v3 : Int32} {v4 : Int32} {H : Heap} {locs : List Loc} {ls : Array Slot}, fm_findList_136 g_35 S v1 v3 v4 = some S9 → mW cM iS cI cZ mo ad S H → mS (mA mo ad) s.heap H locs → lv_has ls 6 [(0, .ref mo), (1, .int v1), (3, .int v3), (4, .int v4)] → W p l e R s m args below meth c H locs 0 0 (MQ below (mQw none cM iS cI cZ mo ad S9) args s 0 0 (mA mo ad)) (F0 m 136 ls []) := by
  intro S v1 v3 v4 H locs ls h hW hS hl
  unfold fm_findList_136 at h
  refine lt_ok h (fun x1 e_x1 h => ?_)
  refine lv_iinc (v := x1) (lv' := [(4, .int x1), (0, .ref mo), (1, .int v1), (3, .int v3)]) C.1 C.2.1 dX12_findList_136 hl (k := 3) rfl (by rw [← e_x1]; rfl) (by decide) rfl (fun ls hl => ?_)
  refine lv_goto (tgt := 35) C.1 C.2.1 dX12_findList_139 (by decide) ?_
  exact hg_35 h hW hS (lv_sub hl [1, 2, 3, 0] rfl)
noncomputable def fm_findList_35 : Nat → mSt → Int32 → Int32 → Int32 → Option (mSt)
  | 0, _, _, _, _ => none
  | n + 1, S, v1, v3, v4 =>
    if (S.1 54) ≤ v4 then (
    some S)
    else (
    ck v4 48 (
    lt (rd S 55 v4) fun x2 =>
    bd (fm_kindOf S x2) fun r3 =>
    ck v3 16 (
    if r3 = (rd S 33 v3) then (
    bd (fm_isThereNow S v1 x2) fun q_r6 => lt q_r6.1 fun r6 => lt q_r6.2 fun S5 =>
    if r6 = 0 then (
    fm_findList_136 (fm_findList_35 n) S5 v1 v3 v4)
    else (
    ck v3 16 (
    bd (fm_latestOf S5 v1 x2 (rd S5 34 v3)) fun q_r9 => lt q_r9.1 fun r9 => lt q_r9.2 fun S8 =>
    ck v3 16 (
    ck v3 16 (
    bd (fm_within r9 (rd S8 35 v3) (rd S8 36 v3)) fun r10 =>
    if r10 = 0 then (
    fm_findList_136 (fm_findList_35 n) S8 v1 v3 v4)
    else (
    ck (S8.1 67) 48 (lt (wr S8 68 (S8.1 67) x2) fun S12 =>
    lt (pu S12 67 ((S12.1 67) + (1 : Int32))) fun S13 =>
    fm_findList_136 (fm_findList_35 n) S13 v1 v3 v4)))))))
    else (
    fm_findList_136 (fm_findList_35 n) S v1 v3 v4))))
set_option maxRecDepth 100000 in
set_option maxHeartbeats 4000000 in
theorem wm_findList_35 (C : mY p R s m args meth c cX12_findList 6 6 142 none) (X : mX s cM iS cI cZ mo ad) : ∀ (n : Nat), ∀ {S : mSt} {v1 : Int32} {v3 : Int32} {v4 : Int32} {H : Heap} {locs : List Loc} {ls : Array Slot}, fm_findList_35 n S v1 v3 v4 = some S9 → mW cM iS cI cZ mo ad S H → mS (mA mo ad) s.heap H locs → lv_has ls 6 [(0, .ref mo), (1, .int v1), (3, .int v3), (4, .int v4)] → W p l e R s m args below meth c H locs 0 0 (MQ below (mQw none cM iS cI cZ mo ad S9) args s 0 0 (mA mo ad)) (F0 m 35 ls []) := by
  intro n
  induction n with
  | zero =>
    intro S v1 v3 v4 H locs ls h hW hS hl
    exact absurd (show (none : Option (mSt)) = _ from h) (fun q => by cases q)
  | succ n ih =>
    intro S v1 v3 v4 H locs ls h hW hS hl
    rw [fm_findList_35] at h
    refine lv_iload C.1 C.2.1 dX12_findList_35 (lv_at hl 3 rfl) ?_
    refine lv_aload_n C.1 C.2.1 dX12_findList_37 rfl (lv_at hl 0 rfl) ?_
    refine gf_54 C X hW dX12_findList_38 ?_
    refine lv_icmp_ge (tgt := 142) C.1 C.2.1 dX12_findList_41 (by decide) (fun c1 => ?_) (fun c1 => ?_)
    · have h := if_t h c1
      cases h
      exact m_retvW C hW hS dX12_findList_142
    · have h := if_f h c1
      refine lv_aload_n C.1 C.2.1 dX12_findList_44 rfl (lv_at hl 0 rfl) ?_
      refine gf_55 C X hW dX12_findList_45 ?_
      refine lv_iload C.1 C.2.1 dX12_findList_48 (lv_at hl 3 rfl) ?_
      obtain ⟨hin, h⟩ := ck_ok h
      refine l_55 C X hW hin dX12_findList_50 ?_
      refine lt_ok h (fun x2 e_x2 h => ?_)
      refine lv_nm e_x2 ?_
      refine lv_istore (lv' := [(5, .int x2), (0, .ref mo), (1, .int v1), (3, .int v3), (4, .int v4)]) C.1 C.2.1 dX12_findList_51 hl (by decide) rfl (fun ls hl => ?_)
      refine lv_aload_n C.1 C.2.1 dX12_findList_53 rfl (lv_at hl 1 rfl) ?_
      refine lv_iload C.1 C.2.1 dX12_findList_54 (lv_at hl 0 rfl) ?_
      obtain ⟨r3, h_r3, h⟩ := bd_ok h
      refine m_callR (rest := []) C X hW hl.1 [.int x2] (tm_kindOf l h_r3) mw_kindOf im_kindOf sl_kindOf rfl ⟨by decide, by decide⟩ rfl (Nat.le_of_ble_eq_true rfl) dX12_findList_56 ?_
      refine lv_aload_n C.1 C.2.1 dX12_findList_59 rfl (lv_at hl 1 rfl) ?_
      refine gf_33 C X hW dX12_findList_60 ?_
      refine lv_iload_n C.1 C.2.1 dX12_findList_63 rfl (lv_at hl 3 rfl) ?_
      obtain ⟨hin, h⟩ := ck_ok h
      refine l_33 C X hW hin dX12_findList_64 ?_
      refine lv_icmp_ne (tgt := 136) C.1 C.2.1 dX12_findList_65 (by decide) (fun c4 => ?_) (fun c4 => ?_)
      · have h := if_f h c4
        exact wm_findList_136 C X ih h hW hS (lv_sub hl [1, 2, 3, 4] rfl)
      · have h := if_t h c4
        refine lv_aload_n C.1 C.2.1 dX12_findList_68 rfl (lv_at hl 1 rfl) ?_
        refine lv_iload_n C.1 C.2.1 dX12_findList_69 rfl (lv_at hl 2 rfl) ?_
        refine lv_iload C.1 C.2.1 dX12_findList_70 (lv_at hl 0 rfl) ?_
        obtain ⟨⟨r6, S5⟩, h_S5, h⟩ := bd_ok h
        refine m_callW (rest := []) (ov := some (.int r6)) C X hW hS hl.1 [.int v1, .int x2] (tm_isThereNow l h_S5) mw_isThereNow im_isThereNow sl_isThereNow rfl ⟨by decide, by decide⟩ rfl (Nat.le_of_ble_eq_true rfl) dX12_findList_72 (fun H locs hW hS => ?_)
        refine W.eq (g2 := F0 m 75 ls [.int r6]) rfl ?_
        refine lv_if_ne (tgt := 81) C.1 C.2.1 dX12_findList_75 (by decide) (fun c7 => ?_) (fun c7 => ?_)
        · have h := if_f h c7
          refine lv_aload_n C.1 C.2.1 dX12_findList_81 rfl (lv_at hl 1 rfl) ?_
          refine lv_iload_n C.1 C.2.1 dX12_findList_82 rfl (lv_at hl 2 rfl) ?_
          refine lv_iload C.1 C.2.1 dX12_findList_83 (lv_at hl 0 rfl) ?_
          refine lv_aload_n C.1 C.2.1 dX12_findList_85 rfl (lv_at hl 1 rfl) ?_
          refine gf_34 C X hW dX12_findList_86 ?_
          refine lv_iload_n C.1 C.2.1 dX12_findList_89 rfl (lv_at hl 3 rfl) ?_
          obtain ⟨hin, h⟩ := ck_ok h
          refine l_34 C X hW hin dX12_findList_90 ?_
          obtain ⟨⟨r9, S8⟩, h_S8, h⟩ := bd_ok h
          refine m_callW (rest := []) (ov := some (.int r9)) C X hW hS hl.1 [.int v1, .int x2, .int (rd S5 34 v3)] (tm_latestOf l h_S8) mw_latestOf im_latestOf sl_latestOf rfl ⟨by decide, by decide⟩ rfl (Nat.le_of_ble_eq_true rfl) dX12_findList_91 (fun H locs hW hS => ?_)
          refine W.eq (g2 := F0 m 94 ls [.int r9]) rfl ?_
          refine lv_aload_n C.1 C.2.1 dX12_findList_94 rfl (lv_at hl 1 rfl) ?_
          refine gf_35 C X hW dX12_findList_95 ?_
          refine lv_iload_n C.1 C.2.1 dX12_findList_98 rfl (lv_at hl 3 rfl) ?_
          obtain ⟨hin, h⟩ := ck_ok h
          refine l_35 C X hW hin dX12_findList_99 ?_
          refine lv_aload_n C.1 C.2.1 dX12_findList_100 rfl (lv_at hl 1 rfl) ?_
          refine gf_36 C X hW dX12_findList_101 ?_
          refine lv_iload_n C.1 C.2.1 dX12_findList_104 rfl (lv_at hl 3 rfl) ?_
          obtain ⟨hin, h⟩ := ck_ok h
          refine l_36 C X hW hin dX12_findList_105 ?_
          obtain ⟨r10, h_r10, h⟩ := bd_ok h
          refine m_callS (rest := []) C hl.1 [.int r9, .int (rd S8 35 v3), .int (rd S8 36 v3)] (tm_within l h_r10) mw_within st_within rfl ⟨by decide, by decide⟩ rfl (Nat.le_of_ble_eq_true rfl) dX12_findList_106 ?_
          refine lv_if_ne (tgt := 115) C.1 C.2.1 dX12_findList_109 (by decide) (fun c11 => ?_) (fun c11 => ?_)
          · have h := if_f h c11
            refine lv_aload_n C.1 C.2.1 dX12_findList_115 rfl (lv_at hl 1 rfl) ?_
            refine gf_68 C X hW dX12_findList_116 ?_
            refine lv_aload_n C.1 C.2.1 dX12_findList_119 rfl (lv_at hl 1 rfl) ?_
            refine gf_67 C X hW dX12_findList_120 ?_
            refine lv_iload C.1 C.2.1 dX12_findList_123 (lv_at hl 0 rfl) ?_
            obtain ⟨hin, h⟩ := ck_ok h
            refine s_68 C X hW hS hin dX12_findList_125 (fun H locs hW hS => ?_)
            refine lt_ok h (fun S12 e_S12 h => ?_)
            rw [e_S12] at hW
            refine lv_aload_n C.1 C.2.1 dX12_findList_126 rfl (lv_at hl 1 rfl) ?_
            refine lv_dup C.1 C.2.1 dX12_findList_127 rfl ?_
            refine gf_67 C X hW dX12_findList_128 ?_
            refine lv_iconst (v := 1) C.1 C.2.1 dX12_findList_131 (by decide) ?_
            refine lv_iadd C.1 C.2.1 dX12_findList_132 ?_
            refine p_67 C X hW hS dX12_findList_133 (fun H locs hW hS => ?_)
            refine lt_ok h (fun S13 e_S13 h => ?_)
            rw [e_S13] at hW
            exact wm_findList_136 C X ih h hW hS (lv_sub hl [1, 2, 3, 4] rfl)
          · have h := if_t h c11
            refine lv_goto (tgt := 136) C.1 C.2.1 dX12_findList_112 (by decide) ?_
            exact wm_findList_136 C X ih h hW hS (lv_sub hl [1, 2, 3, 4] rfl)
        · have h := if_t h c7
          refine lv_goto (tgt := 136) C.1 C.2.1 dX12_findList_78 (by decide) ?_
          exact wm_findList_136 C X ih h hW hS (lv_sub hl [1, 2, 3, 4] rfl)
noncomputable def fm_findList (S : mSt) (v1 : Int32) (v2 : Int32) : Option (mSt) :=
lt (pu S 67 (0 : Int32)) fun S1 =>
lt (((4 : Int32) * v1) + v2) fun x2 =>
ck x2 16 (
if (rd S1 32 x2) = 0 then (
some S1)
else (
ck v1 4 (
bd (fm_findObjects S1 v1 (rd S1 23 v1)) fun S4 =>
fm_findList_35 mFU S4 v1 x2 (0 : Int32))))
set_option maxRecDepth 100000 in
set_option maxHeartbeats 4000000 in
theorem tm_findList (l : Launch) {cM : ClassId} {iS : Nat → Nat} {cI cZ : ClassId} {mo : Nat} {ad : Nat → Nat} {S : mSt} {v1 : Int32} {v2 : Int32} {S9 : mSt} (h : fm_findList S v1 v2 = some S9) : Met l yX12_findList (Cond.code yX12_findList cX12_findList 6 none :: lw_g) { frames := 6, cells := 0, slots := 0, locals := 142 } (mPi [.int v1, .int v2] cM iS cI cZ mo ad S) (mQw none cM iS cI cZ mo ad S9) 0 0 (mA mo ad) := by
  refine Met.ofW (cc := cX12_findList) (maxL := 6) (ret := none) (by decide) rfl ?_
  intro p e s m args below meth c s₁ B hml hv
  obtain ⟨rfl, hW, X⟩ := hv
  have C : mY p (headSpec (Cond.code yX12_findList cX12_findList 6 none :: lw_g) { frames := 6, cells := 0, slots := 0, locals := 142 }).room s m _ meth c cX12_findList 6 6 142 none := ⟨B.exec, B.bytes, hml, findClass_of_methodNamed B.named, fun w hw => atoms_spec (ws := Cond.code yX12_findList cX12_findList 6 none :: lw_g) B.pre w (List.mem_cons_of_mem _ hw), ⟨Nat.le_refl _, Nat.le_refl _⟩, B.returns, B.notSynchronized⟩
  have hl := lv_entry ([.ref mo, .int v1, .int v2]) (n := 6) (Nat.le_of_ble_eq_true rfl)
  rw [lg_entry_eq]
  generalize (lg_sl ([.ref mo, .int v1, .int v2]) ++ List.replicate (6 - (lg_sl ([.ref mo, .int v1, .int v2])).length) Slot.unset).toArray = ls at hl ⊢
  have hl : lv_has ls 6 [(0, .ref mo), (1, .int v1), (2, .int v2)] := hl
  have hS : mS (mA mo ad) s.heap s.heap [] := mS.rf
  unfold fm_findList at h
  refine lv_aload_n C.1 C.2.1 dX12_findList_0 rfl (lv_at hl 0 rfl) ?_
  refine lv_iconst (v := 0) C.1 C.2.1 dX12_findList_1 (by decide) ?_
  refine p_67 C X hW hS dX12_findList_2 (fun H locs hW hS => ?_)
  refine lt_ok h (fun S1 e_S1 h => ?_)
  rw [e_S1] at hW
  refine lv_iconst (v := 4) C.1 C.2.1 dX12_findList_5 (by decide) ?_
  refine lv_iload_n C.1 C.2.1 dX12_findList_6 rfl (lv_at hl 1 rfl) ?_
  refine lv_imul C.1 C.2.1 dX12_findList_7 ?_
  refine lv_iload_n C.1 C.2.1 dX12_findList_8 rfl (lv_at hl 2 rfl) ?_
  refine lv_iadd C.1 C.2.1 dX12_findList_9 ?_
  refine lt_ok h (fun x2 e_x2 h => ?_)
  refine lv_nm e_x2 ?_
  refine lv_istore_n (lv' := [(3, .int x2), (0, .ref mo), (1, .int v1), (2, .int v2)]) C.1 C.2.1 dX12_findList_10 rfl hl (by decide) rfl (fun ls hl => ?_)
  refine lv_aload_n C.1 C.2.1 dX12_findList_11 rfl (lv_at hl 1 rfl) ?_
  refine gf_32 C X hW dX12_findList_12 ?_
  refine lv_iload_n C.1 C.2.1 dX12_findList_15 rfl (lv_at hl 0 rfl) ?_
  obtain ⟨hin, h⟩ := ck_ok h
  refine l_32 C X hW hin dX12_findList_16 ?_
  refine lv_if_ne (tgt := 21) C.1 C.2.1 dX12_findList_17 (by decide) (fun c3 => ?_) (fun c3 => ?_)
  · have h := if_f h c3
    refine lv_aload_n C.1 C.2.1 dX12_findList_21 rfl (lv_at hl 1 rfl) ?_
    refine lv_iload_n C.1 C.2.1 dX12_findList_22 rfl (lv_at hl 2 rfl) ?_
    refine lv_aload_n C.1 C.2.1 dX12_findList_23 rfl (lv_at hl 1 rfl) ?_
    refine gf_23 C X hW dX12_findList_24 ?_
    refine lv_iload_n C.1 C.2.1 dX12_findList_27 rfl (lv_at hl 2 rfl) ?_
    obtain ⟨hin, h⟩ := ck_ok h
    refine l_23 C X hW hin dX12_findList_28 ?_
    obtain ⟨S4, h_S4, h⟩ := bd_ok h
    refine m_callW (rest := []) (ov := none) C X hW hS hl.1 [.int v1, .int (rd S1 23 v1)] (tm_findObjects l h_S4) mw_findObjects im_findObjects sl_findObjects rfl ⟨by decide, by decide⟩ rfl (Nat.le_of_ble_eq_true rfl) dX12_findList_29 (fun H locs hW hS => ?_)
    refine W.eq (g2 := F0 m 32 ls []) rfl ?_
    refine lv_iconst (v := 0) C.1 C.2.1 dX12_findList_32 (by decide) ?_
    refine lv_istore (lv' := [(4, .int (0 : Int32)), (3, .int x2), (0, .ref mo), (1, .int v1), (2, .int v2)]) C.1 C.2.1 dX12_findList_33 hl (by decide) rfl (fun ls hl => ?_)
    exact wm_findList_35 C X mFU h hW hS (lv_sub hl [2, 3, 1, 0] rfl)
  · have h := if_t h c3
    cases h
    exact m_retvW C hW hS dX12_findList_20
end
