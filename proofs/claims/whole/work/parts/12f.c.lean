-- made by wip/whole/gen12.py: 11_isKey, 10_forgetKeys, 10_findMembers, 10_enterOf, 10_isUnder, 10_findParents, 10_stands, 10_bindOf, 10_glanceFurther, 10_glance, 7_raiseLast
theorem dX11_isKey_0 : decode cX11_isKey 0 = .ok (.iload_n 0, 1) := by decide +kernel
theorem dX11_isKey_1 : decode cX11_isKey 1 = .ok (.ifCond .lt 13, 3) := by decide +kernel
theorem dX11_isKey_4 : decode cX11_isKey 4 = .ok (.iload_n 0, 1) := by decide +kernel
theorem dX11_isKey_5 : decode cX11_isKey 5 = .ok (.bipush 64, 2) := by decide +kernel
theorem dX11_isKey_7 : decode cX11_isKey 7 = .ok (.if_icmp .ge 7, 3) := by decide +kernel
theorem dX11_isKey_10 : decode cX11_isKey 10 = .ok (.iconst 1, 1) := by decide +kernel
theorem dX11_isKey_11 : decode cX11_isKey 11 = .ok (.goto 4, 3) := by decide +kernel
theorem dX11_isKey_14 : decode cX11_isKey 14 = .ok (.iconst 0, 1) := by decide +kernel
theorem dX11_isKey_15 : decode cX11_isKey 15 = .ok (.ireturn, 1) := by decide +kernel
theorem kd_11_isKey : Cond.code yX11_isKey cX11_isKey 1 (some .boolean) ∈ lw_g := mt_at 591 (by decide +kernel) rfl
theorem ks_11_isKey : Cond.static yX11_isKey ∈ lw_g := mt_at 590 (by decide +kernel) rfl
section
variable {p : Program} {l : Launch} {e : Env} {R : Room} {s : State} {m : MethodId} {args : Array Value} {below : List Frame} {meth : Method} {c : Code} {D : cG} {r : Int32}
noncomputable def fk_11_isKey_15 (s0 : Int32) : Option (Int32) :=
ckz s0 (some s0)
set_option maxRecDepth 100000 in
set_option maxHeartbeats 4000000 in
theorem wk_11_isKey_15 (C : cY p R s m args meth c RX11 cX11_isKey 1 0 0 0 0 (some .boolean)) : ∀ {s0 : Int32} {ls : Array Slot}, fk_11_isKey_15 s0 = some r → lv_has ls 1 [] → W p l e R s m args below meth c s.heap [] 0 0 (MQ below (kQ (some (.int r))) args s 0 0 mNo) (F0 m 15 ls [.int s0]) := by
  intro s0 ls h hl
  unfold fk_11_isKey_15 at h
  obtain ⟨hzo, h⟩ := ckz_ok h
  cases h
  exact c_retn C (by rcases hzo with h9 | h9 <;> (rw [h9]; rfl)) rfl rfl dX11_isKey_15
noncomputable def fk_11_isKey_14 : Option (Int32) :=
fk_11_isKey_15 (0 : Int32)
set_option maxRecDepth 100000 in
set_option maxHeartbeats 4000000 in
theorem wk_11_isKey_14 (C : cY p R s m args meth c RX11 cX11_isKey 1 0 0 0 0 (some .boolean)) : ∀ {ls : Array Slot}, fk_11_isKey_14 = some r → lv_has ls 1 [] → W p l e R s m args below meth c s.heap [] 0 0 (MQ below (kQ (some (.int r))) args s 0 0 mNo) (F0 m 14 ls []) := by
  intro ls h hl
  unfold fk_11_isKey_14 at h
  refine lv_iconst (v := 0) C.1 C.2.1 dX11_isKey_14 (by decide) ?_
  exact wk_11_isKey_15 C h (lv_sub hl [] rfl)
noncomputable def fk_11_isKey (v0 : Int32) : Option (Int32) :=
if v0 < 0 then (
fk_11_isKey_14)
else (
if (64 : Int32) ≤ v0 then (
fk_11_isKey_14)
else (
fk_11_isKey_15 (1 : Int32)))
set_option maxRecDepth 100000 in
set_option maxHeartbeats 4000000 in
theorem tk_11_isKey (l : Launch) {v0 : Int32} {r : Int32}  (h : fk_11_isKey v0 = some r) : Met l yX11_isKey (Cond.code yX11_isKey cX11_isKey 1 (some .boolean) :: lw_g) { frames := 0, cells := 0, slots := 0, locals := 0 } (mPs [.int v0]) (kQ (some (.int r))) 0 0 (mNo) := by
  refine Met.ofW (cc := cX11_isKey) (maxL := 1) (ret := (some .boolean)) (by decide) rfl ?_
  intro p e s m args below meth c s₁ B hml hv
  obtain rfl := hv
  have C : cY p (headSpec (Cond.code yX11_isKey cX11_isKey 1 (some .boolean) :: lw_g) { frames := 0, cells := 0, slots := 0, locals := 0 }).room s m _ meth c RX11 cX11_isKey 1 0 0 0 0 (some .boolean) := ⟨B.exec, B.bytes, hml, findClass_of_methodNamed B.named, fun w hw => atoms_spec (ws := Cond.code yX11_isKey cX11_isKey 1 (some .boolean) :: lw_g) B.pre w (List.mem_cons_of_mem _ hw), ⟨Nat.le_refl _, Nat.le_refl _, Nat.le_refl _, Nat.le_refl _⟩, B.returns, B.notSynchronized⟩
  have hl := lv_entry ([.int v0]) (n := 1) (Nat.le_of_ble_eq_true rfl)
  rw [lg_entry_eq]
  generalize (lg_sl ([.int v0]) ++ List.replicate (1 - (lg_sl ([.int v0])).length) Slot.unset).toArray = ls at hl ⊢
  have hl : lv_has ls 1 [(0, .int v0)] := hl
  unfold fk_11_isKey at h
  refine lv_iload_n C.1 C.2.1 dX11_isKey_0 rfl (lv_at hl 0 rfl) ?_
  refine lv_if_lt (tgt := 14) C.1 C.2.1 dX11_isKey_1 (by decide) (fun c1 => ?_) (fun c1 => ?_)
  · have h := if_t h c1
    exact wk_11_isKey_14 C h (lv_sub hl [] rfl)
  · have h := if_f h c1
    refine lv_iload_n C.1 C.2.1 dX11_isKey_4 rfl (lv_at hl 0 rfl) ?_
    refine lv_bipush (v := 64) C.1 C.2.1 dX11_isKey_5 (by decide) ?_
    refine lv_icmp_ge (tgt := 14) C.1 C.2.1 dX11_isKey_7 (by decide) (fun c2 => ?_) (fun c2 => ?_)
    · have h := if_t h c2
      exact wk_11_isKey_14 C h (lv_sub hl [] rfl)
    · have h := if_f h c2
      refine lv_iconst (v := 1) C.1 C.2.1 dX11_isKey_10 (by decide) ?_
      refine lv_goto (tgt := 15) C.1 C.2.1 dX11_isKey_11 (by decide) ?_
      exact wk_11_isKey_15 C h (lv_sub hl [] rfl)
end
theorem dX10_forgetKeys_0 : decode cX10_forgetKeys 0 = .ok (.iconst 0, 1) := by decide +kernel
theorem dX10_forgetKeys_1 : decode cX10_forgetKeys 1 = .ok (.istore_n 1, 1) := by decide +kernel
theorem dX10_forgetKeys_2 : decode cX10_forgetKeys 2 = .ok (.iload_n 1, 1) := by decide +kernel
theorem dX10_forgetKeys_3 : decode cX10_forgetKeys 3 = .ok (.bipush 64, 2) := by decide +kernel
theorem dX10_forgetKeys_5 : decode cX10_forgetKeys 5 = .ok (.if_icmp .ge 16, 3) := by decide +kernel
theorem dX10_forgetKeys_8 : decode cX10_forgetKeys 8 = .ok (.aload_n 0, 1) := by decide +kernel
theorem dX10_forgetKeys_9 : decode cX10_forgetKeys 9 = .ok (.getfield 24, 3) := by decide +kernel
theorem dX10_forgetKeys_12 : decode cX10_forgetKeys 12 = .ok (.iload_n 1, 1) := by decide +kernel
theorem dX10_forgetKeys_13 : decode cX10_forgetKeys 13 = .ok (.aconst_null, 1) := by decide +kernel
theorem dX10_forgetKeys_14 : decode cX10_forgetKeys 14 = .ok (.aastore, 1) := by decide +kernel
theorem dX10_forgetKeys_15 : decode cX10_forgetKeys 15 = .ok (.iinc 1 1, 3) := by decide +kernel
theorem dX10_forgetKeys_18 : decode cX10_forgetKeys 18 = .ok (.goto (-16), 3) := by decide +kernel
theorem dX10_forgetKeys_21 : decode cX10_forgetKeys 21 = .ok (.return_, 1) := by decide +kernel
theorem kd_10_forgetKeys : Cond.code yX10_forgetKeys cX10_forgetKeys 2 none ∈ lw_g := mt_at 635 (by decide +kernel) rfl
theorem ki_10_forgetKeys : Cond.instanceMethod yX10_forgetKeys ∈ lw_g := mt_at 634 (by decide +kernel) rfl
theorem kl_10_forgetKeys : Cond.selects (kRn 10) yX10_forgetKeys yX10_forgetKeys ∈ lw_g := mt_sel 12 (by decide +kernel) rfl
section
variable {p : Program} {l : Launch} {e : Env} {R : Room} {s : State} {m : MethodId} {args : Array Value} {below : List Frame} {meth : Method} {c : Code} {H : Heap} {locs : List Loc} {cells slots : Nat} {Q : State → Prop}
variable {D : cG} {S S0 : cSt} {cc : ByteArray} {nL : Nat} {pc : Nat} {ls : Array Slot} {rest : List Value} {H0 : Heap} {nF nR nC nS : Nat} {ret : Option FieldType} {a : Nat}
theorem gk10_24 (C : cY p R s m args meth c RX10 cc nL nF nC nS nR ret) (X : cX D s) (hW : cW D S H) (hk : kK S a = 11) {x : Nat} (hx : kR S a 5 = some x) (hdg : decode cc pc = .ok (.getfield 24, 3)) (kk : W p l e R s m args below meth c H locs cells slots Q (F0 m (pc + 3) ls (.ref x :: rest))) : W p l e R s m args below meth c H locs cells slots Q (F0 m pc ls (.ref a :: rest)) := c_get C X hW 10 (by decide) ly_10 hk 5 (by decide) (mt_at 278 (by decide +kernel) (by decide +kernel)) hdg (by rw [cV_R (by decide +kernel) hx]; exact kk)
end
section
variable {p : Program} {l : Launch} {e : Env} {R : Room} {s : State} {m : MethodId} {args : Array Value} {below : List Frame} {meth : Method} {c : Code} {D : cG} {S0 S9 : cSt}
noncomputable def fk_10_forgetKeys_2 : Nat → cSt → Nat → Int32 → Option (cSt)
  | 0, _, _, _ => none
  | n + 1, S, v0, v1 =>
    if (64 : Int32) ≤ v1 then (
    some S)
    else (
    ckk S v0 11 (bd (kR S v0 5) fun a2 =>
    ckk S a2 30 (ck v1 (kL S a2) (ckq S none 9 (lt (cWo S a2 (Int32.toNatClampNeg v1) none) fun S3 =>
    lt (v1 + (1 : Int32)) fun x4 =>
    fk_10_forgetKeys_2 n S3 v0 x4)))))
set_option maxRecDepth 100000 in
set_option maxHeartbeats 4000000 in
theorem wk_10_forgetKeys_2 (C : cY p R s m args meth c RX10 cX10_forgetKeys 2 0 0 0 0 none) (X : cX D s) : ∀ (n : Nat), ∀ {S : cSt} {v0 : Nat} {v1 : Int32} {H : Heap} {locs : List Loc} {ls : Array Slot}, fk_10_forgetKeys_2 n S v0 v1 = some S9 → cJ D S0 s.heap S H locs → lv_has ls 2 [(0, .ref v0), (1, .int v1)] → W p l e R s m args below meth c H locs 0 0 (MQ below (kW none D S0 S9) args s 0 0 (cA S0)) (F0 m 2 ls []) := by
  intro n
  induction n with
  | zero =>
    intro S v0 v1 H locs ls h hJ hl
    exact absurd (show (none : Option (cSt)) = _ from h) (fun q => by cases q)
  | succ n ih =>
    intro S v0 v1 H locs ls h hJ hl
    rw [fk_10_forgetKeys_2] at h
    refine lv_iload_n C.1 C.2.1 dX10_forgetKeys_2 rfl (lv_at hl 1 rfl) ?_
    refine lv_bipush (v := 64) C.1 C.2.1 dX10_forgetKeys_3 (by decide) ?_
    refine lv_icmp_ge (tgt := 21) C.1 C.2.1 dX10_forgetKeys_5 (by decide) (fun c1 => ?_) (fun c1 => ?_)
    · have h := if_t h c1
      cases h
      exact c_retvW C hJ dX10_forgetKeys_21
    · have h := if_f h c1
      refine lv_aload_n C.1 C.2.1 dX10_forgetKeys_8 rfl (lv_at hl 0 rfl) ?_
      obtain ⟨hk, h⟩ := ckk_ok h
      obtain ⟨a2, h_a2, h⟩ := bd_ok h
      refine gk10_24 C X hJ.1 hk h_a2 dX10_forgetKeys_9 ?_
      refine lv_iload_n C.1 C.2.1 dX10_forgetKeys_12 rfl (lv_at hl 1 rfl) ?_
      refine lv_null C.1 C.2.1 dX10_forgetKeys_13 ?_
      obtain ⟨hk, h⟩ := ckk_ok h
      obtain ⟨hin2, h⟩ := ck_ok h
      obtain ⟨hkv, h⟩ := ckq_ok h
      refine c_aastq (o := none) C X 30 8 (by decide) (by decide) X.2.2.2.2.1 hJ hk hkv hin2 dX10_forgetKeys_14 (fun H locs hJ => ?_)
      refine lt_ok h (fun S3 e_S3 h => ?_)
      rw [e_S3] at hJ
      refine lt_ok h (fun x4 e_x4 h => ?_)
      refine lv_iinc (v := x4) (lv' := [(1, .int x4), (0, .ref v0)]) C.1 C.2.1 dX10_forgetKeys_15 hl (k := 1) rfl (by rw [← e_x4]; rfl) (by decide) rfl (fun ls hl => ?_)
      refine lv_goto (tgt := 2) C.1 C.2.1 dX10_forgetKeys_18 (by decide) ?_
      exact ih h hJ (lv_sub hl [1, 0] rfl)
noncomputable def fk_10_forgetKeys (S : cSt) (v0 : Nat) : Option (cSt) :=
fk_10_forgetKeys_2 mFU S v0 (0 : Int32)
set_option maxRecDepth 100000 in
set_option maxHeartbeats 4000000 in
theorem tk_10_forgetKeys (l : Launch) {D : cG} {S : cSt} {v0 : Nat} {S9 : cSt} (h : fk_10_forgetKeys S v0 = some S9) : Met l yX10_forgetKeys (Cond.code yX10_forgetKeys cX10_forgetKeys 2 none :: lw_g) { frames := 0, cells := 0, slots := 0, locals := 0 } (kPi [.ref v0] D S) (kW none D S S9) 0 0 (cA S) := by
  refine Met.ofW (cc := cX10_forgetKeys) (maxL := 2) (ret := none) (by decide) rfl ?_
  intro p e s m args below meth c s₁ B hml hv
  obtain ⟨rfl, hW, X⟩ := hv
  have C : cY p (headSpec (Cond.code yX10_forgetKeys cX10_forgetKeys 2 none :: lw_g) { frames := 0, cells := 0, slots := 0, locals := 0 }).room s m _ meth c RX10 cX10_forgetKeys 2 0 0 0 0 none := ⟨B.exec, B.bytes, hml, findClass_of_methodNamed B.named, fun w hw => atoms_spec (ws := Cond.code yX10_forgetKeys cX10_forgetKeys 2 none :: lw_g) B.pre w (List.mem_cons_of_mem _ hw), ⟨Nat.le_refl _, Nat.le_refl _, Nat.le_refl _, Nat.le_refl _⟩, B.returns, B.notSynchronized⟩
  have hl := lv_entry ([.ref v0]) (n := 2) (Nat.le_of_ble_eq_true rfl)
  rw [lg_entry_eq]
  generalize (lg_sl ([.ref v0]) ++ List.replicate (2 - (lg_sl ([.ref v0])).length) Slot.unset).toArray = ls at hl ⊢
  have hl : lv_has ls 2 [(0, .ref v0)] := hl
  have hJ : cJ D S s.heap S s.heap [] := cJ.rf hW
  unfold fk_10_forgetKeys at h
  refine lv_iconst (v := 0) C.1 C.2.1 dX10_forgetKeys_0 (by decide) ?_
  refine lv_istore_n (lv' := [(1, .int (0 : Int32)), (0, .ref v0)]) C.1 C.2.1 dX10_forgetKeys_1 rfl hl (by decide) rfl (fun ls hl => ?_)
  exact wk_10_forgetKeys_2 C X mFU h hJ (lv_sub hl [1, 0] rfl)
end
theorem dX10_findMembers_0 : decode cX10_findMembers 0 = .ok (.aload_n 0, 1) := by decide +kernel
theorem dX10_findMembers_1 : decode cX10_findMembers 1 = .ok (.invokevirtual 143, 3) := by decide +kernel
theorem dX10_findMembers_4 : decode cX10_findMembers 4 = .ok (.aload_n 0, 1) := by decide +kernel
theorem dX10_findMembers_5 : decode cX10_findMembers 5 = .ok (.getfield 21, 3) := by decide +kernel
theorem dX10_findMembers_8 : decode cX10_findMembers 8 = .ok (.iconst 0, 1) := by decide +kernel
theorem dX10_findMembers_9 : decode cX10_findMembers 9 = .ok (.invokestatic 45, 3) := by decide +kernel
theorem dX10_findMembers_12 : decode cX10_findMembers 12 = .ok (.aload_n 0, 1) := by decide +kernel
theorem dX10_findMembers_13 : decode cX10_findMembers 13 = .ok (.getfield 38, 3) := by decide +kernel
theorem dX10_findMembers_16 : decode cX10_findMembers 16 = .ok (.getfield 93, 3) := by decide +kernel
theorem dX10_findMembers_19 : decode cX10_findMembers 19 = .ok (.iload_n 1, 1) := by decide +kernel
theorem dX10_findMembers_20 : decode cX10_findMembers 20 = .ok (.aaload, 1) := by decide +kernel
theorem dX10_findMembers_21 : decode cX10_findMembers 21 = .ok (.astore_n 2, 1) := by decide +kernel
theorem dX10_findMembers_22 : decode cX10_findMembers 22 = .ok (.aload_n 2, 1) := by decide +kernel
theorem dX10_findMembers_23 : decode cX10_findMembers 23 = .ok (.ifnull 53, 3) := by decide +kernel
theorem dX10_findMembers_26 : decode cX10_findMembers 26 = .ok (.aload_n 2, 1) := by decide +kernel
theorem dX10_findMembers_27 : decode cX10_findMembers 27 = .ok (.getfield 108, 3) := by decide +kernel
theorem dX10_findMembers_30 : decode cX10_findMembers 30 = .ok (.bipush 8, 2) := by decide +kernel
theorem dX10_findMembers_32 : decode cX10_findMembers 32 = .ok (.if_icmp .ne 28, 3) := by decide +kernel
theorem dX10_findMembers_35 : decode cX10_findMembers 35 = .ok (.aload_n 0, 1) := by decide +kernel
theorem dX10_findMembers_36 : decode cX10_findMembers 36 = .ok (.aload_n 2, 1) := by decide +kernel
theorem dX10_findMembers_37 : decode cX10_findMembers 37 = .ok (.invokevirtual 96, 3) := by decide +kernel
theorem dX10_findMembers_40 : decode cX10_findMembers 40 = .ok (.ifCond .eq 20, 3) := by decide +kernel
theorem dX10_findMembers_43 : decode cX10_findMembers 43 = .ok (.aload_n 0, 1) := by decide +kernel
theorem dX10_findMembers_44 : decode cX10_findMembers 44 = .ok (.getfield 21, 3) := by decide +kernel
theorem dX10_findMembers_47 : decode cX10_findMembers 47 = .ok (.iconst 4, 1) := by decide +kernel
theorem dX10_findMembers_48 : decode cX10_findMembers 48 = .ok (.aload_n 2, 1) := by decide +kernel
theorem dX10_findMembers_49 : decode cX10_findMembers 49 = .ok (.getfield 102, 3) := by decide +kernel
theorem dX10_findMembers_52 : decode cX10_findMembers 52 = .ok (.imul, 1) := by decide +kernel
theorem dX10_findMembers_53 : decode cX10_findMembers 53 = .ok (.aload_n 2, 1) := by decide +kernel
theorem dX10_findMembers_54 : decode cX10_findMembers 54 = .ok (.getfield 130, 3) := by decide +kernel
theorem dX10_findMembers_57 : decode cX10_findMembers 57 = .ok (.invokestatic 133, 3) := by decide +kernel
theorem dX10_findMembers_60 : decode cX10_findMembers 60 = .ok (.aload_n 0, 1) := by decide +kernel
theorem dX10_findMembers_61 : decode cX10_findMembers 61 = .ok (.getfield 38, 3) := by decide +kernel
theorem dX10_findMembers_64 : decode cX10_findMembers 64 = .ok (.getfield 99, 3) := by decide +kernel
theorem dX10_findMembers_67 : decode cX10_findMembers 67 = .ok (.aload_n 2, 1) := by decide +kernel
theorem dX10_findMembers_68 : decode cX10_findMembers 68 = .ok (.getfield 68, 3) := by decide +kernel
theorem dX10_findMembers_71 : decode cX10_findMembers 71 = .ok (.aaload, 1) := by decide +kernel
theorem dX10_findMembers_72 : decode cX10_findMembers 72 = .ok (.astore_n 2, 1) := by decide +kernel
theorem dX10_findMembers_73 : decode cX10_findMembers 73 = .ok (.goto (-51), 3) := by decide +kernel
theorem dX10_findMembers_76 : decode cX10_findMembers 76 = .ok (.aload_n 0, 1) := by decide +kernel
theorem dX10_findMembers_77 : decode cX10_findMembers 77 = .ok (.getfield 38, 3) := by decide +kernel
theorem dX10_findMembers_80 : decode cX10_findMembers 80 = .ok (.getfield 121, 3) := by decide +kernel
theorem dX10_findMembers_83 : decode cX10_findMembers 83 = .ok (.iload_n 1, 1) := by decide +kernel
theorem dX10_findMembers_84 : decode cX10_findMembers 84 = .ok (.aaload, 1) := by decide +kernel
theorem dX10_findMembers_85 : decode cX10_findMembers 85 = .ok (.astore_n 2, 1) := by decide +kernel
theorem dX10_findMembers_86 : decode cX10_findMembers 86 = .ok (.aload_n 2, 1) := by decide +kernel
theorem dX10_findMembers_87 : decode cX10_findMembers 87 = .ok (.ifnull 69, 3) := by decide +kernel
theorem dX10_findMembers_90 : decode cX10_findMembers 90 = .ok (.aload_n 2, 1) := by decide +kernel
theorem dX10_findMembers_91 : decode cX10_findMembers 91 = .ok (.getfield 108, 3) := by decide +kernel
theorem dX10_findMembers_94 : decode cX10_findMembers 94 = .ok (.bipush 7, 2) := by decide +kernel
theorem dX10_findMembers_96 : decode cX10_findMembers 96 = .ok (.if_icmp .ne 44, 3) := by decide +kernel
theorem dX10_findMembers_99 : decode cX10_findMembers 99 = .ok (.aload_n 0, 1) := by decide +kernel
theorem dX10_findMembers_100 : decode cX10_findMembers 100 = .ok (.aload_n 2, 1) := by decide +kernel
theorem dX10_findMembers_101 : decode cX10_findMembers 101 = .ok (.invokevirtual 96, 3) := by decide +kernel
theorem dX10_findMembers_104 : decode cX10_findMembers 104 = .ok (.ifCond .eq 36, 3) := by decide +kernel
theorem dX10_findMembers_107 : decode cX10_findMembers 107 = .ok (.aload_n 2, 1) := by decide +kernel
theorem dX10_findMembers_108 : decode cX10_findMembers 108 = .ok (.getfield 124, 3) := by decide +kernel
theorem dX10_findMembers_111 : decode cX10_findMembers 111 = .ok (.aload_n 0, 1) := by decide +kernel
theorem dX10_findMembers_112 : decode cX10_findMembers 112 = .ok (.getfield 21, 3) := by decide +kernel
theorem dX10_findMembers_115 : decode cX10_findMembers 115 = .ok (.iconst 4, 1) := by decide +kernel
theorem dX10_findMembers_116 : decode cX10_findMembers 116 = .ok (.aload_n 2, 1) := by decide +kernel
theorem dX10_findMembers_117 : decode cX10_findMembers 117 = .ok (.getfield 102, 3) := by decide +kernel
theorem dX10_findMembers_120 : decode cX10_findMembers 120 = .ok (.imul, 1) := by decide +kernel
theorem dX10_findMembers_121 : decode cX10_findMembers 121 = .ok (.aload_n 2, 1) := by decide +kernel
theorem dX10_findMembers_122 : decode cX10_findMembers 122 = .ok (.getfield 105, 3) := by decide +kernel
theorem dX10_findMembers_125 : decode cX10_findMembers 125 = .ok (.iadd, 1) := by decide +kernel
theorem dX10_findMembers_126 : decode cX10_findMembers 126 = .ok (.iaload, 1) := by decide +kernel
theorem dX10_findMembers_127 : decode cX10_findMembers 127 = .ok (.if_icmp .le 13, 3) := by decide +kernel
theorem dX10_findMembers_130 : decode cX10_findMembers 130 = .ok (.aload_n 0, 1) := by decide +kernel
theorem dX10_findMembers_131 : decode cX10_findMembers 131 = .ok (.getfield 24, 3) := by decide +kernel
theorem dX10_findMembers_134 : decode cX10_findMembers 134 = .ok (.aload_n 2, 1) := by decide +kernel
theorem dX10_findMembers_135 : decode cX10_findMembers 135 = .ok (.getfield 102, 3) := by decide +kernel
theorem dX10_findMembers_138 : decode cX10_findMembers 138 = .ok (.aload_n 2, 1) := by decide +kernel
theorem dX10_findMembers_139 : decode cX10_findMembers 139 = .ok (.aastore, 1) := by decide +kernel
theorem dX10_findMembers_140 : decode cX10_findMembers 140 = .ok (.aload_n 0, 1) := by decide +kernel
theorem dX10_findMembers_141 : decode cX10_findMembers 141 = .ok (.getfield 38, 3) := by decide +kernel
theorem dX10_findMembers_144 : decode cX10_findMembers 144 = .ok (.getfield 127, 3) := by decide +kernel
theorem dX10_findMembers_147 : decode cX10_findMembers 147 = .ok (.aload_n 2, 1) := by decide +kernel
theorem dX10_findMembers_148 : decode cX10_findMembers 148 = .ok (.getfield 68, 3) := by decide +kernel
theorem dX10_findMembers_151 : decode cX10_findMembers 151 = .ok (.aaload, 1) := by decide +kernel
theorem dX10_findMembers_152 : decode cX10_findMembers 152 = .ok (.astore_n 2, 1) := by decide +kernel
theorem dX10_findMembers_153 : decode cX10_findMembers 153 = .ok (.goto (-67), 3) := by decide +kernel
theorem dX10_findMembers_156 : decode cX10_findMembers 156 = .ok (.return_, 1) := by decide +kernel
theorem kd_10_findMembers : Cond.code yX10_findMembers cX10_findMembers 3 none ∈ lw_g := mt_at 631 (by decide +kernel) rfl
theorem ki_10_findMembers : Cond.instanceMethod yX10_findMembers ∈ lw_g := mt_at 630 (by decide +kernel) rfl
theorem kl_10_findMembers : Cond.selects (kRn 10) yX10_findMembers yX10_findMembers ∈ lw_g := mt_sel 11 (by decide +kernel) rfl
theorem cw10_143 : cCw RX10 143 yX10_forgetKeys cX10_forgetKeys 2 none 0 := ⟨kd_10_forgetKeys, mt_at 632 (by decide +kernel) rfl, mt_at 10 (by decide +kernel) rfl, by decide +kernel⟩
section
variable {p : Program} {l : Launch} {e : Env} {R : Room} {s : State} {m : MethodId} {args : Array Value} {below : List Frame} {meth : Method} {c : Code} {H : Heap} {locs : List Loc} {cells slots : Nat} {Q : State → Prop}
variable {D : cG} {S S0 : cSt} {cc : ByteArray} {nL : Nat} {pc : Nat} {ls : Array Slot} {rest : List Value} {H0 : Heap} {nF nR nC nS : Nat} {ret : Option FieldType} {a : Nat}
theorem gk10_21 (C : cY p R s m args meth c RX10 cc nL nF nC nS nR ret) (X : cX D s) (hW : cW D S H) (hk : kK S a = 11) {x : Nat} (hx : kR S a 4 = some x) (hdg : decode cc pc = .ok (.getfield 21, 3)) (kk : W p l e R s m args below meth c H locs cells slots Q (F0 m (pc + 3) ls (.ref x :: rest))) : W p l e R s m args below meth c H locs cells slots Q (F0 m pc ls (.ref a :: rest)) := c_get C X hW 10 (by decide) ly_10 hk 4 (by decide) (mt_at 277 (by decide +kernel) (by decide +kernel)) hdg (by rw [cV_R (by decide +kernel) hx]; exact kk)
end
section
variable {p : Program} {l : Launch} {e : Env} {R : Room} {s : State} {m : MethodId} {args : Array Value} {below : List Frame} {meth : Method} {c : Code} {D : cG} {S0 S9 : cSt}
noncomputable def fk_10_findMembers_140 (g_86 : cSt → Nat → Option Nat → Option (cSt)) (S : cSt) (v0 : Nat) (v2 : Option Nat) : Option (cSt) :=
ckk S v0 11 (bd (kR S v0 7) fun a1 =>
ckk S a1 5 (bd (kR S a1 4) fun a2 =>
bd v2 fun a3 =>
ckk S a3 9 (
ckk S a2 30 (ck (kF S a3 12) (kL S a2) (lt (kO S a2 (Int32.toNatClampNeg (kF S a3 12))) fun o4 =>
g_86 S v0 o4)))))
set_option maxRecDepth 100000 in
set_option maxHeartbeats 4000000 in
theorem wk_10_findMembers_140 (C : cY p R s m args meth c RX10 cX10_findMembers 3 1 0 0 23 none) (X : cX D s) {g_86 : cSt → Nat → Option Nat → Option (cSt)} (hg_86 : ∀ {S : cSt} {v0 : Nat} {v2 : Option Nat} {H : Heap} {locs : List Loc} {ls : Array Slot}, g_86 S v0 v2 = some S9 → cJ D S0 s.heap S H locs → lv_has ls 3 [(0, .ref v0), (2, va_rf v2)] → W p l e R s m args below meth c H locs 0 0 (MQ below (kW none D S0 S9) args s 0 0 (cA S0)) (F0 m 86 ls [])) : ∀ {S : cSt} {v0 : Nat} {v2 : Option Nat} {H : Heap} {locs : List Loc} {ls : Array Slot}, fk_10_findMembers_140 g_86 S v0 v2 = some S9 → cJ D S0 s.heap S H locs → lv_has ls 3 [(0, .ref v0), (2, va_rf v2)] → W p l e R s m args below meth c H locs 0 0 (MQ below (kW none D S0 S9) args s 0 0 (cA S0)) (F0 m 140 ls []) := by
  intro S v0 v2 H locs ls h hJ hl
  unfold fk_10_findMembers_140 at h
  refine lv_aload_n C.1 C.2.1 dX10_findMembers_140 rfl (lv_at hl 0 rfl) ?_
  obtain ⟨hk, h⟩ := ckk_ok h
  obtain ⟨a1, h_a1, h⟩ := bd_ok h
  refine gk10_38 C X hJ.1 hk h_a1 dX10_findMembers_141 ?_
  obtain ⟨hk, h⟩ := ckk_ok h
  obtain ⟨a2, h_a2, h⟩ := bd_ok h
  refine gk10_127 C X hJ.1 hk h_a2 dX10_findMembers_144 ?_
  refine lv_aload_nq (o := v2) C.1 C.2.1 dX10_findMembers_147 rfl (lv_at hl 1 rfl) ?_
  obtain ⟨a3, e_a3, h⟩ := bd_ok h
  revert h; subst e_a3; intro h
  obtain ⟨hk, h⟩ := ckk_ok h
  refine gk10_68 C X hJ.1 hk dX10_findMembers_148 ?_
  obtain ⟨hk, h⟩ := ckk_ok h
  obtain ⟨hin2, h⟩ := ck_ok h
  refine c_aald C 30 (by decide) X.2.2.2.2.1 hJ.1 hk hin2 dX10_findMembers_151 ?_
  refine lt_ok h (fun o4 e_o4 h => ?_)
  refine lv_nmq e_o4 ?_
  refine lv_astore_nq (o := o4) (lv' := [(2, va_rf o4), (0, .ref v0)]) C.1 C.2.1 dX10_findMembers_152 rfl hl (by decide) rfl (fun ls hl => ?_)
  refine lv_goto (tgt := 86) C.1 C.2.1 dX10_findMembers_153 (by decide) ?_
  exact hg_86 h hJ (lv_sub hl [1, 0] rfl)
noncomputable def fk_10_findMembers_86 : Nat → cSt → Nat → Option Nat → Option (cSt)
  | 0, _, _, _ => none
  | n + 1, S, v0, v2 =>
    cs v2 (
    some S) (fun a1 =>
    ckk S a1 9 (
    if (kF S a1 0) = (7 : Int32) then (
    ckk S v0 11 (bd (fk_10_isGood S v0 a1) fun r3 =>
    if r3 = 0 then (
    fk_10_findMembers_140 (fk_10_findMembers_86 n) S v0 (some a1))
    else (
    ckk S a1 9 (
    ckk S v0 11 (bd (kR S v0 4) fun a5 =>
    ckk S a1 9 (
    ckk S a1 9 (
    ckk S a5 20 (ck (((4 : Int32) * (kF S a1 4)) + (kF S a1 6)) (kL S a5) (
    if (kF S a1 7) ≤ (kI S a5 (Int32.toNatClampNeg (((4 : Int32) * (kF S a1 4)) + (kF S a1 6)))) then (
    fk_10_findMembers_140 (fk_10_findMembers_86 n) S v0 (some a1))
    else (
    ckk S v0 11 (bd (kR S v0 5) fun a7 =>
    ckk S a1 9 (
    ckk S a7 30 (ck (kF S a1 4) (kL S a7) (ckq S (some a1) 9 (lt (cWo S a7 (Int32.toNatClampNeg (kF S a1 4)) (some a1)) fun S8 =>
    fk_10_findMembers_140 (fk_10_findMembers_86 n) S8 v0 (some a1))))))))))))))))
    else (
    fk_10_findMembers_140 (fk_10_findMembers_86 n) S v0 (some a1))))
set_option maxRecDepth 100000 in
set_option maxHeartbeats 4000000 in
theorem wk_10_findMembers_86 (C : cY p R s m args meth c RX10 cX10_findMembers 3 1 0 0 23 none) (X : cX D s) : ∀ (n : Nat), ∀ {S : cSt} {v0 : Nat} {v2 : Option Nat} {H : Heap} {locs : List Loc} {ls : Array Slot}, fk_10_findMembers_86 n S v0 v2 = some S9 → cJ D S0 s.heap S H locs → lv_has ls 3 [(0, .ref v0), (2, va_rf v2)] → W p l e R s m args below meth c H locs 0 0 (MQ below (kW none D S0 S9) args s 0 0 (cA S0)) (F0 m 86 ls []) := by
  intro n
  induction n with
  | zero =>
    intro S v0 v2 H locs ls h hJ hl
    exact absurd (show (none : Option (cSt)) = _ from h) (fun q => by cases q)
  | succ n ih =>
    intro S v0 v2 H locs ls h hJ hl
    rw [fk_10_findMembers_86] at h
    refine lv_aload_nq (o := v2) C.1 C.2.1 dX10_findMembers_86 rfl (lv_at hl 1 rfl) ?_
    rcases v2 with _ | a1
    · replace h := cs_n h
      refine lv_ifnullN (tgt := 156) C.1 C.2.1 dX10_findMembers_87 (by decide) ?_
      cases h
      exact c_retvW C hJ dX10_findMembers_156
    · replace h := cs_s h
      refine lv_ifnull C.1 C.2.1 dX10_findMembers_87 ?_
      refine lv_aload_n C.1 C.2.1 dX10_findMembers_90 rfl (lv_at hl 1 rfl) ?_
      obtain ⟨hk, h⟩ := ckk_ok h
      refine gk10_108 C X hJ.1 hk dX10_findMembers_91 ?_
      refine lv_bipush (v := 7) C.1 C.2.1 dX10_findMembers_94 (by decide) ?_
      refine lv_icmp_ne (tgt := 140) C.1 C.2.1 dX10_findMembers_96 (by decide) (fun c2 => ?_) (fun c2 => ?_)
      · have h := if_f h c2
        exact wk_10_findMembers_140 C X ih h hJ (lv_sub hl [0, 1] rfl)
      · have h := if_t h c2
        refine lv_aload_n C.1 C.2.1 dX10_findMembers_99 rfl (lv_at hl 0 rfl) ?_
        refine lv_aload_n C.1 C.2.1 dX10_findMembers_100 rfl (lv_at hl 1 rfl) ?_
        obtain ⟨hk, h⟩ := ckk_ok h
        obtain ⟨r3, h_r3, h⟩ := bd_ok h
        refine c_callR (rest := []) C X hJ.1 hl.1 10 (by decide) hk [.ref a1] (tk_10_isGood l h_r3) cw10_96 ki_10_isGood kl_10_isGood rfl ⟨by decide, by decide⟩ ⟨(by decide), (by decide)⟩ rfl (Nat.le_of_ble_eq_true rfl) dX10_findMembers_101 ?_
        refine W.eq (g2 := F0 m 104 ls [.int r3]) rfl ?_
        refine lv_if_eq (tgt := 140) C.1 C.2.1 dX10_findMembers_104 (by decide) (fun c4 => ?_) (fun c4 => ?_)
        · have h := if_t h c4
          exact wk_10_findMembers_140 C X ih h hJ (lv_sub hl [0, 1] rfl)
        · have h := if_f h c4
          refine lv_aload_n C.1 C.2.1 dX10_findMembers_107 rfl (lv_at hl 1 rfl) ?_
          obtain ⟨hk, h⟩ := ckk_ok h
          refine gk10_124 C X hJ.1 hk dX10_findMembers_108 ?_
          refine lv_aload_n C.1 C.2.1 dX10_findMembers_111 rfl (lv_at hl 0 rfl) ?_
          obtain ⟨hk, h⟩ := ckk_ok h
          obtain ⟨a5, h_a5, h⟩ := bd_ok h
          refine gk10_21 C X hJ.1 hk h_a5 dX10_findMembers_112 ?_
          refine lv_iconst (v := 4) C.1 C.2.1 dX10_findMembers_115 (by decide) ?_
          refine lv_aload_n C.1 C.2.1 dX10_findMembers_116 rfl (lv_at hl 1 rfl) ?_
          obtain ⟨hk, h⟩ := ckk_ok h
          refine gk10_102 C X hJ.1 hk dX10_findMembers_117 ?_
          refine lv_imul C.1 C.2.1 dX10_findMembers_120 ?_
          refine lv_aload_n C.1 C.2.1 dX10_findMembers_121 rfl (lv_at hl 1 rfl) ?_
          obtain ⟨hk, h⟩ := ckk_ok h
          refine gk10_105 C X hJ.1 hk dX10_findMembers_122 ?_
          refine lv_iadd C.1 C.2.1 dX10_findMembers_125 ?_
          obtain ⟨hk, h⟩ := ckk_ok h
          obtain ⟨hin2, h⟩ := ck_ok h
          refine c_iald C X hJ.1 hk hin2 dX10_findMembers_126 ?_
          refine lv_icmp_le (tgt := 140) C.1 C.2.1 dX10_findMembers_127 (by decide) (fun c6 => ?_) (fun c6 => ?_)
          · have h := if_t h c6
            exact wk_10_findMembers_140 C X ih h hJ (lv_sub hl [0, 1] rfl)
          · have h := if_f h c6
            refine lv_aload_n C.1 C.2.1 dX10_findMembers_130 rfl (lv_at hl 0 rfl) ?_
            obtain ⟨hk, h⟩ := ckk_ok h
            obtain ⟨a7, h_a7, h⟩ := bd_ok h
            refine gk10_24 C X hJ.1 hk h_a7 dX10_findMembers_131 ?_
            refine lv_aload_n C.1 C.2.1 dX10_findMembers_134 rfl (lv_at hl 1 rfl) ?_
            obtain ⟨hk, h⟩ := ckk_ok h
            refine gk10_102 C X hJ.1 hk dX10_findMembers_135 ?_
            refine lv_aload_n C.1 C.2.1 dX10_findMembers_138 rfl (lv_at hl 1 rfl) ?_
            obtain ⟨hk, h⟩ := ckk_ok h
            obtain ⟨hin2, h⟩ := ck_ok h
            obtain ⟨hkv, h⟩ := ckq_ok h
            refine c_aastq (o := (some a1)) C X 30 8 (by decide) (by decide) X.2.2.2.2.1 hJ hk hkv hin2 dX10_findMembers_139 (fun H locs hJ => ?_)
            refine lt_ok h (fun S8 e_S8 h => ?_)
            rw [e_S8] at hJ
            exact wk_10_findMembers_140 C X ih h hJ (lv_sub hl [0, 1] rfl)
noncomputable def fk_10_findMembers_60 (g_22 : cSt → Nat → Int32 → Option Nat → Option (cSt)) (S : cSt) (v0 : Nat) (v1 : Int32) (v2 : Option Nat) : Option (cSt) :=
ckk S v0 11 (bd (kR S v0 7) fun a1 =>
ckk S a1 5 (bd (kR S a1 3) fun a2 =>
bd v2 fun a3 =>
ckk S a3 9 (
ckk S a2 30 (ck (kF S a3 12) (kL S a2) (lt (kO S a2 (Int32.toNatClampNeg (kF S a3 12))) fun o4 =>
g_22 S v0 v1 o4)))))
set_option maxRecDepth 100000 in
set_option maxHeartbeats 4000000 in
theorem wk_10_findMembers_60 (C : cY p R s m args meth c RX10 cX10_findMembers 3 1 0 0 23 none) (X : cX D s) {g_22 : cSt → Nat → Int32 → Option Nat → Option (cSt)} (hg_22 : ∀ {S : cSt} {v0 : Nat} {v1 : Int32} {v2 : Option Nat} {H : Heap} {locs : List Loc} {ls : Array Slot}, g_22 S v0 v1 v2 = some S9 → cJ D S0 s.heap S H locs → lv_has ls 3 [(0, .ref v0), (1, .int v1), (2, va_rf v2)] → W p l e R s m args below meth c H locs 0 0 (MQ below (kW none D S0 S9) args s 0 0 (cA S0)) (F0 m 22 ls [])) : ∀ {S : cSt} {v0 : Nat} {v1 : Int32} {v2 : Option Nat} {H : Heap} {locs : List Loc} {ls : Array Slot}, fk_10_findMembers_60 g_22 S v0 v1 v2 = some S9 → cJ D S0 s.heap S H locs → lv_has ls 3 [(0, .ref v0), (1, .int v1), (2, va_rf v2)] → W p l e R s m args below meth c H locs 0 0 (MQ below (kW none D S0 S9) args s 0 0 (cA S0)) (F0 m 60 ls []) := by
  intro S v0 v1 v2 H locs ls h hJ hl
  unfold fk_10_findMembers_60 at h
  refine lv_aload_n C.1 C.2.1 dX10_findMembers_60 rfl (lv_at hl 0 rfl) ?_
  obtain ⟨hk, h⟩ := ckk_ok h
  obtain ⟨a1, h_a1, h⟩ := bd_ok h
  refine gk10_38 C X hJ.1 hk h_a1 dX10_findMembers_61 ?_
  obtain ⟨hk, h⟩ := ckk_ok h
  obtain ⟨a2, h_a2, h⟩ := bd_ok h
  refine gk10_99 C X hJ.1 hk h_a2 dX10_findMembers_64 ?_
  refine lv_aload_nq (o := v2) C.1 C.2.1 dX10_findMembers_67 rfl (lv_at hl 2 rfl) ?_
  obtain ⟨a3, e_a3, h⟩ := bd_ok h
  revert h; subst e_a3; intro h
  obtain ⟨hk, h⟩ := ckk_ok h
  refine gk10_68 C X hJ.1 hk dX10_findMembers_68 ?_
  obtain ⟨hk, h⟩ := ckk_ok h
  obtain ⟨hin2, h⟩ := ck_ok h
  refine c_aald C 30 (by decide) X.2.2.2.2.1 hJ.1 hk hin2 dX10_findMembers_71 ?_
  refine lt_ok h (fun o4 e_o4 h => ?_)
  refine lv_nmq e_o4 ?_
  refine lv_astore_nq (o := o4) (lv' := [(2, va_rf o4), (0, .ref v0), (1, .int v1)]) C.1 C.2.1 dX10_findMembers_72 rfl hl (by decide) rfl (fun ls hl => ?_)
  refine lv_goto (tgt := 22) C.1 C.2.1 dX10_findMembers_73 (by decide) ?_
  exact hg_22 h hJ (lv_sub hl [1, 2, 0] rfl)
noncomputable def fk_10_findMembers_22 : Nat → cSt → Nat → Int32 → Option Nat → Option (cSt)
  | 0, _, _, _, _ => none
  | n + 1, S, v0, v1, v2 =>
    cs v2 (
    ckk S v0 11 (bd (kR S v0 7) fun a2 =>
    ckk S a2 5 (bd (kR S a2 5) fun a3 =>
    ckk S a3 30 (ck v1 (kL S a3) (lt (kO S a3 (Int32.toNatClampNeg v1)) fun o4 =>
    fk_10_findMembers_86 mFU S v0 o4))))) (fun a1 =>
    ckk S a1 9 (
    if (kF S a1 0) = (8 : Int32) then (
    ckk S v0 11 (bd (fk_10_isGood S v0 a1) fun r6 =>
    if r6 = 0 then (
    fk_10_findMembers_60 (fk_10_findMembers_22 n) S v0 v1 (some a1))
    else (
    ckk S v0 11 (bd (kR S v0 4) fun a8 =>
    ckk S a1 9 (
    ckk S a1 9 (bd (kR S a1 10) fun a9 =>
    bd (fk_10_raise S a8 ((4 : Int32) * (kF S a1 4)) a9) fun S10 =>
    fk_10_findMembers_60 (fk_10_findMembers_22 n) S10 v0 v1 (some a1)))))))
    else (
    fk_10_findMembers_60 (fk_10_findMembers_22 n) S v0 v1 (some a1))))
set_option maxRecDepth 100000 in
set_option maxHeartbeats 4000000 in
theorem wk_10_findMembers_22 (C : cY p R s m args meth c RX10 cX10_findMembers 3 1 0 0 23 none) (X : cX D s) : ∀ (n : Nat), ∀ {S : cSt} {v0 : Nat} {v1 : Int32} {v2 : Option Nat} {H : Heap} {locs : List Loc} {ls : Array Slot}, fk_10_findMembers_22 n S v0 v1 v2 = some S9 → cJ D S0 s.heap S H locs → lv_has ls 3 [(0, .ref v0), (1, .int v1), (2, va_rf v2)] → W p l e R s m args below meth c H locs 0 0 (MQ below (kW none D S0 S9) args s 0 0 (cA S0)) (F0 m 22 ls []) := by
  intro n
  induction n with
  | zero =>
    intro S v0 v1 v2 H locs ls h hJ hl
    exact absurd (show (none : Option (cSt)) = _ from h) (fun q => by cases q)
  | succ n ih =>
    intro S v0 v1 v2 H locs ls h hJ hl
    rw [fk_10_findMembers_22] at h
    refine lv_aload_nq (o := v2) C.1 C.2.1 dX10_findMembers_22 rfl (lv_at hl 2 rfl) ?_
    rcases v2 with _ | a1
    · replace h := cs_n h
      refine lv_ifnullN (tgt := 76) C.1 C.2.1 dX10_findMembers_23 (by decide) ?_
      refine lv_aload_n C.1 C.2.1 dX10_findMembers_76 rfl (lv_at hl 0 rfl) ?_
      obtain ⟨hk, h⟩ := ckk_ok h
      obtain ⟨a2, h_a2, h⟩ := bd_ok h
      refine gk10_38 C X hJ.1 hk h_a2 dX10_findMembers_77 ?_
      obtain ⟨hk, h⟩ := ckk_ok h
      obtain ⟨a3, h_a3, h⟩ := bd_ok h
      refine gk10_121 C X hJ.1 hk h_a3 dX10_findMembers_80 ?_
      refine lv_iload_n C.1 C.2.1 dX10_findMembers_83 rfl (lv_at hl 1 rfl) ?_
      obtain ⟨hk, h⟩ := ckk_ok h
      obtain ⟨hin2, h⟩ := ck_ok h
      refine c_aald C 30 (by decide) X.2.2.2.2.1 hJ.1 hk hin2 dX10_findMembers_84 ?_
      refine lt_ok h (fun o4 e_o4 h => ?_)
      refine lv_nmq e_o4 ?_
      refine lv_astore_nq (o := o4) (lv' := [(2, va_rf o4), (0, .ref v0), (1, .int v1)]) C.1 C.2.1 dX10_findMembers_85 rfl hl (by decide) rfl (fun ls hl => ?_)
      exact wk_10_findMembers_86 C X mFU h hJ (lv_sub hl [1, 0] rfl)
    · replace h := cs_s h
      refine lv_ifnull C.1 C.2.1 dX10_findMembers_23 ?_
      refine lv_aload_n C.1 C.2.1 dX10_findMembers_26 rfl (lv_at hl 2 rfl) ?_
      obtain ⟨hk, h⟩ := ckk_ok h
      refine gk10_108 C X hJ.1 hk dX10_findMembers_27 ?_
      refine lv_bipush (v := 8) C.1 C.2.1 dX10_findMembers_30 (by decide) ?_
      refine lv_icmp_ne (tgt := 60) C.1 C.2.1 dX10_findMembers_32 (by decide) (fun c5 => ?_) (fun c5 => ?_)
      · have h := if_f h c5
        exact wk_10_findMembers_60 C X ih h hJ (lv_sub hl [0, 1, 2] rfl)
      · have h := if_t h c5
        refine lv_aload_n C.1 C.2.1 dX10_findMembers_35 rfl (lv_at hl 0 rfl) ?_
        refine lv_aload_n C.1 C.2.1 dX10_findMembers_36 rfl (lv_at hl 2 rfl) ?_
        obtain ⟨hk, h⟩ := ckk_ok h
        obtain ⟨r6, h_r6, h⟩ := bd_ok h
        refine c_callR (rest := []) C X hJ.1 hl.1 10 (by decide) hk [.ref a1] (tk_10_isGood l h_r6) cw10_96 ki_10_isGood kl_10_isGood rfl ⟨by decide, by decide⟩ ⟨(by decide), (by decide)⟩ rfl (Nat.le_of_ble_eq_true rfl) dX10_findMembers_37 ?_
        refine W.eq (g2 := F0 m 40 ls [.int r6]) rfl ?_
        refine lv_if_eq (tgt := 60) C.1 C.2.1 dX10_findMembers_40 (by decide) (fun c7 => ?_) (fun c7 => ?_)
        · have h := if_t h c7
          exact wk_10_findMembers_60 C X ih h hJ (lv_sub hl [0, 1, 2] rfl)
        · have h := if_f h c7
          refine lv_aload_n C.1 C.2.1 dX10_findMembers_43 rfl (lv_at hl 0 rfl) ?_
          obtain ⟨hk, h⟩ := ckk_ok h
          obtain ⟨a8, h_a8, h⟩ := bd_ok h
          refine gk10_21 C X hJ.1 hk h_a8 dX10_findMembers_44 ?_
          refine lv_iconst (v := 4) C.1 C.2.1 dX10_findMembers_47 (by decide) ?_
          refine lv_aload_n C.1 C.2.1 dX10_findMembers_48 rfl (lv_at hl 2 rfl) ?_
          obtain ⟨hk, h⟩ := ckk_ok h
          refine gk10_102 C X hJ.1 hk dX10_findMembers_49 ?_
          refine lv_imul C.1 C.2.1 dX10_findMembers_52 ?_
          refine lv_aload_n C.1 C.2.1 dX10_findMembers_53 rfl (lv_at hl 2 rfl) ?_
          obtain ⟨hk, h⟩ := ckk_ok h
          obtain ⟨a9, h_a9, h⟩ := bd_ok h
          refine gk10_130 C X hJ.1 hk h_a9 dX10_findMembers_54 ?_
          obtain ⟨S10, h_S10, h⟩ := bd_ok h
          refine c_callSW (rest := []) C X hJ hl.1 [.ref a8, .int ((4 : Int32) * (kF S a1 4)), .ref a9] (tk_10_raise l h_S10) cw10_133 ks_10_raise rfl ⟨by decide, by decide⟩ ⟨(by decide), (by decide)⟩ rfl (Nat.le_of_ble_eq_true rfl) dX10_findMembers_57 (fun H locs hJ => ?_)
          refine W.eq (g2 := F0 m 60 ls []) rfl ?_
          exact wk_10_findMembers_60 C X ih h hJ (lv_sub hl [0, 1, 2] rfl)
noncomputable def fk_10_findMembers (S : cSt) (v0 : Nat) (v1 : Int32) : Option (cSt) :=
ckk S v0 11 (bd (fk_10_forgetKeys S v0) fun S1 =>
ckk S1 v0 11 (bd (kR S1 v0 4) fun a2 =>
bd (fk_107_fill_53178 S1 a2 (0 : Int32)) fun S3 =>
ckk S3 v0 11 (bd (kR S3 v0 7) fun a4 =>
ckk S3 a4 5 (bd (kR S3 a4 6) fun a5 =>
ckk S3 a5 30 (ck v1 (kL S3 a5) (lt (kO S3 a5 (Int32.toNatClampNeg v1)) fun o6 =>
fk_10_findMembers_22 mFU S3 v0 v1 o6))))))
set_option maxRecDepth 100000 in
set_option maxHeartbeats 4000000 in
theorem tk_10_findMembers (l : Launch) {D : cG} {S : cSt} {v0 : Nat} {v1 : Int32} {S9 : cSt} (h : fk_10_findMembers S v0 v1 = some S9) : Met l yX10_findMembers (Cond.code yX10_findMembers cX10_findMembers 3 none :: lw_g) { frames := 1, cells := 0, slots := 0, locals := 23 } (kPi [.ref v0, .int v1] D S) (kW none D S S9) 0 0 (cA S) := by
  refine Met.ofW (cc := cX10_findMembers) (maxL := 3) (ret := none) (by decide) rfl ?_
  intro p e s m args below meth c s₁ B hml hv
  obtain ⟨rfl, hW, X⟩ := hv
  have C : cY p (headSpec (Cond.code yX10_findMembers cX10_findMembers 3 none :: lw_g) { frames := 1, cells := 0, slots := 0, locals := 23 }).room s m _ meth c RX10 cX10_findMembers 3 1 0 0 23 none := ⟨B.exec, B.bytes, hml, findClass_of_methodNamed B.named, fun w hw => atoms_spec (ws := Cond.code yX10_findMembers cX10_findMembers 3 none :: lw_g) B.pre w (List.mem_cons_of_mem _ hw), ⟨Nat.le_refl _, Nat.le_refl _, Nat.le_refl _, Nat.le_refl _⟩, B.returns, B.notSynchronized⟩
  have hl := lv_entry ([.ref v0, .int v1]) (n := 3) (Nat.le_of_ble_eq_true rfl)
  rw [lg_entry_eq]
  generalize (lg_sl ([.ref v0, .int v1]) ++ List.replicate (3 - (lg_sl ([.ref v0, .int v1])).length) Slot.unset).toArray = ls at hl ⊢
  have hl : lv_has ls 3 [(0, .ref v0), (1, .int v1)] := hl
  have hJ : cJ D S s.heap S s.heap [] := cJ.rf hW
  unfold fk_10_findMembers at h
  refine lv_aload_n C.1 C.2.1 dX10_findMembers_0 rfl (lv_at hl 0 rfl) ?_
  obtain ⟨hk, h⟩ := ckk_ok h
  obtain ⟨S1, h_S1, h⟩ := bd_ok h
  refine c_callW (rest := []) C X hJ hl.1 10 (by decide) hk [] (tk_10_forgetKeys l h_S1) cw10_143 ki_10_forgetKeys kl_10_forgetKeys rfl ⟨by decide, by decide⟩ ⟨(by decide), (by decide)⟩ rfl (Nat.le_of_ble_eq_true rfl) dX10_findMembers_1 (fun H locs hJ => ?_)
  refine W.eq (g2 := F0 m 4 ls []) rfl ?_
  refine lv_aload_n C.1 C.2.1 dX10_findMembers_4 rfl (lv_at hl 0 rfl) ?_
  obtain ⟨hk, h⟩ := ckk_ok h
  obtain ⟨a2, h_a2, h⟩ := bd_ok h
  refine gk10_21 C X hJ.1 hk h_a2 dX10_findMembers_5 ?_
  refine lv_iconst (v := 0) C.1 C.2.1 dX10_findMembers_8 (by decide) ?_
  obtain ⟨S3, h_S3, h⟩ := bd_ok h
  refine c_callSW (rest := []) C X hJ hl.1 [.ref a2, .int (0 : Int32)] (tk_107_fill_53178 l h_S3) cw10_45 ks_107_fill_53178 rfl ⟨by decide, by decide⟩ ⟨(by decide), (by decide)⟩ rfl (Nat.le_of_ble_eq_true rfl) dX10_findMembers_9 (fun H locs hJ => ?_)
  refine W.eq (g2 := F0 m 12 ls []) rfl ?_
  refine lv_aload_n C.1 C.2.1 dX10_findMembers_12 rfl (lv_at hl 0 rfl) ?_
  obtain ⟨hk, h⟩ := ckk_ok h
  obtain ⟨a4, h_a4, h⟩ := bd_ok h
  refine gk10_38 C X hJ.1 hk h_a4 dX10_findMembers_13 ?_
  obtain ⟨hk, h⟩ := ckk_ok h
  obtain ⟨a5, h_a5, h⟩ := bd_ok h
  refine gk10_93 C X hJ.1 hk h_a5 dX10_findMembers_16 ?_
  refine lv_iload_n C.1 C.2.1 dX10_findMembers_19 rfl (lv_at hl 1 rfl) ?_
  obtain ⟨hk, h⟩ := ckk_ok h
  obtain ⟨hin2, h⟩ := ck_ok h
  refine c_aald C 30 (by decide) X.2.2.2.2.1 hJ.1 hk hin2 dX10_findMembers_20 ?_
  refine lt_ok h (fun o6 e_o6 h => ?_)
  refine lv_nmq e_o6 ?_
  refine lv_astore_nq (o := o6) (lv' := [(2, va_rf o6), (0, .ref v0), (1, .int v1)]) C.1 C.2.1 dX10_findMembers_21 rfl hl (by decide) rfl (fun ls hl => ?_)
  exact wk_10_findMembers_22 C X mFU h hJ (lv_sub hl [1, 2, 0] rfl)
end
theorem dX10_enterOf_0 : decode cX10_enterOf 0 = .ok (.iload_n 2, 1) := by decide +kernel
theorem dX10_enterOf_1 : decode cX10_enterOf 1 = .ok (.invokestatic 146, 3) := by decide +kernel
theorem dX10_enterOf_4 : decode cX10_enterOf 4 = .ok (.ifCond .ne 5, 3) := by decide +kernel
theorem dX10_enterOf_7 : decode cX10_enterOf 7 = .ok (.aconst_null, 1) := by decide +kernel
theorem dX10_enterOf_8 : decode cX10_enterOf 8 = .ok (.areturn, 1) := by decide +kernel
theorem dX10_enterOf_9 : decode cX10_enterOf 9 = .ok (.aload_n 0, 1) := by decide +kernel
theorem dX10_enterOf_10 : decode cX10_enterOf 10 = .ok (.iload_n 1, 1) := by decide +kernel
theorem dX10_enterOf_11 : decode cX10_enterOf 11 = .ok (.invokevirtual 137, 3) := by decide +kernel
theorem dX10_enterOf_14 : decode cX10_enterOf 14 = .ok (.aload_n 0, 1) := by decide +kernel
theorem dX10_enterOf_15 : decode cX10_enterOf 15 = .ok (.getfield 24, 3) := by decide +kernel
theorem dX10_enterOf_18 : decode cX10_enterOf 18 = .ok (.iload_n 2, 1) := by decide +kernel
theorem dX10_enterOf_19 : decode cX10_enterOf 19 = .ok (.aaload, 1) := by decide +kernel
theorem dX10_enterOf_20 : decode cX10_enterOf 20 = .ok (.areturn, 1) := by decide +kernel
theorem kd_10_enterOf : Cond.code yX10_enterOf cX10_enterOf 3 (some (.object "AccordHouse$Row")) ∈ lw_g := mt_at 626 (by decide +kernel) rfl
theorem ki_10_enterOf : Cond.instanceMethod yX10_enterOf ∈ lw_g := mt_at 624 (by decide +kernel) rfl
theorem kl_10_enterOf : Cond.selects (kRn 10) yX10_enterOf yX10_enterOf ∈ lw_g := mt_at 625 (by decide +kernel) rfl
theorem cw10_137 : cCw RX10 137 yX10_findMembers cX10_findMembers 3 none 1 := ⟨kd_10_findMembers, mt_at 628 (by decide +kernel) rfl, mt_at 10 (by decide +kernel) rfl, by decide +kernel⟩
theorem cw10_146 : cCn RX10 146 yX11_isKey "AccordHouse" cX11_isKey 1 (some .boolean) 1 := ⟨kd_11_isKey, by decide +kernel, mt_at 1 (by decide +kernel) rfl, by decide +kernel⟩
section
variable {p : Program} {l : Launch} {e : Env} {R : Room} {s : State} {m : MethodId} {args : Array Value} {below : List Frame} {meth : Method} {c : Code} {D : cG} {S0 S9 : cSt} {r : Option Nat}
noncomputable def fk_10_enterOf (S : cSt) (v0 : Nat) (v1 : Int32) (v2 : Int32) : Option ((Option Nat) × cSt) :=
bd (fk_11_isKey v2) fun r1 =>
if r1 = 0 then (
some (none, S))
else (
ckk S v0 11 (bd (fk_10_findMembers S v0 v1) fun S3 =>
ckk S3 v0 11 (bd (kR S3 v0 5) fun a4 =>
ckk S3 a4 30 (ck v2 (kL S3 a4) (lt (kO S3 a4 (Int32.toNatClampNeg v2)) fun o5 =>
some (o5, S3))))))
set_option maxRecDepth 100000 in
set_option maxHeartbeats 4000000 in
theorem tk_10_enterOf (l : Launch) {D : cG} {S : cSt} {v0 : Nat} {v1 : Int32} {v2 : Int32} {r : Option Nat} {S9 : cSt} (h : fk_10_enterOf S v0 v1 v2 = some (r, S9)) : Met l yX10_enterOf (Cond.code yX10_enterOf cX10_enterOf 3 (some (.object "AccordHouse$Row")) :: lw_g) { frames := 2, cells := 0, slots := 0, locals := 45 } (kPi [.ref v0, .int v1, .int v2] D S) (kW (some (va_rf r)) D S S9) 0 0 (cA S) := by
  refine Met.ofW (cc := cX10_enterOf) (maxL := 3) (ret := (some (.object "AccordHouse$Row"))) (by decide) rfl ?_
  intro p e s m args below meth c s₁ B hml hv
  obtain ⟨rfl, hW, X⟩ := hv
  have C : cY p (headSpec (Cond.code yX10_enterOf cX10_enterOf 3 (some (.object "AccordHouse$Row")) :: lw_g) { frames := 2, cells := 0, slots := 0, locals := 45 }).room s m _ meth c RX10 cX10_enterOf 3 2 0 0 45 (some (.object "AccordHouse$Row")) := ⟨B.exec, B.bytes, hml, findClass_of_methodNamed B.named, fun w hw => atoms_spec (ws := Cond.code yX10_enterOf cX10_enterOf 3 (some (.object "AccordHouse$Row")) :: lw_g) B.pre w (List.mem_cons_of_mem _ hw), ⟨Nat.le_refl _, Nat.le_refl _, Nat.le_refl _, Nat.le_refl _⟩, B.returns, B.notSynchronized⟩
  have hl := lv_entry ([.ref v0, .int v1, .int v2]) (n := 3) (Nat.le_of_ble_eq_true rfl)
  rw [lg_entry_eq]
  generalize (lg_sl ([.ref v0, .int v1, .int v2]) ++ List.replicate (3 - (lg_sl ([.ref v0, .int v1, .int v2])).length) Slot.unset).toArray = ls at hl ⊢
  have hl : lv_has ls 3 [(0, .ref v0), (1, .int v1), (2, .int v2)] := hl
  have hJ : cJ D S s.heap S s.heap [] := cJ.rf hW
  unfold fk_10_enterOf at h
  refine lv_iload_n C.1 C.2.1 dX10_enterOf_0 rfl (lv_at hl 2 rfl) ?_
  obtain ⟨r1, h_r1, h⟩ := bd_ok h
  refine c_callSN (rest := []) C X hl.1 [.int v2] (tk_11_isKey l h_r1) cw10_146 ks_11_isKey rfl ⟨by decide, by decide⟩ ⟨(by decide), (by decide)⟩ rfl (Nat.le_of_ble_eq_true rfl) dX10_enterOf_1 ?_
  refine W.eq (g2 := F0 m 4 ls [.int r1]) rfl ?_
  refine lv_if_ne (tgt := 9) C.1 C.2.1 dX10_enterOf_4 (by decide) (fun c2 => ?_) (fun c2 => ?_)
  · have h := if_f h c2
    refine lv_aload_n C.1 C.2.1 dX10_enterOf_9 rfl (lv_at hl 0 rfl) ?_
    refine lv_iload_n C.1 C.2.1 dX10_enterOf_10 rfl (lv_at hl 1 rfl) ?_
    obtain ⟨hk, h⟩ := ckk_ok h
    obtain ⟨S3, h_S3, h⟩ := bd_ok h
    refine c_callW (rest := []) C X hJ hl.1 10 (by decide) hk [.int v1] (tk_10_findMembers l h_S3) cw10_137 ki_10_findMembers kl_10_findMembers rfl ⟨by decide, by decide⟩ ⟨(by decide), (by decide)⟩ rfl (Nat.le_of_ble_eq_true rfl) dX10_enterOf_11 (fun H locs hJ => ?_)
    refine W.eq (g2 := F0 m 14 ls []) rfl ?_
    refine lv_aload_n C.1 C.2.1 dX10_enterOf_14 rfl (lv_at hl 0 rfl) ?_
    obtain ⟨hk, h⟩ := ckk_ok h
    obtain ⟨a4, h_a4, h⟩ := bd_ok h
    refine gk10_24 C X hJ.1 hk h_a4 dX10_enterOf_15 ?_
    refine lv_iload_n C.1 C.2.1 dX10_enterOf_18 rfl (lv_at hl 2 rfl) ?_
    obtain ⟨hk, h⟩ := ckk_ok h
    obtain ⟨hin2, h⟩ := ck_ok h
    refine c_aald C 30 (by decide) X.2.2.2.2.1 hJ.1 hk hin2 dX10_enterOf_19 ?_
    refine lt_ok h (fun o5 e_o5 h => ?_)
    refine lv_nmq e_o5 ?_
    cases h
    exact c_retaW C hJ dX10_enterOf_20
  · have h := if_t h c2
    refine lv_null C.1 C.2.1 dX10_enterOf_7 ?_
    cases h
    exact c_retaW (o := none) C hJ dX10_enterOf_8
end
theorem dX10_isUnder_0 : decode cX10_isUnder 0 = .ok (.iload_n 1, 1) := by decide +kernel
theorem dX10_isUnder_1 : decode cX10_isUnder 1 = .ok (.istore_n 3, 1) := by decide +kernel
theorem dX10_isUnder_2 : decode cX10_isUnder 2 = .ok (.iconst 0, 1) := by decide +kernel
theorem dX10_isUnder_3 : decode cX10_isUnder 3 = .ok (.istore 4, 2) := by decide +kernel
theorem dX10_isUnder_5 : decode cX10_isUnder 5 = .ok (.iload 4, 2) := by decide +kernel
theorem dX10_isUnder_7 : decode cX10_isUnder 7 = .ok (.bipush 48, 2) := by decide +kernel
theorem dX10_isUnder_9 : decode cX10_isUnder 9 = .ok (.if_icmp .ge 26, 3) := by decide +kernel
theorem dX10_isUnder_12 : decode cX10_isUnder 12 = .ok (.iload_n 3, 1) := by decide +kernel
theorem dX10_isUnder_13 : decode cX10_isUnder 13 = .ok (.ifCond .lt 22, 3) := by decide +kernel
theorem dX10_isUnder_16 : decode cX10_isUnder 16 = .ok (.iload_n 3, 1) := by decide +kernel
theorem dX10_isUnder_17 : decode cX10_isUnder 17 = .ok (.iload_n 2, 1) := by decide +kernel
theorem dX10_isUnder_18 : decode cX10_isUnder 18 = .ok (.if_icmp .ne 5, 3) := by decide +kernel
theorem dX10_isUnder_21 : decode cX10_isUnder 21 = .ok (.iconst 1, 1) := by decide +kernel
theorem dX10_isUnder_22 : decode cX10_isUnder 22 = .ok (.ireturn, 1) := by decide +kernel
theorem dX10_isUnder_23 : decode cX10_isUnder 23 = .ok (.aload_n 0, 1) := by decide +kernel
theorem dX10_isUnder_24 : decode cX10_isUnder 24 = .ok (.iload_n 3, 1) := by decide +kernel
theorem dX10_isUnder_25 : decode cX10_isUnder 25 = .ok (.iaload, 1) := by decide +kernel
theorem dX10_isUnder_26 : decode cX10_isUnder 26 = .ok (.iconst 1, 1) := by decide +kernel
theorem dX10_isUnder_27 : decode cX10_isUnder 27 = .ok (.isub, 1) := by decide +kernel
theorem dX10_isUnder_28 : decode cX10_isUnder 28 = .ok (.istore_n 3, 1) := by decide +kernel
theorem dX10_isUnder_29 : decode cX10_isUnder 29 = .ok (.iinc 4 1, 3) := by decide +kernel
theorem dX10_isUnder_32 : decode cX10_isUnder 32 = .ok (.goto (-27), 3) := by decide +kernel
theorem dX10_isUnder_35 : decode cX10_isUnder 35 = .ok (.iconst 0, 1) := by decide +kernel
theorem dX10_isUnder_36 : decode cX10_isUnder 36 = .ok (.ireturn, 1) := by decide +kernel
theorem kd_10_isUnder : Cond.code yX10_isUnder cX10_isUnder 5 (some .boolean) ∈ lw_g := mt_at 1115 (by decide +kernel) rfl
theorem ks_10_isUnder : Cond.static yX10_isUnder ∈ lw_g := mt_at 1114 (by decide +kernel) rfl
section
variable {p : Program} {l : Launch} {e : Env} {R : Room} {s : State} {m : MethodId} {args : Array Value} {below : List Frame} {meth : Method} {c : Code} {D : cG} {S : cSt} {r : Int32}
noncomputable def fk_10_isUnder_35 (S : cSt) : Option (Int32) :=
ckz (0 : Int32) (some (0 : Int32))
set_option maxRecDepth 100000 in
set_option maxHeartbeats 4000000 in
theorem wk_10_isUnder_35 (C : cY p R s m args meth c RX10 cX10_isUnder 5 0 0 0 0 (some .boolean)) (X : cX D s) (hW : cW D S s.heap) : ∀ {ls : Array Slot}, fk_10_isUnder_35 S = some r → lv_has ls 5 [] → W p l e R s m args below meth c s.heap [] 0 0 (MQ below (kQ (some (.int r))) args s 0 0 mNo) (F0 m 35 ls []) := by
  intro ls h hl
  unfold fk_10_isUnder_35 at h
  refine lv_iconst (v := 0) C.1 C.2.1 dX10_isUnder_35 (by decide) ?_
  obtain ⟨hzo, h⟩ := ckz_ok h
  cases h
  exact c_retn C (by rcases hzo with h9 | h9 <;> (rw [h9]; rfl)) rfl rfl dX10_isUnder_36
noncomputable def fk_10_isUnder_5 (S : cSt) : Nat → Nat → Int32 → Int32 → Int32 → Option (Int32)
  | 0, _, _, _, _ => none
  | n + 1, v0, v2, v3, v4 =>
    if (48 : Int32) ≤ v4 then (
    fk_10_isUnder_35 S)
    else (
    if v3 < 0 then (
    fk_10_isUnder_35 S)
    else (
    if v3 = v2 then (
    ckz (1 : Int32) (some (1 : Int32)))
    else (
    ckk S v0 20 (ck v3 (kL S v0) (
    lt ((kI S v0 (Int32.toNatClampNeg v3)) - (1 : Int32)) fun x4 =>
    lt (v4 + (1 : Int32)) fun x5 =>
    fk_10_isUnder_5 S n v0 v2 x4 x5)))))
set_option maxRecDepth 100000 in
set_option maxHeartbeats 4000000 in
theorem wk_10_isUnder_5 (C : cY p R s m args meth c RX10 cX10_isUnder 5 0 0 0 0 (some .boolean)) (X : cX D s) (hW : cW D S s.heap) : ∀ (n : Nat), ∀ {v0 : Nat} {v2 : Int32} {v3 : Int32} {v4 : Int32} {ls : Array Slot}, fk_10_isUnder_5 S n v0 v2 v3 v4 = some r → lv_has ls 5 [(0, .ref v0), (2, .int v2), (3, .int v3), (4, .int v4)] → W p l e R s m args below meth c s.heap [] 0 0 (MQ below (kQ (some (.int r))) args s 0 0 mNo) (F0 m 5 ls []) := by
  intro n
  induction n with
  | zero =>
    intro v0 v2 v3 v4 ls h hl
    exact absurd (show (none : Option (Int32)) = _ from h) (fun q => by cases q)
  | succ n ih =>
    intro v0 v2 v3 v4 ls h hl
    rw [fk_10_isUnder_5] at h
    refine lv_iload C.1 C.2.1 dX10_isUnder_5 (lv_at hl 3 rfl) ?_
    refine lv_bipush (v := 48) C.1 C.2.1 dX10_isUnder_7 (by decide) ?_
    refine lv_icmp_ge (tgt := 35) C.1 C.2.1 dX10_isUnder_9 (by decide) (fun c1 => ?_) (fun c1 => ?_)
    · have h := if_t h c1
      exact wk_10_isUnder_35 C X hW h (lv_sub hl [] rfl)
    · have h := if_f h c1
      refine lv_iload_n C.1 C.2.1 dX10_isUnder_12 rfl (lv_at hl 2 rfl) ?_
      refine lv_if_lt (tgt := 35) C.1 C.2.1 dX10_isUnder_13 (by decide) (fun c2 => ?_) (fun c2 => ?_)
      · have h := if_t h c2
        exact wk_10_isUnder_35 C X hW h (lv_sub hl [] rfl)
      · have h := if_f h c2
        refine lv_iload_n C.1 C.2.1 dX10_isUnder_16 rfl (lv_at hl 2 rfl) ?_
        refine lv_iload_n C.1 C.2.1 dX10_isUnder_17 rfl (lv_at hl 1 rfl) ?_
        refine lv_icmp_ne (tgt := 23) C.1 C.2.1 dX10_isUnder_18 (by decide) (fun c3 => ?_) (fun c3 => ?_)
        · have h := if_f h c3
          refine lv_aload_n C.1 C.2.1 dX10_isUnder_23 rfl (lv_at hl 0 rfl) ?_
          refine lv_iload_n C.1 C.2.1 dX10_isUnder_24 rfl (lv_at hl 2 rfl) ?_
          obtain ⟨hk, h⟩ := ckk_ok h
          obtain ⟨hin2, h⟩ := ck_ok h
          refine c_iald C X hW hk hin2 dX10_isUnder_25 ?_
          refine lv_iconst (v := 1) C.1 C.2.1 dX10_isUnder_26 (by decide) ?_
          refine lv_isub C.1 C.2.1 dX10_isUnder_27 ?_
          refine lt_ok h (fun x4 e_x4 h => ?_)
          refine lv_nm e_x4 ?_
          refine lv_istore_n (lv' := [(3, .int x4), (0, .ref v0), (2, .int v2), (4, .int v4)]) C.1 C.2.1 dX10_isUnder_28 rfl hl (by decide) rfl (fun ls hl => ?_)
          refine lt_ok h (fun x5 e_x5 h => ?_)
          refine lv_iinc (v := x5) (lv' := [(4, .int x5), (3, .int x4), (0, .ref v0), (2, .int v2)]) C.1 C.2.1 dX10_isUnder_29 hl (k := 3) rfl (by rw [← e_x5]; rfl) (by decide) rfl (fun ls hl => ?_)
          refine lv_goto (tgt := 5) C.1 C.2.1 dX10_isUnder_32 (by decide) ?_
          exact ih h (lv_sub hl [2, 3, 1, 0] rfl)
        · have h := if_t h c3
          refine lv_iconst (v := 1) C.1 C.2.1 dX10_isUnder_21 (by decide) ?_
          obtain ⟨hzo, h⟩ := ckz_ok h
          cases h
          exact c_retn C (by rcases hzo with h9 | h9 <;> (rw [h9]; rfl)) rfl rfl dX10_isUnder_22
noncomputable def fk_10_isUnder (S : cSt) (v0 : Nat) (v1 : Int32) (v2 : Int32) : Option (Int32) :=
fk_10_isUnder_5 S mFU v0 v2 v1 (0 : Int32)
set_option maxRecDepth 100000 in
set_option maxHeartbeats 4000000 in
theorem tk_10_isUnder (l : Launch) {D : cG} {S : cSt} {v0 : Nat} {v1 : Int32} {v2 : Int32} {r : Int32}  (h : fk_10_isUnder S v0 v1 v2 = some r) : Met l yX10_isUnder (Cond.code yX10_isUnder cX10_isUnder 5 (some .boolean) :: lw_g) { frames := 0, cells := 0, slots := 0, locals := 0 } (kPi [.ref v0, .int v1, .int v2] D S) (kQ (some (.int r))) 0 0 (mNo) := by
  refine Met.ofW (cc := cX10_isUnder) (maxL := 5) (ret := (some .boolean)) (by decide) rfl ?_
  intro p e s m args below meth c s₁ B hml hv
  obtain ⟨rfl, hW, X⟩ := hv
  have C : cY p (headSpec (Cond.code yX10_isUnder cX10_isUnder 5 (some .boolean) :: lw_g) { frames := 0, cells := 0, slots := 0, locals := 0 }).room s m _ meth c RX10 cX10_isUnder 5 0 0 0 0 (some .boolean) := ⟨B.exec, B.bytes, hml, findClass_of_methodNamed B.named, fun w hw => atoms_spec (ws := Cond.code yX10_isUnder cX10_isUnder 5 (some .boolean) :: lw_g) B.pre w (List.mem_cons_of_mem _ hw), ⟨Nat.le_refl _, Nat.le_refl _, Nat.le_refl _, Nat.le_refl _⟩, B.returns, B.notSynchronized⟩
  have hl := lv_entry ([.ref v0, .int v1, .int v2]) (n := 5) (Nat.le_of_ble_eq_true rfl)
  rw [lg_entry_eq]
  generalize (lg_sl ([.ref v0, .int v1, .int v2]) ++ List.replicate (5 - (lg_sl ([.ref v0, .int v1, .int v2])).length) Slot.unset).toArray = ls at hl ⊢
  have hl : lv_has ls 5 [(0, .ref v0), (1, .int v1), (2, .int v2)] := hl
  unfold fk_10_isUnder at h
  refine lv_iload_n C.1 C.2.1 dX10_isUnder_0 rfl (lv_at hl 1 rfl) ?_
  refine lv_istore_n (lv' := [(3, .int v1), (0, .ref v0), (1, .int v1), (2, .int v2)]) C.1 C.2.1 dX10_isUnder_1 rfl hl (by decide) rfl (fun ls hl => ?_)
  refine lv_iconst (v := 0) C.1 C.2.1 dX10_isUnder_2 (by decide) ?_
  refine lv_istore (lv' := [(4, .int (0 : Int32)), (3, .int v1), (0, .ref v0), (1, .int v1), (2, .int v2)]) C.1 C.2.1 dX10_isUnder_3 hl (by decide) rfl (fun ls hl => ?_)
  exact wk_10_isUnder_5 C X hW mFU h (lv_sub hl [2, 4, 1, 0] rfl)
end
theorem dX10_findParents_0 : decode cX10_findParents 0 = .ok (.aload_n 1, 1) := by decide +kernel
theorem dX10_findParents_1 : decode cX10_findParents 1 = .ok (.iconst 0, 1) := by decide +kernel
theorem dX10_findParents_2 : decode cX10_findParents 2 = .ok (.invokestatic 45, 3) := by decide +kernel
theorem dX10_findParents_5 : decode cX10_findParents 5 = .ok (.aload_n 0, 1) := by decide +kernel
theorem dX10_findParents_6 : decode cX10_findParents 6 = .ok (.getfield 38, 3) := by decide +kernel
theorem dX10_findParents_9 : decode cX10_findParents 9 = .ok (.getfield 121, 3) := by decide +kernel
theorem dX10_findParents_12 : decode cX10_findParents 12 = .ok (.sipush 384, 3) := by decide +kernel
theorem dX10_findParents_15 : decode cX10_findParents 15 = .ok (.aaload, 1) := by decide +kernel
theorem dX10_findParents_16 : decode cX10_findParents 16 = .ok (.astore_n 2, 1) := by decide +kernel
theorem dX10_findParents_17 : decode cX10_findParents 17 = .ok (.aload_n 2, 1) := by decide +kernel
theorem dX10_findParents_18 : decode cX10_findParents 18 = .ok (.ifnull 64, 3) := by decide +kernel
theorem dX10_findParents_21 : decode cX10_findParents 21 = .ok (.aload_n 0, 1) := by decide +kernel
theorem dX10_findParents_22 : decode cX10_findParents 22 = .ok (.aload_n 2, 1) := by decide +kernel
theorem dX10_findParents_23 : decode cX10_findParents 23 = .ok (.invokevirtual 96, 3) := by decide +kernel
theorem dX10_findParents_26 : decode cX10_findParents 26 = .ok (.ifCond .eq 40, 3) := by decide +kernel
theorem dX10_findParents_29 : decode cX10_findParents 29 = .ok (.aload_n 0, 1) := by decide +kernel
theorem dX10_findParents_30 : decode cX10_findParents 30 = .ok (.getfield 34, 3) := by decide +kernel
theorem dX10_findParents_33 : decode cX10_findParents 33 = .ok (.aload_n 2, 1) := by decide +kernel
theorem dX10_findParents_34 : decode cX10_findParents 34 = .ok (.getfield 102, 3) := by decide +kernel
theorem dX10_findParents_37 : decode cX10_findParents 37 = .ok (.invokevirtual 164, 3) := by decide +kernel
theorem dX10_findParents_40 : decode cX10_findParents 40 = .ok (.istore_n 3, 1) := by decide +kernel
theorem dX10_findParents_41 : decode cX10_findParents 41 = .ok (.iload_n 3, 1) := by decide +kernel
theorem dX10_findParents_42 : decode cX10_findParents 42 = .ok (.ifCond .lt 15, 3) := by decide +kernel
theorem dX10_findParents_45 : decode cX10_findParents 45 = .ok (.aload_n 1, 1) := by decide +kernel
theorem dX10_findParents_46 : decode cX10_findParents 46 = .ok (.iload_n 3, 1) := by decide +kernel
theorem dX10_findParents_47 : decode cX10_findParents 47 = .ok (.aload_n 2, 1) := by decide +kernel
theorem dX10_findParents_48 : decode cX10_findParents 48 = .ok (.getfield 167, 3) := by decide +kernel
theorem dX10_findParents_51 : decode cX10_findParents 51 = .ok (.invokestatic 170, 3) := by decide +kernel
theorem dX10_findParents_54 : decode cX10_findParents 54 = .ok (.ifCond .ne 12, 3) := by decide +kernel
theorem dX10_findParents_57 : decode cX10_findParents 57 = .ok (.aload_n 1, 1) := by decide +kernel
theorem dX10_findParents_58 : decode cX10_findParents 58 = .ok (.aload_n 2, 1) := by decide +kernel
theorem dX10_findParents_59 : decode cX10_findParents 59 = .ok (.getfield 167, 3) := by decide +kernel
theorem dX10_findParents_62 : decode cX10_findParents 62 = .ok (.iload_n 3, 1) := by decide +kernel
theorem dX10_findParents_63 : decode cX10_findParents 63 = .ok (.iconst 1, 1) := by decide +kernel
theorem dX10_findParents_64 : decode cX10_findParents 64 = .ok (.iadd, 1) := by decide +kernel
theorem dX10_findParents_65 : decode cX10_findParents 65 = .ok (.iastore, 1) := by decide +kernel
theorem dX10_findParents_66 : decode cX10_findParents 66 = .ok (.aload_n 0, 1) := by decide +kernel
theorem dX10_findParents_67 : decode cX10_findParents 67 = .ok (.getfield 38, 3) := by decide +kernel
theorem dX10_findParents_70 : decode cX10_findParents 70 = .ok (.getfield 127, 3) := by decide +kernel
theorem dX10_findParents_73 : decode cX10_findParents 73 = .ok (.aload_n 2, 1) := by decide +kernel
theorem dX10_findParents_74 : decode cX10_findParents 74 = .ok (.getfield 68, 3) := by decide +kernel
theorem dX10_findParents_77 : decode cX10_findParents 77 = .ok (.aaload, 1) := by decide +kernel
theorem dX10_findParents_78 : decode cX10_findParents 78 = .ok (.astore_n 2, 1) := by decide +kernel
theorem dX10_findParents_79 : decode cX10_findParents 79 = .ok (.goto (-62), 3) := by decide +kernel
theorem dX10_findParents_82 : decode cX10_findParents 82 = .ok (.return_, 1) := by decide +kernel
theorem kd_10_findParents : Cond.code yX10_findParents cX10_findParents 4 none ∈ lw_g := mt_at 1111 (by decide +kernel) rfl
theorem ki_10_findParents : Cond.instanceMethod yX10_findParents ∈ lw_g := mt_at 1109 (by decide +kernel) rfl
theorem kl_10_findParents : Cond.selects (kRn 10) yX10_findParents yX10_findParents ∈ lw_g := mt_at 1110 (by decide +kernel) rfl
theorem cw10_164 : cCw RX10 164 yX0_slotOf cX0_slotOf 3 (some .int) 1 := ⟨kd_0_slotOf, mt_at 1112 (by decide +kernel) rfl, mt_at 3 (by decide +kernel) rfl, by decide +kernel⟩
theorem cw10_170 : cCw RX10 170 yX10_isUnder cX10_isUnder 5 (some .boolean) 3 := ⟨kd_10_isUnder, mt_at 1113 (by decide +kernel) rfl, mt_at 10 (by decide +kernel) rfl, by decide +kernel⟩
section
variable {p : Program} {l : Launch} {e : Env} {R : Room} {s : State} {m : MethodId} {args : Array Value} {below : List Frame} {meth : Method} {c : Code} {H : Heap} {locs : List Loc} {cells slots : Nat} {Q : State → Prop}
variable {D : cG} {S S0 : cSt} {cc : ByteArray} {nL : Nat} {pc : Nat} {ls : Array Slot} {rest : List Value} {H0 : Heap} {nF nR nC nS : Nat} {ret : Option FieldType} {a : Nat}
theorem gk10_167 (C : cY p R s m args meth c RX10 cc nL nF nC nS nR ret) (X : cX D s) (hW : cW D S H) (hk : kK S a = 9) (hdg : decode cc pc = .ok (.getfield 167, 3)) (kk : W p l e R s m args below meth c H locs cells slots Q (F0 m (pc + 3) ls (.int (kF S a 1) :: rest))) : W p l e R s m args below meth c H locs cells slots Q (F0 m pc ls (.ref a :: rest)) := c_get C X hW 8 (by decide) ly_8 hk 1 (by decide) (mt_at 973 (by decide +kernel) (by decide +kernel)) hdg (by rw [cV_I (by decide +kernel)]; exact kk)
end
section
variable {p : Program} {l : Launch} {e : Env} {R : Room} {s : State} {m : MethodId} {args : Array Value} {below : List Frame} {meth : Method} {c : Code} {D : cG} {S0 S9 : cSt}
noncomputable def fk_10_findParents_66 (g_17 : cSt → Nat → Nat → Option Nat → Option (cSt)) (S : cSt) (v0 : Nat) (v1 : Nat) (v2 : Option Nat) : Option (cSt) :=
ckk S v0 11 (bd (kR S v0 7) fun a1 =>
ckk S a1 5 (bd (kR S a1 4) fun a2 =>
bd v2 fun a3 =>
ckk S a3 9 (
ckk S a2 30 (ck (kF S a3 12) (kL S a2) (lt (kO S a2 (Int32.toNatClampNeg (kF S a3 12))) fun o4 =>
g_17 S v0 v1 o4)))))
set_option maxRecDepth 100000 in
set_option maxHeartbeats 4000000 in
theorem wk_10_findParents_66 (C : cY p R s m args meth c RX10 cX10_findParents 4 2 0 0 44 none) (X : cX D s) {g_17 : cSt → Nat → Nat → Option Nat → Option (cSt)} (hg_17 : ∀ {S : cSt} {v0 : Nat} {v1 : Nat} {v2 : Option Nat} {H : Heap} {locs : List Loc} {ls : Array Slot}, g_17 S v0 v1 v2 = some S9 → cJ D S0 s.heap S H locs → lv_has ls 4 [(0, .ref v0), (1, .ref v1), (2, va_rf v2)] → W p l e R s m args below meth c H locs 0 0 (MQ below (kW none D S0 S9) args s 0 0 (cA S0)) (F0 m 17 ls [])) : ∀ {S : cSt} {v0 : Nat} {v1 : Nat} {v2 : Option Nat} {H : Heap} {locs : List Loc} {ls : Array Slot}, fk_10_findParents_66 g_17 S v0 v1 v2 = some S9 → cJ D S0 s.heap S H locs → lv_has ls 4 [(0, .ref v0), (1, .ref v1), (2, va_rf v2)] → W p l e R s m args below meth c H locs 0 0 (MQ below (kW none D S0 S9) args s 0 0 (cA S0)) (F0 m 66 ls []) := by
  intro S v0 v1 v2 H locs ls h hJ hl
  unfold fk_10_findParents_66 at h
  refine lv_aload_n C.1 C.2.1 dX10_findParents_66 rfl (lv_at hl 0 rfl) ?_
  obtain ⟨hk, h⟩ := ckk_ok h
  obtain ⟨a1, h_a1, h⟩ := bd_ok h
  refine gk10_38 C X hJ.1 hk h_a1 dX10_findParents_67 ?_
  obtain ⟨hk, h⟩ := ckk_ok h
  obtain ⟨a2, h_a2, h⟩ := bd_ok h
  refine gk10_127 C X hJ.1 hk h_a2 dX10_findParents_70 ?_
  refine lv_aload_nq (o := v2) C.1 C.2.1 dX10_findParents_73 rfl (lv_at hl 2 rfl) ?_
  obtain ⟨a3, e_a3, h⟩ := bd_ok h
  revert h; subst e_a3; intro h
  obtain ⟨hk, h⟩ := ckk_ok h
  refine gk10_68 C X hJ.1 hk dX10_findParents_74 ?_
  obtain ⟨hk, h⟩ := ckk_ok h
  obtain ⟨hin2, h⟩ := ck_ok h
  refine c_aald C 30 (by decide) X.2.2.2.2.1 hJ.1 hk hin2 dX10_findParents_77 ?_
  refine lt_ok h (fun o4 e_o4 h => ?_)
  refine lv_nmq e_o4 ?_
  refine lv_astore_nq (o := o4) (lv' := [(2, va_rf o4), (0, .ref v0), (1, .ref v1)]) C.1 C.2.1 dX10_findParents_78 rfl hl (by decide) rfl (fun ls hl => ?_)
  refine lv_goto (tgt := 17) C.1 C.2.1 dX10_findParents_79 (by decide) ?_
  exact hg_17 h hJ (lv_sub hl [1, 2, 0] rfl)
noncomputable def fk_10_findParents_57 (g_17 : cSt → Nat → Nat → Option Nat → Option (cSt)) (S : cSt) (v0 : Nat) (v1 : Nat) (v2 : Option Nat) (v3 : Int32) : Option (cSt) :=
bd v2 fun a1 =>
ckk S a1 9 (
ckk S v1 20 (ck (kF S a1 1) (kL S v1) (lt (cWi S v1 (Int32.toNatClampNeg (kF S a1 1)) (v3 + (1 : Int32))) fun S2 =>
fk_10_findParents_66 g_17 S2 v0 v1 (some a1))))
set_option maxRecDepth 100000 in
set_option maxHeartbeats 4000000 in
theorem wk_10_findParents_57 (C : cY p R s m args meth c RX10 cX10_findParents 4 2 0 0 44 none) (X : cX D s) {g_17 : cSt → Nat → Nat → Option Nat → Option (cSt)} (hg_17 : ∀ {S : cSt} {v0 : Nat} {v1 : Nat} {v2 : Option Nat} {H : Heap} {locs : List Loc} {ls : Array Slot}, g_17 S v0 v1 v2 = some S9 → cJ D S0 s.heap S H locs → lv_has ls 4 [(0, .ref v0), (1, .ref v1), (2, va_rf v2)] → W p l e R s m args below meth c H locs 0 0 (MQ below (kW none D S0 S9) args s 0 0 (cA S0)) (F0 m 17 ls [])) : ∀ {S : cSt} {v0 : Nat} {v1 : Nat} {v2 : Option Nat} {v3 : Int32} {H : Heap} {locs : List Loc} {ls : Array Slot}, fk_10_findParents_57 g_17 S v0 v1 v2 v3 = some S9 → cJ D S0 s.heap S H locs → lv_has ls 4 [(0, .ref v0), (1, .ref v1), (2, va_rf v2), (3, .int v3)] → W p l e R s m args below meth c H locs 0 0 (MQ below (kW none D S0 S9) args s 0 0 (cA S0)) (F0 m 57 ls []) := by
  intro S v0 v1 v2 v3 H locs ls h hJ hl
  unfold fk_10_findParents_57 at h
  refine lv_aload_n C.1 C.2.1 dX10_findParents_57 rfl (lv_at hl 1 rfl) ?_
  refine lv_aload_nq (o := v2) C.1 C.2.1 dX10_findParents_58 rfl (lv_at hl 2 rfl) ?_
  obtain ⟨a1, e_a1, h⟩ := bd_ok h
  revert h; subst e_a1; intro h
  obtain ⟨hk, h⟩ := ckk_ok h
  refine gk10_167 C X hJ.1 hk dX10_findParents_59 ?_
  refine lv_iload_n C.1 C.2.1 dX10_findParents_62 rfl (lv_at hl 3 rfl) ?_
  refine lv_iconst (v := 1) C.1 C.2.1 dX10_findParents_63 (by decide) ?_
  refine lv_iadd C.1 C.2.1 dX10_findParents_64 ?_
  obtain ⟨hk, h⟩ := ckk_ok h
  obtain ⟨hin2, h⟩ := ck_ok h
  refine c_iast C X hJ hk hin2 dX10_findParents_65 (fun H locs hJ => ?_)
  refine lt_ok h (fun S2 e_S2 h => ?_)
  rw [e_S2] at hJ
  exact wk_10_findParents_66 C X hg_17 h hJ (lv_sub hl [0, 1, 2] rfl)
noncomputable def fk_10_findParents_17 : Nat → cSt → Nat → Nat → Option Nat → Option (cSt)
  | 0, _, _, _, _ => none
  | n + 1, S, v0, v1, v2 =>
    cs v2 (
    some S) (fun a1 =>
    ckk S v0 11 (bd (fk_10_isGood S v0 a1) fun r2 =>
    if r2 = 0 then (
    fk_10_findParents_66 (fk_10_findParents_17 n) S v0 v1 (some a1))
    else (
    ckk S v0 11 (bd (kR S v0 1) fun a4 =>
    ckk S a1 9 (
    ckk S a4 1 (bd (fk_0_slotOf S a4 (kF S a1 4)) fun r5 =>
    if r5 < 0 then (
    fk_10_findParents_57 (fk_10_findParents_17 n) S v0 v1 (some a1) r5)
    else (
    ckk S a1 9 (
    bd (fk_10_isUnder S v1 r5 (kF S a1 1)) fun r7 =>
    if r7 = 0 then (
    fk_10_findParents_57 (fk_10_findParents_17 n) S v0 v1 (some a1) r5)
    else (
    fk_10_findParents_66 (fk_10_findParents_17 n) S v0 v1 (some a1))))))))))
set_option maxRecDepth 100000 in
set_option maxHeartbeats 4000000 in
theorem wk_10_findParents_17 (C : cY p R s m args meth c RX10 cX10_findParents 4 2 0 0 44 none) (X : cX D s) : ∀ (n : Nat), ∀ {S : cSt} {v0 : Nat} {v1 : Nat} {v2 : Option Nat} {H : Heap} {locs : List Loc} {ls : Array Slot}, fk_10_findParents_17 n S v0 v1 v2 = some S9 → cJ D S0 s.heap S H locs → lv_has ls 4 [(0, .ref v0), (1, .ref v1), (2, va_rf v2)] → W p l e R s m args below meth c H locs 0 0 (MQ below (kW none D S0 S9) args s 0 0 (cA S0)) (F0 m 17 ls []) := by
  intro n
  induction n with
  | zero =>
    intro S v0 v1 v2 H locs ls h hJ hl
    exact absurd (show (none : Option (cSt)) = _ from h) (fun q => by cases q)
  | succ n ih =>
    intro S v0 v1 v2 H locs ls h hJ hl
    rw [fk_10_findParents_17] at h
    refine lv_aload_nq (o := v2) C.1 C.2.1 dX10_findParents_17 rfl (lv_at hl 2 rfl) ?_
    rcases v2 with _ | a1
    · replace h := cs_n h
      refine lv_ifnullN (tgt := 82) C.1 C.2.1 dX10_findParents_18 (by decide) ?_
      cases h
      exact c_retvW C hJ dX10_findParents_82
    · replace h := cs_s h
      refine lv_ifnull C.1 C.2.1 dX10_findParents_18 ?_
      refine lv_aload_n C.1 C.2.1 dX10_findParents_21 rfl (lv_at hl 0 rfl) ?_
      refine lv_aload_n C.1 C.2.1 dX10_findParents_22 rfl (lv_at hl 2 rfl) ?_
      obtain ⟨hk, h⟩ := ckk_ok h
      obtain ⟨r2, h_r2, h⟩ := bd_ok h
      refine c_callR (rest := []) C X hJ.1 hl.1 10 (by decide) hk [.ref a1] (tk_10_isGood l h_r2) cw10_96 ki_10_isGood kl_10_isGood rfl ⟨by decide, by decide⟩ ⟨(by decide), (by decide)⟩ rfl (Nat.le_of_ble_eq_true rfl) dX10_findParents_23 ?_
      refine W.eq (g2 := F0 m 26 ls [.int r2]) rfl ?_
      refine lv_if_eq (tgt := 66) C.1 C.2.1 dX10_findParents_26 (by decide) (fun c3 => ?_) (fun c3 => ?_)
      · have h := if_t h c3
        exact wk_10_findParents_66 C X ih h hJ (lv_sub hl [0, 1, 2] rfl)
      · have h := if_f h c3
        refine lv_aload_n C.1 C.2.1 dX10_findParents_29 rfl (lv_at hl 0 rfl) ?_
        obtain ⟨hk, h⟩ := ckk_ok h
        obtain ⟨a4, h_a4, h⟩ := bd_ok h
        refine gk10_34 C X hJ.1 hk h_a4 dX10_findParents_30 ?_
        refine lv_aload_n C.1 C.2.1 dX10_findParents_33 rfl (lv_at hl 2 rfl) ?_
        obtain ⟨hk, h⟩ := ckk_ok h
        refine gk10_102 C X hJ.1 hk dX10_findParents_34 ?_
        obtain ⟨hk, h⟩ := ckk_ok h
        obtain ⟨r5, h_r5, h⟩ := bd_ok h
        refine c_callR (rest := []) C X hJ.1 hl.1 0 (by decide) hk [.int (kF S a1 4)] (tk_0_slotOf l h_r5) cw10_164 ki_0_slotOf kl_0_slotOf rfl ⟨by decide, by decide⟩ ⟨(by decide), (by decide)⟩ rfl (Nat.le_of_ble_eq_true rfl) dX10_findParents_37 ?_
        refine W.eq (g2 := F0 m 40 ls [.int r5]) rfl ?_
        refine lv_istore_n (lv' := [(3, .int r5), (0, .ref v0), (1, .ref v1), (2, .ref a1)]) C.1 C.2.1 dX10_findParents_40 rfl hl (by decide) rfl (fun ls hl => ?_)
        refine lv_iload_n C.1 C.2.1 dX10_findParents_41 rfl (lv_at hl 0 rfl) ?_
        refine lv_if_lt (tgt := 57) C.1 C.2.1 dX10_findParents_42 (by decide) (fun c6 => ?_) (fun c6 => ?_)
        · have h := if_t h c6
          exact wk_10_findParents_57 C X ih h hJ (lv_sub hl [1, 2, 3, 0] rfl)
        · have h := if_f h c6
          refine lv_aload_n C.1 C.2.1 dX10_findParents_45 rfl (lv_at hl 2 rfl) ?_
          refine lv_iload_n C.1 C.2.1 dX10_findParents_46 rfl (lv_at hl 0 rfl) ?_
          refine lv_aload_n C.1 C.2.1 dX10_findParents_47 rfl (lv_at hl 3 rfl) ?_
          obtain ⟨hk, h⟩ := ckk_ok h
          refine gk10_167 C X hJ.1 hk dX10_findParents_48 ?_
          obtain ⟨r7, h_r7, h⟩ := bd_ok h
          refine c_callSR (rest := []) C X hJ.1 hl.1 [.ref v1, .int r5, .int (kF S a1 1)] (tk_10_isUnder l h_r7) cw10_170 ks_10_isUnder rfl ⟨by decide, by decide⟩ ⟨(by decide), (by decide)⟩ rfl (Nat.le_of_ble_eq_true rfl) dX10_findParents_51 ?_
          refine W.eq (g2 := F0 m 54 ls [.int r7]) rfl ?_
          refine lv_if_ne (tgt := 66) C.1 C.2.1 dX10_findParents_54 (by decide) (fun c8 => ?_) (fun c8 => ?_)
          · have h := if_f h c8
            exact wk_10_findParents_66 C X ih h hJ (lv_sub hl [1, 2, 3] rfl)
          · have h := if_t h c8
            exact wk_10_findParents_57 C X ih h hJ (lv_sub hl [1, 2, 3, 0] rfl)
noncomputable def fk_10_findParents (S : cSt) (v0 : Nat) (v1 : Nat) : Option (cSt) :=
bd (fk_107_fill_53178 S v1 (0 : Int32)) fun S1 =>
ckk S1 v0 11 (bd (kR S1 v0 7) fun a2 =>
ckk S1 a2 5 (bd (kR S1 a2 5) fun a3 =>
ckk S1 a3 30 (ck (384 : Int32) (kL S1 a3) (lt (kO S1 a3 (Int32.toNatClampNeg (384 : Int32))) fun o4 =>
fk_10_findParents_17 mFU S1 v0 v1 o4))))
set_option maxRecDepth 100000 in
set_option maxHeartbeats 4000000 in
theorem tk_10_findParents (l : Launch) {D : cG} {S : cSt} {v0 : Nat} {v1 : Nat} {S9 : cSt} (h : fk_10_findParents S v0 v1 = some S9) : Met l yX10_findParents (Cond.code yX10_findParents cX10_findParents 4 none :: lw_g) { frames := 2, cells := 0, slots := 0, locals := 44 } (kPi [.ref v0, .ref v1] D S) (kW none D S S9) 0 0 (cA S) := by
  refine Met.ofW (cc := cX10_findParents) (maxL := 4) (ret := none) (by decide) rfl ?_
  intro p e s m args below meth c s₁ B hml hv
  obtain ⟨rfl, hW, X⟩ := hv
  have C : cY p (headSpec (Cond.code yX10_findParents cX10_findParents 4 none :: lw_g) { frames := 2, cells := 0, slots := 0, locals := 44 }).room s m _ meth c RX10 cX10_findParents 4 2 0 0 44 none := ⟨B.exec, B.bytes, hml, findClass_of_methodNamed B.named, fun w hw => atoms_spec (ws := Cond.code yX10_findParents cX10_findParents 4 none :: lw_g) B.pre w (List.mem_cons_of_mem _ hw), ⟨Nat.le_refl _, Nat.le_refl _, Nat.le_refl _, Nat.le_refl _⟩, B.returns, B.notSynchronized⟩
  have hl := lv_entry ([.ref v0, .ref v1]) (n := 4) (Nat.le_of_ble_eq_true rfl)
  rw [lg_entry_eq]
  generalize (lg_sl ([.ref v0, .ref v1]) ++ List.replicate (4 - (lg_sl ([.ref v0, .ref v1])).length) Slot.unset).toArray = ls at hl ⊢
  have hl : lv_has ls 4 [(0, .ref v0), (1, .ref v1)] := hl
  have hJ : cJ D S s.heap S s.heap [] := cJ.rf hW
  unfold fk_10_findParents at h
  refine lv_aload_n C.1 C.2.1 dX10_findParents_0 rfl (lv_at hl 1 rfl) ?_
  refine lv_iconst (v := 0) C.1 C.2.1 dX10_findParents_1 (by decide) ?_
  obtain ⟨S1, h_S1, h⟩ := bd_ok h
  refine c_callSW (rest := []) C X hJ hl.1 [.ref v1, .int (0 : Int32)] (tk_107_fill_53178 l h_S1) cw10_45 ks_107_fill_53178 rfl ⟨by decide, by decide⟩ ⟨(by decide), (by decide)⟩ rfl (Nat.le_of_ble_eq_true rfl) dX10_findParents_2 (fun H locs hJ => ?_)
  refine W.eq (g2 := F0 m 5 ls []) rfl ?_
  refine lv_aload_n C.1 C.2.1 dX10_findParents_5 rfl (lv_at hl 0 rfl) ?_
  obtain ⟨hk, h⟩ := ckk_ok h
  obtain ⟨a2, h_a2, h⟩ := bd_ok h
  refine gk10_38 C X hJ.1 hk h_a2 dX10_findParents_6 ?_
  obtain ⟨hk, h⟩ := ckk_ok h
  obtain ⟨a3, h_a3, h⟩ := bd_ok h
  refine gk10_121 C X hJ.1 hk h_a3 dX10_findParents_9 ?_
  refine lv_sipush (v := 384) C.1 C.2.1 dX10_findParents_12 (by decide) ?_
  obtain ⟨hk, h⟩ := ckk_ok h
  obtain ⟨hin2, h⟩ := ck_ok h
  refine c_aald C 30 (by decide) X.2.2.2.2.1 hJ.1 hk hin2 dX10_findParents_15 ?_
  refine lt_ok h (fun o4 e_o4 h => ?_)
  refine lv_nmq e_o4 ?_
  refine lv_astore_nq (o := o4) (lv' := [(2, va_rf o4), (0, .ref v0), (1, .ref v1)]) C.1 C.2.1 dX10_findParents_16 rfl hl (by decide) rfl (fun ls hl => ?_)
  exact wk_10_findParents_17 C X mFU h hJ (lv_sub hl [1, 2, 0] rfl)
end
theorem dX10_stands_0 : decode cX10_stands 0 = .ok (.aload_n 0, 1) := by decide +kernel
theorem dX10_stands_1 : decode cX10_stands 1 = .ok (.aload_n 1, 1) := by decide +kernel
theorem dX10_stands_2 : decode cX10_stands 2 = .ok (.invokevirtual 96, 3) := by decide +kernel
theorem dX10_stands_5 : decode cX10_stands 5 = .ok (.ifCond .ne 5, 3) := by decide +kernel
theorem dX10_stands_8 : decode cX10_stands 8 = .ok (.iconst 0, 1) := by decide +kernel
theorem dX10_stands_9 : decode cX10_stands 9 = .ok (.ireturn, 1) := by decide +kernel
theorem dX10_stands_10 : decode cX10_stands 10 = .ok (.aload_n 0, 1) := by decide +kernel
theorem dX10_stands_11 : decode cX10_stands 11 = .ok (.getfield 38, 3) := by decide +kernel
theorem dX10_stands_14 : decode cX10_stands 14 = .ok (.getfield 93, 3) := by decide +kernel
theorem dX10_stands_17 : decode cX10_stands 17 = .ok (.aload_n 1, 1) := by decide +kernel
theorem dX10_stands_18 : decode cX10_stands 18 = .ok (.getfield 149, 3) := by decide +kernel
theorem dX10_stands_21 : decode cX10_stands 21 = .ok (.aaload, 1) := by decide +kernel
theorem dX10_stands_22 : decode cX10_stands 22 = .ok (.astore_n 2, 1) := by decide +kernel
theorem dX10_stands_23 : decode cX10_stands 23 = .ok (.aload_n 2, 1) := by decide +kernel
theorem dX10_stands_24 : decode cX10_stands 24 = .ok (.ifnull 49, 3) := by decide +kernel
theorem dX10_stands_27 : decode cX10_stands 27 = .ok (.aload_n 2, 1) := by decide +kernel
theorem dX10_stands_28 : decode cX10_stands 28 = .ok (.getfield 108, 3) := by decide +kernel
theorem dX10_stands_31 : decode cX10_stands 31 = .ok (.bipush 10, 2) := by decide +kernel
theorem dX10_stands_33 : decode cX10_stands 33 = .ok (.if_icmp .ne 24, 3) := by decide +kernel
theorem dX10_stands_36 : decode cX10_stands 36 = .ok (.aload_n 2, 1) := by decide +kernel
theorem dX10_stands_37 : decode cX10_stands 37 = .ok (.getfield 111, 3) := by decide +kernel
theorem dX10_stands_40 : decode cX10_stands 40 = .ok (.aload_n 1, 1) := by decide +kernel
theorem dX10_stands_41 : decode cX10_stands 41 = .ok (.getfield 152, 3) := by decide +kernel
theorem dX10_stands_44 : decode cX10_stands 44 = .ok (.if_icmp .ne 13, 3) := by decide +kernel
theorem dX10_stands_47 : decode cX10_stands 47 = .ok (.aload_n 0, 1) := by decide +kernel
theorem dX10_stands_48 : decode cX10_stands 48 = .ok (.aload_n 2, 1) := by decide +kernel
theorem dX10_stands_49 : decode cX10_stands 49 = .ok (.invokevirtual 96, 3) := by decide +kernel
theorem dX10_stands_52 : decode cX10_stands 52 = .ok (.ifCond .eq 5, 3) := by decide +kernel
theorem dX10_stands_55 : decode cX10_stands 55 = .ok (.iconst 0, 1) := by decide +kernel
theorem dX10_stands_56 : decode cX10_stands 56 = .ok (.ireturn, 1) := by decide +kernel
theorem dX10_stands_57 : decode cX10_stands 57 = .ok (.aload_n 0, 1) := by decide +kernel
theorem dX10_stands_58 : decode cX10_stands 58 = .ok (.getfield 38, 3) := by decide +kernel
theorem dX10_stands_61 : decode cX10_stands 61 = .ok (.getfield 99, 3) := by decide +kernel
theorem dX10_stands_64 : decode cX10_stands 64 = .ok (.aload_n 2, 1) := by decide +kernel
theorem dX10_stands_65 : decode cX10_stands 65 = .ok (.getfield 68, 3) := by decide +kernel
theorem dX10_stands_68 : decode cX10_stands 68 = .ok (.aaload, 1) := by decide +kernel
theorem dX10_stands_69 : decode cX10_stands 69 = .ok (.astore_n 2, 1) := by decide +kernel
theorem dX10_stands_70 : decode cX10_stands 70 = .ok (.goto (-47), 3) := by decide +kernel
theorem dX10_stands_73 : decode cX10_stands 73 = .ok (.iconst 1, 1) := by decide +kernel
theorem dX10_stands_74 : decode cX10_stands 74 = .ok (.ireturn, 1) := by decide +kernel
theorem kd_10_stands : Cond.code yX10_stands cX10_stands 3 (some .boolean) ∈ lw_g := mt_at 1123 (by decide +kernel) rfl
theorem ki_10_stands : Cond.instanceMethod yX10_stands ∈ lw_g := mt_at 1121 (by decide +kernel) rfl
theorem kl_10_stands : Cond.selects (kRn 10) yX10_stands yX10_stands ∈ lw_g := mt_at 1122 (by decide +kernel) rfl
section
variable {p : Program} {l : Launch} {e : Env} {R : Room} {s : State} {m : MethodId} {args : Array Value} {below : List Frame} {meth : Method} {c : Code} {H : Heap} {locs : List Loc} {cells slots : Nat} {Q : State → Prop}
variable {D : cG} {S S0 : cSt} {cc : ByteArray} {nL : Nat} {pc : Nat} {ls : Array Slot} {rest : List Value} {H0 : Heap} {nF nR nC nS : Nat} {ret : Option FieldType} {a : Nat}
theorem gk10_149 (C : cY p R s m args meth c RX10 cc nL nF nC nS nR ret) (X : cX D s) (hW : cW D S H) (hk : kK S a = 9) (hdg : decode cc pc = .ok (.getfield 149, 3)) (kk : W p l e R s m args below meth c H locs cells slots Q (F0 m (pc + 3) ls (.int (kF S a 13) :: rest))) : W p l e R s m args below meth c H locs cells slots Q (F0 m pc ls (.ref a :: rest)) := c_get C X hW 8 (by decide) ly_8 hk 13 (by decide) (mt_at 1032 (by decide +kernel) (by decide +kernel)) hdg (by rw [cV_I (by decide +kernel)]; exact kk)
theorem gk10_152 (C : cY p R s m args meth c RX10 cc nL nF nC nS nR ret) (X : cX D s) (hW : cW D S H) (hk : kK S a = 9) (hdg : decode cc pc = .ok (.getfield 152, 3)) (kk : W p l e R s m args below meth c H locs cells slots Q (F0 m (pc + 3) ls (.int (kF S a 11) :: rest))) : W p l e R s m args below meth c H locs cells slots Q (F0 m pc ls (.ref a :: rest)) := c_get C X hW 8 (by decide) ly_8 hk 11 (by decide) (mt_at 1023 (by decide +kernel) (by decide +kernel)) hdg (by rw [cV_I (by decide +kernel)]; exact kk)
end
section
variable {p : Program} {l : Launch} {e : Env} {R : Room} {s : State} {m : MethodId} {args : Array Value} {below : List Frame} {meth : Method} {c : Code} {D : cG} {S : cSt} {r : Int32}
noncomputable def fk_10_stands_57 (g_23 : Nat → Nat → Option Nat → Option (Int32)) (S : cSt) (v0 : Nat) (v1 : Nat) (v2 : Option Nat) : Option (Int32) :=
ckk S v0 11 (bd (kR S v0 7) fun a1 =>
ckk S a1 5 (bd (kR S a1 3) fun a2 =>
bd v2 fun a3 =>
ckk S a3 9 (
ckk S a2 30 (ck (kF S a3 12) (kL S a2) (lt (kO S a2 (Int32.toNatClampNeg (kF S a3 12))) fun o4 =>
g_23 v0 v1 o4)))))
set_option maxRecDepth 100000 in
set_option maxHeartbeats 4000000 in
theorem wk_10_stands_57 (C : cY p R s m args meth c RX10 cX10_stands 3 1 0 0 22 (some .boolean)) (X : cX D s) (hW : cW D S s.heap) {g_23 : Nat → Nat → Option Nat → Option (Int32)} (hg_23 : ∀ {v0 : Nat} {v1 : Nat} {v2 : Option Nat} {ls : Array Slot}, g_23 v0 v1 v2 = some r → lv_has ls 3 [(0, .ref v0), (1, .ref v1), (2, va_rf v2)] → W p l e R s m args below meth c s.heap [] 0 0 (MQ below (kQ (some (.int r))) args s 0 0 mNo) (F0 m 23 ls [])) : ∀ {v0 : Nat} {v1 : Nat} {v2 : Option Nat} {ls : Array Slot}, fk_10_stands_57 g_23 S v0 v1 v2 = some r → lv_has ls 3 [(0, .ref v0), (1, .ref v1), (2, va_rf v2)] → W p l e R s m args below meth c s.heap [] 0 0 (MQ below (kQ (some (.int r))) args s 0 0 mNo) (F0 m 57 ls []) := by
  intro v0 v1 v2 ls h hl
  unfold fk_10_stands_57 at h
  refine lv_aload_n C.1 C.2.1 dX10_stands_57 rfl (lv_at hl 0 rfl) ?_
  obtain ⟨hk, h⟩ := ckk_ok h
  obtain ⟨a1, h_a1, h⟩ := bd_ok h
  refine gk10_38 C X hW hk h_a1 dX10_stands_58 ?_
  obtain ⟨hk, h⟩ := ckk_ok h
  obtain ⟨a2, h_a2, h⟩ := bd_ok h
  refine gk10_99 C X hW hk h_a2 dX10_stands_61 ?_
  refine lv_aload_nq (o := v2) C.1 C.2.1 dX10_stands_64 rfl (lv_at hl 2 rfl) ?_
  obtain ⟨a3, e_a3, h⟩ := bd_ok h
  revert h; subst e_a3; intro h
  obtain ⟨hk, h⟩ := ckk_ok h
  refine gk10_68 C X hW hk dX10_stands_65 ?_
  obtain ⟨hk, h⟩ := ckk_ok h
  obtain ⟨hin2, h⟩ := ck_ok h
  refine c_aald C 30 (by decide) X.2.2.2.2.1 hW hk hin2 dX10_stands_68 ?_
  refine lt_ok h (fun o4 e_o4 h => ?_)
  refine lv_nmq e_o4 ?_
  refine lv_astore_nq (o := o4) (lv' := [(2, va_rf o4), (0, .ref v0), (1, .ref v1)]) C.1 C.2.1 dX10_stands_69 rfl hl (by decide) rfl (fun ls hl => ?_)
  refine lv_goto (tgt := 23) C.1 C.2.1 dX10_stands_70 (by decide) ?_
  exact hg_23 h (lv_sub hl [1, 2, 0] rfl)
noncomputable def fk_10_stands_23 (S : cSt) : Nat → Nat → Nat → Option Nat → Option (Int32)
  | 0, _, _, _ => none
  | n + 1, v0, v1, v2 =>
    cs v2 (
    ckz (1 : Int32) (some (1 : Int32))) (fun a1 =>
    ckk S a1 9 (
    if (kF S a1 0) = (10 : Int32) then (
    ckk S a1 9 (
    ckk S v1 9 (
    if (kF S a1 5) = (kF S v1 11) then (
    ckk S v0 11 (bd (fk_10_isGood S v0 a1) fun r4 =>
    if r4 = 0 then (
    fk_10_stands_57 (fk_10_stands_23 S n) S v0 v1 (some a1))
    else (
    ckz (0 : Int32) (some (0 : Int32)))))
    else (
    fk_10_stands_57 (fk_10_stands_23 S n) S v0 v1 (some a1)))))
    else (
    fk_10_stands_57 (fk_10_stands_23 S n) S v0 v1 (some a1))))
set_option maxRecDepth 100000 in
set_option maxHeartbeats 4000000 in
theorem wk_10_stands_23 (C : cY p R s m args meth c RX10 cX10_stands 3 1 0 0 22 (some .boolean)) (X : cX D s) (hW : cW D S s.heap) : ∀ (n : Nat), ∀ {v0 : Nat} {v1 : Nat} {v2 : Option Nat} {ls : Array Slot}, fk_10_stands_23 S n v0 v1 v2 = some r → lv_has ls 3 [(0, .ref v0), (1, .ref v1), (2, va_rf v2)] → W p l e R s m args below meth c s.heap [] 0 0 (MQ below (kQ (some (.int r))) args s 0 0 mNo) (F0 m 23 ls []) := by
  intro n
  induction n with
  | zero =>
    intro v0 v1 v2 ls h hl
    exact absurd (show (none : Option (Int32)) = _ from h) (fun q => by cases q)
  | succ n ih =>
    intro v0 v1 v2 ls h hl
    rw [fk_10_stands_23] at h
    refine lv_aload_nq (o := v2) C.1 C.2.1 dX10_stands_23 rfl (lv_at hl 2 rfl) ?_
    rcases v2 with _ | a1
    · replace h := cs_n h
      refine lv_ifnullN (tgt := 73) C.1 C.2.1 dX10_stands_24 (by decide) ?_
      refine lv_iconst (v := 1) C.1 C.2.1 dX10_stands_73 (by decide) ?_
      obtain ⟨hzo, h⟩ := ckz_ok h
      cases h
      exact c_retn C (by rcases hzo with h9 | h9 <;> (rw [h9]; rfl)) rfl rfl dX10_stands_74
    · replace h := cs_s h
      refine lv_ifnull C.1 C.2.1 dX10_stands_24 ?_
      refine lv_aload_n C.1 C.2.1 dX10_stands_27 rfl (lv_at hl 2 rfl) ?_
      obtain ⟨hk, h⟩ := ckk_ok h
      refine gk10_108 C X hW hk dX10_stands_28 ?_
      refine lv_bipush (v := 10) C.1 C.2.1 dX10_stands_31 (by decide) ?_
      refine lv_icmp_ne (tgt := 57) C.1 C.2.1 dX10_stands_33 (by decide) (fun c2 => ?_) (fun c2 => ?_)
      · have h := if_f h c2
        exact wk_10_stands_57 C X hW ih h (lv_sub hl [0, 1, 2] rfl)
      · have h := if_t h c2
        refine lv_aload_n C.1 C.2.1 dX10_stands_36 rfl (lv_at hl 2 rfl) ?_
        obtain ⟨hk, h⟩ := ckk_ok h
        refine gk10_111 C X hW hk dX10_stands_37 ?_
        refine lv_aload_n C.1 C.2.1 dX10_stands_40 rfl (lv_at hl 1 rfl) ?_
        obtain ⟨hk, h⟩ := ckk_ok h
        refine gk10_152 C X hW hk dX10_stands_41 ?_
        refine lv_icmp_ne (tgt := 57) C.1 C.2.1 dX10_stands_44 (by decide) (fun c3 => ?_) (fun c3 => ?_)
        · have h := if_f h c3
          exact wk_10_stands_57 C X hW ih h (lv_sub hl [0, 1, 2] rfl)
        · have h := if_t h c3
          refine lv_aload_n C.1 C.2.1 dX10_stands_47 rfl (lv_at hl 0 rfl) ?_
          refine lv_aload_n C.1 C.2.1 dX10_stands_48 rfl (lv_at hl 2 rfl) ?_
          obtain ⟨hk, h⟩ := ckk_ok h
          obtain ⟨r4, h_r4, h⟩ := bd_ok h
          refine c_callR (rest := []) C X hW hl.1 10 (by decide) hk [.ref a1] (tk_10_isGood l h_r4) cw10_96 ki_10_isGood kl_10_isGood rfl ⟨by decide, by decide⟩ ⟨(by decide), (by decide)⟩ rfl (Nat.le_of_ble_eq_true rfl) dX10_stands_49 ?_
          refine W.eq (g2 := F0 m 52 ls [.int r4]) rfl ?_
          refine lv_if_eq (tgt := 57) C.1 C.2.1 dX10_stands_52 (by decide) (fun c5 => ?_) (fun c5 => ?_)
          · have h := if_t h c5
            exact wk_10_stands_57 C X hW ih h (lv_sub hl [0, 1, 2] rfl)
          · have h := if_f h c5
            refine lv_iconst (v := 0) C.1 C.2.1 dX10_stands_55 (by decide) ?_
            obtain ⟨hzo, h⟩ := ckz_ok h
            cases h
            exact c_retn C (by rcases hzo with h9 | h9 <;> (rw [h9]; rfl)) rfl rfl dX10_stands_56
noncomputable def fk_10_stands (S : cSt) (v0 : Nat) (v1 : Nat) : Option (Int32) :=
ckk S v0 11 (bd (fk_10_isGood S v0 v1) fun r1 =>
if r1 = 0 then (
ckz (0 : Int32) (some (0 : Int32)))
else (
ckk S v0 11 (bd (kR S v0 7) fun a3 =>
ckk S a3 5 (bd (kR S a3 6) fun a4 =>
ckk S v1 9 (
ckk S a4 30 (ck (kF S v1 13) (kL S a4) (lt (kO S a4 (Int32.toNatClampNeg (kF S v1 13))) fun o5 =>
fk_10_stands_23 S mFU v0 v1 o5)))))))
set_option maxRecDepth 100000 in
set_option maxHeartbeats 4000000 in
theorem tk_10_stands (l : Launch) {D : cG} {S : cSt} {v0 : Nat} {v1 : Nat} {r : Int32}  (h : fk_10_stands S v0 v1 = some r) : Met l yX10_stands (Cond.code yX10_stands cX10_stands 3 (some .boolean) :: lw_g) { frames := 1, cells := 0, slots := 0, locals := 22 } (kPi [.ref v0, .ref v1] D S) (kQ (some (.int r))) 0 0 (mNo) := by
  refine Met.ofW (cc := cX10_stands) (maxL := 3) (ret := (some .boolean)) (by decide) rfl ?_
  intro p e s m args below meth c s₁ B hml hv
  obtain ⟨rfl, hW, X⟩ := hv
  have C : cY p (headSpec (Cond.code yX10_stands cX10_stands 3 (some .boolean) :: lw_g) { frames := 1, cells := 0, slots := 0, locals := 22 }).room s m _ meth c RX10 cX10_stands 3 1 0 0 22 (some .boolean) := ⟨B.exec, B.bytes, hml, findClass_of_methodNamed B.named, fun w hw => atoms_spec (ws := Cond.code yX10_stands cX10_stands 3 (some .boolean) :: lw_g) B.pre w (List.mem_cons_of_mem _ hw), ⟨Nat.le_refl _, Nat.le_refl _, Nat.le_refl _, Nat.le_refl _⟩, B.returns, B.notSynchronized⟩
  have hl := lv_entry ([.ref v0, .ref v1]) (n := 3) (Nat.le_of_ble_eq_true rfl)
  rw [lg_entry_eq]
  generalize (lg_sl ([.ref v0, .ref v1]) ++ List.replicate (3 - (lg_sl ([.ref v0, .ref v1])).length) Slot.unset).toArray = ls at hl ⊢
  have hl : lv_has ls 3 [(0, .ref v0), (1, .ref v1)] := hl
  unfold fk_10_stands at h
  refine lv_aload_n C.1 C.2.1 dX10_stands_0 rfl (lv_at hl 0 rfl) ?_
  refine lv_aload_n C.1 C.2.1 dX10_stands_1 rfl (lv_at hl 1 rfl) ?_
  obtain ⟨hk, h⟩ := ckk_ok h
  obtain ⟨r1, h_r1, h⟩ := bd_ok h
  refine c_callR (rest := []) C X hW hl.1 10 (by decide) hk [.ref v1] (tk_10_isGood l h_r1) cw10_96 ki_10_isGood kl_10_isGood rfl ⟨by decide, by decide⟩ ⟨(by decide), (by decide)⟩ rfl (Nat.le_of_ble_eq_true rfl) dX10_stands_2 ?_
  refine W.eq (g2 := F0 m 5 ls [.int r1]) rfl ?_
  refine lv_if_ne (tgt := 10) C.1 C.2.1 dX10_stands_5 (by decide) (fun c2 => ?_) (fun c2 => ?_)
  · have h := if_f h c2
    refine lv_aload_n C.1 C.2.1 dX10_stands_10 rfl (lv_at hl 0 rfl) ?_
    obtain ⟨hk, h⟩ := ckk_ok h
    obtain ⟨a3, h_a3, h⟩ := bd_ok h
    refine gk10_38 C X hW hk h_a3 dX10_stands_11 ?_
    obtain ⟨hk, h⟩ := ckk_ok h
    obtain ⟨a4, h_a4, h⟩ := bd_ok h
    refine gk10_93 C X hW hk h_a4 dX10_stands_14 ?_
    refine lv_aload_n C.1 C.2.1 dX10_stands_17 rfl (lv_at hl 1 rfl) ?_
    obtain ⟨hk, h⟩ := ckk_ok h
    refine gk10_149 C X hW hk dX10_stands_18 ?_
    obtain ⟨hk, h⟩ := ckk_ok h
    obtain ⟨hin2, h⟩ := ck_ok h
    refine c_aald C 30 (by decide) X.2.2.2.2.1 hW hk hin2 dX10_stands_21 ?_
    refine lt_ok h (fun o5 e_o5 h => ?_)
    refine lv_nmq e_o5 ?_
    refine lv_astore_nq (o := o5) (lv' := [(2, va_rf o5), (0, .ref v0), (1, .ref v1)]) C.1 C.2.1 dX10_stands_22 rfl hl (by decide) rfl (fun ls hl => ?_)
    exact wk_10_stands_23 C X hW mFU h (lv_sub hl [1, 2, 0] rfl)
  · have h := if_t h c2
    refine lv_iconst (v := 0) C.1 C.2.1 dX10_stands_8 (by decide) ?_
    obtain ⟨hzo, h⟩ := ckz_ok h
    cases h
    exact c_retn C (by rcases hzo with h9 | h9 <;> (rw [h9]; rfl)) rfl rfl dX10_stands_9
end
theorem dX10_bindOf_0 : decode cX10_bindOf 0 = .ok (.aload_n 0, 1) := by decide +kernel
theorem dX10_bindOf_1 : decode cX10_bindOf 1 = .ok (.getfield 38, 3) := by decide +kernel
theorem dX10_bindOf_4 : decode cX10_bindOf 4 = .ok (.getfield 93, 3) := by decide +kernel
theorem dX10_bindOf_7 : decode cX10_bindOf 7 = .ok (.iload_n 1, 1) := by decide +kernel
theorem dX10_bindOf_8 : decode cX10_bindOf 8 = .ok (.aaload, 1) := by decide +kernel
theorem dX10_bindOf_9 : decode cX10_bindOf 9 = .ok (.astore_n 3, 1) := by decide +kernel
theorem dX10_bindOf_10 : decode cX10_bindOf 10 = .ok (.aload_n 3, 1) := by decide +kernel
theorem dX10_bindOf_11 : decode cX10_bindOf 11 = .ok (.ifnull 50, 3) := by decide +kernel
theorem dX10_bindOf_14 : decode cX10_bindOf 14 = .ok (.aload_n 3, 1) := by decide +kernel
theorem dX10_bindOf_15 : decode cX10_bindOf 15 = .ok (.getfield 102, 3) := by decide +kernel
theorem dX10_bindOf_18 : decode cX10_bindOf 18 = .ok (.iload_n 2, 1) := by decide +kernel
theorem dX10_bindOf_19 : decode cX10_bindOf 19 = .ok (.if_icmp .ne 26, 3) := by decide +kernel
theorem dX10_bindOf_22 : decode cX10_bindOf 22 = .ok (.aload_n 0, 1) := by decide +kernel
theorem dX10_bindOf_23 : decode cX10_bindOf 23 = .ok (.aload_n 3, 1) := by decide +kernel
theorem dX10_bindOf_24 : decode cX10_bindOf 24 = .ok (.invokevirtual 96, 3) := by decide +kernel
theorem dX10_bindOf_27 : decode cX10_bindOf 27 = .ok (.ifCond .eq 18, 3) := by decide +kernel
theorem dX10_bindOf_30 : decode cX10_bindOf 30 = .ok (.aload_n 3, 1) := by decide +kernel
theorem dX10_bindOf_31 : decode cX10_bindOf 31 = .ok (.getfield 108, 3) := by decide +kernel
theorem dX10_bindOf_34 : decode cX10_bindOf 34 = .ok (.bipush 15, 2) := by decide +kernel
theorem dX10_bindOf_36 : decode cX10_bindOf 36 = .ok (.if_icmp .ne 7, 3) := by decide +kernel
theorem dX10_bindOf_39 : decode cX10_bindOf 39 = .ok (.aload_n 3, 1) := by decide +kernel
theorem dX10_bindOf_40 : decode cX10_bindOf 40 = .ok (.goto 4, 3) := by decide +kernel
theorem dX10_bindOf_43 : decode cX10_bindOf 43 = .ok (.aconst_null, 1) := by decide +kernel
theorem dX10_bindOf_44 : decode cX10_bindOf 44 = .ok (.areturn, 1) := by decide +kernel
theorem dX10_bindOf_45 : decode cX10_bindOf 45 = .ok (.aload_n 0, 1) := by decide +kernel
theorem dX10_bindOf_46 : decode cX10_bindOf 46 = .ok (.getfield 38, 3) := by decide +kernel
theorem dX10_bindOf_49 : decode cX10_bindOf 49 = .ok (.getfield 99, 3) := by decide +kernel
theorem dX10_bindOf_52 : decode cX10_bindOf 52 = .ok (.aload_n 3, 1) := by decide +kernel
theorem dX10_bindOf_53 : decode cX10_bindOf 53 = .ok (.getfield 68, 3) := by decide +kernel
theorem dX10_bindOf_56 : decode cX10_bindOf 56 = .ok (.aaload, 1) := by decide +kernel
theorem dX10_bindOf_57 : decode cX10_bindOf 57 = .ok (.astore_n 3, 1) := by decide +kernel
theorem dX10_bindOf_58 : decode cX10_bindOf 58 = .ok (.goto (-48), 3) := by decide +kernel
theorem dX10_bindOf_61 : decode cX10_bindOf 61 = .ok (.aconst_null, 1) := by decide +kernel
theorem dX10_bindOf_62 : decode cX10_bindOf 62 = .ok (.areturn, 1) := by decide +kernel
theorem kd_10_bindOf : Cond.code yX10_bindOf cX10_bindOf 4 (some (.object "AccordHouse$Row")) ∈ lw_g := mt_at 642 (by decide +kernel) rfl
theorem ki_10_bindOf : Cond.instanceMethod yX10_bindOf ∈ lw_g := mt_at 640 (by decide +kernel) rfl
theorem kl_10_bindOf : Cond.selects (kRn 10) yX10_bindOf yX10_bindOf ∈ lw_g := mt_at 641 (by decide +kernel) rfl
section
variable {p : Program} {l : Launch} {e : Env} {R : Room} {s : State} {m : MethodId} {args : Array Value} {below : List Frame} {meth : Method} {c : Code} {D : cG} {S : cSt} {r : Option Nat}
noncomputable def fk_10_bindOf_45 (g_10 : Nat → Int32 → Option Nat → Option (Option Nat)) (S : cSt) (v0 : Nat) (v2 : Int32) (v3 : Option Nat) : Option (Option Nat) :=
ckk S v0 11 (bd (kR S v0 7) fun a1 =>
ckk S a1 5 (bd (kR S a1 3) fun a2 =>
bd v3 fun a3 =>
ckk S a3 9 (
ckk S a2 30 (ck (kF S a3 12) (kL S a2) (lt (kO S a2 (Int32.toNatClampNeg (kF S a3 12))) fun o4 =>
g_10 v0 v2 o4)))))
set_option maxRecDepth 100000 in
set_option maxHeartbeats 4000000 in
theorem wk_10_bindOf_45 (C : cY p R s m args meth c RX10 cX10_bindOf 4 1 0 0 22 (some (.object "AccordHouse$Row"))) (X : cX D s) (hW : cW D S s.heap) {g_10 : Nat → Int32 → Option Nat → Option (Option Nat)} (hg_10 : ∀ {v0 : Nat} {v2 : Int32} {v3 : Option Nat} {ls : Array Slot}, g_10 v0 v2 v3 = some r → lv_has ls 4 [(0, .ref v0), (2, .int v2), (3, va_rf v3)] → W p l e R s m args below meth c s.heap [] 0 0 (MQ below (kQ (some (va_rf r))) args s 0 0 mNo) (F0 m 10 ls [])) : ∀ {v0 : Nat} {v2 : Int32} {v3 : Option Nat} {ls : Array Slot}, fk_10_bindOf_45 g_10 S v0 v2 v3 = some r → lv_has ls 4 [(0, .ref v0), (2, .int v2), (3, va_rf v3)] → W p l e R s m args below meth c s.heap [] 0 0 (MQ below (kQ (some (va_rf r))) args s 0 0 mNo) (F0 m 45 ls []) := by
  intro v0 v2 v3 ls h hl
  unfold fk_10_bindOf_45 at h
  refine lv_aload_n C.1 C.2.1 dX10_bindOf_45 rfl (lv_at hl 0 rfl) ?_
  obtain ⟨hk, h⟩ := ckk_ok h
  obtain ⟨a1, h_a1, h⟩ := bd_ok h
  refine gk10_38 C X hW hk h_a1 dX10_bindOf_46 ?_
  obtain ⟨hk, h⟩ := ckk_ok h
  obtain ⟨a2, h_a2, h⟩ := bd_ok h
  refine gk10_99 C X hW hk h_a2 dX10_bindOf_49 ?_
  refine lv_aload_nq (o := v3) C.1 C.2.1 dX10_bindOf_52 rfl (lv_at hl 2 rfl) ?_
  obtain ⟨a3, e_a3, h⟩ := bd_ok h
  revert h; subst e_a3; intro h
  obtain ⟨hk, h⟩ := ckk_ok h
  refine gk10_68 C X hW hk dX10_bindOf_53 ?_
  obtain ⟨hk, h⟩ := ckk_ok h
  obtain ⟨hin2, h⟩ := ck_ok h
  refine c_aald C 30 (by decide) X.2.2.2.2.1 hW hk hin2 dX10_bindOf_56 ?_
  refine lt_ok h (fun o4 e_o4 h => ?_)
  refine lv_nmq e_o4 ?_
  refine lv_astore_nq (o := o4) (lv' := [(3, va_rf o4), (0, .ref v0), (2, .int v2)]) C.1 C.2.1 dX10_bindOf_57 rfl hl (by decide) rfl (fun ls hl => ?_)
  refine lv_goto (tgt := 10) C.1 C.2.1 dX10_bindOf_58 (by decide) ?_
  exact hg_10 h (lv_sub hl [1, 2, 0] rfl)
noncomputable def fk_10_bindOf_44 (S : cSt) (s0 : Option Nat) : Option (Option Nat) :=
some s0
set_option maxRecDepth 100000 in
set_option maxHeartbeats 4000000 in
theorem wk_10_bindOf_44 (C : cY p R s m args meth c RX10 cX10_bindOf 4 1 0 0 22 (some (.object "AccordHouse$Row"))) (X : cX D s) (hW : cW D S s.heap) : ∀ {s0 : Option Nat} {ls : Array Slot}, fk_10_bindOf_44 S s0 = some r → lv_has ls 4 [] → W p l e R s m args below meth c s.heap [] 0 0 (MQ below (kQ (some (va_rf r))) args s 0 0 mNo) (F0 m 44 ls [va_rf s0]) := by
  intro s0 ls h hl
  unfold fk_10_bindOf_44 at h
  cases h
  exact c_reta C rfl rfl dX10_bindOf_44
noncomputable def fk_10_bindOf_10 (S : cSt) : Nat → Nat → Int32 → Option Nat → Option (Option Nat)
  | 0, _, _, _ => none
  | n + 1, v0, v2, v3 =>
    cs v3 (
    some none) (fun a1 =>
    ckk S a1 9 (
    if (kF S a1 4) = v2 then (
    ckk S v0 11 (bd (fk_10_isGood S v0 a1) fun r3 =>
    if r3 = 0 then (
    fk_10_bindOf_45 (fk_10_bindOf_10 S n) S v0 v2 (some a1))
    else (
    ckk S a1 9 (
    if (kF S a1 0) = (15 : Int32) then (
    fk_10_bindOf_44 S (some a1))
    else (
    fk_10_bindOf_44 S none)))))
    else (
    fk_10_bindOf_45 (fk_10_bindOf_10 S n) S v0 v2 (some a1))))
set_option maxRecDepth 100000 in
set_option maxHeartbeats 4000000 in
theorem wk_10_bindOf_10 (C : cY p R s m args meth c RX10 cX10_bindOf 4 1 0 0 22 (some (.object "AccordHouse$Row"))) (X : cX D s) (hW : cW D S s.heap) : ∀ (n : Nat), ∀ {v0 : Nat} {v2 : Int32} {v3 : Option Nat} {ls : Array Slot}, fk_10_bindOf_10 S n v0 v2 v3 = some r → lv_has ls 4 [(0, .ref v0), (2, .int v2), (3, va_rf v3)] → W p l e R s m args below meth c s.heap [] 0 0 (MQ below (kQ (some (va_rf r))) args s 0 0 mNo) (F0 m 10 ls []) := by
  intro n
  induction n with
  | zero =>
    intro v0 v2 v3 ls h hl
    exact absurd (show (none : Option (Option Nat)) = _ from h) (fun q => by cases q)
  | succ n ih =>
    intro v0 v2 v3 ls h hl
    rw [fk_10_bindOf_10] at h
    refine lv_aload_nq (o := v3) C.1 C.2.1 dX10_bindOf_10 rfl (lv_at hl 2 rfl) ?_
    rcases v3 with _ | a1
    · replace h := cs_n h
      refine lv_ifnullN (tgt := 61) C.1 C.2.1 dX10_bindOf_11 (by decide) ?_
      refine lv_null C.1 C.2.1 dX10_bindOf_61 ?_
      cases h
      exact c_reta (o := none) C rfl rfl dX10_bindOf_62
    · replace h := cs_s h
      refine lv_ifnull C.1 C.2.1 dX10_bindOf_11 ?_
      refine lv_aload_n C.1 C.2.1 dX10_bindOf_14 rfl (lv_at hl 2 rfl) ?_
      obtain ⟨hk, h⟩ := ckk_ok h
      refine gk10_102 C X hW hk dX10_bindOf_15 ?_
      refine lv_iload_n C.1 C.2.1 dX10_bindOf_18 rfl (lv_at hl 1 rfl) ?_
      refine lv_icmp_ne (tgt := 45) C.1 C.2.1 dX10_bindOf_19 (by decide) (fun c2 => ?_) (fun c2 => ?_)
      · have h := if_f h c2
        exact wk_10_bindOf_45 C X hW ih h (lv_sub hl [0, 1, 2] rfl)
      · have h := if_t h c2
        refine lv_aload_n C.1 C.2.1 dX10_bindOf_22 rfl (lv_at hl 0 rfl) ?_
        refine lv_aload_n C.1 C.2.1 dX10_bindOf_23 rfl (lv_at hl 2 rfl) ?_
        obtain ⟨hk, h⟩ := ckk_ok h
        obtain ⟨r3, h_r3, h⟩ := bd_ok h
        refine c_callR (rest := []) C X hW hl.1 10 (by decide) hk [.ref a1] (tk_10_isGood l h_r3) cw10_96 ki_10_isGood kl_10_isGood rfl ⟨by decide, by decide⟩ ⟨(by decide), (by decide)⟩ rfl (Nat.le_of_ble_eq_true rfl) dX10_bindOf_24 ?_
        refine W.eq (g2 := F0 m 27 ls [.int r3]) rfl ?_
        refine lv_if_eq (tgt := 45) C.1 C.2.1 dX10_bindOf_27 (by decide) (fun c4 => ?_) (fun c4 => ?_)
        · have h := if_t h c4
          exact wk_10_bindOf_45 C X hW ih h (lv_sub hl [0, 1, 2] rfl)
        · have h := if_f h c4
          refine lv_aload_n C.1 C.2.1 dX10_bindOf_30 rfl (lv_at hl 2 rfl) ?_
          obtain ⟨hk, h⟩ := ckk_ok h
          refine gk10_108 C X hW hk dX10_bindOf_31 ?_
          refine lv_bipush (v := 15) C.1 C.2.1 dX10_bindOf_34 (by decide) ?_
          refine lv_icmp_ne (tgt := 43) C.1 C.2.1 dX10_bindOf_36 (by decide) (fun c5 => ?_) (fun c5 => ?_)
          · have h := if_f h c5
            refine lv_null C.1 C.2.1 dX10_bindOf_43 ?_
            exact wk_10_bindOf_44 C X hW h (lv_sub hl [] rfl)
          · have h := if_t h c5
            refine lv_aload_n C.1 C.2.1 dX10_bindOf_39 rfl (lv_at hl 2 rfl) ?_
            refine lv_goto (tgt := 44) C.1 C.2.1 dX10_bindOf_40 (by decide) ?_
            exact wk_10_bindOf_44 C X hW h (lv_sub hl [] rfl)
noncomputable def fk_10_bindOf (S : cSt) (v0 : Nat) (v1 : Int32) (v2 : Int32) : Option (Option Nat) :=
ckk S v0 11 (bd (kR S v0 7) fun a1 =>
ckk S a1 5 (bd (kR S a1 6) fun a2 =>
ckk S a2 30 (ck v1 (kL S a2) (lt (kO S a2 (Int32.toNatClampNeg v1)) fun o3 =>
fk_10_bindOf_10 S mFU v0 v2 o3))))
set_option maxRecDepth 100000 in
set_option maxHeartbeats 4000000 in
theorem tk_10_bindOf (l : Launch) {D : cG} {S : cSt} {v0 : Nat} {v1 : Int32} {v2 : Int32} {r : Option Nat}  (h : fk_10_bindOf S v0 v1 v2 = some r) : Met l yX10_bindOf (Cond.code yX10_bindOf cX10_bindOf 4 (some (.object "AccordHouse$Row")) :: lw_g) { frames := 1, cells := 0, slots := 0, locals := 22 } (kPi [.ref v0, .int v1, .int v2] D S) (kQ (some (va_rf r))) 0 0 (mNo) := by
  refine Met.ofW (cc := cX10_bindOf) (maxL := 4) (ret := (some (.object "AccordHouse$Row"))) (by decide) rfl ?_
  intro p e s m args below meth c s₁ B hml hv
  obtain ⟨rfl, hW, X⟩ := hv
  have C : cY p (headSpec (Cond.code yX10_bindOf cX10_bindOf 4 (some (.object "AccordHouse$Row")) :: lw_g) { frames := 1, cells := 0, slots := 0, locals := 22 }).room s m _ meth c RX10 cX10_bindOf 4 1 0 0 22 (some (.object "AccordHouse$Row")) := ⟨B.exec, B.bytes, hml, findClass_of_methodNamed B.named, fun w hw => atoms_spec (ws := Cond.code yX10_bindOf cX10_bindOf 4 (some (.object "AccordHouse$Row")) :: lw_g) B.pre w (List.mem_cons_of_mem _ hw), ⟨Nat.le_refl _, Nat.le_refl _, Nat.le_refl _, Nat.le_refl _⟩, B.returns, B.notSynchronized⟩
  have hl := lv_entry ([.ref v0, .int v1, .int v2]) (n := 4) (Nat.le_of_ble_eq_true rfl)
  rw [lg_entry_eq]
  generalize (lg_sl ([.ref v0, .int v1, .int v2]) ++ List.replicate (4 - (lg_sl ([.ref v0, .int v1, .int v2])).length) Slot.unset).toArray = ls at hl ⊢
  have hl : lv_has ls 4 [(0, .ref v0), (1, .int v1), (2, .int v2)] := hl
  unfold fk_10_bindOf at h
  refine lv_aload_n C.1 C.2.1 dX10_bindOf_0 rfl (lv_at hl 0 rfl) ?_
  obtain ⟨hk, h⟩ := ckk_ok h
  obtain ⟨a1, h_a1, h⟩ := bd_ok h
  refine gk10_38 C X hW hk h_a1 dX10_bindOf_1 ?_
  obtain ⟨hk, h⟩ := ckk_ok h
  obtain ⟨a2, h_a2, h⟩ := bd_ok h
  refine gk10_93 C X hW hk h_a2 dX10_bindOf_4 ?_
  refine lv_iload_n C.1 C.2.1 dX10_bindOf_7 rfl (lv_at hl 1 rfl) ?_
  obtain ⟨hk, h⟩ := ckk_ok h
  obtain ⟨hin2, h⟩ := ck_ok h
  refine c_aald C 30 (by decide) X.2.2.2.2.1 hW hk hin2 dX10_bindOf_8 ?_
  refine lt_ok h (fun o3 e_o3 h => ?_)
  refine lv_nmq e_o3 ?_
  refine lv_astore_nq (o := o3) (lv' := [(3, va_rf o3), (0, .ref v0), (1, .int v1), (2, .int v2)]) C.1 C.2.1 dX10_bindOf_9 rfl hl (by decide) rfl (fun ls hl => ?_)
  exact wk_10_bindOf_10 C X hW mFU h (lv_sub hl [1, 3, 0] rfl)
end
theorem dX10_glanceFurther_0 : decode cX10_glanceFurther 0 = .ok (.aload_n 1, 1) := by decide +kernel
theorem dX10_glanceFurther_1 : decode cX10_glanceFurther 1 = .ok (.getfield 108, 3) := by decide +kernel
theorem dX10_glanceFurther_4 : decode cX10_glanceFurther 4 = .ok (.tableswitch 149 9 16 #[48, 67, 149, 149, 149, 149, 102, 102], 48) := by decide +kernel
theorem dX10_glanceFurther_52 : decode cX10_glanceFurther 52 = .ok (.aload_n 2, 1) := by decide +kernel
theorem dX10_glanceFurther_53 : decode cX10_glanceFurther 53 = .ok (.iconst 0, 1) := by decide +kernel
theorem dX10_glanceFurther_54 : decode cX10_glanceFurther 54 = .ok (.aload_n 0, 1) := by decide +kernel
theorem dX10_glanceFurther_55 : decode cX10_glanceFurther 55 = .ok (.aload_n 1, 1) := by decide +kernel
theorem dX10_glanceFurther_56 : decode cX10_glanceFurther 56 = .ok (.invokevirtual 200, 3) := by decide +kernel
theorem dX10_glanceFurther_59 : decode cX10_glanceFurther 59 = .ok (.ifCond .eq 7, 3) := by decide +kernel
theorem dX10_glanceFurther_62 : decode cX10_glanceFurther 62 = .ok (.iconst 1, 1) := by decide +kernel
theorem dX10_glanceFurther_63 : decode cX10_glanceFurther 63 = .ok (.goto 4, 3) := by decide +kernel
theorem dX10_glanceFurther_66 : decode cX10_glanceFurther 66 = .ok (.iconst 0, 1) := by decide +kernel
theorem dX10_glanceFurther_67 : decode cX10_glanceFurther 67 = .ok (.iastore, 1) := by decide +kernel
theorem dX10_glanceFurther_68 : decode cX10_glanceFurther 68 = .ok (.goto 85, 3) := by decide +kernel
theorem dX10_glanceFurther_71 : decode cX10_glanceFurther 71 = .ok (.aload_n 0, 1) := by decide +kernel
theorem dX10_glanceFurther_72 : decode cX10_glanceFurther 72 = .ok (.getfield 34, 3) := by decide +kernel
theorem dX10_glanceFurther_75 : decode cX10_glanceFurther 75 = .ok (.aload_n 1, 1) := by decide +kernel
theorem dX10_glanceFurther_76 : decode cX10_glanceFurther 76 = .ok (.getfield 111, 3) := by decide +kernel
theorem dX10_glanceFurther_79 : decode cX10_glanceFurther 79 = .ok (.invokevirtual 203, 3) := by decide +kernel
theorem dX10_glanceFurther_82 : decode cX10_glanceFurther 82 = .ok (.astore_n 3, 1) := by decide +kernel
theorem dX10_glanceFurther_83 : decode cX10_glanceFurther 83 = .ok (.aload_n 2, 1) := by decide +kernel
theorem dX10_glanceFurther_84 : decode cX10_glanceFurther 84 = .ok (.iconst 0, 1) := by decide +kernel
theorem dX10_glanceFurther_85 : decode cX10_glanceFurther 85 = .ok (.aload_n 3, 1) := by decide +kernel
theorem dX10_glanceFurther_86 : decode cX10_glanceFurther 86 = .ok (.ifnull 15, 3) := by decide +kernel
theorem dX10_glanceFurther_89 : decode cX10_glanceFurther 89 = .ok (.aload_n 0, 1) := by decide +kernel
theorem dX10_glanceFurther_90 : decode cX10_glanceFurther 90 = .ok (.aload_n 3, 1) := by decide +kernel
theorem dX10_glanceFurther_91 : decode cX10_glanceFurther 91 = .ok (.invokevirtual 200, 3) := by decide +kernel
theorem dX10_glanceFurther_94 : decode cX10_glanceFurther 94 = .ok (.ifCond .eq 7, 3) := by decide +kernel
theorem dX10_glanceFurther_97 : decode cX10_glanceFurther 97 = .ok (.iconst 1, 1) := by decide +kernel
theorem dX10_glanceFurther_98 : decode cX10_glanceFurther 98 = .ok (.goto 4, 3) := by decide +kernel
theorem dX10_glanceFurther_101 : decode cX10_glanceFurther 101 = .ok (.iconst 0, 1) := by decide +kernel
theorem dX10_glanceFurther_102 : decode cX10_glanceFurther 102 = .ok (.iastore, 1) := by decide +kernel
theorem dX10_glanceFurther_103 : decode cX10_glanceFurther 103 = .ok (.goto 50, 3) := by decide +kernel
theorem dX10_glanceFurther_106 : decode cX10_glanceFurther 106 = .ok (.aload_n 0, 1) := by decide +kernel
theorem dX10_glanceFurther_107 : decode cX10_glanceFurther 107 = .ok (.aload_n 1, 1) := by decide +kernel
theorem dX10_glanceFurther_108 : decode cX10_glanceFurther 108 = .ok (.getfield 149, 3) := by decide +kernel
theorem dX10_glanceFurther_111 : decode cX10_glanceFurther 111 = .ok (.aload_n 1, 1) := by decide +kernel
theorem dX10_glanceFurther_112 : decode cX10_glanceFurther 112 = .ok (.getfield 102, 3) := by decide +kernel
theorem dX10_glanceFurther_115 : decode cX10_glanceFurther 115 = .ok (.invokevirtual 206, 3) := by decide +kernel
theorem dX10_glanceFurther_118 : decode cX10_glanceFurther 118 = .ok (.astore 4, 2) := by decide +kernel
theorem dX10_glanceFurther_120 : decode cX10_glanceFurther 120 = .ok (.aload_n 2, 1) := by decide +kernel
theorem dX10_glanceFurther_121 : decode cX10_glanceFurther 121 = .ok (.iconst 0, 1) := by decide +kernel
theorem dX10_glanceFurther_122 : decode cX10_glanceFurther 122 = .ok (.aload 4, 2) := by decide +kernel
theorem dX10_glanceFurther_124 : decode cX10_glanceFurther 124 = .ok (.ifnonnull 7, 3) := by decide +kernel
theorem dX10_glanceFurther_127 : decode cX10_glanceFurther 127 = .ok (.iconst 0, 1) := by decide +kernel
theorem dX10_glanceFurther_128 : decode cX10_glanceFurther 128 = .ok (.goto 4, 3) := by decide +kernel
theorem dX10_glanceFurther_131 : decode cX10_glanceFurther 131 = .ok (.iconst 1, 1) := by decide +kernel
theorem dX10_glanceFurther_132 : decode cX10_glanceFurther 132 = .ok (.iastore, 1) := by decide +kernel
theorem dX10_glanceFurther_133 : decode cX10_glanceFurther 133 = .ok (.aload_n 2, 1) := by decide +kernel
theorem dX10_glanceFurther_134 : decode cX10_glanceFurther 134 = .ok (.iconst 1, 1) := by decide +kernel
theorem dX10_glanceFurther_135 : decode cX10_glanceFurther 135 = .ok (.aload 4, 2) := by decide +kernel
theorem dX10_glanceFurther_137 : decode cX10_glanceFurther 137 = .ok (.ifnonnull 7, 3) := by decide +kernel
theorem dX10_glanceFurther_140 : decode cX10_glanceFurther 140 = .ok (.iconst 0, 1) := by decide +kernel
theorem dX10_glanceFurther_141 : decode cX10_glanceFurther 141 = .ok (.goto 8, 3) := by decide +kernel
theorem dX10_glanceFurther_144 : decode cX10_glanceFurther 144 = .ok (.aload 4, 2) := by decide +kernel
theorem dX10_glanceFurther_146 : decode cX10_glanceFurther 146 = .ok (.getfield 111, 3) := by decide +kernel
theorem dX10_glanceFurther_149 : decode cX10_glanceFurther 149 = .ok (.iastore, 1) := by decide +kernel
theorem dX10_glanceFurther_150 : decode cX10_glanceFurther 150 = .ok (.goto 3, 3) := by decide +kernel
theorem dX10_glanceFurther_153 : decode cX10_glanceFurther 153 = .ok (.return_, 1) := by decide +kernel
theorem kd_10_glanceFurther : Cond.code yX10_glanceFurther cX10_glanceFurther 5 none ∈ lw_g := mt_at 1119 (by decide +kernel) rfl
theorem ki_10_glanceFurther : Cond.instanceMethod yX10_glanceFurther ∈ lw_g := mt_at 1118 (by decide +kernel) rfl
theorem kl_10_glanceFurther : Cond.selects (kRn 10) yX10_glanceFurther yX10_glanceFurther ∈ lw_g := mt_sel 16 (by decide +kernel) rfl
theorem cw10_200 : cCw RX10 200 yX10_stands cX10_stands 3 (some .boolean) 1 := ⟨kd_10_stands, mt_at 1120 (by decide +kernel) rfl, mt_at 10 (by decide +kernel) rfl, by decide +kernel⟩
theorem cw10_203 : cCw RX10 203 yX0_rowNamed cX0_rowNamed 3 (some (.object "AccordHouse$Row")) 1 := ⟨kd_0_rowNamed, mt_at 1124 (by decide +kernel) rfl, mt_at 3 (by decide +kernel) rfl, by decide +kernel⟩
theorem cw10_206 : cCw RX10 206 yX10_bindOf cX10_bindOf 4 (some (.object "AccordHouse$Row")) 2 := ⟨kd_10_bindOf, mt_at 1125 (by decide +kernel) rfl, mt_at 10 (by decide +kernel) rfl, by decide +kernel⟩
section
variable {p : Program} {l : Launch} {e : Env} {R : Room} {s : State} {m : MethodId} {args : Array Value} {below : List Frame} {meth : Method} {c : Code} {D : cG} {S0 S9 : cSt}
noncomputable def fk_10_glanceFurther_153 (S : cSt) : Option (cSt) :=
some S
set_option maxRecDepth 100000 in
set_option maxHeartbeats 4000000 in
theorem wk_10_glanceFurther_153 (C : cY p R s m args meth c RX10 cX10_glanceFurther 5 2 0 0 45 none) (X : cX D s) : ∀ {S : cSt} {H : Heap} {locs : List Loc} {ls : Array Slot}, fk_10_glanceFurther_153 S = some S9 → cJ D S0 s.heap S H locs → lv_has ls 5 [] → W p l e R s m args below meth c H locs 0 0 (MQ below (kW none D S0 S9) args s 0 0 (cA S0)) (F0 m 153 ls []) := by
  intro S H locs ls h hJ hl
  unfold fk_10_glanceFurther_153 at h
  cases h
  exact c_retvW C hJ dX10_glanceFurther_153
noncomputable def fk_10_glanceFurther_67 (S : cSt) (s0 : Nat) (s1 : Int32) (s2 : Int32) : Option (cSt) :=
ckk S s0 20 (ck s1 (kL S s0) (lt (cWi S s0 (Int32.toNatClampNeg s1) s2) fun S1 =>
fk_10_glanceFurther_153 S1))
set_option maxRecDepth 100000 in
set_option maxHeartbeats 4000000 in
theorem wk_10_glanceFurther_67 (C : cY p R s m args meth c RX10 cX10_glanceFurther 5 2 0 0 45 none) (X : cX D s) : ∀ {S : cSt} {s0 : Nat} {s1 : Int32} {s2 : Int32} {H : Heap} {locs : List Loc} {ls : Array Slot}, fk_10_glanceFurther_67 S s0 s1 s2 = some S9 → cJ D S0 s.heap S H locs → lv_has ls 5 [] → W p l e R s m args below meth c H locs 0 0 (MQ below (kW none D S0 S9) args s 0 0 (cA S0)) (F0 m 67 ls [.int s2, .int s1, .ref s0]) := by
  intro S s0 s1 s2 H locs ls h hJ hl
  unfold fk_10_glanceFurther_67 at h
  obtain ⟨hk, h⟩ := ckk_ok h
  obtain ⟨hin2, h⟩ := ck_ok h
  refine c_iast C X hJ hk hin2 dX10_glanceFurther_67 (fun H locs hJ => ?_)
  refine lt_ok h (fun S1 e_S1 h => ?_)
  rw [e_S1] at hJ
  refine lv_goto (tgt := 153) C.1 C.2.1 dX10_glanceFurther_68 (by decide) ?_
  exact wk_10_glanceFurther_153 C X h hJ (lv_sub hl [] rfl)
noncomputable def fk_10_glanceFurther_102 (S : cSt) (s0 : Nat) (s1 : Int32) (s2 : Int32) : Option (cSt) :=
ckk S s0 20 (ck s1 (kL S s0) (lt (cWi S s0 (Int32.toNatClampNeg s1) s2) fun S1 =>
fk_10_glanceFurther_153 S1))
set_option maxRecDepth 100000 in
set_option maxHeartbeats 4000000 in
theorem wk_10_glanceFurther_102 (C : cY p R s m args meth c RX10 cX10_glanceFurther 5 2 0 0 45 none) (X : cX D s) : ∀ {S : cSt} {s0 : Nat} {s1 : Int32} {s2 : Int32} {H : Heap} {locs : List Loc} {ls : Array Slot}, fk_10_glanceFurther_102 S s0 s1 s2 = some S9 → cJ D S0 s.heap S H locs → lv_has ls 5 [] → W p l e R s m args below meth c H locs 0 0 (MQ below (kW none D S0 S9) args s 0 0 (cA S0)) (F0 m 102 ls [.int s2, .int s1, .ref s0]) := by
  intro S s0 s1 s2 H locs ls h hJ hl
  unfold fk_10_glanceFurther_102 at h
  obtain ⟨hk, h⟩ := ckk_ok h
  obtain ⟨hin2, h⟩ := ck_ok h
  refine c_iast C X hJ hk hin2 dX10_glanceFurther_102 (fun H locs hJ => ?_)
  refine lt_ok h (fun S1 e_S1 h => ?_)
  rw [e_S1] at hJ
  refine lv_goto (tgt := 153) C.1 C.2.1 dX10_glanceFurther_103 (by decide) ?_
  exact wk_10_glanceFurther_153 C X h hJ (lv_sub hl [] rfl)
noncomputable def fk_10_glanceFurther_101 (S : cSt) (s0 : Nat) (s1 : Int32) : Option (cSt) :=
fk_10_glanceFurther_102 S s0 s1 (0 : Int32)
set_option maxRecDepth 100000 in
set_option maxHeartbeats 4000000 in
theorem wk_10_glanceFurther_101 (C : cY p R s m args meth c RX10 cX10_glanceFurther 5 2 0 0 45 none) (X : cX D s) : ∀ {S : cSt} {s0 : Nat} {s1 : Int32} {H : Heap} {locs : List Loc} {ls : Array Slot}, fk_10_glanceFurther_101 S s0 s1 = some S9 → cJ D S0 s.heap S H locs → lv_has ls 5 [] → W p l e R s m args below meth c H locs 0 0 (MQ below (kW none D S0 S9) args s 0 0 (cA S0)) (F0 m 101 ls [.int s1, .ref s0]) := by
  intro S s0 s1 H locs ls h hJ hl
  unfold fk_10_glanceFurther_101 at h
  refine lv_iconst (v := 0) C.1 C.2.1 dX10_glanceFurther_101 (by decide) ?_
  exact wk_10_glanceFurther_102 C X h hJ (lv_sub hl [] rfl)
noncomputable def fk_10_glanceFurther_149 (S : cSt) (s0 : Nat) (s1 : Int32) (s2 : Int32) : Option (cSt) :=
ckk S s0 20 (ck s1 (kL S s0) (lt (cWi S s0 (Int32.toNatClampNeg s1) s2) fun S1 =>
fk_10_glanceFurther_153 S1))
set_option maxRecDepth 100000 in
set_option maxHeartbeats 4000000 in
theorem wk_10_glanceFurther_149 (C : cY p R s m args meth c RX10 cX10_glanceFurther 5 2 0 0 45 none) (X : cX D s) : ∀ {S : cSt} {s0 : Nat} {s1 : Int32} {s2 : Int32} {H : Heap} {locs : List Loc} {ls : Array Slot}, fk_10_glanceFurther_149 S s0 s1 s2 = some S9 → cJ D S0 s.heap S H locs → lv_has ls 5 [] → W p l e R s m args below meth c H locs 0 0 (MQ below (kW none D S0 S9) args s 0 0 (cA S0)) (F0 m 149 ls [.int s2, .int s1, .ref s0]) := by
  intro S s0 s1 s2 H locs ls h hJ hl
  unfold fk_10_glanceFurther_149 at h
  obtain ⟨hk, h⟩ := ckk_ok h
  obtain ⟨hin2, h⟩ := ck_ok h
  refine c_iast C X hJ hk hin2 dX10_glanceFurther_149 (fun H locs hJ => ?_)
  refine lt_ok h (fun S1 e_S1 h => ?_)
  rw [e_S1] at hJ
  refine lv_goto (tgt := 153) C.1 C.2.1 dX10_glanceFurther_150 (by decide) ?_
  exact wk_10_glanceFurther_153 C X h hJ (lv_sub hl [] rfl)
noncomputable def fk_10_glanceFurther_132 (S : cSt) (v2 : Nat) (v4 : Option Nat) (s0 : Nat) (s1 : Int32) (s2 : Int32) : Option (cSt) :=
ckk S s0 20 (ck s1 (kL S s0) (lt (cWi S s0 (Int32.toNatClampNeg s1) s2) fun S1 =>
cs v4 (
fk_10_glanceFurther_149 S1 v2 (1 : Int32) (0 : Int32)) (fun a2 =>
ckk S1 a2 9 (
fk_10_glanceFurther_149 S1 v2 (1 : Int32) (kF S1 a2 5)))))
set_option maxRecDepth 100000 in
set_option maxHeartbeats 4000000 in
theorem wk_10_glanceFurther_132 (C : cY p R s m args meth c RX10 cX10_glanceFurther 5 2 0 0 45 none) (X : cX D s) : ∀ {S : cSt} {v2 : Nat} {v4 : Option Nat} {s0 : Nat} {s1 : Int32} {s2 : Int32} {H : Heap} {locs : List Loc} {ls : Array Slot}, fk_10_glanceFurther_132 S v2 v4 s0 s1 s2 = some S9 → cJ D S0 s.heap S H locs → lv_has ls 5 [(2, .ref v2), (4, va_rf v4)] → W p l e R s m args below meth c H locs 0 0 (MQ below (kW none D S0 S9) args s 0 0 (cA S0)) (F0 m 132 ls [.int s2, .int s1, .ref s0]) := by
  intro S v2 v4 s0 s1 s2 H locs ls h hJ hl
  unfold fk_10_glanceFurther_132 at h
  obtain ⟨hk, h⟩ := ckk_ok h
  obtain ⟨hin2, h⟩ := ck_ok h
  refine c_iast C X hJ hk hin2 dX10_glanceFurther_132 (fun H locs hJ => ?_)
  refine lt_ok h (fun S1 e_S1 h => ?_)
  rw [e_S1] at hJ
  refine lv_aload_n C.1 C.2.1 dX10_glanceFurther_133 rfl (lv_at hl 0 rfl) ?_
  refine lv_iconst (v := 1) C.1 C.2.1 dX10_glanceFurther_134 (by decide) ?_
  refine lv_aloadq (o := v4) C.1 C.2.1 dX10_glanceFurther_135 (lv_at hl 1 rfl) ?_
  rcases v4 with _ | a2
  · replace h := cs_n h
    refine lv_ifnonnullN C.1 C.2.1 dX10_glanceFurther_137 ?_
    refine lv_iconst (v := 0) C.1 C.2.1 dX10_glanceFurther_140 (by decide) ?_
    refine lv_goto (tgt := 149) C.1 C.2.1 dX10_glanceFurther_141 (by decide) ?_
    exact wk_10_glanceFurther_149 C X h hJ (lv_sub hl [] rfl)
  · replace h := cs_s h
    refine lv_ifnonnull (tgt := 144) C.1 C.2.1 dX10_glanceFurther_137 (by decide) ?_
    refine lv_aload C.1 C.2.1 dX10_glanceFurther_144 (lv_at hl 1 rfl) ?_
    obtain ⟨hk, h⟩ := ckk_ok h
    refine gk10_111 C X hJ.1 hk dX10_glanceFurther_146 ?_
    exact wk_10_glanceFurther_149 C X h hJ (lv_sub hl [] rfl)
noncomputable def fk_10_glanceFurther_106 (S : cSt) (v0 : Nat) (v1 : Nat) (v2 : Nat) : Option (cSt) :=
ckk S v1 9 (
ckk S v1 9 (
ckk S v0 11 (bd (fk_10_bindOf S v0 (kF S v1 13) (kF S v1 4)) fun o1 =>
cs o1 (
fk_10_glanceFurther_132 S v2 none v2 (0 : Int32) (0 : Int32)) (fun a2 =>
fk_10_glanceFurther_132 S v2 (some a2) v2 (0 : Int32) (1 : Int32)))))
set_option maxRecDepth 100000 in
set_option maxHeartbeats 4000000 in
theorem wk_10_glanceFurther_106 (C : cY p R s m args meth c RX10 cX10_glanceFurther 5 2 0 0 45 none) (X : cX D s) : ∀ {S : cSt} {v0 : Nat} {v1 : Nat} {v2 : Nat} {H : Heap} {locs : List Loc} {ls : Array Slot}, fk_10_glanceFurther_106 S v0 v1 v2 = some S9 → cJ D S0 s.heap S H locs → lv_has ls 5 [(0, .ref v0), (1, .ref v1), (2, .ref v2)] → W p l e R s m args below meth c H locs 0 0 (MQ below (kW none D S0 S9) args s 0 0 (cA S0)) (F0 m 106 ls []) := by
  intro S v0 v1 v2 H locs ls h hJ hl
  unfold fk_10_glanceFurther_106 at h
  refine lv_aload_n C.1 C.2.1 dX10_glanceFurther_106 rfl (lv_at hl 0 rfl) ?_
  refine lv_aload_n C.1 C.2.1 dX10_glanceFurther_107 rfl (lv_at hl 1 rfl) ?_
  obtain ⟨hk, h⟩ := ckk_ok h
  refine gk10_149 C X hJ.1 hk dX10_glanceFurther_108 ?_
  refine lv_aload_n C.1 C.2.1 dX10_glanceFurther_111 rfl (lv_at hl 1 rfl) ?_
  obtain ⟨hk, h⟩ := ckk_ok h
  refine gk10_102 C X hJ.1 hk dX10_glanceFurther_112 ?_
  obtain ⟨hk, h⟩ := ckk_ok h
  obtain ⟨o1, h_o1, h⟩ := bd_ok h
  refine c_callR (rest := []) C X hJ.1 hl.1 10 (by decide) hk [.int (kF S v1 13), .int (kF S v1 4)] (tk_10_bindOf l h_o1) cw10_206 ki_10_bindOf kl_10_bindOf rfl ⟨by decide, by decide⟩ ⟨(by decide), (by decide)⟩ rfl (Nat.le_of_ble_eq_true rfl) dX10_glanceFurther_115 ?_
  refine W.eq (g2 := F0 m 118 ls [va_rf o1]) rfl ?_
  refine lv_astoreq (o := o1) (lv' := [(4, va_rf o1), (0, .ref v0), (1, .ref v1), (2, .ref v2)]) C.1 C.2.1 dX10_glanceFurther_118 hl (by decide) rfl (fun ls hl => ?_)
  refine lv_aload_n C.1 C.2.1 dX10_glanceFurther_120 rfl (lv_at hl 3 rfl) ?_
  refine lv_iconst (v := 0) C.1 C.2.1 dX10_glanceFurther_121 (by decide) ?_
  refine lv_aloadq (o := o1) C.1 C.2.1 dX10_glanceFurther_122 (lv_at hl 0 rfl) ?_
  rcases o1 with _ | a2
  · replace h := cs_n h
    refine lv_ifnonnullN C.1 C.2.1 dX10_glanceFurther_124 ?_
    refine lv_iconst (v := 0) C.1 C.2.1 dX10_glanceFurther_127 (by decide) ?_
    refine lv_goto (tgt := 132) C.1 C.2.1 dX10_glanceFurther_128 (by decide) ?_
    exact wk_10_glanceFurther_132 C X h hJ (lv_sub hl [3, 0] rfl)
  · replace h := cs_s h
    refine lv_ifnonnull (tgt := 131) C.1 C.2.1 dX10_glanceFurther_124 (by decide) ?_
    refine lv_iconst (v := 1) C.1 C.2.1 dX10_glanceFurther_131 (by decide) ?_
    exact wk_10_glanceFurther_132 C X h hJ (lv_sub hl [3, 0] rfl)
noncomputable def fk_10_glanceFurther (S : cSt) (v0 : Nat) (v1 : Nat) (v2 : Nat) : Option (cSt) :=
ckk S v1 9 (
if (kF S v1 0) = (9 : Int32) then (
ckk S v0 11 (bd (fk_10_stands S v0 v1) fun r2 =>
if r2 = 0 then (
fk_10_glanceFurther_67 S v2 (0 : Int32) (0 : Int32))
else (
fk_10_glanceFurther_67 S v2 (0 : Int32) (1 : Int32))))
else if (kF S v1 0) = (10 : Int32) then (
ckk S v0 11 (bd (kR S v0 1) fun a5 =>
ckk S v1 9 (
ckk S a5 1 (bd (fk_0_rowNamed S a5 (kF S v1 5)) fun o6 =>
cs o6 (
fk_10_glanceFurther_101 S v2 (0 : Int32)) (fun a7 =>
ckk S v0 11 (bd (fk_10_stands S v0 a7) fun r8 =>
if r8 = 0 then (
fk_10_glanceFurther_101 S v2 (0 : Int32))
else (
fk_10_glanceFurther_102 S v2 (0 : Int32) (1 : Int32))))))))
else if (kF S v1 0) = (11 : Int32) then (
fk_10_glanceFurther_153 S)
else if (kF S v1 0) = (12 : Int32) then (
fk_10_glanceFurther_153 S)
else if (kF S v1 0) = (13 : Int32) then (
fk_10_glanceFurther_153 S)
else if (kF S v1 0) = (14 : Int32) then (
fk_10_glanceFurther_153 S)
else if (kF S v1 0) = (15 : Int32) then (
fk_10_glanceFurther_106 S v0 v1 v2)
else if (kF S v1 0) = (16 : Int32) then (
fk_10_glanceFurther_106 S v0 v1 v2)
else (
fk_10_glanceFurther_153 S))
set_option maxRecDepth 100000 in
set_option maxHeartbeats 4000000 in
theorem tk_10_glanceFurther (l : Launch) {D : cG} {S : cSt} {v0 : Nat} {v1 : Nat} {v2 : Nat} {S9 : cSt} (h : fk_10_glanceFurther S v0 v1 v2 = some S9) : Met l yX10_glanceFurther (Cond.code yX10_glanceFurther cX10_glanceFurther 5 none :: lw_g) { frames := 2, cells := 0, slots := 0, locals := 45 } (kPi [.ref v0, .ref v1, .ref v2] D S) (kW none D S S9) 0 0 (cA S) := by
  refine Met.ofW (cc := cX10_glanceFurther) (maxL := 5) (ret := none) (by decide) rfl ?_
  intro p e s m args below meth c s₁ B hml hv
  obtain ⟨rfl, hW, X⟩ := hv
  have C : cY p (headSpec (Cond.code yX10_glanceFurther cX10_glanceFurther 5 none :: lw_g) { frames := 2, cells := 0, slots := 0, locals := 45 }).room s m _ meth c RX10 cX10_glanceFurther 5 2 0 0 45 none := ⟨B.exec, B.bytes, hml, findClass_of_methodNamed B.named, fun w hw => atoms_spec (ws := Cond.code yX10_glanceFurther cX10_glanceFurther 5 none :: lw_g) B.pre w (List.mem_cons_of_mem _ hw), ⟨Nat.le_refl _, Nat.le_refl _, Nat.le_refl _, Nat.le_refl _⟩, B.returns, B.notSynchronized⟩
  have hl := lv_entry ([.ref v0, .ref v1, .ref v2]) (n := 5) (Nat.le_of_ble_eq_true rfl)
  rw [lg_entry_eq]
  generalize (lg_sl ([.ref v0, .ref v1, .ref v2]) ++ List.replicate (5 - (lg_sl ([.ref v0, .ref v1, .ref v2])).length) Slot.unset).toArray = ls at hl ⊢
  have hl : lv_has ls 5 [(0, .ref v0), (1, .ref v1), (2, .ref v2)] := hl
  have hJ : cJ D S s.heap S s.heap [] := cJ.rf hW
  unfold fk_10_glanceFurther at h
  refine lv_aload_n C.1 C.2.1 dX10_glanceFurther_0 rfl (lv_at hl 1 rfl) ?_
  obtain ⟨hk, h⟩ := ckk_ok h
  refine gk10_108 C X hJ.1 hk dX10_glanceFurther_1 ?_
  by_cases c1 : (kF S v1 0) = (9 : Int32)
  · have h := if_t h c1
    refine lv_tableIn (off := 48) (tgt := 52) C.1 C.2.1 dX10_glanceFurther_4 (by rw [c1]; decide) (by rw [c1]; decide) (by rw [c1]; rfl) (by decide) ?_
    refine lv_aload_n C.1 C.2.1 dX10_glanceFurther_52 rfl (lv_at hl 2 rfl) ?_
    refine lv_iconst (v := 0) C.1 C.2.1 dX10_glanceFurther_53 (by decide) ?_
    refine lv_aload_n C.1 C.2.1 dX10_glanceFurther_54 rfl (lv_at hl 0 rfl) ?_
    refine lv_aload_n C.1 C.2.1 dX10_glanceFurther_55 rfl (lv_at hl 1 rfl) ?_
    obtain ⟨hk, h⟩ := ckk_ok h
    obtain ⟨r2, h_r2, h⟩ := bd_ok h
    refine c_callR (rest := [.int (0 : Int32), .ref v2]) C X hJ.1 hl.1 10 (by decide) hk [.ref v1] (tk_10_stands l h_r2) cw10_200 ki_10_stands kl_10_stands rfl ⟨by decide, by decide⟩ ⟨(by decide), (by decide)⟩ rfl (Nat.le_of_ble_eq_true rfl) dX10_glanceFurther_56 ?_
    refine W.eq (g2 := F0 m 59 ls [.int r2, .int (0 : Int32), .ref v2]) rfl ?_
    refine lv_if_eq (tgt := 66) C.1 C.2.1 dX10_glanceFurther_59 (by decide) (fun c3 => ?_) (fun c3 => ?_)
    · have h := if_t h c3
      refine lv_iconst (v := 0) C.1 C.2.1 dX10_glanceFurther_66 (by decide) ?_
      exact wk_10_glanceFurther_67 C X h hJ (lv_sub hl [] rfl)
    · have h := if_f h c3
      refine lv_iconst (v := 1) C.1 C.2.1 dX10_glanceFurther_62 (by decide) ?_
      refine lv_goto (tgt := 67) C.1 C.2.1 dX10_glanceFurther_63 (by decide) ?_
      exact wk_10_glanceFurther_67 C X h hJ (lv_sub hl [] rfl)
  · have h := if_f h c1
    by_cases c4 : (kF S v1 0) = (10 : Int32)
    · have h := if_t h c4
      refine lv_tableIn (off := 67) (tgt := 71) C.1 C.2.1 dX10_glanceFurther_4 (by rw [c4]; decide) (by rw [c4]; decide) (by rw [c4]; rfl) (by decide) ?_
      refine lv_aload_n C.1 C.2.1 dX10_glanceFurther_71 rfl (lv_at hl 0 rfl) ?_
      obtain ⟨hk, h⟩ := ckk_ok h
      obtain ⟨a5, h_a5, h⟩ := bd_ok h
      refine gk10_34 C X hJ.1 hk h_a5 dX10_glanceFurther_72 ?_
      refine lv_aload_n C.1 C.2.1 dX10_glanceFurther_75 rfl (lv_at hl 1 rfl) ?_
      obtain ⟨hk, h⟩ := ckk_ok h
      refine gk10_111 C X hJ.1 hk dX10_glanceFurther_76 ?_
      obtain ⟨hk, h⟩ := ckk_ok h
      obtain ⟨o6, h_o6, h⟩ := bd_ok h
      refine c_callR (rest := []) C X hJ.1 hl.1 0 (by decide) hk [.int (kF S v1 5)] (tk_0_rowNamed l h_o6) cw10_203 ki_0_rowNamed kl_0_rowNamed rfl ⟨by decide, by decide⟩ ⟨(by decide), (by decide)⟩ rfl (Nat.le_of_ble_eq_true rfl) dX10_glanceFurther_79 ?_
      refine W.eq (g2 := F0 m 82 ls [va_rf o6]) rfl ?_
      refine lv_astore_nq (o := o6) (lv' := [(3, va_rf o6), (0, .ref v0), (1, .ref v1), (2, .ref v2)]) C.1 C.2.1 dX10_glanceFurther_82 rfl hl (by decide) rfl (fun ls hl => ?_)
      refine lv_aload_n C.1 C.2.1 dX10_glanceFurther_83 rfl (lv_at hl 3 rfl) ?_
      refine lv_iconst (v := 0) C.1 C.2.1 dX10_glanceFurther_84 (by decide) ?_
      refine lv_aload_nq (o := o6) C.1 C.2.1 dX10_glanceFurther_85 rfl (lv_at hl 0 rfl) ?_
      rcases o6 with _ | a7
      · replace h := cs_n h
        refine lv_ifnullN (tgt := 101) C.1 C.2.1 dX10_glanceFurther_86 (by decide) ?_
        exact wk_10_glanceFurther_101 C X h hJ (lv_sub hl [] rfl)
      · replace h := cs_s h
        refine lv_ifnull C.1 C.2.1 dX10_glanceFurther_86 ?_
        refine lv_aload_n C.1 C.2.1 dX10_glanceFurther_89 rfl (lv_at hl 1 rfl) ?_
        refine lv_aload_n C.1 C.2.1 dX10_glanceFurther_90 rfl (lv_at hl 0 rfl) ?_
        obtain ⟨hk, h⟩ := ckk_ok h
        obtain ⟨r8, h_r8, h⟩ := bd_ok h
        refine c_callR (rest := [.int (0 : Int32), .ref v2]) C X hJ.1 hl.1 10 (by decide) hk [.ref a7] (tk_10_stands l h_r8) cw10_200 ki_10_stands kl_10_stands rfl ⟨by decide, by decide⟩ ⟨(by decide), (by decide)⟩ rfl (Nat.le_of_ble_eq_true rfl) dX10_glanceFurther_91 ?_
        refine W.eq (g2 := F0 m 94 ls [.int r8, .int (0 : Int32), .ref v2]) rfl ?_
        refine lv_if_eq (tgt := 101) C.1 C.2.1 dX10_glanceFurther_94 (by decide) (fun c9 => ?_) (fun c9 => ?_)
        · have h := if_t h c9
          exact wk_10_glanceFurther_101 C X h hJ (lv_sub hl [] rfl)
        · have h := if_f h c9
          refine lv_iconst (v := 1) C.1 C.2.1 dX10_glanceFurther_97 (by decide) ?_
          refine lv_goto (tgt := 102) C.1 C.2.1 dX10_glanceFurther_98 (by decide) ?_
          exact wk_10_glanceFurther_102 C X h hJ (lv_sub hl [] rfl)
    · have h := if_f h c4
      by_cases c10 : (kF S v1 0) = (11 : Int32)
      · have h := if_t h c10
        refine lv_tableIn (off := 149) (tgt := 153) C.1 C.2.1 dX10_glanceFurther_4 (by rw [c10]; decide) (by rw [c10]; decide) (by rw [c10]; rfl) (by decide) ?_
        exact wk_10_glanceFurther_153 C X h hJ (lv_sub hl [] rfl)
      · have h := if_f h c10
        by_cases c11 : (kF S v1 0) = (12 : Int32)
        · have h := if_t h c11
          refine lv_tableIn (off := 149) (tgt := 153) C.1 C.2.1 dX10_glanceFurther_4 (by rw [c11]; decide) (by rw [c11]; decide) (by rw [c11]; rfl) (by decide) ?_
          exact wk_10_glanceFurther_153 C X h hJ (lv_sub hl [] rfl)
        · have h := if_f h c11
          by_cases c12 : (kF S v1 0) = (13 : Int32)
          · have h := if_t h c12
            refine lv_tableIn (off := 149) (tgt := 153) C.1 C.2.1 dX10_glanceFurther_4 (by rw [c12]; decide) (by rw [c12]; decide) (by rw [c12]; rfl) (by decide) ?_
            exact wk_10_glanceFurther_153 C X h hJ (lv_sub hl [] rfl)
          · have h := if_f h c12
            by_cases c13 : (kF S v1 0) = (14 : Int32)
            · have h := if_t h c13
              refine lv_tableIn (off := 149) (tgt := 153) C.1 C.2.1 dX10_glanceFurther_4 (by rw [c13]; decide) (by rw [c13]; decide) (by rw [c13]; rfl) (by decide) ?_
              exact wk_10_glanceFurther_153 C X h hJ (lv_sub hl [] rfl)
            · have h := if_f h c13
              by_cases c14 : (kF S v1 0) = (15 : Int32)
              · have h := if_t h c14
                refine lv_tableIn (off := 102) (tgt := 106) C.1 C.2.1 dX10_glanceFurther_4 (by rw [c14]; decide) (by rw [c14]; decide) (by rw [c14]; rfl) (by decide) ?_
                exact wk_10_glanceFurther_106 C X h hJ (lv_sub hl [0, 1, 2] rfl)
              · have h := if_f h c14
                by_cases c15 : (kF S v1 0) = (16 : Int32)
                · have h := if_t h c15
                  refine lv_tableIn (off := 102) (tgt := 106) C.1 C.2.1 dX10_glanceFurther_4 (by rw [c15]; decide) (by rw [c15]; decide) (by rw [c15]; rfl) (by decide) ?_
                  exact wk_10_glanceFurther_106 C X h hJ (lv_sub hl [0, 1, 2] rfl)
                · have h := if_f h c15
                  have n_c1 := lv_neT c1 (a := 9) rfl
                  have n_c4 := lv_neT c4 (a := 10) rfl
                  have n_c10 := lv_neT c10 (a := 11) rfl
                  have n_c11 := lv_neT c11 (a := 12) rfl
                  have n_c12 := lv_neT c12 (a := 13) rfl
                  have n_c13 := lv_neT c13 (a := 14) rfl
                  have n_c14 := lv_neT c14 (a := 15) rfl
                  have n_c15 := lv_neT c15 (a := 16) rfl
                  refine lv_tableOut (tgt := 153) C.1 C.2.1 dX10_glanceFurther_4 (by omega) (by decide) ?_
                  exact wk_10_glanceFurther_153 C X h hJ (lv_sub hl [] rfl)
end
theorem dX10_glance_0 : decode cX10_glance 0 = .ok (.aload_n 2, 1) := by decide +kernel
theorem dX10_glance_1 : decode cX10_glance 1 = .ok (.iconst 0, 1) := by decide +kernel
theorem dX10_glance_2 : decode cX10_glance 2 = .ok (.invokestatic 45, 3) := by decide +kernel
theorem dX10_glance_5 : decode cX10_glance 5 = .ok (.aload_n 1, 1) := by decide +kernel
theorem dX10_glance_6 : decode cX10_glance 6 = .ok (.getfield 108, 3) := by decide +kernel
theorem dX10_glance_9 : decode cX10_glance 9 = .ok (.tableswitch 216 0 12 #[67, 89, 103, 146, 160, 160, 160, 182, 182, 216, 216, 208, 67], 67) := by decide +kernel
theorem dX10_glance_76 : decode cX10_glance 76 = .ok (.aload_n 2, 1) := by decide +kernel
theorem dX10_glance_77 : decode cX10_glance 77 = .ok (.iconst 0, 1) := by decide +kernel
theorem dX10_glance_78 : decode cX10_glance 78 = .ok (.aload_n 0, 1) := by decide +kernel
theorem dX10_glance_79 : decode cX10_glance 79 = .ok (.aload_n 1, 1) := by decide +kernel
theorem dX10_glance_80 : decode cX10_glance 80 = .ok (.getfield 167, 3) := by decide +kernel
theorem dX10_glance_83 : decode cX10_glance 83 = .ok (.invokevirtual 86, 3) := by decide +kernel
theorem dX10_glance_86 : decode cX10_glance 86 = .ok (.ifCond .eq 7, 3) := by decide +kernel
theorem dX10_glance_89 : decode cX10_glance 89 = .ok (.iconst 1, 1) := by decide +kernel
theorem dX10_glance_90 : decode cX10_glance 90 = .ok (.goto 4, 3) := by decide +kernel
theorem dX10_glance_93 : decode cX10_glance 93 = .ok (.iconst 0, 1) := by decide +kernel
theorem dX10_glance_94 : decode cX10_glance 94 = .ok (.iastore, 1) := by decide +kernel
theorem dX10_glance_95 : decode cX10_glance 95 = .ok (.goto 136, 3) := by decide +kernel
theorem dX10_glance_98 : decode cX10_glance 98 = .ok (.aload_n 2, 1) := by decide +kernel
theorem dX10_glance_99 : decode cX10_glance 99 = .ok (.iconst 0, 1) := by decide +kernel
theorem dX10_glance_100 : decode cX10_glance 100 = .ok (.aload_n 0, 1) := by decide +kernel
theorem dX10_glance_101 : decode cX10_glance 101 = .ok (.aload_n 1, 1) := by decide +kernel
theorem dX10_glance_102 : decode cX10_glance 102 = .ok (.getfield 149, 3) := by decide +kernel
theorem dX10_glance_105 : decode cX10_glance 105 = .ok (.invokevirtual 174, 3) := by decide +kernel
theorem dX10_glance_108 : decode cX10_glance 108 = .ok (.iastore, 1) := by decide +kernel
theorem dX10_glance_109 : decode cX10_glance 109 = .ok (.goto 122, 3) := by decide +kernel
theorem dX10_glance_112 : decode cX10_glance 112 = .ok (.aload_n 2, 1) := by decide +kernel
theorem dX10_glance_113 : decode cX10_glance 113 = .ok (.iconst 0, 1) := by decide +kernel
theorem dX10_glance_114 : decode cX10_glance 114 = .ok (.aload_n 0, 1) := by decide +kernel
theorem dX10_glance_115 : decode cX10_glance 115 = .ok (.aload_n 1, 1) := by decide +kernel
theorem dX10_glance_116 : decode cX10_glance 116 = .ok (.getfield 149, 3) := by decide +kernel
theorem dX10_glance_119 : decode cX10_glance 119 = .ok (.invokevirtual 177, 3) := by decide +kernel
theorem dX10_glance_122 : decode cX10_glance 122 = .ok (.iastore, 1) := by decide +kernel
theorem dX10_glance_123 : decode cX10_glance 123 = .ok (.iconst 0, 1) := by decide +kernel
theorem dX10_glance_124 : decode cX10_glance 124 = .ok (.istore_n 3, 1) := by decide +kernel
theorem dX10_glance_125 : decode cX10_glance 125 = .ok (.iload_n 3, 1) := by decide +kernel
theorem dX10_glance_126 : decode cX10_glance 126 = .ok (.aload_n 2, 1) := by decide +kernel
theorem dX10_glance_127 : decode cX10_glance 127 = .ok (.iconst 0, 1) := by decide +kernel
theorem dX10_glance_128 : decode cX10_glance 128 = .ok (.iaload, 1) := by decide +kernel
theorem dX10_glance_129 : decode cX10_glance 129 = .ok (.if_icmp .ge 23, 3) := by decide +kernel
theorem dX10_glance_132 : decode cX10_glance 132 = .ok (.aload_n 2, 1) := by decide +kernel
theorem dX10_glance_133 : decode cX10_glance 133 = .ok (.iload_n 3, 1) := by decide +kernel
theorem dX10_glance_134 : decode cX10_glance 134 = .ok (.iconst 1, 1) := by decide +kernel
theorem dX10_glance_135 : decode cX10_glance 135 = .ok (.iadd, 1) := by decide +kernel
theorem dX10_glance_136 : decode cX10_glance 136 = .ok (.aload_n 0, 1) := by decide +kernel
theorem dX10_glance_137 : decode cX10_glance 137 = .ok (.getfield 11, 3) := by decide +kernel
theorem dX10_glance_140 : decode cX10_glance 140 = .ok (.iload_n 3, 1) := by decide +kernel
theorem dX10_glance_141 : decode cX10_glance 141 = .ok (.aaload, 1) := by decide +kernel
theorem dX10_glance_142 : decode cX10_glance 142 = .ok (.getfield 102, 3) := by decide +kernel
theorem dX10_glance_145 : decode cX10_glance 145 = .ok (.iastore, 1) := by decide +kernel
theorem dX10_glance_146 : decode cX10_glance 146 = .ok (.iinc 3 1, 3) := by decide +kernel
theorem dX10_glance_149 : decode cX10_glance 149 = .ok (.goto (-24), 3) := by decide +kernel
theorem dX10_glance_152 : decode cX10_glance 152 = .ok (.goto 79, 3) := by decide +kernel
theorem dX10_glance_155 : decode cX10_glance 155 = .ok (.aload_n 2, 1) := by decide +kernel
theorem dX10_glance_156 : decode cX10_glance 156 = .ok (.iconst 0, 1) := by decide +kernel
theorem dX10_glance_157 : decode cX10_glance 157 = .ok (.aload_n 0, 1) := by decide +kernel
theorem dX10_glance_158 : decode cX10_glance 158 = .ok (.aload_n 1, 1) := by decide +kernel
theorem dX10_glance_159 : decode cX10_glance 159 = .ok (.getfield 149, 3) := by decide +kernel
theorem dX10_glance_162 : decode cX10_glance 162 = .ok (.invokevirtual 180, 3) := by decide +kernel
theorem dX10_glance_165 : decode cX10_glance 165 = .ok (.iastore, 1) := by decide +kernel
theorem dX10_glance_166 : decode cX10_glance 166 = .ok (.goto 65, 3) := by decide +kernel
theorem dX10_glance_169 : decode cX10_glance 169 = .ok (.aload_n 0, 1) := by decide +kernel
theorem dX10_glance_170 : decode cX10_glance 170 = .ok (.aload_n 1, 1) := by decide +kernel
theorem dX10_glance_171 : decode cX10_glance 171 = .ok (.getfield 149, 3) := by decide +kernel
theorem dX10_glance_174 : decode cX10_glance 174 = .ok (.invokevirtual 114, 3) := by decide +kernel
theorem dX10_glance_177 : decode cX10_glance 177 = .ok (.aload_n 0, 1) := by decide +kernel
theorem dX10_glance_178 : decode cX10_glance 178 = .ok (.getfield 27, 3) := by decide +kernel
theorem dX10_glance_181 : decode cX10_glance 181 = .ok (.iconst 0, 1) := by decide +kernel
theorem dX10_glance_182 : decode cX10_glance 182 = .ok (.aload_n 2, 1) := by decide +kernel
theorem dX10_glance_183 : decode cX10_glance 183 = .ok (.iconst 0, 1) := by decide +kernel
theorem dX10_glance_184 : decode cX10_glance 184 = .ok (.iconst 4, 1) := by decide +kernel
theorem dX10_glance_185 : decode cX10_glance 185 = .ok (.invokestatic 183, 3) := by decide +kernel
theorem dX10_glance_188 : decode cX10_glance 188 = .ok (.goto 43, 3) := by decide +kernel
theorem dX10_glance_191 : decode cX10_glance 191 = .ok (.aload_n 2, 1) := by decide +kernel
theorem dX10_glance_192 : decode cX10_glance 192 = .ok (.iconst 0, 1) := by decide +kernel
theorem dX10_glance_193 : decode cX10_glance 193 = .ok (.aload_n 0, 1) := by decide +kernel
theorem dX10_glance_194 : decode cX10_glance 194 = .ok (.aload_n 1, 1) := by decide +kernel
theorem dX10_glance_195 : decode cX10_glance 195 = .ok (.getfield 149, 3) := by decide +kernel
theorem dX10_glance_198 : decode cX10_glance 198 = .ok (.aload_n 1, 1) := by decide +kernel
theorem dX10_glance_199 : decode cX10_glance 199 = .ok (.getfield 102, 3) := by decide +kernel
theorem dX10_glance_202 : decode cX10_glance 202 = .ok (.invokevirtual 189, 3) := by decide +kernel
theorem dX10_glance_205 : decode cX10_glance 205 = .ok (.ifnonnull 7, 3) := by decide +kernel
theorem dX10_glance_208 : decode cX10_glance 208 = .ok (.iconst 0, 1) := by decide +kernel
theorem dX10_glance_209 : decode cX10_glance 209 = .ok (.goto 4, 3) := by decide +kernel
theorem dX10_glance_212 : decode cX10_glance 212 = .ok (.iconst 1, 1) := by decide +kernel
theorem dX10_glance_213 : decode cX10_glance 213 = .ok (.iastore, 1) := by decide +kernel
theorem dX10_glance_214 : decode cX10_glance 214 = .ok (.goto 17, 3) := by decide +kernel
theorem dX10_glance_217 : decode cX10_glance 217 = .ok (.aload_n 0, 1) := by decide +kernel
theorem dX10_glance_218 : decode cX10_glance 218 = .ok (.aload_n 2, 1) := by decide +kernel
theorem dX10_glance_219 : decode cX10_glance 219 = .ok (.invokevirtual 193, 3) := by decide +kernel
theorem dX10_glance_222 : decode cX10_glance 222 = .ok (.goto 9, 3) := by decide +kernel
theorem dX10_glance_225 : decode cX10_glance 225 = .ok (.aload_n 0, 1) := by decide +kernel
theorem dX10_glance_226 : decode cX10_glance 226 = .ok (.aload_n 1, 1) := by decide +kernel
theorem dX10_glance_227 : decode cX10_glance 227 = .ok (.aload_n 2, 1) := by decide +kernel
theorem dX10_glance_228 : decode cX10_glance 228 = .ok (.invokevirtual 197, 3) := by decide +kernel
theorem dX10_glance_231 : decode cX10_glance 231 = .ok (.return_, 1) := by decide +kernel
theorem kd_10_glance : Cond.code yX10_glance cX10_glance 4 none ∈ lw_g := mt_at 1091 (by decide +kernel) rfl
theorem ki_10_glance : Cond.instanceMethod yX10_glance ∈ lw_g := mt_at 1089 (by decide +kernel) rfl
theorem kl_10_glance : Cond.selects (kRn 10) yX10_glance yX10_glance ∈ lw_g := mt_at 1090 (by decide +kernel) rfl
theorem mm10_183 : Cond.methodLink RX10 183 arraycopyName ∈ lw_g := mt_at 1106 (by decide +kernel) rfl
theorem cw10_86 : cCw RX10 86 yX10_isThere cX10_isThere 2 (some .boolean) 1 := ⟨kd_10_isThere, mt_at 1092 (by decide +kernel) rfl, mt_at 10 (by decide +kernel) rfl, by decide +kernel⟩
theorem cw10_114 : cCw RX10 114 yX10_findShares cX10_findShares 3 none 1 := ⟨kd_10_findShares, mt_at 600 (by decide +kernel) rfl, mt_at 10 (by decide +kernel) rfl, by decide +kernel⟩
theorem cw10_174 : cCw RX10 174 yX10_latestOf cX10_latestOf 3 (some .int) 1 := ⟨kd_10_latestOf, mt_at 1093 (by decide +kernel) rfl, mt_at 10 (by decide +kernel) rfl, by decide +kernel⟩
theorem cw10_177 : cCw RX10 177 yX10_findSeveral cX10_findSeveral 4 (some .int) 1 := ⟨kd_10_findSeveral, mt_at 1094 (by decide +kernel) rfl, mt_at 10 (by decide +kernel) rfl, by decide +kernel⟩
theorem cw10_180 : cCw RX10 180 yX10_sumOf cX10_sumOf 4 (some .int) 1 := ⟨kd_10_sumOf, mt_at 1102 (by decide +kernel) rfl, mt_at 10 (by decide +kernel) rfl, by decide +kernel⟩
theorem cw10_189 : cCw RX10 189 yX10_enterOf cX10_enterOf 3 (some (.object "AccordHouse$Row")) 2 := ⟨kd_10_enterOf, mt_at 1107 (by decide +kernel) rfl, mt_at 10 (by decide +kernel) rfl, by decide +kernel⟩
theorem cw10_193 : cCw RX10 193 yX10_findParents cX10_findParents 4 none 1 := ⟨kd_10_findParents, mt_at 1108 (by decide +kernel) rfl, mt_at 10 (by decide +kernel) rfl, by decide +kernel⟩
theorem cw10_197 : cCw RX10 197 yX10_glanceFurther cX10_glanceFurther 5 none 2 := ⟨kd_10_glanceFurther, mt_at 1116 (by decide +kernel) rfl, mt_at 10 (by decide +kernel) rfl, by decide +kernel⟩
section
variable {p : Program} {l : Launch} {e : Env} {R : Room} {s : State} {m : MethodId} {args : Array Value} {below : List Frame} {meth : Method} {c : Code} {D : cG} {S0 S9 : cSt}
noncomputable def fk_10_glance_231 (S : cSt) : Option (cSt) :=
some S
set_option maxRecDepth 100000 in
set_option maxHeartbeats 4000000 in
theorem wk_10_glance_231 (C : cY p R s m args meth c RX10 cX10_glance 4 3 0 0 69 none) (X : cX D s) : ∀ {S : cSt} {H : Heap} {locs : List Loc} {ls : Array Slot}, fk_10_glance_231 S = some S9 → cJ D S0 s.heap S H locs → lv_has ls 4 [] → W p l e R s m args below meth c H locs 0 0 (MQ below (kW none D S0 S9) args s 0 0 (cA S0)) (F0 m 231 ls []) := by
  intro S H locs ls h hJ hl
  unfold fk_10_glance_231 at h
  cases h
  exact c_retvW C hJ dX10_glance_231
noncomputable def fk_10_glance_225 (S : cSt) (v0 : Nat) (v1 : Nat) (v2 : Nat) : Option (cSt) :=
ckk S v0 11 (bd (fk_10_glanceFurther S v0 v1 v2) fun S1 =>
fk_10_glance_231 S1)
set_option maxRecDepth 100000 in
set_option maxHeartbeats 4000000 in
theorem wk_10_glance_225 (C : cY p R s m args meth c RX10 cX10_glance 4 3 0 0 69 none) (X : cX D s) : ∀ {S : cSt} {v0 : Nat} {v1 : Nat} {v2 : Nat} {H : Heap} {locs : List Loc} {ls : Array Slot}, fk_10_glance_225 S v0 v1 v2 = some S9 → cJ D S0 s.heap S H locs → lv_has ls 4 [(0, .ref v0), (1, .ref v1), (2, .ref v2)] → W p l e R s m args below meth c H locs 0 0 (MQ below (kW none D S0 S9) args s 0 0 (cA S0)) (F0 m 225 ls []) := by
  intro S v0 v1 v2 H locs ls h hJ hl
  unfold fk_10_glance_225 at h
  refine lv_aload_n C.1 C.2.1 dX10_glance_225 rfl (lv_at hl 0 rfl) ?_
  refine lv_aload_n C.1 C.2.1 dX10_glance_226 rfl (lv_at hl 1 rfl) ?_
  refine lv_aload_n C.1 C.2.1 dX10_glance_227 rfl (lv_at hl 2 rfl) ?_
  obtain ⟨hk, h⟩ := ckk_ok h
  obtain ⟨S1, h_S1, h⟩ := bd_ok h
  refine c_callW (rest := []) C X hJ hl.1 10 (by decide) hk [.ref v1, .ref v2] (tk_10_glanceFurther l h_S1) cw10_197 ki_10_glanceFurther kl_10_glanceFurther rfl ⟨by decide, by decide⟩ ⟨(by decide), (by decide)⟩ rfl (Nat.le_of_ble_eq_true rfl) dX10_glance_228 (fun H locs hJ => ?_)
  refine W.eq (g2 := F0 m 231 ls []) rfl ?_
  exact wk_10_glance_231 C X h hJ (lv_sub hl [] rfl)
noncomputable def fk_10_glance_94 (S : cSt) (s0 : Nat) (s1 : Int32) (s2 : Int32) : Option (cSt) :=
ckk S s0 20 (ck s1 (kL S s0) (lt (cWi S s0 (Int32.toNatClampNeg s1) s2) fun S1 =>
fk_10_glance_231 S1))
set_option maxRecDepth 100000 in
set_option maxHeartbeats 4000000 in
theorem wk_10_glance_94 (C : cY p R s m args meth c RX10 cX10_glance 4 3 0 0 69 none) (X : cX D s) : ∀ {S : cSt} {s0 : Nat} {s1 : Int32} {s2 : Int32} {H : Heap} {locs : List Loc} {ls : Array Slot}, fk_10_glance_94 S s0 s1 s2 = some S9 → cJ D S0 s.heap S H locs → lv_has ls 4 [] → W p l e R s m args below meth c H locs 0 0 (MQ below (kW none D S0 S9) args s 0 0 (cA S0)) (F0 m 94 ls [.int s2, .int s1, .ref s0]) := by
  intro S s0 s1 s2 H locs ls h hJ hl
  unfold fk_10_glance_94 at h
  obtain ⟨hk, h⟩ := ckk_ok h
  obtain ⟨hin2, h⟩ := ck_ok h
  refine c_iast C X hJ hk hin2 dX10_glance_94 (fun H locs hJ => ?_)
  refine lt_ok h (fun S1 e_S1 h => ?_)
  rw [e_S1] at hJ
  refine lv_goto (tgt := 231) C.1 C.2.1 dX10_glance_95 (by decide) ?_
  exact wk_10_glance_231 C X h hJ (lv_sub hl [] rfl)
noncomputable def fk_10_glance_76 (S : cSt) (v0 : Nat) (v1 : Nat) (v2 : Nat) : Option (cSt) :=
ckk S v1 9 (
ckk S v0 11 (bd (fk_10_isThere S v0 (kF S v1 1)) fun r1 =>
if r1 = 0 then (
fk_10_glance_94 S v2 (0 : Int32) (0 : Int32))
else (
fk_10_glance_94 S v2 (0 : Int32) (1 : Int32))))
set_option maxRecDepth 100000 in
set_option maxHeartbeats 4000000 in
theorem wk_10_glance_76 (C : cY p R s m args meth c RX10 cX10_glance 4 3 0 0 69 none) (X : cX D s) : ∀ {S : cSt} {v0 : Nat} {v1 : Nat} {v2 : Nat} {H : Heap} {locs : List Loc} {ls : Array Slot}, fk_10_glance_76 S v0 v1 v2 = some S9 → cJ D S0 s.heap S H locs → lv_has ls 4 [(0, .ref v0), (1, .ref v1), (2, .ref v2)] → W p l e R s m args below meth c H locs 0 0 (MQ below (kW none D S0 S9) args s 0 0 (cA S0)) (F0 m 76 ls []) := by
  intro S v0 v1 v2 H locs ls h hJ hl
  unfold fk_10_glance_76 at h
  refine lv_aload_n C.1 C.2.1 dX10_glance_76 rfl (lv_at hl 2 rfl) ?_
  refine lv_iconst (v := 0) C.1 C.2.1 dX10_glance_77 (by decide) ?_
  refine lv_aload_n C.1 C.2.1 dX10_glance_78 rfl (lv_at hl 0 rfl) ?_
  refine lv_aload_n C.1 C.2.1 dX10_glance_79 rfl (lv_at hl 1 rfl) ?_
  obtain ⟨hk, h⟩ := ckk_ok h
  refine gk10_167 C X hJ.1 hk dX10_glance_80 ?_
  obtain ⟨hk, h⟩ := ckk_ok h
  obtain ⟨r1, h_r1, h⟩ := bd_ok h
  refine c_callR (rest := [.int (0 : Int32), .ref v2]) C X hJ.1 hl.1 10 (by decide) hk [.int (kF S v1 1)] (tk_10_isThere l h_r1) cw10_86 ki_10_isThere kl_10_isThere rfl ⟨by decide, by decide⟩ ⟨(by decide), (by decide)⟩ rfl (Nat.le_of_ble_eq_true rfl) dX10_glance_83 ?_
  refine W.eq (g2 := F0 m 86 ls [.int r1, .int (0 : Int32), .ref v2]) rfl ?_
  refine lv_if_eq (tgt := 93) C.1 C.2.1 dX10_glance_86 (by decide) (fun c2 => ?_) (fun c2 => ?_)
  · have h := if_t h c2
    refine lv_iconst (v := 0) C.1 C.2.1 dX10_glance_93 (by decide) ?_
    exact wk_10_glance_94 C X h hJ (lv_sub hl [] rfl)
  · have h := if_f h c2
    refine lv_iconst (v := 1) C.1 C.2.1 dX10_glance_89 (by decide) ?_
    refine lv_goto (tgt := 94) C.1 C.2.1 dX10_glance_90 (by decide) ?_
    exact wk_10_glance_94 C X h hJ (lv_sub hl [] rfl)
noncomputable def fk_10_glance_125 : Nat → cSt → Nat → Nat → Int32 → Option (cSt)
  | 0, _, _, _, _ => none
  | n + 1, S, v0, v2, v3 =>
    ckk S v2 20 (ck (0 : Int32) (kL S v2) (
    if (kI S v2 (Int32.toNatClampNeg (0 : Int32))) ≤ v3 then (
    fk_10_glance_231 S)
    else (
    ckk S v0 11 (bd (kR S v0 0) fun a2 =>
    ckk S a2 30 (ck v3 (kL S a2) (lt (kO S a2 (Int32.toNatClampNeg v3)) fun o3 =>
    bd o3 fun a4 =>
    ckk S a4 9 (
    ckk S v2 20 (ck (v3 + (1 : Int32)) (kL S v2) (lt (cWi S v2 (Int32.toNatClampNeg (v3 + (1 : Int32))) (kF S a4 4)) fun S5 =>
    lt (v3 + (1 : Int32)) fun x6 =>
    fk_10_glance_125 n S5 v0 v2 x6)))))))))
set_option maxRecDepth 100000 in
set_option maxHeartbeats 4000000 in
theorem wk_10_glance_125 (C : cY p R s m args meth c RX10 cX10_glance 4 3 0 0 69 none) (X : cX D s) : ∀ (n : Nat), ∀ {S : cSt} {v0 : Nat} {v2 : Nat} {v3 : Int32} {H : Heap} {locs : List Loc} {ls : Array Slot}, fk_10_glance_125 n S v0 v2 v3 = some S9 → cJ D S0 s.heap S H locs → lv_has ls 4 [(0, .ref v0), (2, .ref v2), (3, .int v3)] → W p l e R s m args below meth c H locs 0 0 (MQ below (kW none D S0 S9) args s 0 0 (cA S0)) (F0 m 125 ls []) := by
  intro n
  induction n with
  | zero =>
    intro S v0 v2 v3 H locs ls h hJ hl
    exact absurd (show (none : Option (cSt)) = _ from h) (fun q => by cases q)
  | succ n ih =>
    intro S v0 v2 v3 H locs ls h hJ hl
    rw [fk_10_glance_125] at h
    refine lv_iload_n C.1 C.2.1 dX10_glance_125 rfl (lv_at hl 2 rfl) ?_
    refine lv_aload_n C.1 C.2.1 dX10_glance_126 rfl (lv_at hl 1 rfl) ?_
    refine lv_iconst (v := 0) C.1 C.2.1 dX10_glance_127 (by decide) ?_
    obtain ⟨hk, h⟩ := ckk_ok h
    obtain ⟨hin2, h⟩ := ck_ok h
    refine c_iald C X hJ.1 hk hin2 dX10_glance_128 ?_
    refine lv_icmp_ge (tgt := 152) C.1 C.2.1 dX10_glance_129 (by decide) (fun c1 => ?_) (fun c1 => ?_)
    · have h := if_t h c1
      refine lv_goto (tgt := 231) C.1 C.2.1 dX10_glance_152 (by decide) ?_
      exact wk_10_glance_231 C X h hJ (lv_sub hl [] rfl)
    · have h := if_f h c1
      refine lv_aload_n C.1 C.2.1 dX10_glance_132 rfl (lv_at hl 1 rfl) ?_
      refine lv_iload_n C.1 C.2.1 dX10_glance_133 rfl (lv_at hl 2 rfl) ?_
      refine lv_iconst (v := 1) C.1 C.2.1 dX10_glance_134 (by decide) ?_
      refine lv_iadd C.1 C.2.1 dX10_glance_135 ?_
      refine lv_aload_n C.1 C.2.1 dX10_glance_136 rfl (lv_at hl 0 rfl) ?_
      obtain ⟨hk, h⟩ := ckk_ok h
      obtain ⟨a2, h_a2, h⟩ := bd_ok h
      refine gk10_11 C X hJ.1 hk h_a2 dX10_glance_137 ?_
      refine lv_iload_n C.1 C.2.1 dX10_glance_140 rfl (lv_at hl 2 rfl) ?_
      obtain ⟨hk, h⟩ := ckk_ok h
      obtain ⟨hin2, h⟩ := ck_ok h
      refine c_aald C 30 (by decide) X.2.2.2.2.1 hJ.1 hk hin2 dX10_glance_141 ?_
      refine lt_ok h (fun o3 e_o3 h => ?_)
      refine lv_nmq e_o3 ?_
      obtain ⟨a4, e_a4, h⟩ := bd_ok h
      revert h; subst e_a4; intro h
      obtain ⟨hk, h⟩ := ckk_ok h
      refine gk10_102 C X hJ.1 hk dX10_glance_142 ?_
      obtain ⟨hk, h⟩ := ckk_ok h
      obtain ⟨hin2, h⟩ := ck_ok h
      refine c_iast C X hJ hk hin2 dX10_glance_145 (fun H locs hJ => ?_)
      refine lt_ok h (fun S5 e_S5 h => ?_)
      rw [e_S5] at hJ
      refine lt_ok h (fun x6 e_x6 h => ?_)
      refine lv_iinc (v := x6) (lv' := [(3, .int x6), (0, .ref v0), (2, .ref v2)]) C.1 C.2.1 dX10_glance_146 hl (k := 2) rfl (by rw [← e_x6]; rfl) (by decide) rfl (fun ls hl => ?_)
      refine lv_goto (tgt := 125) C.1 C.2.1 dX10_glance_149 (by decide) ?_
      exact ih h hJ (lv_sub hl [1, 2, 0] rfl)
noncomputable def fk_10_glance_169 (S : cSt) (v0 : Nat) (v1 : Nat) (v2 : Nat) : Option (cSt) :=
ckk S v1 9 (
ckk S v0 11 (bd (fk_10_findShares S v0 (kF S v1 13)) fun S1 =>
ckk S1 v0 11 (bd (kR S1 v0 6) fun a2 =>
ckk S1 a2 20 (ckk S1 v2 20 (ckp ((¬ (0 : Int32) < 0 ∧ ¬ (0 : Int32) < 0 ∧ ¬ (4 : Int32) < 0) ∧ (Int32.toNatClampNeg (0 : Int32)) + (Int32.toNatClampNeg (4 : Int32)) ≤ kL S1 a2 ∧ (Int32.toNatClampNeg (0 : Int32)) + (Int32.toNatClampNeg (4 : Int32)) ≤ kL S1 v2) (lt (cCp S1 a2 (Int32.toNatClampNeg (0 : Int32)) v2 (Int32.toNatClampNeg (0 : Int32)) (Int32.toNatClampNeg (4 : Int32))) fun S3 =>
fk_10_glance_231 S3))))))
set_option maxRecDepth 100000 in
set_option maxHeartbeats 4000000 in
theorem wk_10_glance_169 (C : cY p R s m args meth c RX10 cX10_glance 4 3 0 0 69 none) (X : cX D s) : ∀ {S : cSt} {v0 : Nat} {v1 : Nat} {v2 : Nat} {H : Heap} {locs : List Loc} {ls : Array Slot}, fk_10_glance_169 S v0 v1 v2 = some S9 → cJ D S0 s.heap S H locs → lv_has ls 4 [(0, .ref v0), (1, .ref v1), (2, .ref v2)] → W p l e R s m args below meth c H locs 0 0 (MQ below (kW none D S0 S9) args s 0 0 (cA S0)) (F0 m 169 ls []) := by
  intro S v0 v1 v2 H locs ls h hJ hl
  unfold fk_10_glance_169 at h
  refine lv_aload_n C.1 C.2.1 dX10_glance_169 rfl (lv_at hl 0 rfl) ?_
  refine lv_aload_n C.1 C.2.1 dX10_glance_170 rfl (lv_at hl 1 rfl) ?_
  obtain ⟨hk, h⟩ := ckk_ok h
  refine gk10_149 C X hJ.1 hk dX10_glance_171 ?_
  obtain ⟨hk, h⟩ := ckk_ok h
  obtain ⟨S1, h_S1, h⟩ := bd_ok h
  refine c_callW (rest := []) C X hJ hl.1 10 (by decide) hk [.int (kF S v1 13)] (tk_10_findShares l h_S1) cw10_114 ki_10_findShares kl_10_findShares rfl ⟨by decide, by decide⟩ ⟨(by decide), (by decide)⟩ rfl (Nat.le_of_ble_eq_true rfl) dX10_glance_174 (fun H locs hJ => ?_)
  refine W.eq (g2 := F0 m 177 ls []) rfl ?_
  refine lv_aload_n C.1 C.2.1 dX10_glance_177 rfl (lv_at hl 0 rfl) ?_
  obtain ⟨hk, h⟩ := ckk_ok h
  obtain ⟨a2, h_a2, h⟩ := bd_ok h
  refine gk10_27 C X hJ.1 hk h_a2 dX10_glance_178 ?_
  refine lv_iconst (v := 0) C.1 C.2.1 dX10_glance_181 (by decide) ?_
  refine lv_aload_n C.1 C.2.1 dX10_glance_182 rfl (lv_at hl 2 rfl) ?_
  refine lv_iconst (v := 0) C.1 C.2.1 dX10_glance_183 (by decide) ?_
  refine lv_iconst (v := 4) C.1 C.2.1 dX10_glance_184 (by decide) ?_
  obtain ⟨hk0, h⟩ := ckk_ok h
  obtain ⟨hk1, h⟩ := ckk_ok h
  obtain ⟨hcp, h⟩ := ckp_ok h
  refine c_copy (rest := []) C hl.1 mm10_183 ac_n ac_s ac_i 20 (by decide) (by decide) X.2.1 rfl hJ hk0 hk1 hcp (fun _ _ => rfl) (by decide) (Nat.le_of_ble_eq_true rfl) dX10_glance_185 (fun H locs hJ => ?_)
  refine lt_ok h (fun S3 e_S3 h => ?_)
  rw [e_S3] at hJ
  refine lv_goto (tgt := 231) C.1 C.2.1 dX10_glance_188 (by decide) ?_
  exact wk_10_glance_231 C X h hJ (lv_sub hl [] rfl)
noncomputable def fk_10_glance_213 (S : cSt) (s0 : Nat) (s1 : Int32) (s2 : Int32) : Option (cSt) :=
ckk S s0 20 (ck s1 (kL S s0) (lt (cWi S s0 (Int32.toNatClampNeg s1) s2) fun S1 =>
fk_10_glance_231 S1))
set_option maxRecDepth 100000 in
set_option maxHeartbeats 4000000 in
theorem wk_10_glance_213 (C : cY p R s m args meth c RX10 cX10_glance 4 3 0 0 69 none) (X : cX D s) : ∀ {S : cSt} {s0 : Nat} {s1 : Int32} {s2 : Int32} {H : Heap} {locs : List Loc} {ls : Array Slot}, fk_10_glance_213 S s0 s1 s2 = some S9 → cJ D S0 s.heap S H locs → lv_has ls 4 [] → W p l e R s m args below meth c H locs 0 0 (MQ below (kW none D S0 S9) args s 0 0 (cA S0)) (F0 m 213 ls [.int s2, .int s1, .ref s0]) := by
  intro S s0 s1 s2 H locs ls h hJ hl
  unfold fk_10_glance_213 at h
  obtain ⟨hk, h⟩ := ckk_ok h
  obtain ⟨hin2, h⟩ := ck_ok h
  refine c_iast C X hJ hk hin2 dX10_glance_213 (fun H locs hJ => ?_)
  refine lt_ok h (fun S1 e_S1 h => ?_)
  rw [e_S1] at hJ
  refine lv_goto (tgt := 231) C.1 C.2.1 dX10_glance_214 (by decide) ?_
  exact wk_10_glance_231 C X h hJ (lv_sub hl [] rfl)
noncomputable def fk_10_glance_191 (S : cSt) (v0 : Nat) (v1 : Nat) (v2 : Nat) : Option (cSt) :=
ckk S v1 9 (
ckk S v1 9 (
ckk S v0 11 (bd (fk_10_enterOf S v0 (kF S v1 13) (kF S v1 4)) fun q_o2 => lt q_o2.1 fun o2 => lt q_o2.2 fun S1 =>
cs o2 (
fk_10_glance_213 S1 v2 (0 : Int32) (0 : Int32)) (fun a3 =>
fk_10_glance_213 S1 v2 (0 : Int32) (1 : Int32)))))
set_option maxRecDepth 100000 in
set_option maxHeartbeats 4000000 in
theorem wk_10_glance_191 (C : cY p R s m args meth c RX10 cX10_glance 4 3 0 0 69 none) (X : cX D s) : ∀ {S : cSt} {v0 : Nat} {v1 : Nat} {v2 : Nat} {H : Heap} {locs : List Loc} {ls : Array Slot}, fk_10_glance_191 S v0 v1 v2 = some S9 → cJ D S0 s.heap S H locs → lv_has ls 4 [(0, .ref v0), (1, .ref v1), (2, .ref v2)] → W p l e R s m args below meth c H locs 0 0 (MQ below (kW none D S0 S9) args s 0 0 (cA S0)) (F0 m 191 ls []) := by
  intro S v0 v1 v2 H locs ls h hJ hl
  unfold fk_10_glance_191 at h
  refine lv_aload_n C.1 C.2.1 dX10_glance_191 rfl (lv_at hl 2 rfl) ?_
  refine lv_iconst (v := 0) C.1 C.2.1 dX10_glance_192 (by decide) ?_
  refine lv_aload_n C.1 C.2.1 dX10_glance_193 rfl (lv_at hl 0 rfl) ?_
  refine lv_aload_n C.1 C.2.1 dX10_glance_194 rfl (lv_at hl 1 rfl) ?_
  obtain ⟨hk, h⟩ := ckk_ok h
  refine gk10_149 C X hJ.1 hk dX10_glance_195 ?_
  refine lv_aload_n C.1 C.2.1 dX10_glance_198 rfl (lv_at hl 1 rfl) ?_
  obtain ⟨hk, h⟩ := ckk_ok h
  refine gk10_102 C X hJ.1 hk dX10_glance_199 ?_
  obtain ⟨hk, h⟩ := ckk_ok h
  obtain ⟨⟨o2, S1⟩, h_S1, h⟩ := bd_ok h
  replace h := lt2_ok h
  refine c_callW (rest := [.int (0 : Int32), .ref v2]) C X hJ hl.1 10 (by decide) hk [.int (kF S v1 13), .int (kF S v1 4)] (tk_10_enterOf l h_S1) cw10_189 ki_10_enterOf kl_10_enterOf rfl ⟨by decide, by decide⟩ ⟨(by decide), (by decide)⟩ rfl (Nat.le_of_ble_eq_true rfl) dX10_glance_202 (fun H locs hJ => ?_)
  refine W.eq (g2 := F0 m 205 ls [va_rf o2, .int (0 : Int32), .ref v2]) rfl ?_
  rcases o2 with _ | a3
  · replace h := cs_n h
    refine lv_ifnonnullN C.1 C.2.1 dX10_glance_205 ?_
    refine lv_iconst (v := 0) C.1 C.2.1 dX10_glance_208 (by decide) ?_
    refine lv_goto (tgt := 213) C.1 C.2.1 dX10_glance_209 (by decide) ?_
    exact wk_10_glance_213 C X h hJ (lv_sub hl [] rfl)
  · replace h := cs_s h
    refine lv_ifnonnull (tgt := 212) C.1 C.2.1 dX10_glance_205 (by decide) ?_
    refine lv_iconst (v := 1) C.1 C.2.1 dX10_glance_212 (by decide) ?_
    exact wk_10_glance_213 C X h hJ (lv_sub hl [] rfl)
noncomputable def fk_10_glance (S : cSt) (v0 : Nat) (v1 : Nat) (v2 : Nat) : Option (cSt) :=
bd (fk_107_fill_53178 S v2 (0 : Int32)) fun S1 =>
ckk S1 v1 9 (
if (kF S1 v1 0) = (0 : Int32) then (
fk_10_glance_76 S1 v0 v1 v2)
else if (kF S1 v1 0) = (1 : Int32) then (
ckk S1 v1 9 (
ckk S1 v0 11 (bd (fk_10_latestOf S1 v0 (kF S1 v1 13)) fun r4 =>
ckk S1 v2 20 (ck (0 : Int32) (kL S1 v2) (lt (cWi S1 v2 (Int32.toNatClampNeg (0 : Int32)) r4) fun S5 =>
fk_10_glance_231 S5)))))
else if (kF S1 v1 0) = (2 : Int32) then (
ckk S1 v1 9 (
ckk S1 v0 11 (bd (fk_10_findSeveral S1 v0 (kF S1 v1 13)) fun q_r8 => lt q_r8.1 fun r8 => lt q_r8.2 fun S7 =>
ckk S7 v2 20 (ck (0 : Int32) (kL S7 v2) (lt (cWi S7 v2 (Int32.toNatClampNeg (0 : Int32)) r8) fun S10 =>
fk_10_glance_125 mFU S10 v0 v2 (0 : Int32))))))
else if (kF S1 v1 0) = (3 : Int32) then (
ckk S1 v1 9 (
ckk S1 v0 11 (bd (fk_10_sumOf S1 v0 (kF S1 v1 13)) fun r12 =>
ckk S1 v2 20 (ck (0 : Int32) (kL S1 v2) (lt (cWi S1 v2 (Int32.toNatClampNeg (0 : Int32)) r12) fun S13 =>
fk_10_glance_231 S13)))))
else if (kF S1 v1 0) = (4 : Int32) then (
fk_10_glance_169 S1 v0 v1 v2)
else if (kF S1 v1 0) = (5 : Int32) then (
fk_10_glance_169 S1 v0 v1 v2)
else if (kF S1 v1 0) = (6 : Int32) then (
fk_10_glance_169 S1 v0 v1 v2)
else if (kF S1 v1 0) = (7 : Int32) then (
fk_10_glance_191 S1 v0 v1 v2)
else if (kF S1 v1 0) = (8 : Int32) then (
fk_10_glance_191 S1 v0 v1 v2)
else if (kF S1 v1 0) = (9 : Int32) then (
fk_10_glance_225 S1 v0 v1 v2)
else if (kF S1 v1 0) = (10 : Int32) then (
fk_10_glance_225 S1 v0 v1 v2)
else if (kF S1 v1 0) = (11 : Int32) then (
ckk S1 v0 11 (bd (fk_10_findParents S1 v0 v2) fun S22 =>
fk_10_glance_231 S22))
else if (kF S1 v1 0) = (12 : Int32) then (
fk_10_glance_76 S1 v0 v1 v2)
else (
fk_10_glance_225 S1 v0 v1 v2))
set_option maxRecDepth 100000 in
set_option maxHeartbeats 4000000 in
theorem tk_10_glance (l : Launch) {D : cG} {S : cSt} {v0 : Nat} {v1 : Nat} {v2 : Nat} {S9 : cSt} (h : fk_10_glance S v0 v1 v2 = some S9) : Met l yX10_glance (Cond.code yX10_glance cX10_glance 4 none :: lw_g) { frames := 3, cells := 0, slots := 0, locals := 69 } (kPi [.ref v0, .ref v1, .ref v2] D S) (kW none D S S9) 0 0 (cA S) := by
  refine Met.ofW (cc := cX10_glance) (maxL := 4) (ret := none) (by decide) rfl ?_
  intro p e s m args below meth c s₁ B hml hv
  obtain ⟨rfl, hW, X⟩ := hv
  have C : cY p (headSpec (Cond.code yX10_glance cX10_glance 4 none :: lw_g) { frames := 3, cells := 0, slots := 0, locals := 69 }).room s m _ meth c RX10 cX10_glance 4 3 0 0 69 none := ⟨B.exec, B.bytes, hml, findClass_of_methodNamed B.named, fun w hw => atoms_spec (ws := Cond.code yX10_glance cX10_glance 4 none :: lw_g) B.pre w (List.mem_cons_of_mem _ hw), ⟨Nat.le_refl _, Nat.le_refl _, Nat.le_refl _, Nat.le_refl _⟩, B.returns, B.notSynchronized⟩
  have hl := lv_entry ([.ref v0, .ref v1, .ref v2]) (n := 4) (Nat.le_of_ble_eq_true rfl)
  rw [lg_entry_eq]
  generalize (lg_sl ([.ref v0, .ref v1, .ref v2]) ++ List.replicate (4 - (lg_sl ([.ref v0, .ref v1, .ref v2])).length) Slot.unset).toArray = ls at hl ⊢
  have hl : lv_has ls 4 [(0, .ref v0), (1, .ref v1), (2, .ref v2)] := hl
  have hJ : cJ D S s.heap S s.heap [] := cJ.rf hW
  unfold fk_10_glance at h
  refine lv_aload_n C.1 C.2.1 dX10_glance_0 rfl (lv_at hl 2 rfl) ?_
  refine lv_iconst (v := 0) C.1 C.2.1 dX10_glance_1 (by decide) ?_
  obtain ⟨S1, h_S1, h⟩ := bd_ok h
  refine c_callSW (rest := []) C X hJ hl.1 [.ref v2, .int (0 : Int32)] (tk_107_fill_53178 l h_S1) cw10_45 ks_107_fill_53178 rfl ⟨by decide, by decide⟩ ⟨(by decide), (by decide)⟩ rfl (Nat.le_of_ble_eq_true rfl) dX10_glance_2 (fun H locs hJ => ?_)
  refine W.eq (g2 := F0 m 5 ls []) rfl ?_
  refine lv_aload_n C.1 C.2.1 dX10_glance_5 rfl (lv_at hl 1 rfl) ?_
  obtain ⟨hk, h⟩ := ckk_ok h
  refine gk10_108 C X hJ.1 hk dX10_glance_6 ?_
  by_cases c2 : (kF S1 v1 0) = (0 : Int32)
  · have h := if_t h c2
    refine lv_tableIn (off := 67) (tgt := 76) C.1 C.2.1 dX10_glance_9 (by rw [c2]; decide) (by rw [c2]; decide) (by rw [c2]; rfl) (by decide) ?_
    exact wk_10_glance_76 C X h hJ (lv_sub hl [0, 1, 2] rfl)
  · have h := if_f h c2
    by_cases c3 : (kF S1 v1 0) = (1 : Int32)
    · have h := if_t h c3
      refine lv_tableIn (off := 89) (tgt := 98) C.1 C.2.1 dX10_glance_9 (by rw [c3]; decide) (by rw [c3]; decide) (by rw [c3]; rfl) (by decide) ?_
      refine lv_aload_n C.1 C.2.1 dX10_glance_98 rfl (lv_at hl 2 rfl) ?_
      refine lv_iconst (v := 0) C.1 C.2.1 dX10_glance_99 (by decide) ?_
      refine lv_aload_n C.1 C.2.1 dX10_glance_100 rfl (lv_at hl 0 rfl) ?_
      refine lv_aload_n C.1 C.2.1 dX10_glance_101 rfl (lv_at hl 1 rfl) ?_
      obtain ⟨hk, h⟩ := ckk_ok h
      refine gk10_149 C X hJ.1 hk dX10_glance_102 ?_
      obtain ⟨hk, h⟩ := ckk_ok h
      obtain ⟨r4, h_r4, h⟩ := bd_ok h
      refine c_callR (rest := [.int (0 : Int32), .ref v2]) C X hJ.1 hl.1 10 (by decide) hk [.int (kF S1 v1 13)] (tk_10_latestOf l h_r4) cw10_174 ki_10_latestOf kl_10_latestOf rfl ⟨by decide, by decide⟩ ⟨(by decide), (by decide)⟩ rfl (Nat.le_of_ble_eq_true rfl) dX10_glance_105 ?_
      refine W.eq (g2 := F0 m 108 ls [.int r4, .int (0 : Int32), .ref v2]) rfl ?_
      obtain ⟨hk, h⟩ := ckk_ok h
      obtain ⟨hin2, h⟩ := ck_ok h
      refine c_iast C X hJ hk hin2 dX10_glance_108 (fun H locs hJ => ?_)
      refine lt_ok h (fun S5 e_S5 h => ?_)
      rw [e_S5] at hJ
      refine lv_goto (tgt := 231) C.1 C.2.1 dX10_glance_109 (by decide) ?_
      exact wk_10_glance_231 C X h hJ (lv_sub hl [] rfl)
    · have h := if_f h c3
      by_cases c6 : (kF S1 v1 0) = (2 : Int32)
      · have h := if_t h c6
        refine lv_tableIn (off := 103) (tgt := 112) C.1 C.2.1 dX10_glance_9 (by rw [c6]; decide) (by rw [c6]; decide) (by rw [c6]; rfl) (by decide) ?_
        refine lv_aload_n C.1 C.2.1 dX10_glance_112 rfl (lv_at hl 2 rfl) ?_
        refine lv_iconst (v := 0) C.1 C.2.1 dX10_glance_113 (by decide) ?_
        refine lv_aload_n C.1 C.2.1 dX10_glance_114 rfl (lv_at hl 0 rfl) ?_
        refine lv_aload_n C.1 C.2.1 dX10_glance_115 rfl (lv_at hl 1 rfl) ?_
        obtain ⟨hk, h⟩ := ckk_ok h
        refine gk10_149 C X hJ.1 hk dX10_glance_116 ?_
        obtain ⟨hk, h⟩ := ckk_ok h
        obtain ⟨⟨r8, S7⟩, h_S7, h⟩ := bd_ok h
        replace h := lt2_ok h
        refine c_callW (rest := [.int (0 : Int32), .ref v2]) C X hJ hl.1 10 (by decide) hk [.int (kF S1 v1 13)] (tk_10_findSeveral l h_S7) cw10_177 ki_10_findSeveral kl_10_findSeveral rfl ⟨by decide, by decide⟩ ⟨(by decide), (by decide)⟩ rfl (Nat.le_of_ble_eq_true rfl) dX10_glance_119 (fun H locs hJ => ?_)
        refine W.eq (g2 := F0 m 122 ls [.int r8, .int (0 : Int32), .ref v2]) rfl ?_
        obtain ⟨hk, h⟩ := ckk_ok h
        obtain ⟨hin2, h⟩ := ck_ok h
        refine c_iast C X hJ hk hin2 dX10_glance_122 (fun H locs hJ => ?_)
        refine lt_ok h (fun S10 e_S10 h => ?_)
        rw [e_S10] at hJ
        refine lv_iconst (v := 0) C.1 C.2.1 dX10_glance_123 (by decide) ?_
        refine lv_istore_n (lv' := [(3, .int (0 : Int32)), (0, .ref v0), (1, .ref v1), (2, .ref v2)]) C.1 C.2.1 dX10_glance_124 rfl hl (by decide) rfl (fun ls hl => ?_)
        exact wk_10_glance_125 C X mFU h hJ (lv_sub hl [1, 3, 0] rfl)
      · have h := if_f h c6
        by_cases c11 : (kF S1 v1 0) = (3 : Int32)
        · have h := if_t h c11
          refine lv_tableIn (off := 146) (tgt := 155) C.1 C.2.1 dX10_glance_9 (by rw [c11]; decide) (by rw [c11]; decide) (by rw [c11]; rfl) (by decide) ?_
          refine lv_aload_n C.1 C.2.1 dX10_glance_155 rfl (lv_at hl 2 rfl) ?_
          refine lv_iconst (v := 0) C.1 C.2.1 dX10_glance_156 (by decide) ?_
          refine lv_aload_n C.1 C.2.1 dX10_glance_157 rfl (lv_at hl 0 rfl) ?_
          refine lv_aload_n C.1 C.2.1 dX10_glance_158 rfl (lv_at hl 1 rfl) ?_
          obtain ⟨hk, h⟩ := ckk_ok h
          refine gk10_149 C X hJ.1 hk dX10_glance_159 ?_
          obtain ⟨hk, h⟩ := ckk_ok h
          obtain ⟨r12, h_r12, h⟩ := bd_ok h
          refine c_callR (rest := [.int (0 : Int32), .ref v2]) C X hJ.1 hl.1 10 (by decide) hk [.int (kF S1 v1 13)] (tk_10_sumOf l h_r12) cw10_180 ki_10_sumOf kl_10_sumOf rfl ⟨by decide, by decide⟩ ⟨(by decide), (by decide)⟩ rfl (Nat.le_of_ble_eq_true rfl) dX10_glance_162 ?_
          refine W.eq (g2 := F0 m 165 ls [.int r12, .int (0 : Int32), .ref v2]) rfl ?_
          obtain ⟨hk, h⟩ := ckk_ok h
          obtain ⟨hin2, h⟩ := ck_ok h
          refine c_iast C X hJ hk hin2 dX10_glance_165 (fun H locs hJ => ?_)
          refine lt_ok h (fun S13 e_S13 h => ?_)
          rw [e_S13] at hJ
          refine lv_goto (tgt := 231) C.1 C.2.1 dX10_glance_166 (by decide) ?_
          exact wk_10_glance_231 C X h hJ (lv_sub hl [] rfl)
        · have h := if_f h c11
          by_cases c14 : (kF S1 v1 0) = (4 : Int32)
          · have h := if_t h c14
            refine lv_tableIn (off := 160) (tgt := 169) C.1 C.2.1 dX10_glance_9 (by rw [c14]; decide) (by rw [c14]; decide) (by rw [c14]; rfl) (by decide) ?_
            exact wk_10_glance_169 C X h hJ (lv_sub hl [0, 1, 2] rfl)
          · have h := if_f h c14
            by_cases c15 : (kF S1 v1 0) = (5 : Int32)
            · have h := if_t h c15
              refine lv_tableIn (off := 160) (tgt := 169) C.1 C.2.1 dX10_glance_9 (by rw [c15]; decide) (by rw [c15]; decide) (by rw [c15]; rfl) (by decide) ?_
              exact wk_10_glance_169 C X h hJ (lv_sub hl [0, 1, 2] rfl)
            · have h := if_f h c15
              by_cases c16 : (kF S1 v1 0) = (6 : Int32)
              · have h := if_t h c16
                refine lv_tableIn (off := 160) (tgt := 169) C.1 C.2.1 dX10_glance_9 (by rw [c16]; decide) (by rw [c16]; decide) (by rw [c16]; rfl) (by decide) ?_
                exact wk_10_glance_169 C X h hJ (lv_sub hl [0, 1, 2] rfl)
              · have h := if_f h c16
                by_cases c17 : (kF S1 v1 0) = (7 : Int32)
                · have h := if_t h c17
                  refine lv_tableIn (off := 182) (tgt := 191) C.1 C.2.1 dX10_glance_9 (by rw [c17]; decide) (by rw [c17]; decide) (by rw [c17]; rfl) (by decide) ?_
                  exact wk_10_glance_191 C X h hJ (lv_sub hl [0, 1, 2] rfl)
                · have h := if_f h c17
                  by_cases c18 : (kF S1 v1 0) = (8 : Int32)
                  · have h := if_t h c18
                    refine lv_tableIn (off := 182) (tgt := 191) C.1 C.2.1 dX10_glance_9 (by rw [c18]; decide) (by rw [c18]; decide) (by rw [c18]; rfl) (by decide) ?_
                    exact wk_10_glance_191 C X h hJ (lv_sub hl [0, 1, 2] rfl)
                  · have h := if_f h c18
                    by_cases c19 : (kF S1 v1 0) = (9 : Int32)
                    · have h := if_t h c19
                      refine lv_tableIn (off := 216) (tgt := 225) C.1 C.2.1 dX10_glance_9 (by rw [c19]; decide) (by rw [c19]; decide) (by rw [c19]; rfl) (by decide) ?_
                      exact wk_10_glance_225 C X h hJ (lv_sub hl [0, 1, 2] rfl)
                    · have h := if_f h c19
                      by_cases c20 : (kF S1 v1 0) = (10 : Int32)
                      · have h := if_t h c20
                        refine lv_tableIn (off := 216) (tgt := 225) C.1 C.2.1 dX10_glance_9 (by rw [c20]; decide) (by rw [c20]; decide) (by rw [c20]; rfl) (by decide) ?_
                        exact wk_10_glance_225 C X h hJ (lv_sub hl [0, 1, 2] rfl)
                      · have h := if_f h c20
                        by_cases c21 : (kF S1 v1 0) = (11 : Int32)
                        · have h := if_t h c21
                          refine lv_tableIn (off := 208) (tgt := 217) C.1 C.2.1 dX10_glance_9 (by rw [c21]; decide) (by rw [c21]; decide) (by rw [c21]; rfl) (by decide) ?_
                          refine lv_aload_n C.1 C.2.1 dX10_glance_217 rfl (lv_at hl 0 rfl) ?_
                          refine lv_aload_n C.1 C.2.1 dX10_glance_218 rfl (lv_at hl 2 rfl) ?_
                          obtain ⟨hk, h⟩ := ckk_ok h
                          obtain ⟨S22, h_S22, h⟩ := bd_ok h
                          refine c_callW (rest := []) C X hJ hl.1 10 (by decide) hk [.ref v2] (tk_10_findParents l h_S22) cw10_193 ki_10_findParents kl_10_findParents rfl ⟨by decide, by decide⟩ ⟨(by decide), (by decide)⟩ rfl (Nat.le_of_ble_eq_true rfl) dX10_glance_219 (fun H locs hJ => ?_)
                          refine W.eq (g2 := F0 m 222 ls []) rfl ?_
                          refine lv_goto (tgt := 231) C.1 C.2.1 dX10_glance_222 (by decide) ?_
                          exact wk_10_glance_231 C X h hJ (lv_sub hl [] rfl)
                        · have h := if_f h c21
                          by_cases c23 : (kF S1 v1 0) = (12 : Int32)
                          · have h := if_t h c23
                            refine lv_tableIn (off := 67) (tgt := 76) C.1 C.2.1 dX10_glance_9 (by rw [c23]; decide) (by rw [c23]; decide) (by rw [c23]; rfl) (by decide) ?_
                            exact wk_10_glance_76 C X h hJ (lv_sub hl [0, 1, 2] rfl)
                          · have h := if_f h c23
                            have n_c2 := lv_neT c2 (a := 0) rfl
                            have n_c3 := lv_neT c3 (a := 1) rfl
                            have n_c6 := lv_neT c6 (a := 2) rfl
                            have n_c11 := lv_neT c11 (a := 3) rfl
                            have n_c14 := lv_neT c14 (a := 4) rfl
                            have n_c15 := lv_neT c15 (a := 5) rfl
                            have n_c16 := lv_neT c16 (a := 6) rfl
                            have n_c17 := lv_neT c17 (a := 7) rfl
                            have n_c18 := lv_neT c18 (a := 8) rfl
                            have n_c19 := lv_neT c19 (a := 9) rfl
                            have n_c20 := lv_neT c20 (a := 10) rfl
                            have n_c21 := lv_neT c21 (a := 11) rfl
                            have n_c23 := lv_neT c23 (a := 12) rfl
                            refine lv_tableOut (tgt := 225) C.1 C.2.1 dX10_glance_9 (by omega) (by decide) ?_
                            exact wk_10_glance_225 C X h hJ (lv_sub hl [0, 1, 2] rfl)
end
theorem dX7_raiseLast_0 : decode cX7_raiseLast 0 = .ok (.iload_n 1, 1) := by decide +kernel
theorem dX7_raiseLast_1 : decode cX7_raiseLast 1 = .ok (.aload_n 0, 1) := by decide +kernel
theorem dX7_raiseLast_2 : decode cX7_raiseLast 2 = .ok (.getfield 37, 3) := by decide +kernel
theorem dX7_raiseLast_5 : decode cX7_raiseLast 5 = .ok (.if_icmp .gt 19, 3) := by decide +kernel
theorem dX7_raiseLast_8 : decode cX7_raiseLast 8 = .ok (.iload_n 1, 1) := by decide +kernel
theorem dX7_raiseLast_9 : decode cX7_raiseLast 9 = .ok (.aload_n 0, 1) := by decide +kernel
theorem dX7_raiseLast_10 : decode cX7_raiseLast 10 = .ok (.getfield 37, 3) := by decide +kernel
theorem dX7_raiseLast_13 : decode cX7_raiseLast 13 = .ok (.if_icmp .ne 21, 3) := by decide +kernel
theorem dX7_raiseLast_16 : decode cX7_raiseLast 16 = .ok (.iload_n 2, 1) := by decide +kernel
theorem dX7_raiseLast_17 : decode cX7_raiseLast 17 = .ok (.aload_n 0, 1) := by decide +kernel
theorem dX7_raiseLast_18 : decode cX7_raiseLast 18 = .ok (.getfield 40, 3) := by decide +kernel
theorem dX7_raiseLast_21 : decode cX7_raiseLast 21 = .ok (.if_icmp .le 13, 3) := by decide +kernel
theorem dX7_raiseLast_24 : decode cX7_raiseLast 24 = .ok (.aload_n 0, 1) := by decide +kernel
theorem dX7_raiseLast_25 : decode cX7_raiseLast 25 = .ok (.iload_n 1, 1) := by decide +kernel
theorem dX7_raiseLast_26 : decode cX7_raiseLast 26 = .ok (.putfield 37, 3) := by decide +kernel
theorem dX7_raiseLast_29 : decode cX7_raiseLast 29 = .ok (.aload_n 0, 1) := by decide +kernel
theorem dX7_raiseLast_30 : decode cX7_raiseLast 30 = .ok (.iload_n 2, 1) := by decide +kernel
theorem dX7_raiseLast_31 : decode cX7_raiseLast 31 = .ok (.putfield 40, 3) := by decide +kernel
theorem dX7_raiseLast_34 : decode cX7_raiseLast 34 = .ok (.return_, 1) := by decide +kernel
theorem kd_7_raiseLast : Cond.code yX7_raiseLast cX7_raiseLast 3 none ∈ lw_g := mt_at 1155 (by decide +kernel) rfl
theorem ki_7_raiseLast : Cond.instanceMethod yX7_raiseLast ∈ lw_g := mt_at 1154 (by decide +kernel) rfl
theorem kl_7_raiseLast : Cond.selects (kRn 7) yX7_raiseLast yX7_raiseLast ∈ lw_g := mt_sel 19 (by decide +kernel) rfl
section
variable {p : Program} {l : Launch} {e : Env} {R : Room} {s : State} {m : MethodId} {args : Array Value} {below : List Frame} {meth : Method} {c : Code} {H : Heap} {locs : List Loc} {cells slots : Nat} {Q : State → Prop}
variable {D : cG} {S S0 : cSt} {cc : ByteArray} {nL : Nat} {pc : Nat} {ls : Array Slot} {rest : List Value} {H0 : Heap} {nF nR nC nS : Nat} {ret : Option FieldType} {a : Nat}
theorem gk7_40 (C : cY p R s m args meth c RX7 cc nL nF nC nS nR ret) (X : cX D s) (hW : cW D S H) (hk : kK S a = 8) (hdg : decode cc pc = .ok (.getfield 40, 3)) (kk : W p l e R s m args below meth c H locs cells slots Q (F0 m (pc + 3) ls (.int (kF S a 10) :: rest))) : W p l e R s m args below meth c H locs cells slots Q (F0 m pc ls (.ref a :: rest)) := c_get C X hW 7 (by decide) ly_7 hk 10 (by decide) (mt_at 325 (by decide +kernel) (by decide +kernel)) hdg (by rw [cV_I (by decide +kernel)]; exact kk)
end
section
variable {p : Program} {l : Launch} {e : Env} {R : Room} {s : State} {m : MethodId} {args : Array Value} {below : List Frame} {meth : Method} {c : Code} {D : cG} {S0 S9 : cSt}
noncomputable def fk_7_raiseLast_34 (S : cSt) : Option (cSt) :=
some S
set_option maxRecDepth 100000 in
set_option maxHeartbeats 4000000 in
theorem wk_7_raiseLast_34 (C : cY p R s m args meth c RX7 cX7_raiseLast 3 0 0 0 0 none) (X : cX D s) : ∀ {S : cSt} {H : Heap} {locs : List Loc} {ls : Array Slot}, fk_7_raiseLast_34 S = some S9 → cJ D S0 s.heap S H locs → lv_has ls 3 [] → W p l e R s m args below meth c H locs 0 0 (MQ below (kW none D S0 S9) args s 0 0 (cA S0)) (F0 m 34 ls []) := by
  intro S H locs ls h hJ hl
  unfold fk_7_raiseLast_34 at h
  cases h
  exact c_retvW C hJ dX7_raiseLast_34
noncomputable def fk_7_raiseLast_24 (S : cSt) (v0 : Nat) (v1 : Int32) (v2 : Int32) : Option (cSt) :=
ckk S v0 8 (lt (cPi S v0 9 v1) fun S1 =>
ckk S1 v0 8 (lt (cPi S1 v0 10 v2) fun S2 =>
fk_7_raiseLast_34 S2))
set_option maxRecDepth 100000 in
set_option maxHeartbeats 4000000 in
theorem wk_7_raiseLast_24 (C : cY p R s m args meth c RX7 cX7_raiseLast 3 0 0 0 0 none) (X : cX D s) : ∀ {S : cSt} {v0 : Nat} {v1 : Int32} {v2 : Int32} {H : Heap} {locs : List Loc} {ls : Array Slot}, fk_7_raiseLast_24 S v0 v1 v2 = some S9 → cJ D S0 s.heap S H locs → lv_has ls 3 [(0, .ref v0), (1, .int v1), (2, .int v2)] → W p l e R s m args below meth c H locs 0 0 (MQ below (kW none D S0 S9) args s 0 0 (cA S0)) (F0 m 24 ls []) := by
  intro S v0 v1 v2 H locs ls h hJ hl
  unfold fk_7_raiseLast_24 at h
  refine lv_aload_n C.1 C.2.1 dX7_raiseLast_24 rfl (lv_at hl 0 rfl) ?_
  refine lv_iload_n C.1 C.2.1 dX7_raiseLast_25 rfl (lv_at hl 1 rfl) ?_
  obtain ⟨hk, h⟩ := ckk_ok h
  refine pk7_37 C X hJ hk dX7_raiseLast_26 (fun H locs hJ => ?_)
  refine lt_ok h (fun S1 e_S1 h => ?_)
  rw [e_S1] at hJ
  refine lv_aload_n C.1 C.2.1 dX7_raiseLast_29 rfl (lv_at hl 0 rfl) ?_
  refine lv_iload_n C.1 C.2.1 dX7_raiseLast_30 rfl (lv_at hl 2 rfl) ?_
  obtain ⟨hk, h⟩ := ckk_ok h
  refine pk7_40 C X hJ hk dX7_raiseLast_31 (fun H locs hJ => ?_)
  refine lt_ok h (fun S2 e_S2 h => ?_)
  rw [e_S2] at hJ
  exact wk_7_raiseLast_34 C X h hJ (lv_sub hl [] rfl)
noncomputable def fk_7_raiseLast (S : cSt) (v0 : Nat) (v1 : Int32) (v2 : Int32) : Option (cSt) :=
ckk S v0 8 (
if (kF S v0 9) < v1 then (
fk_7_raiseLast_24 S v0 v1 v2)
else (
ckk S v0 8 (
if v1 = (kF S v0 9) then (
ckk S v0 8 (
if v2 ≤ (kF S v0 10) then (
fk_7_raiseLast_34 S)
else (
fk_7_raiseLast_24 S v0 v1 v2)))
else (
fk_7_raiseLast_34 S))))
set_option maxRecDepth 100000 in
set_option maxHeartbeats 4000000 in
theorem tk_7_raiseLast (l : Launch) {D : cG} {S : cSt} {v0 : Nat} {v1 : Int32} {v2 : Int32} {S9 : cSt} (h : fk_7_raiseLast S v0 v1 v2 = some S9) : Met l yX7_raiseLast (Cond.code yX7_raiseLast cX7_raiseLast 3 none :: lw_g) { frames := 0, cells := 0, slots := 0, locals := 0 } (kPi [.ref v0, .int v1, .int v2] D S) (kW none D S S9) 0 0 (cA S) := by
  refine Met.ofW (cc := cX7_raiseLast) (maxL := 3) (ret := none) (by decide) rfl ?_
  intro p e s m args below meth c s₁ B hml hv
  obtain ⟨rfl, hW, X⟩ := hv
  have C : cY p (headSpec (Cond.code yX7_raiseLast cX7_raiseLast 3 none :: lw_g) { frames := 0, cells := 0, slots := 0, locals := 0 }).room s m _ meth c RX7 cX7_raiseLast 3 0 0 0 0 none := ⟨B.exec, B.bytes, hml, findClass_of_methodNamed B.named, fun w hw => atoms_spec (ws := Cond.code yX7_raiseLast cX7_raiseLast 3 none :: lw_g) B.pre w (List.mem_cons_of_mem _ hw), ⟨Nat.le_refl _, Nat.le_refl _, Nat.le_refl _, Nat.le_refl _⟩, B.returns, B.notSynchronized⟩
  have hl := lv_entry ([.ref v0, .int v1, .int v2]) (n := 3) (Nat.le_of_ble_eq_true rfl)
  rw [lg_entry_eq]
  generalize (lg_sl ([.ref v0, .int v1, .int v2]) ++ List.replicate (3 - (lg_sl ([.ref v0, .int v1, .int v2])).length) Slot.unset).toArray = ls at hl ⊢
  have hl : lv_has ls 3 [(0, .ref v0), (1, .int v1), (2, .int v2)] := hl
  have hJ : cJ D S s.heap S s.heap [] := cJ.rf hW
  unfold fk_7_raiseLast at h
  refine lv_iload_n C.1 C.2.1 dX7_raiseLast_0 rfl (lv_at hl 1 rfl) ?_
  refine lv_aload_n C.1 C.2.1 dX7_raiseLast_1 rfl (lv_at hl 0 rfl) ?_
  obtain ⟨hk, h⟩ := ckk_ok h
  refine gk7_37 C X hJ.1 hk dX7_raiseLast_2 ?_
  refine lv_icmp_gt (tgt := 24) C.1 C.2.1 dX7_raiseLast_5 (by decide) (fun c1 => ?_) (fun c1 => ?_)
  · have h := if_t h c1
    exact wk_7_raiseLast_24 C X h hJ (lv_sub hl [0, 1, 2] rfl)
  · have h := if_f h c1
    refine lv_iload_n C.1 C.2.1 dX7_raiseLast_8 rfl (lv_at hl 1 rfl) ?_
    refine lv_aload_n C.1 C.2.1 dX7_raiseLast_9 rfl (lv_at hl 0 rfl) ?_
    obtain ⟨hk, h⟩ := ckk_ok h
    refine gk7_37 C X hJ.1 hk dX7_raiseLast_10 ?_
    refine lv_icmp_ne (tgt := 34) C.1 C.2.1 dX7_raiseLast_13 (by decide) (fun c2 => ?_) (fun c2 => ?_)
    · have h := if_f h c2
      exact wk_7_raiseLast_34 C X h hJ (lv_sub hl [] rfl)
    · have h := if_t h c2
      refine lv_iload_n C.1 C.2.1 dX7_raiseLast_16 rfl (lv_at hl 2 rfl) ?_
      refine lv_aload_n C.1 C.2.1 dX7_raiseLast_17 rfl (lv_at hl 0 rfl) ?_
      obtain ⟨hk, h⟩ := ckk_ok h
      refine gk7_40 C X hJ.1 hk dX7_raiseLast_18 ?_
      refine lv_icmp_le (tgt := 34) C.1 C.2.1 dX7_raiseLast_21 (by decide) (fun c3 => ?_) (fun c3 => ?_)
      · have h := if_t h c3
        exact wk_7_raiseLast_34 C X h hJ (lv_sub hl [] rfl)
      · have h := if_f h c3
        exact wk_7_raiseLast_24 C X h hJ (lv_sub hl [0, 1, 2] rfl)
end
