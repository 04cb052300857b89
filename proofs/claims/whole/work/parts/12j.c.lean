-- made by wip/whole/gen12.py: 10_findBinds, 10_findKeys, 10_keyAt, 10_holderOf, 11_init, 11_type, 11_fault, 11_isNode, 11_tick, 11_madeSlot, 11_ruleAt, 11_refusalOf
theorem dX10_findBinds_0 : decode cX10_findBinds 0 = .ok (.aload_n 0, 1) := by decide +kernel
theorem dX10_findBinds_1 : decode cX10_findBinds 1 = .ok (.invokevirtual 143, 3) := by decide +kernel
theorem dX10_findBinds_4 : decode cX10_findBinds 4 = .ok (.aload_n 0, 1) := by decide +kernel
theorem dX10_findBinds_5 : decode cX10_findBinds 5 = .ok (.getfield 38, 3) := by decide +kernel
theorem dX10_findBinds_8 : decode cX10_findBinds 8 = .ok (.getfield 121, 3) := by decide +kernel
theorem dX10_findBinds_11 : decode cX10_findBinds 11 = .ok (.iload_n 1, 1) := by decide +kernel
theorem dX10_findBinds_12 : decode cX10_findBinds 12 = .ok (.aaload, 1) := by decide +kernel
theorem dX10_findBinds_13 : decode cX10_findBinds 13 = .ok (.astore_n 2, 1) := by decide +kernel
theorem dX10_findBinds_14 : decode cX10_findBinds 14 = .ok (.aload_n 2, 1) := by decide +kernel
theorem dX10_findBinds_15 : decode cX10_findBinds 15 = .ok (.ifnull 50, 3) := by decide +kernel
theorem dX10_findBinds_18 : decode cX10_findBinds 18 = .ok (.aload_n 0, 1) := by decide +kernel
theorem dX10_findBinds_19 : decode cX10_findBinds 19 = .ok (.aload_n 2, 1) := by decide +kernel
theorem dX10_findBinds_20 : decode cX10_findBinds 20 = .ok (.invokevirtual 96, 3) := by decide +kernel
theorem dX10_findBinds_23 : decode cX10_findBinds 23 = .ok (.ifCond .eq 26, 3) := by decide +kernel
theorem dX10_findBinds_26 : decode cX10_findBinds 26 = .ok (.aload_n 0, 1) := by decide +kernel
theorem dX10_findBinds_27 : decode cX10_findBinds 27 = .ok (.getfield 24, 3) := by decide +kernel
theorem dX10_findBinds_30 : decode cX10_findBinds 30 = .ok (.aload_n 2, 1) := by decide +kernel
theorem dX10_findBinds_31 : decode cX10_findBinds 31 = .ok (.getfield 102, 3) := by decide +kernel
theorem dX10_findBinds_34 : decode cX10_findBinds 34 = .ok (.aload_n 2, 1) := by decide +kernel
theorem dX10_findBinds_35 : decode cX10_findBinds 35 = .ok (.getfield 108, 3) := by decide +kernel
theorem dX10_findBinds_38 : decode cX10_findBinds 38 = .ok (.bipush 15, 2) := by decide +kernel
theorem dX10_findBinds_40 : decode cX10_findBinds 40 = .ok (.if_icmp .ne 7, 3) := by decide +kernel
theorem dX10_findBinds_43 : decode cX10_findBinds 43 = .ok (.aload_n 2, 1) := by decide +kernel
theorem dX10_findBinds_44 : decode cX10_findBinds 44 = .ok (.goto 4, 3) := by decide +kernel
theorem dX10_findBinds_47 : decode cX10_findBinds 47 = .ok (.aconst_null, 1) := by decide +kernel
theorem dX10_findBinds_48 : decode cX10_findBinds 48 = .ok (.aastore, 1) := by decide +kernel
theorem dX10_findBinds_49 : decode cX10_findBinds 49 = .ok (.aload_n 0, 1) := by decide +kernel
theorem dX10_findBinds_50 : decode cX10_findBinds 50 = .ok (.getfield 38, 3) := by decide +kernel
theorem dX10_findBinds_53 : decode cX10_findBinds 53 = .ok (.getfield 127, 3) := by decide +kernel
theorem dX10_findBinds_56 : decode cX10_findBinds 56 = .ok (.aload_n 2, 1) := by decide +kernel
theorem dX10_findBinds_57 : decode cX10_findBinds 57 = .ok (.getfield 68, 3) := by decide +kernel
theorem dX10_findBinds_60 : decode cX10_findBinds 60 = .ok (.aaload, 1) := by decide +kernel
theorem dX10_findBinds_61 : decode cX10_findBinds 61 = .ok (.astore_n 2, 1) := by decide +kernel
theorem dX10_findBinds_62 : decode cX10_findBinds 62 = .ok (.goto (-48), 3) := by decide +kernel
theorem dX10_findBinds_65 : decode cX10_findBinds 65 = .ok (.return_, 1) := by decide +kernel
theorem kd_10_findBinds : Cond.code yX10_findBinds cX10_findBinds 3 none ∈ lw_g := mt_at 1474 (by decide +kernel) rfl
theorem ki_10_findBinds : Cond.instanceMethod yX10_findBinds ∈ lw_g := mt_at 1473 (by decide +kernel) rfl
theorem kl_10_findBinds : Cond.selects (kRn 10) yX10_findBinds yX10_findBinds ∈ lw_g := mt_sel 40 (by decide +kernel) rfl
section
variable {p : Program} {l : Launch} {e : Env} {R : Room} {s : State} {m : MethodId} {args : Array Value} {below : List Frame} {meth : Method} {c : Code} {D : cG} {S0 S9 : cSt}
noncomputable def fk_10_findBinds_49 (g_14 : cSt → Nat → Option Nat → Option (cSt)) (S : cSt) (v0 : Nat) (v2 : Option Nat) : Option (cSt) :=
ckk S v0 11 (bd (kR S v0 7) fun a1 =>
ckk S a1 5 (bd (kR S a1 4) fun a2 =>
bd v2 fun a3 =>
ckk S a3 9 (
ckk S a2 30 (ck (kF S a3 12) (kL S a2) (lt (kO S a2 (Int32.toNatClampNeg (kF S a3 12))) fun o4 =>
g_14 S v0 o4)))))
set_option maxRecDepth 100000 in
set_option maxHeartbeats 4000000 in
theorem wk_10_findBinds_49 (C : cY p R s m args meth c RX10 cX10_findBinds 3 1 0 0 22 none) (X : cX D s) {g_14 : cSt → Nat → Option Nat → Option (cSt)} (hg_14 : ∀ {S : cSt} {v0 : Nat} {v2 : Option Nat} {H : Heap} {locs : List Loc} {ls : Array Slot}, g_14 S v0 v2 = some S9 → cJ D S0 s.heap S H locs → lv_has ls 3 [(0, .ref v0), (2, va_rf v2)] → W p l e R s m args below meth c H locs 0 0 (MQ below (kW none D S0 S9) args s 0 0 (cA S0)) (F0 m 14 ls [])) : ∀ {S : cSt} {v0 : Nat} {v2 : Option Nat} {H : Heap} {locs : List Loc} {ls : Array Slot}, fk_10_findBinds_49 g_14 S v0 v2 = some S9 → cJ D S0 s.heap S H locs → lv_has ls 3 [(0, .ref v0), (2, va_rf v2)] → W p l e R s m args below meth c H locs 0 0 (MQ below (kW none D S0 S9) args s 0 0 (cA S0)) (F0 m 49 ls []) := by
  intro S v0 v2 H locs ls h hJ hl
  unfold fk_10_findBinds_49 at h
  refine lv_aload_n C.1 C.2.1 dX10_findBinds_49 rfl (lv_at hl 0 rfl) ?_
  obtain ⟨hk, h⟩ := ckk_ok h
  obtain ⟨a1, h_a1, h⟩ := bd_ok h
  refine gk10_38 C X hJ.1 hk h_a1 dX10_findBinds_50 ?_
  obtain ⟨hk, h⟩ := ckk_ok h
  obtain ⟨a2, h_a2, h⟩ := bd_ok h
  refine gk10_127 C X hJ.1 hk h_a2 dX10_findBinds_53 ?_
  refine lv_aload_nq (o := v2) C.1 C.2.1 dX10_findBinds_56 rfl (lv_at hl 1 rfl) ?_
  obtain ⟨a3, e_a3, h⟩ := bd_ok h
  revert h; subst e_a3; intro h
  obtain ⟨hk, h⟩ := ckk_ok h
  refine gk10_68 C X hJ.1 hk dX10_findBinds_57 ?_
  obtain ⟨hk, h⟩ := ckk_ok h
  obtain ⟨hin2, h⟩ := ck_ok h
  refine c_aald C 30 (by decide) X.2.2.2.2.1 hJ.1 hk hin2 dX10_findBinds_60 ?_
  refine lt_ok h (fun o4 e_o4 h => ?_)
  refine lv_nmq e_o4 ?_
  refine lv_astore_nq (o := o4) (lv' := [(2, va_rf o4), (0, .ref v0)]) C.1 C.2.1 dX10_findBinds_61 rfl hl (by decide) rfl (fun ls hl => ?_)
  refine lv_goto (tgt := 14) C.1 C.2.1 dX10_findBinds_62 (by decide) ?_
  exact hg_14 h hJ (lv_sub hl [1, 0] rfl)
noncomputable def fk_10_findBinds_48 (g_14 : cSt → Nat → Option Nat → Option (cSt)) (S : cSt) (v0 : Nat) (v2 : Option Nat) (s0 : Nat) (s1 : Int32) (s2 : Option Nat) : Option (cSt) :=
ckk S s0 30 (ck s1 (kL S s0) (ckq S s2 9 (lt (cWo S s0 (Int32.toNatClampNeg s1) s2) fun S1 =>
fk_10_findBinds_49 g_14 S1 v0 v2)))
set_option maxRecDepth 100000 in
set_option maxHeartbeats 4000000 in
theorem wk_10_findBinds_48 (C : cY p R s m args meth c RX10 cX10_findBinds 3 1 0 0 22 none) (X : cX D s) {g_14 : cSt → Nat → Option Nat → Option (cSt)} (hg_14 : ∀ {S : cSt} {v0 : Nat} {v2 : Option Nat} {H : Heap} {locs : List Loc} {ls : Array Slot}, g_14 S v0 v2 = some S9 → cJ D S0 s.heap S H locs → lv_has ls 3 [(0, .ref v0), (2, va_rf v2)] → W p l e R s m args below meth c H locs 0 0 (MQ below (kW none D S0 S9) args s 0 0 (cA S0)) (F0 m 14 ls [])) : ∀ {S : cSt} {v0 : Nat} {v2 : Option Nat} {s0 : Nat} {s1 : Int32} {s2 : Option Nat} {H : Heap} {locs : List Loc} {ls : Array Slot}, fk_10_findBinds_48 g_14 S v0 v2 s0 s1 s2 = some S9 → cJ D S0 s.heap S H locs → lv_has ls 3 [(0, .ref v0), (2, va_rf v2)] → W p l e R s m args below meth c H locs 0 0 (MQ below (kW none D S0 S9) args s 0 0 (cA S0)) (F0 m 48 ls [va_rf s2, .int s1, .ref s0]) := by
  intro S v0 v2 s0 s1 s2 H locs ls h hJ hl
  unfold fk_10_findBinds_48 at h
  obtain ⟨hk, h⟩ := ckk_ok h
  obtain ⟨hin2, h⟩ := ck_ok h
  obtain ⟨hkv, h⟩ := ckq_ok h
  refine c_aastq (o := s2) C X 30 8 (by decide) (by decide) X.2.2.2.2.1 hJ hk hkv hin2 dX10_findBinds_48 (fun H locs hJ => ?_)
  refine lt_ok h (fun S1 e_S1 h => ?_)
  rw [e_S1] at hJ
  exact wk_10_findBinds_49 C X hg_14 h hJ (lv_sub hl [0, 1] rfl)
noncomputable def fk_10_findBinds_14 : Nat → cSt → Nat → Option Nat → Option (cSt)
  | 0, _, _, _ => none
  | n + 1, S, v0, v2 =>
    cs v2 (
    some S) (fun a1 =>
    ckk S v0 11 (bd (fk_10_isGood S v0 a1) fun r2 =>
    if r2 = 0 then (
    fk_10_findBinds_49 (fk_10_findBinds_14 n) S v0 (some a1))
    else (
    ckk S v0 11 (bd (kR S v0 5) fun a4 =>
    ckk S a1 9 (
    ckk S a1 9 (
    if (kF S a1 0) = (15 : Int32) then (
    fk_10_findBinds_48 (fk_10_findBinds_14 n) S v0 (some a1) a4 (kF S a1 4) (some a1))
    else (
    fk_10_findBinds_48 (fk_10_findBinds_14 n) S v0 (some a1) a4 (kF S a1 4) none)))))))
set_option maxRecDepth 100000 in
set_option maxHeartbeats 4000000 in
theorem wk_10_findBinds_14 (C : cY p R s m args meth c RX10 cX10_findBinds 3 1 0 0 22 none) (X : cX D s) : ∀ (n : Nat), ∀ {S : cSt} {v0 : Nat} {v2 : Option Nat} {H : Heap} {locs : List Loc} {ls : Array Slot}, fk_10_findBinds_14 n S v0 v2 = some S9 → cJ D S0 s.heap S H locs → lv_has ls 3 [(0, .ref v0), (2, va_rf v2)] → W p l e R s m args below meth c H locs 0 0 (MQ below (kW none D S0 S9) args s 0 0 (cA S0)) (F0 m 14 ls []) := by
  intro n
  induction n with
  | zero =>
    intro S v0 v2 H locs ls h hJ hl
    exact absurd (show (none : Option (cSt)) = _ from h) (fun q => by cases q)
  | succ n ih =>
    intro S v0 v2 H locs ls h hJ hl
    rw [fk_10_findBinds_14] at h
    refine lv_aload_nq (o := v2) C.1 C.2.1 dX10_findBinds_14 rfl (lv_at hl 1 rfl) ?_
    rcases v2 with _ | a1
    · replace h := cs_n h
      refine lv_ifnullN (tgt := 65) C.1 C.2.1 dX10_findBinds_15 (by decide) ?_
      cases h
      exact c_retvW C hJ dX10_findBinds_65
    · replace h := cs_s h
      refine lv_ifnull C.1 C.2.1 dX10_findBinds_15 ?_
      refine lv_aload_n C.1 C.2.1 dX10_findBinds_18 rfl (lv_at hl 0 rfl) ?_
      refine lv_aload_n C.1 C.2.1 dX10_findBinds_19 rfl (lv_at hl 1 rfl) ?_
      obtain ⟨hk, h⟩ := ckk_ok h
      obtain ⟨r2, h_r2, h⟩ := bd_ok h
      refine c_callR (rest := []) C X hJ.1 hl.1 10 (by decide) hk [.ref a1] (tk_10_isGood l h_r2) cw10_96 ki_10_isGood kl_10_isGood rfl ⟨by decide, by decide⟩ ⟨(by decide), (by decide)⟩ rfl (Nat.le_of_ble_eq_true rfl) dX10_findBinds_20 ?_
      refine W.eq (g2 := F0 m 23 ls [.int r2]) rfl ?_
      refine lv_if_eq (tgt := 49) C.1 C.2.1 dX10_findBinds_23 (by decide) (fun c3 => ?_) (fun c3 => ?_)
      · have h := if_t h c3
        exact wk_10_findBinds_49 C X ih h hJ (lv_sub hl [0, 1] rfl)
      · have h := if_f h c3
        refine lv_aload_n C.1 C.2.1 dX10_findBinds_26 rfl (lv_at hl 0 rfl) ?_
        obtain ⟨hk, h⟩ := ckk_ok h
        obtain ⟨a4, h_a4, h⟩ := bd_ok h
        refine gk10_24 C X hJ.1 hk h_a4 dX10_findBinds_27 ?_
        refine lv_aload_n C.1 C.2.1 dX10_findBinds_30 rfl (lv_at hl 1 rfl) ?_
        obtain ⟨hk, h⟩ := ckk_ok h
        refine gk10_102 C X hJ.1 hk dX10_findBinds_31 ?_
        refine lv_aload_n C.1 C.2.1 dX10_findBinds_34 rfl (lv_at hl 1 rfl) ?_
        obtain ⟨hk, h⟩ := ckk_ok h
        refine gk10_108 C X hJ.1 hk dX10_findBinds_35 ?_
        refine lv_bipush (v := 15) C.1 C.2.1 dX10_findBinds_38 (by decide) ?_
        refine lv_icmp_ne (tgt := 47) C.1 C.2.1 dX10_findBinds_40 (by decide) (fun c5 => ?_) (fun c5 => ?_)
        · have h := if_f h c5
          refine lv_null C.1 C.2.1 dX10_findBinds_47 ?_
          exact wk_10_findBinds_48 C X ih h hJ (lv_sub hl [0, 1] rfl)
        · have h := if_t h c5
          refine lv_aload_n C.1 C.2.1 dX10_findBinds_43 rfl (lv_at hl 1 rfl) ?_
          refine lv_goto (tgt := 48) C.1 C.2.1 dX10_findBinds_44 (by decide) ?_
          exact wk_10_findBinds_48 C X ih h hJ (lv_sub hl [0, 1] rfl)
noncomputable def fk_10_findBinds (S : cSt) (v0 : Nat) (v1 : Int32) : Option (cSt) :=
ckk S v0 11 (bd (fk_10_forgetKeys S v0) fun S1 =>
ckk S1 v0 11 (bd (kR S1 v0 7) fun a2 =>
ckk S1 a2 5 (bd (kR S1 a2 5) fun a3 =>
ckk S1 a3 30 (ck v1 (kL S1 a3) (lt (kO S1 a3 (Int32.toNatClampNeg v1)) fun o4 =>
fk_10_findBinds_14 mFU S1 v0 o4)))))
set_option maxRecDepth 100000 in
set_option maxHeartbeats 4000000 in
theorem tk_10_findBinds (l : Launch) {D : cG} {S : cSt} {v0 : Nat} {v1 : Int32} {S9 : cSt} (h : fk_10_findBinds S v0 v1 = some S9) : Met l yX10_findBinds (Cond.code yX10_findBinds cX10_findBinds 3 none :: lw_g) { frames := 1, cells := 0, slots := 0, locals := 22 } (kPi [.ref v0, .int v1] D S) (kW none D S S9) 0 0 (cA S) := by
  refine Met.ofW (cc := cX10_findBinds) (maxL := 3) (ret := none) (by decide) rfl ?_
  intro p e s m args below meth c s₁ B hml hv
  obtain ⟨rfl, hW, X⟩ := hv
  have C : cY p (headSpec (Cond.code yX10_findBinds cX10_findBinds 3 none :: lw_g) { frames := 1, cells := 0, slots := 0, locals := 22 }).room s m _ meth c RX10 cX10_findBinds 3 1 0 0 22 none := ⟨B.exec, B.bytes, hml, findClass_of_methodNamed B.named, fun w hw => atoms_spec (ws := Cond.code yX10_findBinds cX10_findBinds 3 none :: lw_g) B.pre w (List.mem_cons_of_mem _ hw), ⟨Nat.le_refl _, Nat.le_refl _, Nat.le_refl _, Nat.le_refl _⟩, B.returns, B.notSynchronized⟩
  have hl := lv_entry ([.ref v0, .int v1]) (n := 3) (Nat.le_of_ble_eq_true rfl)
  rw [lg_entry_eq]
  generalize (lg_sl ([.ref v0, .int v1]) ++ List.replicate (3 - (lg_sl ([.ref v0, .int v1])).length) Slot.unset).toArray = ls at hl ⊢
  have hl : lv_has ls 3 [(0, .ref v0), (1, .int v1)] := hl
  have hJ : cJ D S s.heap S s.heap [] := cJ.rf hW
  unfold fk_10_findBinds at h
  refine lv_aload_n C.1 C.2.1 dX10_findBinds_0 rfl (lv_at hl 0 rfl) ?_
  obtain ⟨hk, h⟩ := ckk_ok h
  obtain ⟨S1, h_S1, h⟩ := bd_ok h
  refine c_callW (rest := []) C X hJ hl.1 10 (by decide) hk [] (tk_10_forgetKeys l h_S1) cw10_143 ki_10_forgetKeys kl_10_forgetKeys rfl ⟨by decide, by decide⟩ ⟨(by decide), (by decide)⟩ rfl (Nat.le_of_ble_eq_true rfl) dX10_findBinds_1 (fun H locs hJ => ?_)
  refine W.eq (g2 := F0 m 4 ls []) rfl ?_
  refine lv_aload_n C.1 C.2.1 dX10_findBinds_4 rfl (lv_at hl 0 rfl) ?_
  obtain ⟨hk, h⟩ := ckk_ok h
  obtain ⟨a2, h_a2, h⟩ := bd_ok h
  refine gk10_38 C X hJ.1 hk h_a2 dX10_findBinds_5 ?_
  obtain ⟨hk, h⟩ := ckk_ok h
  obtain ⟨a3, h_a3, h⟩ := bd_ok h
  refine gk10_121 C X hJ.1 hk h_a3 dX10_findBinds_8 ?_
  refine lv_iload_n C.1 C.2.1 dX10_findBinds_11 rfl (lv_at hl 1 rfl) ?_
  obtain ⟨hk, h⟩ := ckk_ok h
  obtain ⟨hin2, h⟩ := ck_ok h
  refine c_aald C 30 (by decide) X.2.2.2.2.1 hJ.1 hk hin2 dX10_findBinds_12 ?_
  refine lt_ok h (fun o4 e_o4 h => ?_)
  refine lv_nmq e_o4 ?_
  refine lv_astore_nq (o := o4) (lv' := [(2, va_rf o4), (0, .ref v0), (1, .int v1)]) C.1 C.2.1 dX10_findBinds_13 rfl hl (by decide) rfl (fun ls hl => ?_)
  exact wk_10_findBinds_14 C X mFU h hJ (lv_sub hl [1, 0] rfl)
end
theorem dX10_findKeys_0 : decode cX10_findKeys 0 = .ok (.iload_n 2, 1) := by decide +kernel
theorem dX10_findKeys_1 : decode cX10_findKeys 1 = .ok (.bipush 65, 2) := by decide +kernel
theorem dX10_findKeys_3 : decode cX10_findKeys 3 = .ok (.if_icmp .ne 11, 3) := by decide +kernel
theorem dX10_findKeys_6 : decode cX10_findKeys 6 = .ok (.aload_n 0, 1) := by decide +kernel
theorem dX10_findKeys_7 : decode cX10_findKeys 7 = .ok (.iload_n 1, 1) := by decide +kernel
theorem dX10_findKeys_8 : decode cX10_findKeys 8 = .ok (.invokevirtual 137, 3) := by decide +kernel
theorem dX10_findKeys_11 : decode cX10_findKeys 11 = .ok (.goto 8, 3) := by decide +kernel
theorem dX10_findKeys_14 : decode cX10_findKeys 14 = .ok (.aload_n 0, 1) := by decide +kernel
theorem dX10_findKeys_15 : decode cX10_findKeys 15 = .ok (.iload_n 1, 1) := by decide +kernel
theorem dX10_findKeys_16 : decode cX10_findKeys 16 = .ok (.invokevirtual 140, 3) := by decide +kernel
theorem dX10_findKeys_19 : decode cX10_findKeys 19 = .ok (.iconst 0, 1) := by decide +kernel
theorem dX10_findKeys_20 : decode cX10_findKeys 20 = .ok (.istore_n 3, 1) := by decide +kernel
theorem dX10_findKeys_21 : decode cX10_findKeys 21 = .ok (.iconst 0, 1) := by decide +kernel
theorem dX10_findKeys_22 : decode cX10_findKeys 22 = .ok (.istore 4, 2) := by decide +kernel
theorem dX10_findKeys_24 : decode cX10_findKeys 24 = .ok (.iload 4, 2) := by decide +kernel
theorem dX10_findKeys_26 : decode cX10_findKeys 26 = .ok (.bipush 64, 2) := by decide +kernel
theorem dX10_findKeys_28 : decode cX10_findKeys 28 = .ok (.if_icmp .ge 27, 3) := by decide +kernel
theorem dX10_findKeys_31 : decode cX10_findKeys 31 = .ok (.iload_n 3, 1) := by decide +kernel
theorem dX10_findKeys_32 : decode cX10_findKeys 32 = .ok (.aload_n 0, 1) := by decide +kernel
theorem dX10_findKeys_33 : decode cX10_findKeys 33 = .ok (.getfield 24, 3) := by decide +kernel
theorem dX10_findKeys_36 : decode cX10_findKeys 36 = .ok (.iload 4, 2) := by decide +kernel
theorem dX10_findKeys_38 : decode cX10_findKeys 38 = .ok (.aaload, 1) := by decide +kernel
theorem dX10_findKeys_39 : decode cX10_findKeys 39 = .ok (.ifnonnull 7, 3) := by decide +kernel
theorem dX10_findKeys_42 : decode cX10_findKeys 42 = .ok (.iconst 0, 1) := by decide +kernel
theorem dX10_findKeys_43 : decode cX10_findKeys 43 = .ok (.goto 4, 3) := by decide +kernel
theorem dX10_findKeys_46 : decode cX10_findKeys 46 = .ok (.iconst 1, 1) := by decide +kernel
theorem dX10_findKeys_47 : decode cX10_findKeys 47 = .ok (.iadd, 1) := by decide +kernel
theorem dX10_findKeys_48 : decode cX10_findKeys 48 = .ok (.istore_n 3, 1) := by decide +kernel
theorem dX10_findKeys_49 : decode cX10_findKeys 49 = .ok (.iinc 4 1, 3) := by decide +kernel
theorem dX10_findKeys_52 : decode cX10_findKeys 52 = .ok (.goto (-28), 3) := by decide +kernel
theorem dX10_findKeys_55 : decode cX10_findKeys 55 = .ok (.iload_n 3, 1) := by decide +kernel
theorem dX10_findKeys_56 : decode cX10_findKeys 56 = .ok (.ireturn, 1) := by decide +kernel
theorem kd_10_findKeys : Cond.code yX10_findKeys cX10_findKeys 5 (some .int) ∈ lw_g := mt_at 1470 (by decide +kernel) rfl
theorem ki_10_findKeys : Cond.instanceMethod yX10_findKeys ∈ lw_g := mt_at 1468 (by decide +kernel) rfl
theorem kl_10_findKeys : Cond.selects (kRn 10) yX10_findKeys yX10_findKeys ∈ lw_g := mt_at 1469 (by decide +kernel) rfl
theorem cw10_140 : cCw RX10 140 yX10_findBinds cX10_findBinds 3 none 1 := ⟨kd_10_findBinds, mt_at 1471 (by decide +kernel) rfl, mt_at 10 (by decide +kernel) rfl, by decide +kernel⟩
section
variable {p : Program} {l : Launch} {e : Env} {R : Room} {s : State} {m : MethodId} {args : Array Value} {below : List Frame} {meth : Method} {c : Code} {D : cG} {S0 S9 : cSt} {r : Int32}
noncomputable def fk_10_findKeys_47 (g_24 : cSt → Nat → Int32 → Int32 → Option (Int32 × cSt)) (S : cSt) (v0 : Nat) (v4 : Int32) (s0 : Int32) (s1 : Int32) : Option (Int32 × cSt) :=
lt (s0 + s1) fun x1 =>
lt (v4 + (1 : Int32)) fun x2 =>
g_24 S v0 x1 x2
set_option maxRecDepth 100000 in
set_option maxHeartbeats 4000000 in
theorem wk_10_findKeys_47 (C : cY p R s m args meth c RX10 cX10_findKeys 5 2 0 0 45 (some .int)) (X : cX D s) {g_24 : cSt → Nat → Int32 → Int32 → Option (Int32 × cSt)} (hg_24 : ∀ {S : cSt} {v0 : Nat} {v3 : Int32} {v4 : Int32} {H : Heap} {locs : List Loc} {ls : Array Slot}, g_24 S v0 v3 v4 = some (r, S9) → cJ D S0 s.heap S H locs → lv_has ls 5 [(0, .ref v0), (3, .int v3), (4, .int v4)] → W p l e R s m args below meth c H locs 0 0 (MQ below (kW (some (.int r)) D S0 S9) args s 0 0 (cA S0)) (F0 m 24 ls [])) : ∀ {S : cSt} {v0 : Nat} {v4 : Int32} {s0 : Int32} {s1 : Int32} {H : Heap} {locs : List Loc} {ls : Array Slot}, fk_10_findKeys_47 g_24 S v0 v4 s0 s1 = some (r, S9) → cJ D S0 s.heap S H locs → lv_has ls 5 [(0, .ref v0), (4, .int v4)] → W p l e R s m args below meth c H locs 0 0 (MQ below (kW (some (.int r)) D S0 S9) args s 0 0 (cA S0)) (F0 m 47 ls [.int s1, .int s0]) := by
  intro S v0 v4 s0 s1 H locs ls h hJ hl
  unfold fk_10_findKeys_47 at h
  refine lv_iadd C.1 C.2.1 dX10_findKeys_47 ?_
  refine lt_ok h (fun x1 e_x1 h => ?_)
  refine lv_nm e_x1 ?_
  refine lv_istore_n (lv' := [(3, .int x1), (0, .ref v0), (4, .int v4)]) C.1 C.2.1 dX10_findKeys_48 rfl hl (by decide) rfl (fun ls hl => ?_)
  refine lt_ok h (fun x2 e_x2 h => ?_)
  refine lv_iinc (v := x2) (lv' := [(4, .int x2), (3, .int x1), (0, .ref v0)]) C.1 C.2.1 dX10_findKeys_49 hl (k := 2) rfl (by rw [← e_x2]; rfl) (by decide) rfl (fun ls hl => ?_)
  refine lv_goto (tgt := 24) C.1 C.2.1 dX10_findKeys_52 (by decide) ?_
  exact hg_24 h hJ (lv_sub hl [2, 1, 0] rfl)
noncomputable def fk_10_findKeys_24 : Nat → cSt → Nat → Int32 → Int32 → Option (Int32 × cSt)
  | 0, _, _, _, _ => none
  | n + 1, S, v0, v3, v4 =>
    if (64 : Int32) ≤ v4 then (
    some (v3, S))
    else (
    ckk S v0 11 (bd (kR S v0 5) fun a2 =>
    ckk S a2 30 (ck v4 (kL S a2) (lt (kO S a2 (Int32.toNatClampNeg v4)) fun o3 =>
    cs o3 (
    fk_10_findKeys_47 (fk_10_findKeys_24 n) S v0 v4 v3 (0 : Int32)) (fun a4 =>
    fk_10_findKeys_47 (fk_10_findKeys_24 n) S v0 v4 v3 (1 : Int32))))))
set_option maxRecDepth 100000 in
set_option maxHeartbeats 4000000 in
theorem wk_10_findKeys_24 (C : cY p R s m args meth c RX10 cX10_findKeys 5 2 0 0 45 (some .int)) (X : cX D s) : ∀ (n : Nat), ∀ {S : cSt} {v0 : Nat} {v3 : Int32} {v4 : Int32} {H : Heap} {locs : List Loc} {ls : Array Slot}, fk_10_findKeys_24 n S v0 v3 v4 = some (r, S9) → cJ D S0 s.heap S H locs → lv_has ls 5 [(0, .ref v0), (3, .int v3), (4, .int v4)] → W p l e R s m args below meth c H locs 0 0 (MQ below (kW (some (.int r)) D S0 S9) args s 0 0 (cA S0)) (F0 m 24 ls []) := by
  intro n
  induction n with
  | zero =>
    intro S v0 v3 v4 H locs ls h hJ hl
    exact absurd (show (none : Option (Int32 × cSt)) = _ from h) (fun q => by cases q)
  | succ n ih =>
    intro S v0 v3 v4 H locs ls h hJ hl
    rw [fk_10_findKeys_24] at h
    refine lv_iload C.1 C.2.1 dX10_findKeys_24 (lv_at hl 2 rfl) ?_
    refine lv_bipush (v := 64) C.1 C.2.1 dX10_findKeys_26 (by decide) ?_
    refine lv_icmp_ge (tgt := 55) C.1 C.2.1 dX10_findKeys_28 (by decide) (fun c1 => ?_) (fun c1 => ?_)
    · have h := if_t h c1
      refine lv_iload_n C.1 C.2.1 dX10_findKeys_55 rfl (lv_at hl 1 rfl) ?_
      cases h
      exact c_retiW C hJ dX10_findKeys_56
    · have h := if_f h c1
      refine lv_iload_n C.1 C.2.1 dX10_findKeys_31 rfl (lv_at hl 1 rfl) ?_
      refine lv_aload_n C.1 C.2.1 dX10_findKeys_32 rfl (lv_at hl 0 rfl) ?_
      obtain ⟨hk, h⟩ := ckk_ok h
      obtain ⟨a2, h_a2, h⟩ := bd_ok h
      refine gk10_24 C X hJ.1 hk h_a2 dX10_findKeys_33 ?_
      refine lv_iload C.1 C.2.1 dX10_findKeys_36 (lv_at hl 2 rfl) ?_
      obtain ⟨hk, h⟩ := ckk_ok h
      obtain ⟨hin2, h⟩ := ck_ok h
      refine c_aald C 30 (by decide) X.2.2.2.2.1 hJ.1 hk hin2 dX10_findKeys_38 ?_
      refine lt_ok h (fun o3 e_o3 h => ?_)
      refine lv_nmq e_o3 ?_
      rcases o3 with _ | a4
      · replace h := cs_n h
        refine lv_ifnonnullN C.1 C.2.1 dX10_findKeys_39 ?_
        refine lv_iconst (v := 0) C.1 C.2.1 dX10_findKeys_42 (by decide) ?_
        refine lv_goto (tgt := 47) C.1 C.2.1 dX10_findKeys_43 (by decide) ?_
        exact wk_10_findKeys_47 C X ih h hJ (lv_sub hl [0, 2] rfl)
      · replace h := cs_s h
        refine lv_ifnonnull (tgt := 46) C.1 C.2.1 dX10_findKeys_39 (by decide) ?_
        refine lv_iconst (v := 1) C.1 C.2.1 dX10_findKeys_46 (by decide) ?_
        exact wk_10_findKeys_47 C X ih h hJ (lv_sub hl [0, 2] rfl)
noncomputable def fk_10_findKeys_19 (S : cSt) (v0 : Nat) : Option (Int32 × cSt) :=
fk_10_findKeys_24 mFU S v0 (0 : Int32) (0 : Int32)
set_option maxRecDepth 100000 in
set_option maxHeartbeats 4000000 in
theorem wk_10_findKeys_19 (C : cY p R s m args meth c RX10 cX10_findKeys 5 2 0 0 45 (some .int)) (X : cX D s) : ∀ {S : cSt} {v0 : Nat} {H : Heap} {locs : List Loc} {ls : Array Slot}, fk_10_findKeys_19 S v0 = some (r, S9) → cJ D S0 s.heap S H locs → lv_has ls 5 [(0, .ref v0)] → W p l e R s m args below meth c H locs 0 0 (MQ below (kW (some (.int r)) D S0 S9) args s 0 0 (cA S0)) (F0 m 19 ls []) := by
  intro S v0 H locs ls h hJ hl
  unfold fk_10_findKeys_19 at h
  refine lv_iconst (v := 0) C.1 C.2.1 dX10_findKeys_19 (by decide) ?_
  refine lv_istore_n (lv' := [(3, .int (0 : Int32)), (0, .ref v0)]) C.1 C.2.1 dX10_findKeys_20 rfl hl (by decide) rfl (fun ls hl => ?_)
  refine lv_iconst (v := 0) C.1 C.2.1 dX10_findKeys_21 (by decide) ?_
  refine lv_istore (lv' := [(4, .int (0 : Int32)), (3, .int (0 : Int32)), (0, .ref v0)]) C.1 C.2.1 dX10_findKeys_22 hl (by decide) rfl (fun ls hl => ?_)
  exact wk_10_findKeys_24 C X mFU h hJ (lv_sub hl [2, 1, 0] rfl)
noncomputable def fk_10_findKeys (S : cSt) (v0 : Nat) (v1 : Int32) (v2 : Int32) : Option (Int32 × cSt) :=
if v2 = (65 : Int32) then (
ckk S v0 11 (bd (fk_10_findMembers S v0 v1) fun S3 =>
fk_10_findKeys_19 S3 v0))
else (
ckk S v0 11 (bd (fk_10_findBinds S v0 v1) fun S2 =>
fk_10_findKeys_19 S2 v0))
set_option maxRecDepth 100000 in
set_option maxHeartbeats 4000000 in
theorem tk_10_findKeys (l : Launch) {D : cG} {S : cSt} {v0 : Nat} {v1 : Int32} {v2 : Int32} {r : Int32} {S9 : cSt} (h : fk_10_findKeys S v0 v1 v2 = some (r, S9)) : Met l yX10_findKeys (Cond.code yX10_findKeys cX10_findKeys 5 (some .int) :: lw_g) { frames := 2, cells := 0, slots := 0, locals := 45 } (kPi [.ref v0, .int v1, .int v2] D S) (kW (some (.int r)) D S S9) 0 0 (cA S) := by
  refine Met.ofW (cc := cX10_findKeys) (maxL := 5) (ret := (some .int)) (by decide) rfl ?_
  intro p e s m args below meth c s₁ B hml hv
  obtain ⟨rfl, hW, X⟩ := hv
  have C : cY p (headSpec (Cond.code yX10_findKeys cX10_findKeys 5 (some .int) :: lw_g) { frames := 2, cells := 0, slots := 0, locals := 45 }).room s m _ meth c RX10 cX10_findKeys 5 2 0 0 45 (some .int) := ⟨B.exec, B.bytes, hml, findClass_of_methodNamed B.named, fun w hw => atoms_spec (ws := Cond.code yX10_findKeys cX10_findKeys 5 (some .int) :: lw_g) B.pre w (List.mem_cons_of_mem _ hw), ⟨Nat.le_refl _, Nat.le_refl _, Nat.le_refl _, Nat.le_refl _⟩, B.returns, B.notSynchronized⟩
  have hl := lv_entry ([.ref v0, .int v1, .int v2]) (n := 5) (Nat.le_of_ble_eq_true rfl)
  rw [lg_entry_eq]
  generalize (lg_sl ([.ref v0, .int v1, .int v2]) ++ List.replicate (5 - (lg_sl ([.ref v0, .int v1, .int v2])).length) Slot.unset).toArray = ls at hl ⊢
  have hl : lv_has ls 5 [(0, .ref v0), (1, .int v1), (2, .int v2)] := hl
  have hJ : cJ D S s.heap S s.heap [] := cJ.rf hW
  unfold fk_10_findKeys at h
  refine lv_iload_n C.1 C.2.1 dX10_findKeys_0 rfl (lv_at hl 2 rfl) ?_
  refine lv_bipush (v := 65) C.1 C.2.1 dX10_findKeys_1 (by decide) ?_
  refine lv_icmp_ne (tgt := 14) C.1 C.2.1 dX10_findKeys_3 (by decide) (fun c1 => ?_) (fun c1 => ?_)
  · have h := if_f h c1
    refine lv_aload_n C.1 C.2.1 dX10_findKeys_14 rfl (lv_at hl 0 rfl) ?_
    refine lv_iload_n C.1 C.2.1 dX10_findKeys_15 rfl (lv_at hl 1 rfl) ?_
    obtain ⟨hk, h⟩ := ckk_ok h
    obtain ⟨S2, h_S2, h⟩ := bd_ok h
    refine c_callW (rest := []) C X hJ hl.1 10 (by decide) hk [.int v1] (tk_10_findBinds l h_S2) cw10_140 ki_10_findBinds kl_10_findBinds rfl ⟨by decide, by decide⟩ ⟨(by decide), (by decide)⟩ rfl (Nat.le_of_ble_eq_true rfl) dX10_findKeys_16 (fun H locs hJ => ?_)
    refine W.eq (g2 := F0 m 19 ls []) rfl ?_
    exact wk_10_findKeys_19 C X h hJ (lv_sub hl [0] rfl)
  · have h := if_t h c1
    refine lv_aload_n C.1 C.2.1 dX10_findKeys_6 rfl (lv_at hl 0 rfl) ?_
    refine lv_iload_n C.1 C.2.1 dX10_findKeys_7 rfl (lv_at hl 1 rfl) ?_
    obtain ⟨hk, h⟩ := ckk_ok h
    obtain ⟨S3, h_S3, h⟩ := bd_ok h
    refine c_callW (rest := []) C X hJ hl.1 10 (by decide) hk [.int v1] (tk_10_findMembers l h_S3) cw10_137 ki_10_findMembers kl_10_findMembers rfl ⟨by decide, by decide⟩ ⟨(by decide), (by decide)⟩ rfl (Nat.le_of_ble_eq_true rfl) dX10_findKeys_8 (fun H locs hJ => ?_)
    refine W.eq (g2 := F0 m 11 ls []) rfl ?_
    refine lv_goto (tgt := 19) C.1 C.2.1 dX10_findKeys_11 (by decide) ?_
    exact wk_10_findKeys_19 C X h hJ (lv_sub hl [0] rfl)
end
theorem dX10_keyAt_0 : decode cX10_keyAt 0 = .ok (.iconst 0, 1) := by decide +kernel
theorem dX10_keyAt_1 : decode cX10_keyAt 1 = .ok (.istore_n 2, 1) := by decide +kernel
theorem dX10_keyAt_2 : decode cX10_keyAt 2 = .ok (.iconst 0, 1) := by decide +kernel
theorem dX10_keyAt_3 : decode cX10_keyAt 3 = .ok (.istore_n 3, 1) := by decide +kernel
theorem dX10_keyAt_4 : decode cX10_keyAt 4 = .ok (.iload_n 3, 1) := by decide +kernel
theorem dX10_keyAt_5 : decode cX10_keyAt 5 = .ok (.bipush 64, 2) := by decide +kernel
theorem dX10_keyAt_7 : decode cX10_keyAt 7 = .ok (.if_icmp .ge 33, 3) := by decide +kernel
theorem dX10_keyAt_10 : decode cX10_keyAt 10 = .ok (.aload_n 0, 1) := by decide +kernel
theorem dX10_keyAt_11 : decode cX10_keyAt 11 = .ok (.getfield 24, 3) := by decide +kernel
theorem dX10_keyAt_14 : decode cX10_keyAt 14 = .ok (.iload_n 3, 1) := by decide +kernel
theorem dX10_keyAt_15 : decode cX10_keyAt 15 = .ok (.aaload, 1) := by decide +kernel
theorem dX10_keyAt_16 : decode cX10_keyAt 16 = .ok (.ifnull 18, 3) := by decide +kernel
theorem dX10_keyAt_19 : decode cX10_keyAt 19 = .ok (.iload_n 2, 1) := by decide +kernel
theorem dX10_keyAt_20 : decode cX10_keyAt 20 = .ok (.iload_n 1, 1) := by decide +kernel
theorem dX10_keyAt_21 : decode cX10_keyAt 21 = .ok (.if_icmp .ne 10, 3) := by decide +kernel
theorem dX10_keyAt_24 : decode cX10_keyAt 24 = .ok (.aload_n 0, 1) := by decide +kernel
theorem dX10_keyAt_25 : decode cX10_keyAt 25 = .ok (.getfield 24, 3) := by decide +kernel
theorem dX10_keyAt_28 : decode cX10_keyAt 28 = .ok (.iload_n 3, 1) := by decide +kernel
theorem dX10_keyAt_29 : decode cX10_keyAt 29 = .ok (.aaload, 1) := by decide +kernel
theorem dX10_keyAt_30 : decode cX10_keyAt 30 = .ok (.areturn, 1) := by decide +kernel
theorem dX10_keyAt_31 : decode cX10_keyAt 31 = .ok (.iinc 2 1, 3) := by decide +kernel
theorem dX10_keyAt_34 : decode cX10_keyAt 34 = .ok (.iinc 3 1, 3) := by decide +kernel
theorem dX10_keyAt_37 : decode cX10_keyAt 37 = .ok (.goto (-33), 3) := by decide +kernel
theorem dX10_keyAt_40 : decode cX10_keyAt 40 = .ok (.aconst_null, 1) := by decide +kernel
theorem dX10_keyAt_41 : decode cX10_keyAt 41 = .ok (.areturn, 1) := by decide +kernel
theorem kd_10_keyAt : Cond.code yX10_keyAt cX10_keyAt 4 (some (.object "AccordHouse$Row")) ∈ lw_g := mt_at 1486 (by decide +kernel) rfl
theorem ki_10_keyAt : Cond.instanceMethod yX10_keyAt ∈ lw_g := mt_at 1484 (by decide +kernel) rfl
theorem kl_10_keyAt : Cond.selects (kRn 10) yX10_keyAt yX10_keyAt ∈ lw_g := mt_at 1485 (by decide +kernel) rfl
section
variable {p : Program} {l : Launch} {e : Env} {R : Room} {s : State} {m : MethodId} {args : Array Value} {below : List Frame} {meth : Method} {c : Code} {D : cG} {S : cSt} {r : Option Nat}
noncomputable def fk_10_keyAt_34 (g_4 : Nat → Int32 → Int32 → Int32 → Option (Option Nat)) (S : cSt) (v0 : Nat) (v1 : Int32) (v2 : Int32) (v3 : Int32) : Option (Option Nat) :=
lt (v3 + (1 : Int32)) fun x1 =>
g_4 v0 v1 v2 x1
set_option maxRecDepth 100000 in
set_option maxHeartbeats 4000000 in
theorem wk_10_keyAt_34 (C : cY p R s m args meth c RX10 cX10_keyAt 4 0 0 0 0 (some (.object "AccordHouse$Row"))) (X : cX D s) (hW : cW D S s.heap) {g_4 : Nat → Int32 → Int32 → Int32 → Option (Option Nat)} (hg_4 : ∀ {v0 : Nat} {v1 : Int32} {v2 : Int32} {v3 : Int32} {ls : Array Slot}, g_4 v0 v1 v2 v3 = some r → lv_has ls 4 [(0, .ref v0), (1, .int v1), (2, .int v2), (3, .int v3)] → W p l e R s m args below meth c s.heap [] 0 0 (MQ below (kQ (some (va_rf r))) args s 0 0 mNo) (F0 m 4 ls [])) : ∀ {v0 : Nat} {v1 : Int32} {v2 : Int32} {v3 : Int32} {ls : Array Slot}, fk_10_keyAt_34 g_4 S v0 v1 v2 v3 = some r → lv_has ls 4 [(0, .ref v0), (1, .int v1), (2, .int v2), (3, .int v3)] → W p l e R s m args below meth c s.heap [] 0 0 (MQ below (kQ (some (va_rf r))) args s 0 0 mNo) (F0 m 34 ls []) := by
  intro v0 v1 v2 v3 ls h hl
  unfold fk_10_keyAt_34 at h
  refine lt_ok h (fun x1 e_x1 h => ?_)
  refine lv_iinc (v := x1) (lv' := [(3, .int x1), (0, .ref v0), (1, .int v1), (2, .int v2)]) C.1 C.2.1 dX10_keyAt_34 hl (k := 3) rfl (by rw [← e_x1]; rfl) (by decide) rfl (fun ls hl => ?_)
  refine lv_goto (tgt := 4) C.1 C.2.1 dX10_keyAt_37 (by decide) ?_
  exact hg_4 h (lv_sub hl [1, 2, 3, 0] rfl)
noncomputable def fk_10_keyAt_4 (S : cSt) : Nat → Nat → Int32 → Int32 → Int32 → Option (Option Nat)
  | 0, _, _, _, _ => none
  | n + 1, v0, v1, v2, v3 =>
    if (64 : Int32) ≤ v3 then (
    some none)
    else (
    ckk S v0 11 (bd (kR S v0 5) fun a2 =>
    ckk S a2 30 (ck v3 (kL S a2) (lt (kO S a2 (Int32.toNatClampNeg v3)) fun o3 =>
    cs o3 (
    fk_10_keyAt_34 (fk_10_keyAt_4 S n) S v0 v1 v2 v3) (fun a4 =>
    if v2 = v1 then (
    ckk S v0 11 (bd (kR S v0 5) fun a7 =>
    ckk S a7 30 (ck v3 (kL S a7) (lt (kO S a7 (Int32.toNatClampNeg v3)) fun o8 =>
    some o8))))
    else (
    lt (v2 + (1 : Int32)) fun x6 =>
    fk_10_keyAt_34 (fk_10_keyAt_4 S n) S v0 v1 x6 v3))))))
set_option maxRecDepth 100000 in
set_option maxHeartbeats 4000000 in
theorem wk_10_keyAt_4 (C : cY p R s m args meth c RX10 cX10_keyAt 4 0 0 0 0 (some (.object "AccordHouse$Row"))) (X : cX D s) (hW : cW D S s.heap) : ∀ (n : Nat), ∀ {v0 : Nat} {v1 : Int32} {v2 : Int32} {v3 : Int32} {ls : Array Slot}, fk_10_keyAt_4 S n v0 v1 v2 v3 = some r → lv_has ls 4 [(0, .ref v0), (1, .int v1), (2, .int v2), (3, .int v3)] → W p l e R s m args below meth c s.heap [] 0 0 (MQ below (kQ (some (va_rf r))) args s 0 0 mNo) (F0 m 4 ls []) := by
  intro n
  induction n with
  | zero =>
    intro v0 v1 v2 v3 ls h hl
    exact absurd (show (none : Option (Option Nat)) = _ from h) (fun q => by cases q)
  | succ n ih =>
    intro v0 v1 v2 v3 ls h hl
    rw [fk_10_keyAt_4] at h
    refine lv_iload_n C.1 C.2.1 dX10_keyAt_4 rfl (lv_at hl 3 rfl) ?_
    refine lv_bipush (v := 64) C.1 C.2.1 dX10_keyAt_5 (by decide) ?_
    refine lv_icmp_ge (tgt := 40) C.1 C.2.1 dX10_keyAt_7 (by decide) (fun c1 => ?_) (fun c1 => ?_)
    · have h := if_t h c1
      refine lv_null C.1 C.2.1 dX10_keyAt_40 ?_
      cases h
      exact c_reta (o := none) C rfl rfl dX10_keyAt_41
    · have h := if_f h c1
      refine lv_aload_n C.1 C.2.1 dX10_keyAt_10 rfl (lv_at hl 0 rfl) ?_
      obtain ⟨hk, h⟩ := ckk_ok h
      obtain ⟨a2, h_a2, h⟩ := bd_ok h
      refine gk10_24 C X hW hk h_a2 dX10_keyAt_11 ?_
      refine lv_iload_n C.1 C.2.1 dX10_keyAt_14 rfl (lv_at hl 3 rfl) ?_
      obtain ⟨hk, h⟩ := ckk_ok h
      obtain ⟨hin2, h⟩ := ck_ok h
      refine c_aald C 30 (by decide) X.2.2.2.2.1 hW hk hin2 dX10_keyAt_15 ?_
      refine lt_ok h (fun o3 e_o3 h => ?_)
      refine lv_nmq e_o3 ?_
      rcases o3 with _ | a4
      · replace h := cs_n h
        refine lv_ifnullN (tgt := 34) C.1 C.2.1 dX10_keyAt_16 (by decide) ?_
        exact wk_10_keyAt_34 C X hW ih h (lv_sub hl [0, 1, 2, 3] rfl)
      · replace h := cs_s h
        refine lv_ifnull C.1 C.2.1 dX10_keyAt_16 ?_
        refine lv_iload_n C.1 C.2.1 dX10_keyAt_19 rfl (lv_at hl 2 rfl) ?_
        refine lv_iload_n C.1 C.2.1 dX10_keyAt_20 rfl (lv_at hl 1 rfl) ?_
        refine lv_icmp_ne (tgt := 31) C.1 C.2.1 dX10_keyAt_21 (by decide) (fun c5 => ?_) (fun c5 => ?_)
        · have h := if_f h c5
          refine lt_ok h (fun x6 e_x6 h => ?_)
          refine lv_iinc (v := x6) (lv' := [(2, .int x6), (0, .ref v0), (1, .int v1), (3, .int v3)]) C.1 C.2.1 dX10_keyAt_31 hl (k := 2) rfl (by rw [← e_x6]; rfl) (by decide) rfl (fun ls hl => ?_)
          exact wk_10_keyAt_34 C X hW ih h (lv_sub hl [1, 2, 0, 3] rfl)
        · have h := if_t h c5
          refine lv_aload_n C.1 C.2.1 dX10_keyAt_24 rfl (lv_at hl 0 rfl) ?_
          obtain ⟨hk, h⟩ := ckk_ok h
          obtain ⟨a7, h_a7, h⟩ := bd_ok h
          refine gk10_24 C X hW hk h_a7 dX10_keyAt_25 ?_
          refine lv_iload_n C.1 C.2.1 dX10_keyAt_28 rfl (lv_at hl 3 rfl) ?_
          obtain ⟨hk, h⟩ := ckk_ok h
          obtain ⟨hin2, h⟩ := ck_ok h
          refine c_aald C 30 (by decide) X.2.2.2.2.1 hW hk hin2 dX10_keyAt_29 ?_
          refine lt_ok h (fun o8 e_o8 h => ?_)
          refine lv_nmq e_o8 ?_
          cases h
          exact c_reta C rfl rfl dX10_keyAt_30
noncomputable def fk_10_keyAt (S : cSt) (v0 : Nat) (v1 : Int32) : Option (Option Nat) :=
fk_10_keyAt_4 S mFU v0 v1 (0 : Int32) (0 : Int32)
set_option maxRecDepth 100000 in
set_option maxHeartbeats 4000000 in
theorem tk_10_keyAt (l : Launch) {D : cG} {S : cSt} {v0 : Nat} {v1 : Int32} {r : Option Nat}  (h : fk_10_keyAt S v0 v1 = some r) : Met l yX10_keyAt (Cond.code yX10_keyAt cX10_keyAt 4 (some (.object "AccordHouse$Row")) :: lw_g) { frames := 0, cells := 0, slots := 0, locals := 0 } (kPi [.ref v0, .int v1] D S) (kQ (some (va_rf r))) 0 0 (mNo) := by
  refine Met.ofW (cc := cX10_keyAt) (maxL := 4) (ret := (some (.object "AccordHouse$Row"))) (by decide) rfl ?_
  intro p e s m args below meth c s₁ B hml hv
  obtain ⟨rfl, hW, X⟩ := hv
  have C : cY p (headSpec (Cond.code yX10_keyAt cX10_keyAt 4 (some (.object "AccordHouse$Row")) :: lw_g) { frames := 0, cells := 0, slots := 0, locals := 0 }).room s m _ meth c RX10 cX10_keyAt 4 0 0 0 0 (some (.object "AccordHouse$Row")) := ⟨B.exec, B.bytes, hml, findClass_of_methodNamed B.named, fun w hw => atoms_spec (ws := Cond.code yX10_keyAt cX10_keyAt 4 (some (.object "AccordHouse$Row")) :: lw_g) B.pre w (List.mem_cons_of_mem _ hw), ⟨Nat.le_refl _, Nat.le_refl _, Nat.le_refl _, Nat.le_refl _⟩, B.returns, B.notSynchronized⟩
  have hl := lv_entry ([.ref v0, .int v1]) (n := 4) (Nat.le_of_ble_eq_true rfl)
  rw [lg_entry_eq]
  generalize (lg_sl ([.ref v0, .int v1]) ++ List.replicate (4 - (lg_sl ([.ref v0, .int v1])).length) Slot.unset).toArray = ls at hl ⊢
  have hl : lv_has ls 4 [(0, .ref v0), (1, .int v1)] := hl
  unfold fk_10_keyAt at h
  refine lv_iconst (v := 0) C.1 C.2.1 dX10_keyAt_0 (by decide) ?_
  refine lv_istore_n (lv' := [(2, .int (0 : Int32)), (0, .ref v0), (1, .int v1)]) C.1 C.2.1 dX10_keyAt_1 rfl hl (by decide) rfl (fun ls hl => ?_)
  refine lv_iconst (v := 0) C.1 C.2.1 dX10_keyAt_2 (by decide) ?_
  refine lv_istore_n (lv' := [(3, .int (0 : Int32)), (2, .int (0 : Int32)), (0, .ref v0), (1, .int v1)]) C.1 C.2.1 dX10_keyAt_3 rfl hl (by decide) rfl (fun ls hl => ?_)
  exact wk_10_keyAt_4 C X hW mFU h (lv_sub hl [2, 3, 1, 0] rfl)
end
theorem dX10_holderOf_0 : decode cX10_holderOf 0 = .ok (.iconst (-1), 1) := by decide +kernel
theorem dX10_holderOf_1 : decode cX10_holderOf 1 = .ok (.istore_n 3, 1) := by decide +kernel
theorem dX10_holderOf_2 : decode cX10_holderOf 2 = .ok (.iconst 0, 1) := by decide +kernel
theorem dX10_holderOf_3 : decode cX10_holderOf 3 = .ok (.istore 4, 2) := by decide +kernel
theorem dX10_holderOf_5 : decode cX10_holderOf 5 = .ok (.iload_n 1, 1) := by decide +kernel
theorem dX10_holderOf_6 : decode cX10_holderOf 6 = .ok (.bipush 8, 2) := by decide +kernel
theorem dX10_holderOf_8 : decode cX10_holderOf 8 = .ok (.imul, 1) := by decide +kernel
theorem dX10_holderOf_9 : decode cX10_holderOf 9 = .ok (.bipush 7, 2) := by decide +kernel
theorem dX10_holderOf_11 : decode cX10_holderOf 11 = .ok (.iadd, 1) := by decide +kernel
theorem dX10_holderOf_12 : decode cX10_holderOf 12 = .ok (.istore 5, 2) := by decide +kernel
theorem dX10_holderOf_14 : decode cX10_holderOf 14 = .ok (.aload_n 0, 1) := by decide +kernel
theorem dX10_holderOf_15 : decode cX10_holderOf 15 = .ok (.getfield 38, 3) := by decide +kernel
theorem dX10_holderOf_18 : decode cX10_holderOf 18 = .ok (.getfield 121, 3) := by decide +kernel
theorem dX10_holderOf_21 : decode cX10_holderOf 21 = .ok (.iload 5, 2) := by decide +kernel
theorem dX10_holderOf_23 : decode cX10_holderOf 23 = .ok (.aaload, 1) := by decide +kernel
theorem dX10_holderOf_24 : decode cX10_holderOf 24 = .ok (.astore 6, 2) := by decide +kernel
theorem dX10_holderOf_26 : decode cX10_holderOf 26 = .ok (.aload 6, 2) := by decide +kernel
theorem dX10_holderOf_28 : decode cX10_holderOf 28 = .ok (.ifnull 136, 3) := by decide +kernel
theorem dX10_holderOf_31 : decode cX10_holderOf 31 = .ok (.iload_n 3, 1) := by decide +kernel
theorem dX10_holderOf_32 : decode cX10_holderOf 32 = .ok (.iconst (-1), 1) := by decide +kernel
theorem dX10_holderOf_33 : decode cX10_holderOf 33 = .ok (.if_icmp .eq 17, 3) := by decide +kernel
theorem dX10_holderOf_36 : decode cX10_holderOf 36 = .ok (.aload 6, 2) := by decide +kernel
theorem dX10_holderOf_38 : decode cX10_holderOf 38 = .ok (.getfield 155, 3) := by decide +kernel
theorem dX10_holderOf_41 : decode cX10_holderOf 41 = .ok (.iload 4, 2) := by decide +kernel
theorem dX10_holderOf_43 : decode cX10_holderOf 43 = .ok (.if_icmp .ge 7, 3) := by decide +kernel
theorem dX10_holderOf_46 : decode cX10_holderOf 46 = .ok (.iconst 1, 1) := by decide +kernel
theorem dX10_holderOf_47 : decode cX10_holderOf 47 = .ok (.goto 4, 3) := by decide +kernel
theorem dX10_holderOf_50 : decode cX10_holderOf 50 = .ok (.iconst 0, 1) := by decide +kernel
theorem dX10_holderOf_51 : decode cX10_holderOf 51 = .ok (.istore 7, 2) := by decide +kernel
theorem dX10_holderOf_53 : decode cX10_holderOf 53 = .ok (.aload 6, 2) := by decide +kernel
theorem dX10_holderOf_55 : decode cX10_holderOf 55 = .ok (.getfield 108, 3) := by decide +kernel
theorem dX10_holderOf_58 : decode cX10_holderOf 58 = .ok (.bipush 18, 2) := by decide +kernel
theorem dX10_holderOf_60 : decode cX10_holderOf 60 = .ok (.if_icmp .ne 32, 3) := by decide +kernel
theorem dX10_holderOf_63 : decode cX10_holderOf 63 = .ok (.iload 7, 2) := by decide +kernel
theorem dX10_holderOf_65 : decode cX10_holderOf 65 = .ok (.ifCond .eq 20, 3) := by decide +kernel
theorem dX10_holderOf_68 : decode cX10_holderOf 68 = .ok (.iload_n 3, 1) := by decide +kernel
theorem dX10_holderOf_69 : decode cX10_holderOf 69 = .ok (.aload 6, 2) := by decide +kernel
theorem dX10_holderOf_71 : decode cX10_holderOf 71 = .ok (.getfield 105, 3) := by decide +kernel
theorem dX10_holderOf_74 : decode cX10_holderOf 74 = .ok (.if_icmp .ne 11, 3) := by decide +kernel
theorem dX10_holderOf_77 : decode cX10_holderOf 77 = .ok (.aload 6, 2) := by decide +kernel
theorem dX10_holderOf_79 : decode cX10_holderOf 79 = .ok (.getfield 155, 3) := by decide +kernel
theorem dX10_holderOf_82 : decode cX10_holderOf 82 = .ok (.goto 5, 3) := by decide +kernel
theorem dX10_holderOf_85 : decode cX10_holderOf 85 = .ok (.iload 4, 2) := by decide +kernel
theorem dX10_holderOf_87 : decode cX10_holderOf 87 = .ok (.istore 4, 2) := by decide +kernel
theorem dX10_holderOf_89 : decode cX10_holderOf 89 = .ok (.goto 57, 3) := by decide +kernel
theorem dX10_holderOf_92 : decode cX10_holderOf 92 = .ok (.iload 7, 2) := by decide +kernel
theorem dX10_holderOf_94 : decode cX10_holderOf 94 = .ok (.ifCond .ne 25, 3) := by decide +kernel
theorem dX10_holderOf_97 : decode cX10_holderOf 97 = .ok (.aload 6, 2) := by decide +kernel
theorem dX10_holderOf_99 : decode cX10_holderOf 99 = .ok (.getfield 105, 3) := by decide +kernel
theorem dX10_holderOf_102 : decode cX10_holderOf 102 = .ok (.istore_n 3, 1) := by decide +kernel
theorem dX10_holderOf_103 : decode cX10_holderOf 103 = .ok (.aload 6, 2) := by decide +kernel
theorem dX10_holderOf_105 : decode cX10_holderOf 105 = .ok (.getfield 155, 3) := by decide +kernel
theorem dX10_holderOf_108 : decode cX10_holderOf 108 = .ok (.aload 6, 2) := by decide +kernel
theorem dX10_holderOf_110 : decode cX10_holderOf 110 = .ok (.getfield 102, 3) := by decide +kernel
theorem dX10_holderOf_113 : decode cX10_holderOf 113 = .ok (.iadd, 1) := by decide +kernel
theorem dX10_holderOf_114 : decode cX10_holderOf 114 = .ok (.istore 4, 2) := by decide +kernel
theorem dX10_holderOf_116 : decode cX10_holderOf 116 = .ok (.goto 30, 3) := by decide +kernel
theorem dX10_holderOf_119 : decode cX10_holderOf 119 = .ok (.iload_n 3, 1) := by decide +kernel
theorem dX10_holderOf_120 : decode cX10_holderOf 120 = .ok (.aload 6, 2) := by decide +kernel
theorem dX10_holderOf_122 : decode cX10_holderOf 122 = .ok (.getfield 105, 3) := by decide +kernel
theorem dX10_holderOf_125 : decode cX10_holderOf 125 = .ok (.if_icmp .ne 21, 3) := by decide +kernel
theorem dX10_holderOf_128 : decode cX10_holderOf 128 = .ok (.iload 4, 2) := by decide +kernel
theorem dX10_holderOf_130 : decode cX10_holderOf 130 = .ok (.aload 6, 2) := by decide +kernel
theorem dX10_holderOf_132 : decode cX10_holderOf 132 = .ok (.getfield 155, 3) := by decide +kernel
theorem dX10_holderOf_135 : decode cX10_holderOf 135 = .ok (.aload 6, 2) := by decide +kernel
theorem dX10_holderOf_137 : decode cX10_holderOf 137 = .ok (.getfield 102, 3) := by decide +kernel
theorem dX10_holderOf_140 : decode cX10_holderOf 140 = .ok (.iadd, 1) := by decide +kernel
theorem dX10_holderOf_141 : decode cX10_holderOf 141 = .ok (.invokestatic 158, 3) := by decide +kernel
theorem dX10_holderOf_144 : decode cX10_holderOf 144 = .ok (.istore 4, 2) := by decide +kernel
theorem dX10_holderOf_146 : decode cX10_holderOf 146 = .ok (.aload_n 0, 1) := by decide +kernel
theorem dX10_holderOf_147 : decode cX10_holderOf 147 = .ok (.getfield 38, 3) := by decide +kernel
theorem dX10_holderOf_150 : decode cX10_holderOf 150 = .ok (.getfield 127, 3) := by decide +kernel
theorem dX10_holderOf_153 : decode cX10_holderOf 153 = .ok (.aload 6, 2) := by decide +kernel
theorem dX10_holderOf_155 : decode cX10_holderOf 155 = .ok (.getfield 68, 3) := by decide +kernel
theorem dX10_holderOf_158 : decode cX10_holderOf 158 = .ok (.aaload, 1) := by decide +kernel
theorem dX10_holderOf_159 : decode cX10_holderOf 159 = .ok (.astore 6, 2) := by decide +kernel
theorem dX10_holderOf_161 : decode cX10_holderOf 161 = .ok (.goto (-135), 3) := by decide +kernel
theorem dX10_holderOf_164 : decode cX10_holderOf 164 = .ok (.iload_n 3, 1) := by decide +kernel
theorem dX10_holderOf_165 : decode cX10_holderOf 165 = .ok (.iconst (-1), 1) := by decide +kernel
theorem dX10_holderOf_166 : decode cX10_holderOf 166 = .ok (.if_icmp .eq 13, 3) := by decide +kernel
theorem dX10_holderOf_169 : decode cX10_holderOf 169 = .ok (.iload_n 2, 1) := by decide +kernel
theorem dX10_holderOf_170 : decode cX10_holderOf 170 = .ok (.iload 4, 2) := by decide +kernel
theorem dX10_holderOf_172 : decode cX10_holderOf 172 = .ok (.if_icmp .ge 7, 3) := by decide +kernel
theorem dX10_holderOf_175 : decode cX10_holderOf 175 = .ok (.iload_n 3, 1) := by decide +kernel
theorem dX10_holderOf_176 : decode cX10_holderOf 176 = .ok (.goto 4, 3) := by decide +kernel
theorem dX10_holderOf_179 : decode cX10_holderOf 179 = .ok (.iconst (-1), 1) := by decide +kernel
theorem dX10_holderOf_180 : decode cX10_holderOf 180 = .ok (.ireturn, 1) := by decide +kernel
theorem kd_10_holderOf : Cond.code yX10_holderOf cX10_holderOf 8 (some .int) ∈ lw_g := mt_at 617 (by decide +kernel) rfl
theorem ki_10_holderOf : Cond.instanceMethod yX10_holderOf ∈ lw_g := mt_at 615 (by decide +kernel) rfl
theorem kl_10_holderOf : Cond.selects (kRn 10) yX10_holderOf yX10_holderOf ∈ lw_g := mt_at 616 (by decide +kernel) rfl
theorem mm10_158 : Cond.methodLink RX10 158 Lib.Math.max.name ∈ lw_g := mt_at 618 (by decide +kernel) rfl
section
variable {p : Program} {l : Launch} {e : Env} {R : Room} {s : State} {m : MethodId} {args : Array Value} {below : List Frame} {meth : Method} {c : Code} {H : Heap} {locs : List Loc} {cells slots : Nat} {Q : State → Prop}
variable {D : cG} {S S0 : cSt} {cc : ByteArray} {nL : Nat} {pc : Nat} {ls : Array Slot} {rest : List Value} {H0 : Heap} {nF nR nC nS : Nat} {ret : Option FieldType} {a : Nat}
theorem gk10_155 (C : cY p R s m args meth c RX10 cc nL nF nC nS nR ret) (X : cX D s) (hW : cW D S H) (hk : kK S a = 9) (hdg : decode cc pc = .ok (.getfield 155, 3)) (kk : W p l e R s m args below meth c H locs cells slots Q (F0 m (pc + 3) ls (.int (kF S a 8) :: rest))) : W p l e R s m args below meth c H locs cells slots Q (F0 m pc ls (.ref a :: rest)) := c_get C X hW 8 (by decide) ly_8 hk 8 (by decide) (mt_at 1007 (by decide +kernel) (by decide +kernel)) hdg (by rw [cV_I (by decide +kernel)]; exact kk)
end
section
variable {p : Program} {l : Launch} {e : Env} {R : Room} {s : State} {m : MethodId} {args : Array Value} {below : List Frame} {meth : Method} {c : Code} {D : cG} {S : cSt} {r : Int32}
noncomputable def fk_10_holderOf_180 (S : cSt) (s0 : Int32) : Option (Int32) :=
some s0
set_option maxRecDepth 100000 in
set_option maxHeartbeats 4000000 in
theorem wk_10_holderOf_180 (C : cY p R s m args meth c RX10 cX10_holderOf 8 2 0 0 60 (some .int)) (X : cX D s) (hW : cW D S s.heap) : ∀ {s0 : Int32} {ls : Array Slot}, fk_10_holderOf_180 S s0 = some r → lv_has ls 8 [] → W p l e R s m args below meth c s.heap [] 0 0 (MQ below (kQ (some (.int r))) args s 0 0 mNo) (F0 m 180 ls [.int s0]) := by
  intro s0 ls h hl
  unfold fk_10_holderOf_180 at h
  cases h
  exact c_reti C rfl rfl dX10_holderOf_180
noncomputable def fk_10_holderOf_179 (S : cSt) : Option (Int32) :=
fk_10_holderOf_180 S (-1 : Int32)
set_option maxRecDepth 100000 in
set_option maxHeartbeats 4000000 in
theorem wk_10_holderOf_179 (C : cY p R s m args meth c RX10 cX10_holderOf 8 2 0 0 60 (some .int)) (X : cX D s) (hW : cW D S s.heap) : ∀ {ls : Array Slot}, fk_10_holderOf_179 S = some r → lv_has ls 8 [] → W p l e R s m args below meth c s.heap [] 0 0 (MQ below (kQ (some (.int r))) args s 0 0 mNo) (F0 m 179 ls []) := by
  intro ls h hl
  unfold fk_10_holderOf_179 at h
  refine lv_iconst (v := -1) C.1 C.2.1 dX10_holderOf_179 (by decide) ?_
  exact wk_10_holderOf_180 C X hW h (lv_sub hl [] rfl)
noncomputable def fk_10_holderOf_146 (g_26 : Nat → Int32 → Int32 → Int32 → Option Nat → Option (Int32)) (S : cSt) (v0 : Nat) (v2 : Int32) (v3 : Int32) (v4 : Int32) (v6 : Option Nat) : Option (Int32) :=
ckk S v0 11 (bd (kR S v0 7) fun a1 =>
ckk S a1 5 (bd (kR S a1 4) fun a2 =>
bd v6 fun a3 =>
ckk S a3 9 (
ckk S a2 30 (ck (kF S a3 12) (kL S a2) (lt (kO S a2 (Int32.toNatClampNeg (kF S a3 12))) fun o4 =>
g_26 v0 v2 v3 v4 o4)))))
set_option maxRecDepth 100000 in
set_option maxHeartbeats 4000000 in
theorem wk_10_holderOf_146 (C : cY p R s m args meth c RX10 cX10_holderOf 8 2 0 0 60 (some .int)) (X : cX D s) (hW : cW D S s.heap) {g_26 : Nat → Int32 → Int32 → Int32 → Option Nat → Option (Int32)} (hg_26 : ∀ {v0 : Nat} {v2 : Int32} {v3 : Int32} {v4 : Int32} {v6 : Option Nat} {ls : Array Slot}, g_26 v0 v2 v3 v4 v6 = some r → lv_has ls 8 [(0, .ref v0), (2, .int v2), (3, .int v3), (4, .int v4), (6, va_rf v6)] → W p l e R s m args below meth c s.heap [] 0 0 (MQ below (kQ (some (.int r))) args s 0 0 mNo) (F0 m 26 ls [])) : ∀ {v0 : Nat} {v2 : Int32} {v3 : Int32} {v4 : Int32} {v6 : Option Nat} {ls : Array Slot}, fk_10_holderOf_146 g_26 S v0 v2 v3 v4 v6 = some r → lv_has ls 8 [(0, .ref v0), (2, .int v2), (3, .int v3), (4, .int v4), (6, va_rf v6)] → W p l e R s m args below meth c s.heap [] 0 0 (MQ below (kQ (some (.int r))) args s 0 0 mNo) (F0 m 146 ls []) := by
  intro v0 v2 v3 v4 v6 ls h hl
  unfold fk_10_holderOf_146 at h
  refine lv_aload_n C.1 C.2.1 dX10_holderOf_146 rfl (lv_at hl 0 rfl) ?_
  obtain ⟨hk, h⟩ := ckk_ok h
  obtain ⟨a1, h_a1, h⟩ := bd_ok h
  refine gk10_38 C X hW hk h_a1 dX10_holderOf_147 ?_
  obtain ⟨hk, h⟩ := ckk_ok h
  obtain ⟨a2, h_a2, h⟩ := bd_ok h
  refine gk10_127 C X hW hk h_a2 dX10_holderOf_150 ?_
  refine lv_aloadq (o := v6) C.1 C.2.1 dX10_holderOf_153 (lv_at hl 4 rfl) ?_
  obtain ⟨a3, e_a3, h⟩ := bd_ok h
  revert h; subst e_a3; intro h
  obtain ⟨hk, h⟩ := ckk_ok h
  refine gk10_68 C X hW hk dX10_holderOf_155 ?_
  obtain ⟨hk, h⟩ := ckk_ok h
  obtain ⟨hin2, h⟩ := ck_ok h
  refine c_aald C 30 (by decide) X.2.2.2.2.1 hW hk hin2 dX10_holderOf_158 ?_
  refine lt_ok h (fun o4 e_o4 h => ?_)
  refine lv_nmq e_o4 ?_
  refine lv_astoreq (o := o4) (lv' := [(6, va_rf o4), (0, .ref v0), (2, .int v2), (3, .int v3), (4, .int v4)]) C.1 C.2.1 dX10_holderOf_159 hl (by decide) rfl (fun ls hl => ?_)
  refine lv_goto (tgt := 26) C.1 C.2.1 dX10_holderOf_161 (by decide) ?_
  exact hg_26 h (lv_sub hl [1, 2, 3, 4, 0] rfl)
noncomputable def fk_10_holderOf_87 (g_26 : Nat → Int32 → Int32 → Int32 → Option Nat → Option (Int32)) (S : cSt) (v0 : Nat) (v2 : Int32) (v3 : Int32) (v6 : Option Nat) (s0 : Int32) : Option (Int32) :=
fk_10_holderOf_146 g_26 S v0 v2 v3 s0 v6
set_option maxRecDepth 100000 in
set_option maxHeartbeats 4000000 in
theorem wk_10_holderOf_87 (C : cY p R s m args meth c RX10 cX10_holderOf 8 2 0 0 60 (some .int)) (X : cX D s) (hW : cW D S s.heap) {g_26 : Nat → Int32 → Int32 → Int32 → Option Nat → Option (Int32)} (hg_26 : ∀ {v0 : Nat} {v2 : Int32} {v3 : Int32} {v4 : Int32} {v6 : Option Nat} {ls : Array Slot}, g_26 v0 v2 v3 v4 v6 = some r → lv_has ls 8 [(0, .ref v0), (2, .int v2), (3, .int v3), (4, .int v4), (6, va_rf v6)] → W p l e R s m args below meth c s.heap [] 0 0 (MQ below (kQ (some (.int r))) args s 0 0 mNo) (F0 m 26 ls [])) : ∀ {v0 : Nat} {v2 : Int32} {v3 : Int32} {v6 : Option Nat} {s0 : Int32} {ls : Array Slot}, fk_10_holderOf_87 g_26 S v0 v2 v3 v6 s0 = some r → lv_has ls 8 [(0, .ref v0), (2, .int v2), (3, .int v3), (6, va_rf v6)] → W p l e R s m args below meth c s.heap [] 0 0 (MQ below (kQ (some (.int r))) args s 0 0 mNo) (F0 m 87 ls [.int s0]) := by
  intro v0 v2 v3 v6 s0 ls h hl
  unfold fk_10_holderOf_87 at h
  refine lv_istore (lv' := [(4, .int s0), (0, .ref v0), (2, .int v2), (3, .int v3), (6, va_rf v6)]) C.1 C.2.1 dX10_holderOf_87 hl (by decide) rfl (fun ls hl => ?_)
  refine lv_goto (tgt := 146) C.1 C.2.1 dX10_holderOf_89 (by decide) ?_
  exact wk_10_holderOf_146 C X hW hg_26 h (lv_sub hl [1, 2, 3, 0, 4] rfl)
noncomputable def fk_10_holderOf_85 (g_26 : Nat → Int32 → Int32 → Int32 → Option Nat → Option (Int32)) (S : cSt) (v0 : Nat) (v2 : Int32) (v3 : Int32) (v4 : Int32) (v6 : Option Nat) : Option (Int32) :=
fk_10_holderOf_87 g_26 S v0 v2 v3 v6 v4
set_option maxRecDepth 100000 in
set_option maxHeartbeats 4000000 in
theorem wk_10_holderOf_85 (C : cY p R s m args meth c RX10 cX10_holderOf 8 2 0 0 60 (some .int)) (X : cX D s) (hW : cW D S s.heap) {g_26 : Nat → Int32 → Int32 → Int32 → Option Nat → Option (Int32)} (hg_26 : ∀ {v0 : Nat} {v2 : Int32} {v3 : Int32} {v4 : Int32} {v6 : Option Nat} {ls : Array Slot}, g_26 v0 v2 v3 v4 v6 = some r → lv_has ls 8 [(0, .ref v0), (2, .int v2), (3, .int v3), (4, .int v4), (6, va_rf v6)] → W p l e R s m args below meth c s.heap [] 0 0 (MQ below (kQ (some (.int r))) args s 0 0 mNo) (F0 m 26 ls [])) : ∀ {v0 : Nat} {v2 : Int32} {v3 : Int32} {v4 : Int32} {v6 : Option Nat} {ls : Array Slot}, fk_10_holderOf_85 g_26 S v0 v2 v3 v4 v6 = some r → lv_has ls 8 [(0, .ref v0), (2, .int v2), (3, .int v3), (4, .int v4), (6, va_rf v6)] → W p l e R s m args below meth c s.heap [] 0 0 (MQ below (kQ (some (.int r))) args s 0 0 mNo) (F0 m 85 ls []) := by
  intro v0 v2 v3 v4 v6 ls h hl
  unfold fk_10_holderOf_85 at h
  refine lv_iload C.1 C.2.1 dX10_holderOf_85 (lv_at hl 3 rfl) ?_
  exact wk_10_holderOf_87 C X hW hg_26 h (lv_sub hl [0, 1, 2, 4] rfl)
noncomputable def fk_10_holderOf_51 (g_26 : Nat → Int32 → Int32 → Int32 → Option Nat → Option (Int32)) (S : cSt) (v0 : Nat) (v2 : Int32) (v3 : Int32) (v4 : Int32) (v6 : Option Nat) (s0 : Int32) : Option (Int32) :=
bd v6 fun a1 =>
ckk S a1 9 (
if (kF S a1 0) = (18 : Int32) then (
if s0 = 0 then (
fk_10_holderOf_85 g_26 S v0 v2 v3 v4 (some a1))
else (
ckk S a1 9 (
if v3 = (kF S a1 6) then (
ckk S a1 9 (
fk_10_holderOf_87 g_26 S v0 v2 v3 (some a1) (kF S a1 8)))
else (
fk_10_holderOf_85 g_26 S v0 v2 v3 v4 (some a1)))))
else (
if s0 = 0 then (
ckk S a1 9 (
lt (kF S a1 6) fun x6 =>
ckk S a1 9 (
ckk S a1 9 (
lt ((kF S a1 8) + (kF S a1 4)) fun x7 =>
fk_10_holderOf_146 g_26 S v0 v2 x6 x7 (some a1)))))
else (
ckk S a1 9 (
if v3 = (kF S a1 6) then (
ckk S a1 9 (
ckk S a1 9 (
lt (if v4 < ((kF S a1 8) + (kF S a1 4)) then ((kF S a1 8) + (kF S a1 4)) else v4) fun x5 =>
fk_10_holderOf_146 g_26 S v0 v2 v3 x5 (some a1))))
else (
fk_10_holderOf_146 g_26 S v0 v2 v3 v4 (some a1))))))
set_option maxRecDepth 100000 in
set_option maxHeartbeats 4000000 in
theorem wk_10_holderOf_51 (C : cY p R s m args meth c RX10 cX10_holderOf 8 2 0 0 60 (some .int)) (X : cX D s) (hW : cW D S s.heap) {g_26 : Nat → Int32 → Int32 → Int32 → Option Nat → Option (Int32)} (hg_26 : ∀ {v0 : Nat} {v2 : Int32} {v3 : Int32} {v4 : Int32} {v6 : Option Nat} {ls : Array Slot}, g_26 v0 v2 v3 v4 v6 = some r → lv_has ls 8 [(0, .ref v0), (2, .int v2), (3, .int v3), (4, .int v4), (6, va_rf v6)] → W p l e R s m args below meth c s.heap [] 0 0 (MQ below (kQ (some (.int r))) args s 0 0 mNo) (F0 m 26 ls [])) : ∀ {v0 : Nat} {v2 : Int32} {v3 : Int32} {v4 : Int32} {v6 : Option Nat} {s0 : Int32} {ls : Array Slot}, fk_10_holderOf_51 g_26 S v0 v2 v3 v4 v6 s0 = some r → lv_has ls 8 [(0, .ref v0), (2, .int v2), (3, .int v3), (4, .int v4), (6, va_rf v6)] → W p l e R s m args below meth c s.heap [] 0 0 (MQ below (kQ (some (.int r))) args s 0 0 mNo) (F0 m 51 ls [.int s0]) := by
  intro v0 v2 v3 v4 v6 s0 ls h hl
  unfold fk_10_holderOf_51 at h
  refine lv_istore (lv' := [(7, .int s0), (0, .ref v0), (2, .int v2), (3, .int v3), (4, .int v4), (6, va_rf v6)]) C.1 C.2.1 dX10_holderOf_51 hl (by decide) (by cases v6 <;> rfl) (fun ls hl => ?_)
  refine lv_aloadq (o := v6) C.1 C.2.1 dX10_holderOf_53 (lv_at hl 5 rfl) ?_
  obtain ⟨a1, e_a1, h⟩ := bd_ok h
  revert h; subst e_a1; intro h
  obtain ⟨hk, h⟩ := ckk_ok h
  refine gk10_108 C X hW hk dX10_holderOf_55 ?_
  refine lv_bipush (v := 18) C.1 C.2.1 dX10_holderOf_58 (by decide) ?_
  refine lv_icmp_ne (tgt := 92) C.1 C.2.1 dX10_holderOf_60 (by decide) (fun c2 => ?_) (fun c2 => ?_)
  · have h := if_f h c2
    refine lv_iload C.1 C.2.1 dX10_holderOf_92 (lv_at hl 0 rfl) ?_
    refine lv_if_ne (tgt := 119) C.1 C.2.1 dX10_holderOf_94 (by decide) (fun c3 => ?_) (fun c3 => ?_)
    · have h := if_f h c3
      refine lv_iload_n C.1 C.2.1 dX10_holderOf_119 rfl (lv_at hl 3 rfl) ?_
      refine lv_aload C.1 C.2.1 dX10_holderOf_120 (lv_at hl 5 rfl) ?_
      obtain ⟨hk, h⟩ := ckk_ok h
      refine gk10_105 C X hW hk dX10_holderOf_122 ?_
      refine lv_icmp_ne (tgt := 146) C.1 C.2.1 dX10_holderOf_125 (by decide) (fun c4 => ?_) (fun c4 => ?_)
      · have h := if_f h c4
        exact wk_10_holderOf_146 C X hW hg_26 h (lv_sub hl [1, 2, 3, 4, 5] rfl)
      · have h := if_t h c4
        refine lv_iload C.1 C.2.1 dX10_holderOf_128 (lv_at hl 4 rfl) ?_
        refine lv_aload C.1 C.2.1 dX10_holderOf_130 (lv_at hl 5 rfl) ?_
        obtain ⟨hk, h⟩ := ckk_ok h
        refine gk10_155 C X hW hk dX10_holderOf_132 ?_
        refine lv_aload C.1 C.2.1 dX10_holderOf_135 (lv_at hl 5 rfl) ?_
        obtain ⟨hk, h⟩ := ckk_ok h
        refine gk10_102 C X hW hk dX10_holderOf_137 ?_
        refine lv_iadd C.1 C.2.1 dX10_holderOf_140 ?_
        refine va_mmax (rest := []) C.1 C.2.1 (C.2.2.1.trans hl.1.symm) (own := RX10) C.2.2.2.1 (C.2.2.2.2.1 _ mm10_158) (C.2.2.2.2.1 _ mmax_s) (C.2.2.2.2.1 _ ma_i) (C.2.2.2.2.1 _ mmax_c) (Nat.le_trans (by decide) C.2.2.2.2.2.1.1) (Nat.le_trans (Nat.le_of_ble_eq_true rfl) C.2.2.2.2.2.1.2.2.2) (Nat.le_trans (by decide) C.2.2.2.2.2.1.2.1) (Nat.le_trans (by decide) C.2.2.2.2.2.1.2.2.1) dX10_holderOf_141 ?_
        refine lt_ok h (fun x5 e_x5 h => ?_)
        refine lv_nm e_x5 ?_
        refine lv_istore (lv' := [(4, .int x5), (7, .int s0), (0, .ref v0), (2, .int v2), (3, .int v3), (6, .ref a1)]) C.1 C.2.1 dX10_holderOf_144 hl (by decide) rfl (fun ls hl => ?_)
        exact wk_10_holderOf_146 C X hW hg_26 h (lv_sub hl [2, 3, 4, 0, 5] rfl)
    · have h := if_t h c3
      refine lv_aload C.1 C.2.1 dX10_holderOf_97 (lv_at hl 5 rfl) ?_
      obtain ⟨hk, h⟩ := ckk_ok h
      refine gk10_105 C X hW hk dX10_holderOf_99 ?_
      refine lt_ok h (fun x6 e_x6 h => ?_)
      refine lv_nm e_x6 ?_
      refine lv_istore_n (lv' := [(3, .int x6), (7, .int s0), (0, .ref v0), (2, .int v2), (4, .int v4), (6, .ref a1)]) C.1 C.2.1 dX10_holderOf_102 rfl hl (by decide) rfl (fun ls hl => ?_)
      refine lv_aload C.1 C.2.1 dX10_holderOf_103 (lv_at hl 5 rfl) ?_
      obtain ⟨hk, h⟩ := ckk_ok h
      refine gk10_155 C X hW hk dX10_holderOf_105 ?_
      refine lv_aload C.1 C.2.1 dX10_holderOf_108 (lv_at hl 5 rfl) ?_
      obtain ⟨hk, h⟩ := ckk_ok h
      refine gk10_102 C X hW hk dX10_holderOf_110 ?_
      refine lv_iadd C.1 C.2.1 dX10_holderOf_113 ?_
      refine lt_ok h (fun x7 e_x7 h => ?_)
      refine lv_nm e_x7 ?_
      refine lv_istore (lv' := [(4, .int x7), (3, .int x6), (7, .int s0), (0, .ref v0), (2, .int v2), (6, .ref a1)]) C.1 C.2.1 dX10_holderOf_114 hl (by decide) rfl (fun ls hl => ?_)
      refine lv_goto (tgt := 146) C.1 C.2.1 dX10_holderOf_116 (by decide) ?_
      exact wk_10_holderOf_146 C X hW hg_26 h (lv_sub hl [3, 4, 1, 0, 5] rfl)
  · have h := if_t h c2
    refine lv_iload C.1 C.2.1 dX10_holderOf_63 (lv_at hl 0 rfl) ?_
    refine lv_if_eq (tgt := 85) C.1 C.2.1 dX10_holderOf_65 (by decide) (fun c8 => ?_) (fun c8 => ?_)
    · have h := if_t h c8
      exact wk_10_holderOf_85 C X hW hg_26 h (lv_sub hl [1, 2, 3, 4, 5] rfl)
    · have h := if_f h c8
      refine lv_iload_n C.1 C.2.1 dX10_holderOf_68 rfl (lv_at hl 3 rfl) ?_
      refine lv_aload C.1 C.2.1 dX10_holderOf_69 (lv_at hl 5 rfl) ?_
      obtain ⟨hk, h⟩ := ckk_ok h
      refine gk10_105 C X hW hk dX10_holderOf_71 ?_
      refine lv_icmp_ne (tgt := 85) C.1 C.2.1 dX10_holderOf_74 (by decide) (fun c9 => ?_) (fun c9 => ?_)
      · have h := if_f h c9
        exact wk_10_holderOf_85 C X hW hg_26 h (lv_sub hl [1, 2, 3, 4, 5] rfl)
      · have h := if_t h c9
        refine lv_aload C.1 C.2.1 dX10_holderOf_77 (lv_at hl 5 rfl) ?_
        obtain ⟨hk, h⟩ := ckk_ok h
        refine gk10_155 C X hW hk dX10_holderOf_79 ?_
        refine lv_goto (tgt := 87) C.1 C.2.1 dX10_holderOf_82 (by decide) ?_
        exact wk_10_holderOf_87 C X hW hg_26 h (lv_sub hl [1, 2, 3, 5] rfl)
noncomputable def fk_10_holderOf_50 (g_26 : Nat → Int32 → Int32 → Int32 → Option Nat → Option (Int32)) (S : cSt) (v0 : Nat) (v2 : Int32) (v3 : Int32) (v4 : Int32) (v6 : Option Nat) : Option (Int32) :=
fk_10_holderOf_51 g_26 S v0 v2 v3 v4 v6 (0 : Int32)
set_option maxRecDepth 100000 in
set_option maxHeartbeats 4000000 in
theorem wk_10_holderOf_50 (C : cY p R s m args meth c RX10 cX10_holderOf 8 2 0 0 60 (some .int)) (X : cX D s) (hW : cW D S s.heap) {g_26 : Nat → Int32 → Int32 → Int32 → Option Nat → Option (Int32)} (hg_26 : ∀ {v0 : Nat} {v2 : Int32} {v3 : Int32} {v4 : Int32} {v6 : Option Nat} {ls : Array Slot}, g_26 v0 v2 v3 v4 v6 = some r → lv_has ls 8 [(0, .ref v0), (2, .int v2), (3, .int v3), (4, .int v4), (6, va_rf v6)] → W p l e R s m args below meth c s.heap [] 0 0 (MQ below (kQ (some (.int r))) args s 0 0 mNo) (F0 m 26 ls [])) : ∀ {v0 : Nat} {v2 : Int32} {v3 : Int32} {v4 : Int32} {v6 : Option Nat} {ls : Array Slot}, fk_10_holderOf_50 g_26 S v0 v2 v3 v4 v6 = some r → lv_has ls 8 [(0, .ref v0), (2, .int v2), (3, .int v3), (4, .int v4), (6, va_rf v6)] → W p l e R s m args below meth c s.heap [] 0 0 (MQ below (kQ (some (.int r))) args s 0 0 mNo) (F0 m 50 ls []) := by
  intro v0 v2 v3 v4 v6 ls h hl
  unfold fk_10_holderOf_50 at h
  refine lv_iconst (v := 0) C.1 C.2.1 dX10_holderOf_50 (by decide) ?_
  exact wk_10_holderOf_51 C X hW hg_26 h (lv_sub hl [0, 1, 2, 3, 4] rfl)
noncomputable def fk_10_holderOf_26 (S : cSt) : Nat → Nat → Int32 → Int32 → Int32 → Option Nat → Option (Int32)
  | 0, _, _, _, _, _ => none
  | n + 1, v0, v2, v3, v4, v6 =>
    cs v6 (
    if v3 = (-1 : Int32) then (
    fk_10_holderOf_179 S)
    else (
    if v4 ≤ v2 then (
    fk_10_holderOf_179 S)
    else (
    fk_10_holderOf_180 S v3))) (fun a1 =>
    if v3 = (-1 : Int32) then (
    fk_10_holderOf_50 (fk_10_holderOf_26 S n) S v0 v2 v3 v4 (some a1))
    else (
    ckk S a1 9 (
    if v4 ≤ (kF S a1 8) then (
    fk_10_holderOf_50 (fk_10_holderOf_26 S n) S v0 v2 v3 v4 (some a1))
    else (
    fk_10_holderOf_51 (fk_10_holderOf_26 S n) S v0 v2 v3 v4 (some a1) (1 : Int32)))))
set_option maxRecDepth 100000 in
set_option maxHeartbeats 4000000 in
theorem wk_10_holderOf_26 (C : cY p R s m args meth c RX10 cX10_holderOf 8 2 0 0 60 (some .int)) (X : cX D s) (hW : cW D S s.heap) : ∀ (n : Nat), ∀ {v0 : Nat} {v2 : Int32} {v3 : Int32} {v4 : Int32} {v6 : Option Nat} {ls : Array Slot}, fk_10_holderOf_26 S n v0 v2 v3 v4 v6 = some r → lv_has ls 8 [(0, .ref v0), (2, .int v2), (3, .int v3), (4, .int v4), (6, va_rf v6)] → W p l e R s m args below meth c s.heap [] 0 0 (MQ below (kQ (some (.int r))) args s 0 0 mNo) (F0 m 26 ls []) := by
  intro n
  induction n with
  | zero =>
    intro v0 v2 v3 v4 v6 ls h hl
    exact absurd (show (none : Option (Int32)) = _ from h) (fun q => by cases q)
  | succ n ih =>
    intro v0 v2 v3 v4 v6 ls h hl
    rw [fk_10_holderOf_26] at h
    refine lv_aloadq (o := v6) C.1 C.2.1 dX10_holderOf_26 (lv_at hl 4 rfl) ?_
    rcases v6 with _ | a1
    · replace h := cs_n h
      refine lv_ifnullN (tgt := 164) C.1 C.2.1 dX10_holderOf_28 (by decide) ?_
      refine lv_iload_n C.1 C.2.1 dX10_holderOf_164 rfl (lv_at hl 2 rfl) ?_
      refine lv_iconst (v := -1) C.1 C.2.1 dX10_holderOf_165 (by decide) ?_
      refine lv_icmp_eq (tgt := 179) C.1 C.2.1 dX10_holderOf_166 (by decide) (fun c2 => ?_) (fun c2 => ?_)
      · have h := if_t h c2
        exact wk_10_holderOf_179 C X hW h (lv_sub hl [] rfl)
      · have h := if_f h c2
        refine lv_iload_n C.1 C.2.1 dX10_holderOf_169 rfl (lv_at hl 1 rfl) ?_
        refine lv_iload C.1 C.2.1 dX10_holderOf_170 (lv_at hl 3 rfl) ?_
        refine lv_icmp_ge (tgt := 179) C.1 C.2.1 dX10_holderOf_172 (by decide) (fun c3 => ?_) (fun c3 => ?_)
        · have h := if_t h c3
          exact wk_10_holderOf_179 C X hW h (lv_sub hl [] rfl)
        · have h := if_f h c3
          refine lv_iload_n C.1 C.2.1 dX10_holderOf_175 rfl (lv_at hl 2 rfl) ?_
          refine lv_goto (tgt := 180) C.1 C.2.1 dX10_holderOf_176 (by decide) ?_
          exact wk_10_holderOf_180 C X hW h (lv_sub hl [] rfl)
    · replace h := cs_s h
      refine lv_ifnull C.1 C.2.1 dX10_holderOf_28 ?_
      refine lv_iload_n C.1 C.2.1 dX10_holderOf_31 rfl (lv_at hl 2 rfl) ?_
      refine lv_iconst (v := -1) C.1 C.2.1 dX10_holderOf_32 (by decide) ?_
      refine lv_icmp_eq (tgt := 50) C.1 C.2.1 dX10_holderOf_33 (by decide) (fun c4 => ?_) (fun c4 => ?_)
      · have h := if_t h c4
        exact wk_10_holderOf_50 C X hW ih h (lv_sub hl [0, 1, 2, 3, 4] rfl)
      · have h := if_f h c4
        refine lv_aload C.1 C.2.1 dX10_holderOf_36 (lv_at hl 4 rfl) ?_
        obtain ⟨hk, h⟩ := ckk_ok h
        refine gk10_155 C X hW hk dX10_holderOf_38 ?_
        refine lv_iload C.1 C.2.1 dX10_holderOf_41 (lv_at hl 3 rfl) ?_
        refine lv_icmp_ge (tgt := 50) C.1 C.2.1 dX10_holderOf_43 (by decide) (fun c5 => ?_) (fun c5 => ?_)
        · have h := if_t h c5
          exact wk_10_holderOf_50 C X hW ih h (lv_sub hl [0, 1, 2, 3, 4] rfl)
        · have h := if_f h c5
          refine lv_iconst (v := 1) C.1 C.2.1 dX10_holderOf_46 (by decide) ?_
          refine lv_goto (tgt := 51) C.1 C.2.1 dX10_holderOf_47 (by decide) ?_
          exact wk_10_holderOf_51 C X hW ih h (lv_sub hl [0, 1, 2, 3, 4] rfl)
noncomputable def fk_10_holderOf (S : cSt) (v0 : Nat) (v1 : Int32) (v2 : Int32) : Option (Int32) :=
lt ((v1 * (8 : Int32)) + (7 : Int32)) fun x1 =>
ckk S v0 11 (bd (kR S v0 7) fun a2 =>
ckk S a2 5 (bd (kR S a2 5) fun a3 =>
ckk S a3 30 (ck x1 (kL S a3) (lt (kO S a3 (Int32.toNatClampNeg x1)) fun o4 =>
fk_10_holderOf_26 S mFU v0 v2 (-1 : Int32) (0 : Int32) o4))))
set_option maxRecDepth 100000 in
set_option maxHeartbeats 4000000 in
theorem tk_10_holderOf (l : Launch) {D : cG} {S : cSt} {v0 : Nat} {v1 : Int32} {v2 : Int32} {r : Int32}  (h : fk_10_holderOf S v0 v1 v2 = some r) : Met l yX10_holderOf (Cond.code yX10_holderOf cX10_holderOf 8 (some .int) :: lw_g) { frames := 2, cells := 0, slots := 0, locals := 60 } (kPi [.ref v0, .int v1, .int v2] D S) (kQ (some (.int r))) 0 0 (mNo) := by
  refine Met.ofW (cc := cX10_holderOf) (maxL := 8) (ret := (some .int)) (by decide) rfl ?_
  intro p e s m args below meth c s₁ B hml hv
  obtain ⟨rfl, hW, X⟩ := hv
  have C : cY p (headSpec (Cond.code yX10_holderOf cX10_holderOf 8 (some .int) :: lw_g) { frames := 2, cells := 0, slots := 0, locals := 60 }).room s m _ meth c RX10 cX10_holderOf 8 2 0 0 60 (some .int) := ⟨B.exec, B.bytes, hml, findClass_of_methodNamed B.named, fun w hw => atoms_spec (ws := Cond.code yX10_holderOf cX10_holderOf 8 (some .int) :: lw_g) B.pre w (List.mem_cons_of_mem _ hw), ⟨Nat.le_refl _, Nat.le_refl _, Nat.le_refl _, Nat.le_refl _⟩, B.returns, B.notSynchronized⟩
  have hl := lv_entry ([.ref v0, .int v1, .int v2]) (n := 8) (Nat.le_of_ble_eq_true rfl)
  rw [lg_entry_eq]
  generalize (lg_sl ([.ref v0, .int v1, .int v2]) ++ List.replicate (8 - (lg_sl ([.ref v0, .int v1, .int v2])).length) Slot.unset).toArray = ls at hl ⊢
  have hl : lv_has ls 8 [(0, .ref v0), (1, .int v1), (2, .int v2)] := hl
  unfold fk_10_holderOf at h
  refine lv_iconst (v := -1) C.1 C.2.1 dX10_holderOf_0 (by decide) ?_
  refine lv_istore_n (lv' := [(3, .int (-1 : Int32)), (0, .ref v0), (1, .int v1), (2, .int v2)]) C.1 C.2.1 dX10_holderOf_1 rfl hl (by decide) rfl (fun ls hl => ?_)
  refine lv_iconst (v := 0) C.1 C.2.1 dX10_holderOf_2 (by decide) ?_
  refine lv_istore (lv' := [(4, .int (0 : Int32)), (3, .int (-1 : Int32)), (0, .ref v0), (1, .int v1), (2, .int v2)]) C.1 C.2.1 dX10_holderOf_3 hl (by decide) rfl (fun ls hl => ?_)
  refine lv_iload_n C.1 C.2.1 dX10_holderOf_5 rfl (lv_at hl 3 rfl) ?_
  refine lv_bipush (v := 8) C.1 C.2.1 dX10_holderOf_6 (by decide) ?_
  refine lv_imul C.1 C.2.1 dX10_holderOf_8 ?_
  refine lv_bipush (v := 7) C.1 C.2.1 dX10_holderOf_9 (by decide) ?_
  refine lv_iadd C.1 C.2.1 dX10_holderOf_11 ?_
  refine lt_ok h (fun x1 e_x1 h => ?_)
  refine lv_nm e_x1 ?_
  refine lv_istore (lv' := [(5, .int x1), (4, .int (0 : Int32)), (3, .int (-1 : Int32)), (0, .ref v0), (1, .int v1), (2, .int v2)]) C.1 C.2.1 dX10_holderOf_12 hl (by decide) rfl (fun ls hl => ?_)
  refine lv_aload_n C.1 C.2.1 dX10_holderOf_14 rfl (lv_at hl 3 rfl) ?_
  obtain ⟨hk, h⟩ := ckk_ok h
  obtain ⟨a2, h_a2, h⟩ := bd_ok h
  refine gk10_38 C X hW hk h_a2 dX10_holderOf_15 ?_
  obtain ⟨hk, h⟩ := ckk_ok h
  obtain ⟨a3, h_a3, h⟩ := bd_ok h
  refine gk10_121 C X hW hk h_a3 dX10_holderOf_18 ?_
  refine lv_iload C.1 C.2.1 dX10_holderOf_21 (lv_at hl 0 rfl) ?_
  obtain ⟨hk, h⟩ := ckk_ok h
  obtain ⟨hin2, h⟩ := ck_ok h
  refine c_aald C 30 (by decide) X.2.2.2.2.1 hW hk hin2 dX10_holderOf_23 ?_
  refine lt_ok h (fun o4 e_o4 h => ?_)
  refine lv_nmq e_o4 ?_
  refine lv_astoreq (o := o4) (lv' := [(6, va_rf o4), (5, .int x1), (4, .int (0 : Int32)), (3, .int (-1 : Int32)), (0, .ref v0), (1, .int v1), (2, .int v2)]) C.1 C.2.1 dX10_holderOf_24 hl (by decide) rfl (fun ls hl => ?_)
  exact wk_10_holderOf_26 C X hW mFU h (lv_sub hl [4, 6, 3, 2, 0] rfl)
end
theorem dX11_init_0 : decode cX11_init 0 = .ok (.aload_n 0, 1) := by decide +kernel
theorem dX11_init_1 : decode cX11_init 1 = .ok (.invokespecial 3, 3) := by decide +kernel
theorem dX11_init_4 : decode cX11_init 4 = .ok (.aload_n 0, 1) := by decide +kernel
theorem dX11_init_5 : decode cX11_init 5 = .ok (.new 9, 3) := by decide +kernel
theorem dX11_init_8 : decode cX11_init 8 = .ok (.dup, 1) := by decide +kernel
theorem dX11_init_9 : decode cX11_init 9 = .ok (.invokespecial 11, 3) := by decide +kernel
theorem dX11_init_12 : decode cX11_init 12 = .ok (.putfield 12, 3) := by decide +kernel
theorem dX11_init_15 : decode cX11_init 15 = .ok (.aload_n 0, 1) := by decide +kernel
theorem dX11_init_16 : decode cX11_init 16 = .ok (.new 16, 3) := by decide +kernel
theorem dX11_init_19 : decode cX11_init 19 = .ok (.dup, 1) := by decide +kernel
theorem dX11_init_20 : decode cX11_init 20 = .ok (.invokespecial 18, 3) := by decide +kernel
theorem dX11_init_23 : decode cX11_init 23 = .ok (.putfield 19, 3) := by decide +kernel
theorem dX11_init_26 : decode cX11_init 26 = .ok (.aload_n 0, 1) := by decide +kernel
theorem dX11_init_27 : decode cX11_init 27 = .ok (.iconst 4, 1) := by decide +kernel
theorem dX11_init_28 : decode cX11_init 28 = .ok (.anewarray 23, 3) := by decide +kernel
theorem dX11_init_31 : decode cX11_init 31 = .ok (.putfield 25, 3) := by decide +kernel
theorem dX11_init_34 : decode cX11_init 34 = .ok (.aload_n 0, 1) := by decide +kernel
theorem dX11_init_35 : decode cX11_init 35 = .ok (.new 29, 3) := by decide +kernel
theorem dX11_init_38 : decode cX11_init 38 = .ok (.dup, 1) := by decide +kernel
theorem dX11_init_39 : decode cX11_init 39 = .ok (.invokespecial 31, 3) := by decide +kernel
theorem dX11_init_42 : decode cX11_init 42 = .ok (.putfield 32, 3) := by decide +kernel
theorem dX11_init_45 : decode cX11_init 45 = .ok (.aload_n 0, 1) := by decide +kernel
theorem dX11_init_46 : decode cX11_init 46 = .ok (.new 36, 3) := by decide +kernel
theorem dX11_init_49 : decode cX11_init 49 = .ok (.dup, 1) := by decide +kernel
theorem dX11_init_50 : decode cX11_init 50 = .ok (.aload_n 0, 1) := by decide +kernel
theorem dX11_init_51 : decode cX11_init 51 = .ok (.getfield 19, 3) := by decide +kernel
theorem dX11_init_54 : decode cX11_init 54 = .ok (.invokespecial 38, 3) := by decide +kernel
theorem dX11_init_57 : decode cX11_init 57 = .ok (.putfield 41, 3) := by decide +kernel
theorem dX11_init_60 : decode cX11_init 60 = .ok (.aload_n 0, 1) := by decide +kernel
theorem dX11_init_61 : decode cX11_init 61 = .ok (.new 45, 3) := by decide +kernel
theorem dX11_init_64 : decode cX11_init 64 = .ok (.dup, 1) := by decide +kernel
theorem dX11_init_65 : decode cX11_init 65 = .ok (.invokespecial 47, 3) := by decide +kernel
theorem dX11_init_68 : decode cX11_init 68 = .ok (.putfield 48, 3) := by decide +kernel
theorem dX11_init_71 : decode cX11_init 71 = .ok (.aload_n 0, 1) := by decide +kernel
theorem dX11_init_72 : decode cX11_init 72 = .ok (.bipush 48, 2) := by decide +kernel
theorem dX11_init_74 : decode cX11_init 74 = .ok (.newarray .int, 2) := by decide +kernel
theorem dX11_init_76 : decode cX11_init 76 = .ok (.putfield 52, 3) := by decide +kernel
theorem dX11_init_79 : decode cX11_init 79 = .ok (.aload_n 0, 1) := by decide +kernel
theorem dX11_init_80 : decode cX11_init 80 = .ok (.bipush 48, 2) := by decide +kernel
theorem dX11_init_82 : decode cX11_init 82 = .ok (.newarray .int, 2) := by decide +kernel
theorem dX11_init_84 : decode cX11_init 84 = .ok (.putfield 56, 3) := by decide +kernel
theorem dX11_init_87 : decode cX11_init 87 = .ok (.aload_n 0, 1) := by decide +kernel
theorem dX11_init_88 : decode cX11_init 88 = .ok (.iconst 0, 1) := by decide +kernel
theorem dX11_init_89 : decode cX11_init 89 = .ok (.putfield 59, 3) := by decide +kernel
theorem dX11_init_92 : decode cX11_init 92 = .ok (.iconst 0, 1) := by decide +kernel
theorem dX11_init_93 : decode cX11_init 93 = .ok (.istore_n 1, 1) := by decide +kernel
theorem dX11_init_94 : decode cX11_init 94 = .ok (.iload_n 1, 1) := by decide +kernel
theorem dX11_init_95 : decode cX11_init 95 = .ok (.iconst 4, 1) := by decide +kernel
theorem dX11_init_96 : decode cX11_init 96 = .ok (.if_icmp .ge 27, 3) := by decide +kernel
theorem dX11_init_99 : decode cX11_init 99 = .ok (.aload_n 0, 1) := by decide +kernel
theorem dX11_init_100 : decode cX11_init 100 = .ok (.getfield 25, 3) := by decide +kernel
theorem dX11_init_103 : decode cX11_init 103 = .ok (.iload_n 1, 1) := by decide +kernel
theorem dX11_init_104 : decode cX11_init 104 = .ok (.new 23, 3) := by decide +kernel
theorem dX11_init_107 : decode cX11_init 107 = .ok (.dup, 1) := by decide +kernel
theorem dX11_init_108 : decode cX11_init 108 = .ok (.iload_n 1, 1) := by decide +kernel
theorem dX11_init_109 : decode cX11_init 109 = .ok (.aload_n 0, 1) := by decide +kernel
theorem dX11_init_110 : decode cX11_init 110 = .ok (.getfield 19, 3) := by decide +kernel
theorem dX11_init_113 : decode cX11_init 113 = .ok (.invokespecial 63, 3) := by decide +kernel
theorem dX11_init_116 : decode cX11_init 116 = .ok (.aastore, 1) := by decide +kernel
theorem dX11_init_117 : decode cX11_init 117 = .ok (.iinc 1 1, 3) := by decide +kernel
theorem dX11_init_120 : decode cX11_init 120 = .ok (.goto (-26), 3) := by decide +kernel
theorem dX11_init_123 : decode cX11_init 123 = .ok (.aload_n 0, 1) := by decide +kernel
theorem dX11_init_124 : decode cX11_init 124 = .ok (.new 66, 3) := by decide +kernel
theorem dX11_init_127 : decode cX11_init 127 = .ok (.dup, 1) := by decide +kernel
theorem dX11_init_128 : decode cX11_init 128 = .ok (.aload_n 0, 1) := by decide +kernel
theorem dX11_init_129 : decode cX11_init 129 = .ok (.getfield 19, 3) := by decide +kernel
theorem dX11_init_132 : decode cX11_init 132 = .ok (.aload_n 0, 1) := by decide +kernel
theorem dX11_init_133 : decode cX11_init 133 = .ok (.getfield 25, 3) := by decide +kernel
theorem dX11_init_136 : decode cX11_init 136 = .ok (.iconst 0, 1) := by decide +kernel
theorem dX11_init_137 : decode cX11_init 137 = .ok (.aaload, 1) := by decide +kernel
theorem dX11_init_138 : decode cX11_init 138 = .ok (.getfield 68, 3) := by decide +kernel
theorem dX11_init_141 : decode cX11_init 141 = .ok (.sipush 1000, 3) := by decide +kernel
theorem dX11_init_144 : decode cX11_init 144 = .ok (.newarray .int, 2) := by decide +kernel
theorem dX11_init_146 : decode cX11_init 146 = .ok (.invokespecial 72, 3) := by decide +kernel
theorem dX11_init_149 : decode cX11_init 149 = .ok (.putfield 75, 3) := by decide +kernel
theorem dX11_init_152 : decode cX11_init 152 = .ok (.return_, 1) := by decide +kernel
theorem kd_11_init : Cond.code yX11_init cX11_init 2 none ∈ lw_g := mt_at 36 (by decide +kernel) rfl
theorem ki_11_init : Cond.instanceMethod yX11_init ∈ lw_g := mt_at 35 (by decide +kernel) rfl
theorem oi11 : Cond.methodLink RX11 3 objectInit ∈ lw_g := mt_at 37 (by decide +kernel) rfl
theorem cw11_11 : cCn RX11 11 yX3_init "AccordHouse" cX3_init 1 none 0 := ⟨kd_3_init, by decide +kernel, mt_at 2 (by decide +kernel) rfl, by decide +kernel⟩
theorem cw11_18 : cCn RX11 18 yX0_init "AccordHouse" cX0_init 1 none 0 := ⟨kd_0_init, by decide +kernel, mt_at 3 (by decide +kernel) rfl, by decide +kernel⟩
theorem cw11_31 : cCn RX11 31 yX5_init "AccordHouse" cX5_init 1 none 0 := ⟨kd_5_init, by decide +kernel, mt_at 4 (by decide +kernel) rfl, by decide +kernel⟩
theorem cw11_38 : cCw RX11 38 yX9_init cX9_init 2 none 1 := ⟨kd_9_init, mt_at 122 (by decide +kernel) rfl, mt_at 5 (by decide +kernel) rfl, by decide +kernel⟩
theorem cw11_47 : cCn RX11 47 yX1_init "AccordHouse" cX1_init 1 none 0 := ⟨kd_1_init, by decide +kernel, mt_at 6 (by decide +kernel) rfl, by decide +kernel⟩
theorem cw11_63 : cCw RX11 63 yX7_init cX7_init 3 none 2 := ⟨kd_7_init, mt_at 194 (by decide +kernel) rfl, mt_at 7 (by decide +kernel) rfl, by decide +kernel⟩
theorem cw11_72 : cCw RX11 72 yX10_init cX10_init 4 none 3 := ⟨kd_10_init, mt_at 370 (by decide +kernel) rfl, mt_at 10 (by decide +kernel) rfl, by decide +kernel⟩
theorem cl11_23 : Cond.classLink RX11 23 RX7 ∈ lw_g := mt_at 94 (by decide +kernel) rfl
section
variable {p : Program} {l : Launch} {e : Env} {R : Room} {s : State} {m : MethodId} {args : Array Value} {below : List Frame} {meth : Method} {c : Code} {H : Heap} {locs : List Loc} {cells slots : Nat} {Q : State → Prop}
variable {D : cG} {S S0 : cSt} {cc : ByteArray} {nL : Nat} {pc : Nat} {ls : Array Slot} {rest : List Value} {H0 : Heap} {nF nR nC nS : Nat} {ret : Option FieldType} {a : Nat}
theorem nk11_9 (C : cY p R s m args meth c RX11 cc nL nF nC nS nR ret) (X : cX D s) (hJ : cJ D S0 H0 S H locs) (hce : cells + 1 ≤ nC) (hsl : slots + 6 ≤ nS) (hdg : decode cc pc = .ok (.new 9, 3)) (kk : ∀ (H1 : Heap), cJ D S0 H0 (cNw S 4 0) H1 locs → W p l e R s m args below meth c H1 locs (cells + 1) (slots + 6) Q (F0 m (pc + 3) ls (.ref (kZ S) :: rest))) : W p l e R s m args below meth c H locs cells slots Q (F0 m pc ls (rest)) := c_new C X hJ 3 (by decide) ly_3 (fun j hj => by match j, hj with | 0, _ => rfl | 1, _ => rfl | 2, _ => rfl | 3, _ => rfl | 4, _ => rfl | 5, _ => rfl) (mt_at 40 (by decide +kernel) rfl) (mt_at 41 (by decide +kernel) rfl) (mt_at 2 (by decide +kernel) rfl) hce hsl hdg kk
theorem nk11_16 (C : cY p R s m args meth c RX11 cc nL nF nC nS nR ret) (X : cX D s) (hJ : cJ D S0 H0 S H locs) (hce : cells + 1 ≤ nC) (hsl : slots + 4 ≤ nS) (hdg : decode cc pc = .ok (.new 16, 3)) (kk : ∀ (H1 : Heap), cJ D S0 H0 (cNw S 1 0) H1 locs → W p l e R s m args below meth c H1 locs (cells + 1) (slots + 4) Q (F0 m (pc + 3) ls (.ref (kZ S) :: rest))) : W p l e R s m args below meth c H locs cells slots Q (F0 m pc ls (rest)) := c_new C X hJ 0 (by decide) ly_0 (fun j hj => by match j, hj with | 0, _ => rfl | 1, _ => rfl | 2, _ => rfl | 3, _ => rfl) (mt_at 71 (by decide +kernel) rfl) (mt_at 72 (by decide +kernel) rfl) (mt_at 3 (by decide +kernel) rfl) hce hsl hdg kk
theorem nk11_23 (C : cY p R s m args meth c RX11 cc nL nF nC nS nR ret) (X : cX D s) (hJ : cJ D S0 H0 S H locs) (hce : cells + 1 ≤ nC) (hsl : slots + 17 ≤ nS) (hdg : decode cc pc = .ok (.new 23, 3)) (kk : ∀ (H1 : Heap), cJ D S0 H0 (cNw S 8 0) H1 locs → W p l e R s m args below meth c H1 locs (cells + 1) (slots + 17) Q (F0 m (pc + 3) ls (.ref (kZ S) :: rest))) : W p l e R s m args below meth c H locs cells slots Q (F0 m pc ls (rest)) := c_new C X hJ 7 (by decide) ly_7 (fun j hj => by match j, hj with | 0, _ => rfl | 1, _ => rfl | 2, _ => rfl | 3, _ => rfl | 4, _ => rfl | 5, _ => rfl | 6, _ => rfl | 7, _ => rfl | 8, _ => rfl | 9, _ => rfl | 10, _ => rfl | 11, _ => rfl | 12, _ => rfl | 13, _ => rfl | 14, _ => rfl | 15, _ => rfl | 16, _ => rfl | j + 17, h => exact absurd (show j + 17 < 17 from h) (by omega)) (mt_at 94 (by decide +kernel) rfl) (mt_at 193 (by decide +kernel) rfl) (mt_at 7 (by decide +kernel) rfl) hce hsl hdg kk
theorem nk11_29 (C : cY p R s m args meth c RX11 cc nL nF nC nS nR ret) (X : cX D s) (hJ : cJ D S0 H0 S H locs) (hce : cells + 1 ≤ nC) (hsl : slots + 4 ≤ nS) (hdg : decode cc pc = .ok (.new 29, 3)) (kk : ∀ (H1 : Heap), cJ D S0 H0 (cNw S 6 0) H1 locs → W p l e R s m args below meth c H1 locs (cells + 1) (slots + 4) Q (F0 m (pc + 3) ls (.ref (kZ S) :: rest))) : W p l e R s m args below meth c H locs cells slots Q (F0 m pc ls (rest)) := c_new C X hJ 5 (by decide) ly_5 (fun j hj => by match j, hj with | 0, _ => rfl | 1, _ => rfl | 2, _ => rfl | 3, _ => rfl) (mt_at 96 (by decide +kernel) rfl) (mt_at 97 (by decide +kernel) rfl) (mt_at 4 (by decide +kernel) rfl) hce hsl hdg kk
theorem nk11_36 (C : cY p R s m args meth c RX11 cc nL nF nC nS nR ret) (X : cX D s) (hJ : cJ D S0 H0 S H locs) (hce : cells + 1 ≤ nC) (hsl : slots + 8 ≤ nS) (hdg : decode cc pc = .ok (.new 36, 3)) (kk : ∀ (H1 : Heap), cJ D S0 H0 (cNw S 10 0) H1 locs → W p l e R s m args below meth c H1 locs (cells + 1) (slots + 8) Q (F0 m (pc + 3) ls (.ref (kZ S) :: rest))) : W p l e R s m args below meth c H locs cells slots Q (F0 m pc ls (rest)) := c_new C X hJ 9 (by decide) ly_9 (fun j hj => by match j, hj with | 0, _ => rfl | 1, _ => rfl | 2, _ => rfl | 3, _ => rfl | 4, _ => rfl | 5, _ => rfl | 6, _ => rfl | 7, _ => rfl) (mt_at 120 (by decide +kernel) rfl) (mt_at 121 (by decide +kernel) rfl) (mt_at 5 (by decide +kernel) rfl) hce hsl hdg kk
theorem nk11_45 (C : cY p R s m args meth c RX11 cc nL nF nC nS nR ret) (X : cX D s) (hJ : cJ D S0 H0 S H locs) (hce : cells + 1 ≤ nC) (hsl : slots + 6 ≤ nS) (hdg : decode cc pc = .ok (.new 45, 3)) (kk : ∀ (H1 : Heap), cJ D S0 H0 (cNw S 2 0) H1 locs → W p l e R s m args below meth c H1 locs (cells + 1) (slots + 6) Q (F0 m (pc + 3) ls (.ref (kZ S) :: rest))) : W p l e R s m args below meth c H locs cells slots Q (F0 m pc ls (rest)) := c_new C X hJ 1 (by decide) ly_1 (fun j hj => by match j, hj with | 0, _ => rfl | 1, _ => rfl | 2, _ => rfl | 3, _ => rfl | 4, _ => rfl | 5, _ => rfl) (mt_at 155 (by decide +kernel) rfl) (mt_at 156 (by decide +kernel) rfl) (mt_at 6 (by decide +kernel) rfl) hce hsl hdg kk
theorem nk11_66 (C : cY p R s m args meth c RX11 cc nL nF nC nS nR ret) (X : cX D s) (hJ : cJ D S0 H0 S H locs) (hce : cells + 1 ≤ nC) (hsl : slots + 9 ≤ nS) (hdg : decode cc pc = .ok (.new 66, 3)) (kk : ∀ (H1 : Heap), cJ D S0 H0 (cNw S 11 0) H1 locs → W p l e R s m args below meth c H1 locs (cells + 1) (slots + 9) Q (F0 m (pc + 3) ls (.ref (kZ S) :: rest))) : W p l e R s m args below meth c H locs cells slots Q (F0 m pc ls (rest)) := c_new C X hJ 10 (by decide) ly_10 (fun j hj => by match j, hj with | 0, _ => rfl | 1, _ => rfl | 2, _ => rfl | 3, _ => rfl | 4, _ => rfl | 5, _ => rfl | 6, _ => rfl | 7, _ => rfl | 8, _ => rfl) (mt_at 369 (by decide +kernel) rfl) (mt_at 266 (by decide +kernel) rfl) (mt_at 10 (by decide +kernel) rfl) hce hsl hdg kk
theorem gk11_19 (C : cY p R s m args meth c RX11 cc nL nF nC nS nR ret) (X : cX D s) (hW : cW D S H) (hk : kK S a = 12) {x : Nat} (hx : kR S a 1 = some x) (hdg : decode cc pc = .ok (.getfield 19, 3)) (kk : W p l e R s m args below meth c H locs cells slots Q (F0 m (pc + 3) ls (.ref x :: rest))) : W p l e R s m args below meth c H locs cells slots Q (F0 m pc ls (.ref a :: rest)) := c_get C X hW 11 (by decide) ly_11 hk 1 (by decide) (mt_at 372 (by decide +kernel) (by decide +kernel)) hdg (by rw [cV_R (by decide +kernel) hx]; exact kk)
theorem gk11_25 (C : cY p R s m args meth c RX11 cc nL nF nC nS nR ret) (X : cX D s) (hW : cW D S H) (hk : kK S a = 12) {x : Nat} (hx : kR S a 2 = some x) (hdg : decode cc pc = .ok (.getfield 25, 3)) (kk : W p l e R s m args below meth c H locs cells slots Q (F0 m (pc + 3) ls (.ref x :: rest))) : W p l e R s m args below meth c H locs cells slots Q (F0 m pc ls (.ref a :: rest)) := c_get C X hW 11 (by decide) ly_11 hk 2 (by decide) (mt_at 373 (by decide +kernel) (by decide +kernel)) hdg (by rw [cV_R (by decide +kernel) hx]; exact kk)
theorem gk11_68 (C : cY p R s m args meth c RX11 cc nL nF nC nS nR ret) (X : cX D s) (hW : cW D S H) (hk : kK S a = 8) {x : Nat} (hx : kR S a 1 = some x) (hdg : decode cc pc = .ok (.getfield 68, 3)) (kk : W p l e R s m args below meth c H locs cells slots Q (F0 m (pc + 3) ls (.ref x :: rest))) : W p l e R s m args below meth c H locs cells slots Q (F0 m pc ls (.ref a :: rest)) := c_get C X hW 7 (by decide) ly_7 hk 1 (by decide) (mt_at 306 (by decide +kernel) (by decide +kernel)) hdg (by rw [cV_R (by decide +kernel) hx]; exact kk)
theorem pk11_12 {o : Option Nat} (C : cY p R s m args meth c RX11 cc nL nF nC nS nR ret) (hin : meth.name = "<init>") (X : cX D s) (hJ : cJ D S0 H0 S H locs) (hk : kK S a = 12) (hdg : decode cc pc = .ok (.putfield 12, 3)) (kk : ∀ (H1 : Heap) (locs1 : List Loc), cJ D S0 H0 (cPr S a 0 o) H1 locs1 → W p l e R s m args below meth c H1 locs1 cells slots Q (F0 m (pc + 3) ls (rest))) : W p l e R s m args below meth c H locs cells slots Q (F0 m pc ls (va_rf o :: .ref a :: rest)) := c_putF (S1 := (cPr S a 0 o)) C X hJ 11 (by decide) ly_11 hk 0 (by decide) (by decide +kernel) hin rfl nar_rf fit_rf (by decide) rfl rfl (fun j _ => c_vR (by decide +kernel)) c_oPr (mt_at 371 (by decide +kernel) (by decide +kernel)) hdg kk
theorem pk11_19 {o : Option Nat} (C : cY p R s m args meth c RX11 cc nL nF nC nS nR ret) (hin : meth.name = "<init>") (X : cX D s) (hJ : cJ D S0 H0 S H locs) (hk : kK S a = 12) (hdg : decode cc pc = .ok (.putfield 19, 3)) (kk : ∀ (H1 : Heap) (locs1 : List Loc), cJ D S0 H0 (cPr S a 1 o) H1 locs1 → W p l e R s m args below meth c H1 locs1 cells slots Q (F0 m (pc + 3) ls (rest))) : W p l e R s m args below meth c H locs cells slots Q (F0 m pc ls (va_rf o :: .ref a :: rest)) := c_putF (S1 := (cPr S a 1 o)) C X hJ 11 (by decide) ly_11 hk 1 (by decide) (by decide +kernel) hin rfl nar_rf fit_rf (by decide) rfl rfl (fun j _ => c_vR (by decide +kernel)) c_oPr (mt_at 372 (by decide +kernel) (by decide +kernel)) hdg kk
theorem pk11_25 {o : Option Nat} (C : cY p R s m args meth c RX11 cc nL nF nC nS nR ret) (hin : meth.name = "<init>") (X : cX D s) (hJ : cJ D S0 H0 S H locs) (hk : kK S a = 12) (hdg : decode cc pc = .ok (.putfield 25, 3)) (kk : ∀ (H1 : Heap) (locs1 : List Loc), cJ D S0 H0 (cPr S a 2 o) H1 locs1 → W p l e R s m args below meth c H1 locs1 cells slots Q (F0 m (pc + 3) ls (rest))) : W p l e R s m args below meth c H locs cells slots Q (F0 m pc ls (va_rf o :: .ref a :: rest)) := c_putF (S1 := (cPr S a 2 o)) C X hJ 11 (by decide) ly_11 hk 2 (by decide) (by decide +kernel) hin rfl nar_ra fit_ra (by decide) rfl rfl (fun j _ => c_vR (by decide +kernel)) c_oPr (mt_at 373 (by decide +kernel) (by decide +kernel)) hdg kk
theorem pk11_32 {o : Option Nat} (C : cY p R s m args meth c RX11 cc nL nF nC nS nR ret) (hin : meth.name = "<init>") (X : cX D s) (hJ : cJ D S0 H0 S H locs) (hk : kK S a = 12) (hdg : decode cc pc = .ok (.putfield 32, 3)) (kk : ∀ (H1 : Heap) (locs1 : List Loc), cJ D S0 H0 (cPr S a 3 o) H1 locs1 → W p l e R s m args below meth c H1 locs1 cells slots Q (F0 m (pc + 3) ls (rest))) : W p l e R s m args below meth c H locs cells slots Q (F0 m pc ls (va_rf o :: .ref a :: rest)) := c_putF (S1 := (cPr S a 3 o)) C X hJ 11 (by decide) ly_11 hk 3 (by decide) (by decide +kernel) hin rfl nar_rf fit_rf (by decide) rfl rfl (fun j _ => c_vR (by decide +kernel)) c_oPr (mt_at 374 (by decide +kernel) (by decide +kernel)) hdg kk
theorem pk11_41 {o : Option Nat} (C : cY p R s m args meth c RX11 cc nL nF nC nS nR ret) (hin : meth.name = "<init>") (X : cX D s) (hJ : cJ D S0 H0 S H locs) (hk : kK S a = 12) (hdg : decode cc pc = .ok (.putfield 41, 3)) (kk : ∀ (H1 : Heap) (locs1 : List Loc), cJ D S0 H0 (cPr S a 5 o) H1 locs1 → W p l e R s m args below meth c H1 locs1 cells slots Q (F0 m (pc + 3) ls (rest))) : W p l e R s m args below meth c H locs cells slots Q (F0 m pc ls (va_rf o :: .ref a :: rest)) := c_putF (S1 := (cPr S a 5 o)) C X hJ 11 (by decide) ly_11 hk 5 (by decide) (by decide +kernel) hin rfl nar_rf fit_rf (by decide) rfl rfl (fun j _ => c_vR (by decide +kernel)) c_oPr (mt_at 376 (by decide +kernel) (by decide +kernel)) hdg kk
theorem pk11_48 {o : Option Nat} (C : cY p R s m args meth c RX11 cc nL nF nC nS nR ret) (hin : meth.name = "<init>") (X : cX D s) (hJ : cJ D S0 H0 S H locs) (hk : kK S a = 12) (hdg : decode cc pc = .ok (.putfield 48, 3)) (kk : ∀ (H1 : Heap) (locs1 : List Loc), cJ D S0 H0 (cPr S a 6 o) H1 locs1 → W p l e R s m args below meth c H1 locs1 cells slots Q (F0 m (pc + 3) ls (rest))) : W p l e R s m args below meth c H locs cells slots Q (F0 m pc ls (va_rf o :: .ref a :: rest)) := c_putF (S1 := (cPr S a 6 o)) C X hJ 11 (by decide) ly_11 hk 6 (by decide) (by decide +kernel) hin rfl nar_rf fit_rf (by decide) rfl rfl (fun j _ => c_vR (by decide +kernel)) c_oPr (mt_at 377 (by decide +kernel) (by decide +kernel)) hdg kk
theorem pk11_52 {o : Option Nat} (C : cY p R s m args meth c RX11 cc nL nF nC nS nR ret) (hin : meth.name = "<init>") (X : cX D s) (hJ : cJ D S0 H0 S H locs) (hk : kK S a = 12) (hdg : decode cc pc = .ok (.putfield 52, 3)) (kk : ∀ (H1 : Heap) (locs1 : List Loc), cJ D S0 H0 (cPr S a 7 o) H1 locs1 → W p l e R s m args below meth c H1 locs1 cells slots Q (F0 m (pc + 3) ls (rest))) : W p l e R s m args below meth c H locs cells slots Q (F0 m pc ls (va_rf o :: .ref a :: rest)) := c_putF (S1 := (cPr S a 7 o)) C X hJ 11 (by decide) ly_11 hk 7 (by decide) (by decide +kernel) hin rfl nar_ra fit_ra (by decide) rfl rfl (fun j _ => c_vR (by decide +kernel)) c_oPr (mt_at 378 (by decide +kernel) (by decide +kernel)) hdg kk
theorem pk11_56 {o : Option Nat} (C : cY p R s m args meth c RX11 cc nL nF nC nS nR ret) (hin : meth.name = "<init>") (X : cX D s) (hJ : cJ D S0 H0 S H locs) (hk : kK S a = 12) (hdg : decode cc pc = .ok (.putfield 56, 3)) (kk : ∀ (H1 : Heap) (locs1 : List Loc), cJ D S0 H0 (cPr S a 8 o) H1 locs1 → W p l e R s m args below meth c H1 locs1 cells slots Q (F0 m (pc + 3) ls (rest))) : W p l e R s m args below meth c H locs cells slots Q (F0 m pc ls (va_rf o :: .ref a :: rest)) := c_putF (S1 := (cPr S a 8 o)) C X hJ 11 (by decide) ly_11 hk 8 (by decide) (by decide +kernel) hin rfl nar_ra fit_ra (by decide) rfl rfl (fun j _ => c_vR (by decide +kernel)) c_oPr (mt_at 379 (by decide +kernel) (by decide +kernel)) hdg kk
theorem pk11_59 {x : Int32} (C : cY p R s m args meth c RX11 cc nL nF nC nS nR ret) (X : cX D s) (hJ : cJ D S0 H0 S H locs) (hk : kK S a = 12) (hdg : decode cc pc = .ok (.putfield 59, 3)) (kk : ∀ (H1 : Heap) (locs1 : List Loc), cJ D S0 H0 (cPi S a 9 x) H1 locs1 → W p l e R s m args below meth c H1 locs1 cells slots Q (F0 m (pc + 3) ls (rest))) : W p l e R s m args below meth c H locs cells slots Q (F0 m pc ls (.int x :: .ref a :: rest)) := c_put (S1 := (cPi S a 9 x)) C X hJ 11 (by decide) ly_11 hk 9 (by decide) (by decide +kernel)  rfl rfl (by decide) rfl rfl (fun j _ => c_vI (by decide +kernel)) c_oPi (mt_at 380 (by decide +kernel) (by decide +kernel)) hdg kk
theorem pk11_75 {o : Option Nat} (C : cY p R s m args meth c RX11 cc nL nF nC nS nR ret) (hin : meth.name = "<init>") (X : cX D s) (hJ : cJ D S0 H0 S H locs) (hk : kK S a = 12) (hdg : decode cc pc = .ok (.putfield 75, 3)) (kk : ∀ (H1 : Heap) (locs1 : List Loc), cJ D S0 H0 (cPr S a 4 o) H1 locs1 → W p l e R s m args below meth c H1 locs1 cells slots Q (F0 m (pc + 3) ls (rest))) : W p l e R s m args below meth c H locs cells slots Q (F0 m pc ls (va_rf o :: .ref a :: rest)) := c_putF (S1 := (cPr S a 4 o)) C X hJ 11 (by decide) ly_11 hk 4 (by decide) (by decide +kernel) hin rfl nar_rf fit_rf (by decide) rfl rfl (fun j _ => c_vR (by decide +kernel)) c_oPr (mt_at 375 (by decide +kernel) (by decide +kernel)) hdg kk
end
section
variable {p : Program} {l : Launch} {e : Env} {R : Room} {s : State} {m : MethodId} {args : Array Value} {below : List Frame} {meth : Method} {c : Code} {D : cG} {S0 S9 : cSt}
noncomputable def fk_11_init_94 : Nat → cSt → Nat → Int32 → Option (cSt)
  | 0, _, _, _ => none
  | n + 1, S, v0, v1 =>
    if (4 : Int32) ≤ v1 then (
    lt (kZ S) fun a3 => lt (cNw S 11 0) fun S2 =>
    ckk S2 v0 12 (bd (kR S2 v0 1) fun a4 =>
    ckk S2 v0 12 (bd (kR S2 v0 2) fun a5 =>
    ckk S2 a5 31 (ck (0 : Int32) (kL S2 a5) (lt (kO S2 a5 (Int32.toNatClampNeg (0 : Int32))) fun o6 =>
    bd o6 fun a7 =>
    ckk S2 a7 8 (bd (kR S2 a7 1) fun a8 =>
    lt (kZ S2) fun a11 => lt (cNw S2 20 1000) fun S10 =>
    bd (fk_10_init S10 a3 a4 a8 a11) fun S12 =>
    ckk S12 v0 12 (lt (cPr S12 v0 4 (some a3)) fun S13 =>
    some S13)))))))
    else (
    ckk S v0 12 (bd (kR S v0 2) fun a14 =>
    lt (kZ S) fun a16 => lt (cNw S 8 0) fun S15 =>
    ckk S15 v0 12 (bd (kR S15 v0 1) fun a17 =>
    bd (fk_7_init S15 a16 v1 a17) fun S18 =>
    ckk S18 a14 31 (ck v1 (kL S18 a14) (ckq S18 (some a16) 8 (lt (cWo S18 a14 (Int32.toNatClampNeg v1) (some a16)) fun S19 =>
    lt (v1 + (1 : Int32)) fun x20 =>
    fk_11_init_94 n S19 v0 x20))))))
set_option maxRecDepth 100000 in
set_option maxHeartbeats 4000000 in
theorem wk_11_init_94 (C : cY p R s m args meth c RX11 cX11_init 2 4 158 47364 105 none) (hin : meth.name = "<init>") (X : cX D s) : ∀ (n : Nat), n ≤ 5 → ∀ {S : cSt} {v0 : Nat} {v1 : Int32} {H : Heap} {locs : List Loc} {ls : Array Slot}, fk_11_init_94 n S v0 v1 = some S9 → cJ D S0 s.heap S H locs → lv_has ls 2 [(0, .ref v0), (1, .int v1)] → W p l e R s m args below meth c H locs (151 - 26 * n) (46022 - 8336 * n) (MQ below (kW none D S0 S9) args s 158 47364 (cA S0)) (F0 m 94 ls []) := by
  intro n
  induction n with
  | zero =>
    intro hn S v0 v1 H locs ls h hJ hl
    exact absurd (show (none : Option (cSt)) = _ from h) (fun q => by cases q)
  | succ n ih =>
    intro hn S v0 v1 H locs ls h hJ hl
    rw [fk_11_init_94] at h
    refine lv_iload_n C.1 C.2.1 dX11_init_94 rfl (lv_at hl 1 rfl) ?_
    refine lv_iconst (v := 4) C.1 C.2.1 dX11_init_95 (by decide) ?_
    refine lv_icmp_ge (tgt := 123) C.1 C.2.1 dX11_init_96 (by decide) (fun c1 => ?_) (fun c1 => ?_)
    · have h := if_t h c1
      refine W.widen (k := 151) (n := 46022) (by omega) (by omega) ?_
      refine lv_aload_n C.1 C.2.1 dX11_init_123 rfl (lv_at hl 0 rfl) ?_
      refine nk11_66 C X hJ (by decide) (by decide) dX11_init_124 (fun H hJ => ?_)
      refine lt_ok h (fun a3 e_a3 h => ?_)
      refine lt_ok h (fun S2 e_S2 h => ?_)
      rw [e_S2] at hJ
      rw [e_a3]
      refine lv_dup C.1 C.2.1 dX11_init_127 rfl ?_
      refine lv_aload_n C.1 C.2.1 dX11_init_128 rfl (lv_at hl 0 rfl) ?_
      obtain ⟨hk, h⟩ := ckk_ok h
      obtain ⟨a4, h_a4, h⟩ := bd_ok h
      refine gk11_19 C X hJ.1 hk h_a4 dX11_init_129 ?_
      refine lv_aload_n C.1 C.2.1 dX11_init_132 rfl (lv_at hl 0 rfl) ?_
      obtain ⟨hk, h⟩ := ckk_ok h
      obtain ⟨a5, h_a5, h⟩ := bd_ok h
      refine gk11_25 C X hJ.1 hk h_a5 dX11_init_133 ?_
      refine lv_iconst (v := 0) C.1 C.2.1 dX11_init_136 (by decide) ?_
      obtain ⟨hk, h⟩ := ckk_ok h
      obtain ⟨hin2, h⟩ := ck_ok h
      refine c_aald C 31 (by decide) X.2.2.2.2.2.1 hJ.1 hk hin2 dX11_init_137 ?_
      refine lt_ok h (fun o6 e_o6 h => ?_)
      refine lv_nmq e_o6 ?_
      obtain ⟨a7, e_a7, h⟩ := bd_ok h
      revert h; subst e_a7; intro h
      obtain ⟨hk, h⟩ := ckk_ok h
      obtain ⟨a8, h_a8, h⟩ := bd_ok h
      refine gk11_68 C X hJ.1 hk h_a8 dX11_init_138 ?_
      refine lv_sipush (v := 1000) C.1 C.2.1 dX11_init_141 (by decide) ?_
      refine c_newa (N := 1000) C hJ 20 (by decide) (by decide) X.2.1 rfl id rfl ar_20 (by decide) (by decide) (by decide) (by decide) (by decide) dX11_init_144 (fun H hJ => ?_)
      refine lt_ok h (fun a11 e_a11 h => ?_)
      refine lt_ok h (fun S10 e_S10 h => ?_)
      rw [e_S10] at hJ
      rw [e_a11]
      obtain ⟨S12, h_S12, h⟩ := bd_ok h
      refine c_callI (rest := [.ref a3, .ref v0]) C X hJ hl.1 [.ref a4, .ref a8, .ref a11] (tk_10_init l h_S12) cw11_72 ki_10_init rfl rfl ⟨by decide, by decide⟩ ⟨(by decide), (by decide)⟩ rfl (Nat.le_of_ble_eq_true rfl) dX11_init_146 (fun H locs hJ => ?_)
      refine W.eq (g2 := F0 m 149 ls [.ref a3, .ref v0]) rfl ?_
      obtain ⟨hk, h⟩ := ckk_ok h
      refine pk11_75 (o := (some a3)) C hin X hJ hk dX11_init_149 (fun H locs hJ => ?_)
      refine lt_ok h (fun S13 e_S13 h => ?_)
      rw [e_S13] at hJ
      cases h
      exact c_retvW C hJ dX11_init_152
    · have h := if_f h c1
      refine lv_aload_n C.1 C.2.1 dX11_init_99 rfl (lv_at hl 0 rfl) ?_
      obtain ⟨hk, h⟩ := ckk_ok h
      obtain ⟨a14, h_a14, h⟩ := bd_ok h
      refine gk11_25 C X hJ.1 hk h_a14 dX11_init_100 ?_
      refine lv_iload_n C.1 C.2.1 dX11_init_103 rfl (lv_at hl 1 rfl) ?_
      refine nk11_23 C X hJ (by omega) (by omega) dX11_init_104 (fun H hJ => ?_)
      refine lt_ok h (fun a16 e_a16 h => ?_)
      refine lt_ok h (fun S15 e_S15 h => ?_)
      rw [e_S15] at hJ
      rw [e_a16]
      refine lv_dup C.1 C.2.1 dX11_init_107 rfl ?_
      refine lv_iload_n C.1 C.2.1 dX11_init_108 rfl (lv_at hl 1 rfl) ?_
      refine lv_aload_n C.1 C.2.1 dX11_init_109 rfl (lv_at hl 0 rfl) ?_
      obtain ⟨hk, h⟩ := ckk_ok h
      obtain ⟨a17, h_a17, h⟩ := bd_ok h
      refine gk11_19 C X hJ.1 hk h_a17 dX11_init_110 ?_
      obtain ⟨S18, h_S18, h⟩ := bd_ok h
      refine c_callI (rest := [.ref a16, .int v1, .ref a14]) C X hJ hl.1 [.int v1, .ref a17] (tk_7_init l h_S18) cw11_63 ki_7_init rfl rfl ⟨by decide, by decide⟩ ⟨(by omega), (by omega)⟩ rfl (Nat.le_of_ble_eq_true rfl) dX11_init_113 (fun H locs hJ => ?_)
      refine W.eq (g2 := F0 m 116 ls [.ref a16, .int v1, .ref a14]) rfl ?_
      obtain ⟨hk, h⟩ := ckk_ok h
      obtain ⟨hin2, h⟩ := ck_ok h
      obtain ⟨hkv, h⟩ := ckq_ok h
      refine c_aastq (o := (some a16)) C X 31 7 (by decide) (by decide) X.2.2.2.2.2.1 hJ hk hkv hin2 dX11_init_116 (fun H locs hJ => ?_)
      refine lt_ok h (fun S19 e_S19 h => ?_)
      rw [e_S19] at hJ
      refine lt_ok h (fun x20 e_x20 h => ?_)
      refine lv_iinc (v := x20) (lv' := [(1, .int x20), (0, .ref v0)]) C.1 C.2.1 dX11_init_117 hl (k := 1) rfl (by rw [← e_x20]; rfl) (by decide) rfl (fun ls hl => ?_)
      refine lv_goto (tgt := 94) C.1 C.2.1 dX11_init_120 (by decide) ?_
      refine W.widen (k := 151 - 26 * n) (n := 46022 - 8336 * n) (by omega) (by omega) ?_
      exact ih (by omega) h hJ (lv_sub hl [1, 0] rfl)
noncomputable def fk_11_init (S : cSt) (v0 : Nat) : Option (cSt) :=
lt (kZ S) fun a2 => lt (cNw S 4 0) fun S1 =>
bd (fk_3_init S1 a2) fun S3 =>
ckk S3 v0 12 (lt (cPr S3 v0 0 (some a2)) fun S4 =>
lt (kZ S4) fun a6 => lt (cNw S4 1 0) fun S5 =>
bd (fk_0_init S5 a6) fun S7 =>
ckk S7 v0 12 (lt (cPr S7 v0 1 (some a6)) fun S8 =>
lt (kZ S8) fun a11 => lt (cNw S8 31 4) fun S10 =>
ckk S10 v0 12 (lt (cPr S10 v0 2 (some a11)) fun S12 =>
lt (kZ S12) fun a14 => lt (cNw S12 6 0) fun S13 =>
bd (fk_5_init S13 a14) fun S15 =>
ckk S15 v0 12 (lt (cPr S15 v0 3 (some a14)) fun S16 =>
lt (kZ S16) fun a18 => lt (cNw S16 10 0) fun S17 =>
ckk S17 v0 12 (bd (kR S17 v0 1) fun a19 =>
bd (fk_9_init S17 a18 a19) fun S20 =>
ckk S20 v0 12 (lt (cPr S20 v0 5 (some a18)) fun S21 =>
lt (kZ S21) fun a23 => lt (cNw S21 2 0) fun S22 =>
bd (fk_1_init S22 a23) fun S24 =>
ckk S24 v0 12 (lt (cPr S24 v0 6 (some a23)) fun S25 =>
lt (kZ S25) fun a27 => lt (cNw S25 20 48) fun S26 =>
ckk S26 v0 12 (lt (cPr S26 v0 7 (some a27)) fun S28 =>
lt (kZ S28) fun a30 => lt (cNw S28 20 48) fun S29 =>
ckk S29 v0 12 (lt (cPr S29 v0 8 (some a30)) fun S31 =>
ckk S31 v0 12 (lt (cPi S31 v0 9 (0 : Int32)) fun S32 =>
fk_11_init_94 5 S32 v0 (0 : Int32)))))))))))
set_option maxRecDepth 100000 in
set_option maxHeartbeats 4000000 in
theorem tk_11_init (l : Launch) {D : cG} {S : cSt} {v0 : Nat} {S9 : cSt} (h : fk_11_init S v0 = some S9) : Met l yX11_init (Cond.code yX11_init cX11_init 2 none :: lw_g) { frames := 4, cells := 158, slots := 47364, locals := 105 } (kPi [.ref v0] D S) (kW none D S S9) 158 47364 (cA S) := by
  refine Met.ofW (cc := cX11_init) (maxL := 2) (ret := none) (by decide) rfl ?_
  intro p e s m args below meth c s₁ B hml hv
  obtain ⟨rfl, hW, X⟩ := hv
  have C : cY p (headSpec (Cond.code yX11_init cX11_init 2 none :: lw_g) { frames := 4, cells := 158, slots := 47364, locals := 105 }).room s m _ meth c RX11 cX11_init 2 4 158 47364 105 none := ⟨B.exec, B.bytes, hml, findClass_of_methodNamed B.named, fun w hw => atoms_spec (ws := Cond.code yX11_init cX11_init 2 none :: lw_g) B.pre w (List.mem_cons_of_mem _ hw), ⟨Nat.le_refl _, Nat.le_refl _, Nat.le_refl _, Nat.le_refl _⟩, B.returns, B.notSynchronized⟩
  have hin : meth.name = "<init>" := (name_of_methodNamed B.named B.method).1
  have hl := lv_entry ([.ref v0]) (n := 2) (Nat.le_of_ble_eq_true rfl)
  rw [lg_entry_eq]
  generalize (lg_sl ([.ref v0]) ++ List.replicate (2 - (lg_sl ([.ref v0])).length) Slot.unset).toArray = ls at hl ⊢
  have hl : lv_has ls 2 [(0, .ref v0)] := hl
  have hJ : cJ D S s.heap S s.heap [] := cJ.rf hW
  unfold fk_11_init at h
  refine lv_aload_n C.1 C.2.1 dX11_init_0 rfl (lv_at hl 0 rfl) ?_
  refine W.objInit C.1 C.2.1 C.2.2.2.1 (C.2.2.2.2.1 _ oi11) (C.2.2.2.2.1 _ oi_i) (C.2.2.2.2.1 _ oi_c) rfl (by rw [C.2.2.1]; exact hl.1) rfl dX11_init_1 (Nat.le_trans (by decide) C.2.2.2.2.2.1.1) (Nat.le_trans (Nat.le_of_ble_eq_true rfl) C.2.2.2.2.2.1.2.2.2) ?_
  refine W.eq (g2 := F0 m 4 ls []) rfl ?_
  refine lv_aload_n C.1 C.2.1 dX11_init_4 rfl (lv_at hl 0 rfl) ?_
  refine nk11_9 C X hJ (by decide) (by decide) dX11_init_5 (fun H hJ => ?_)
  refine lt_ok h (fun a2 e_a2 h => ?_)
  refine lt_ok h (fun S1 e_S1 h => ?_)
  rw [e_S1] at hJ
  rw [e_a2]
  refine lv_dup C.1 C.2.1 dX11_init_8 rfl ?_
  obtain ⟨S3, h_S3, h⟩ := bd_ok h
  refine c_callIN (rest := [.ref a2, .ref v0]) C X hJ hl.1 [] (tk_3_init l h_S3) cw11_11 ki_3_init rfl rfl ⟨by decide, by decide⟩ ⟨(by decide), (by decide)⟩ rfl (Nat.le_of_ble_eq_true rfl) dX11_init_9 (fun H locs hJ => ?_)
  refine W.eq (g2 := F0 m 12 ls [.ref a2, .ref v0]) rfl ?_
  obtain ⟨hk, h⟩ := ckk_ok h
  refine pk11_12 (o := (some a2)) C hin X hJ hk dX11_init_12 (fun H locs hJ => ?_)
  refine lt_ok h (fun S4 e_S4 h => ?_)
  rw [e_S4] at hJ
  refine lv_aload_n C.1 C.2.1 dX11_init_15 rfl (lv_at hl 0 rfl) ?_
  refine nk11_16 C X hJ (by decide) (by decide) dX11_init_16 (fun H hJ => ?_)
  refine lt_ok h (fun a6 e_a6 h => ?_)
  refine lt_ok h (fun S5 e_S5 h => ?_)
  rw [e_S5] at hJ
  rw [e_a6]
  refine lv_dup C.1 C.2.1 dX11_init_19 rfl ?_
  obtain ⟨S7, h_S7, h⟩ := bd_ok h
  refine c_callIN (rest := [.ref a6, .ref v0]) C X hJ hl.1 [] (tk_0_init l h_S7) cw11_18 ki_0_init rfl rfl ⟨by decide, by decide⟩ ⟨(by decide), (by decide)⟩ rfl (Nat.le_of_ble_eq_true rfl) dX11_init_20 (fun H locs hJ => ?_)
  refine W.eq (g2 := F0 m 23 ls [.ref a6, .ref v0]) rfl ?_
  obtain ⟨hk, h⟩ := ckk_ok h
  refine pk11_19 (o := (some a6)) C hin X hJ hk dX11_init_23 (fun H locs hJ => ?_)
  refine lt_ok h (fun S8 e_S8 h => ?_)
  rw [e_S8] at hJ
  refine lv_aload_n C.1 C.2.1 dX11_init_26 rfl (lv_at hl 0 rfl) ?_
  refine lv_iconst (v := 4) C.1 C.2.1 dX11_init_27 (by decide) ?_
  refine c_anew (N := 4) C hJ 31 (by decide) X.2.2.2.2.2.1 cl11_23 X.2.2.2.2.2.2.2.1.2.1 (by decide) (by decide) (by decide) (by decide) (by decide) dX11_init_28 (fun H hJ => ?_)
  refine lt_ok h (fun a11 e_a11 h => ?_)
  refine lt_ok h (fun S10 e_S10 h => ?_)
  rw [e_S10] at hJ
  rw [e_a11]
  obtain ⟨hk, h⟩ := ckk_ok h
  refine pk11_25 (o := (some a11)) C hin X hJ hk dX11_init_31 (fun H locs hJ => ?_)
  refine lt_ok h (fun S12 e_S12 h => ?_)
  rw [e_S12] at hJ
  refine lv_aload_n C.1 C.2.1 dX11_init_34 rfl (lv_at hl 0 rfl) ?_
  refine nk11_29 C X hJ (by decide) (by decide) dX11_init_35 (fun H hJ => ?_)
  refine lt_ok h (fun a14 e_a14 h => ?_)
  refine lt_ok h (fun S13 e_S13 h => ?_)
  rw [e_S13] at hJ
  rw [e_a14]
  refine lv_dup C.1 C.2.1 dX11_init_38 rfl ?_
  obtain ⟨S15, h_S15, h⟩ := bd_ok h
  refine c_callIN (rest := [.ref a14, .ref v0]) C X hJ hl.1 [] (tk_5_init l h_S15) cw11_31 ki_5_init rfl rfl ⟨by decide, by decide⟩ ⟨(by decide), (by decide)⟩ rfl (Nat.le_of_ble_eq_true rfl) dX11_init_39 (fun H locs hJ => ?_)
  refine W.eq (g2 := F0 m 42 ls [.ref a14, .ref v0]) rfl ?_
  obtain ⟨hk, h⟩ := ckk_ok h
  refine pk11_32 (o := (some a14)) C hin X hJ hk dX11_init_42 (fun H locs hJ => ?_)
  refine lt_ok h (fun S16 e_S16 h => ?_)
  rw [e_S16] at hJ
  refine lv_aload_n C.1 C.2.1 dX11_init_45 rfl (lv_at hl 0 rfl) ?_
  refine nk11_36 C X hJ (by decide) (by decide) dX11_init_46 (fun H hJ => ?_)
  refine lt_ok h (fun a18 e_a18 h => ?_)
  refine lt_ok h (fun S17 e_S17 h => ?_)
  rw [e_S17] at hJ
  rw [e_a18]
  refine lv_dup C.1 C.2.1 dX11_init_49 rfl ?_
  refine lv_aload_n C.1 C.2.1 dX11_init_50 rfl (lv_at hl 0 rfl) ?_
  obtain ⟨hk, h⟩ := ckk_ok h
  obtain ⟨a19, h_a19, h⟩ := bd_ok h
  refine gk11_19 C X hJ.1 hk h_a19 dX11_init_51 ?_
  obtain ⟨S20, h_S20, h⟩ := bd_ok h
  refine c_callI (rest := [.ref a18, .ref v0]) C X hJ hl.1 [.ref a19] (tk_9_init l h_S20) cw11_38 ki_9_init rfl rfl ⟨by decide, by decide⟩ ⟨(by decide), (by decide)⟩ rfl (Nat.le_of_ble_eq_true rfl) dX11_init_54 (fun H locs hJ => ?_)
  refine W.eq (g2 := F0 m 57 ls [.ref a18, .ref v0]) rfl ?_
  obtain ⟨hk, h⟩ := ckk_ok h
  refine pk11_41 (o := (some a18)) C hin X hJ hk dX11_init_57 (fun H locs hJ => ?_)
  refine lt_ok h (fun S21 e_S21 h => ?_)
  rw [e_S21] at hJ
  refine lv_aload_n C.1 C.2.1 dX11_init_60 rfl (lv_at hl 0 rfl) ?_
  refine nk11_45 C X hJ (by decide) (by decide) dX11_init_61 (fun H hJ => ?_)
  refine lt_ok h (fun a23 e_a23 h => ?_)
  refine lt_ok h (fun S22 e_S22 h => ?_)
  rw [e_S22] at hJ
  rw [e_a23]
  refine lv_dup C.1 C.2.1 dX11_init_64 rfl ?_
  obtain ⟨S24, h_S24, h⟩ := bd_ok h
  refine c_callIN (rest := [.ref a23, .ref v0]) C X hJ hl.1 [] (tk_1_init l h_S24) cw11_47 ki_1_init rfl rfl ⟨by decide, by decide⟩ ⟨(by decide), (by decide)⟩ rfl (Nat.le_of_ble_eq_true rfl) dX11_init_65 (fun H locs hJ => ?_)
  refine W.eq (g2 := F0 m 68 ls [.ref a23, .ref v0]) rfl ?_
  obtain ⟨hk, h⟩ := ckk_ok h
  refine pk11_48 (o := (some a23)) C hin X hJ hk dX11_init_68 (fun H locs hJ => ?_)
  refine lt_ok h (fun S25 e_S25 h => ?_)
  rw [e_S25] at hJ
  refine lv_aload_n C.1 C.2.1 dX11_init_71 rfl (lv_at hl 0 rfl) ?_
  refine lv_bipush (v := 48) C.1 C.2.1 dX11_init_72 (by decide) ?_
  refine c_newa (N := 48) C hJ 20 (by decide) (by decide) X.2.1 rfl id rfl ar_20 (by decide) (by decide) (by decide) (by decide) (by decide) dX11_init_74 (fun H hJ => ?_)
  refine lt_ok h (fun a27 e_a27 h => ?_)
  refine lt_ok h (fun S26 e_S26 h => ?_)
  rw [e_S26] at hJ
  rw [e_a27]
  obtain ⟨hk, h⟩ := ckk_ok h
  refine pk11_52 (o := (some a27)) C hin X hJ hk dX11_init_76 (fun H locs hJ => ?_)
  refine lt_ok h (fun S28 e_S28 h => ?_)
  rw [e_S28] at hJ
  refine lv_aload_n C.1 C.2.1 dX11_init_79 rfl (lv_at hl 0 rfl) ?_
  refine lv_bipush (v := 48) C.1 C.2.1 dX11_init_80 (by decide) ?_
  refine c_newa (N := 48) C hJ 20 (by decide) (by decide) X.2.1 rfl id rfl ar_20 (by decide) (by decide) (by decide) (by decide) (by decide) dX11_init_82 (fun H hJ => ?_)
  refine lt_ok h (fun a30 e_a30 h => ?_)
  refine lt_ok h (fun S29 e_S29 h => ?_)
  rw [e_S29] at hJ
  rw [e_a30]
  obtain ⟨hk, h⟩ := ckk_ok h
  refine pk11_56 (o := (some a30)) C hin X hJ hk dX11_init_84 (fun H locs hJ => ?_)
  refine lt_ok h (fun S31 e_S31 h => ?_)
  rw [e_S31] at hJ
  refine lv_aload_n C.1 C.2.1 dX11_init_87 rfl (lv_at hl 0 rfl) ?_
  refine lv_iconst (v := 0) C.1 C.2.1 dX11_init_88 (by decide) ?_
  obtain ⟨hk, h⟩ := ckk_ok h
  refine pk11_59 C X hJ hk dX11_init_89 (fun H locs hJ => ?_)
  refine lt_ok h (fun S32 e_S32 h => ?_)
  rw [e_S32] at hJ
  refine lv_iconst (v := 0) C.1 C.2.1 dX11_init_92 (by decide) ?_
  refine lv_istore_n (lv' := [(1, .int (0 : Int32)), (0, .ref v0)]) C.1 C.2.1 dX11_init_93 rfl hl (by decide) rfl (fun ls hl => ?_)
  refine W.widen (k := 151 - 26 * 5) (n := 46022 - 8336 * 5) (by decide) (by decide) ?_
  exact wk_11_init_94 C hin X 5 (by decide) h hJ (lv_sub hl [1, 0] rfl)
end
theorem dX11_type_0 : decode cX11_type 0 = .ok (.aload_n 0, 1) := by decide +kernel
theorem dX11_type_1 : decode cX11_type 1 = .ok (.getfield 12, 3) := by decide +kernel
theorem dX11_type_4 : decode cX11_type 4 = .ok (.lload_n 1, 1) := by decide +kernel
theorem dX11_type_5 : decode cX11_type 5 = .ok (.iload_n 3, 1) := by decide +kernel
theorem dX11_type_6 : decode cX11_type 6 = .ok (.invokevirtual 79, 3) := by decide +kernel
theorem dX11_type_9 : decode cX11_type 9 = .ok (.ireturn, 1) := by decide +kernel
theorem kd_11_type : Cond.code yX11_type cX11_type 4 (some .boolean) ∈ lw_g := mt_at 405 (by decide +kernel) rfl
theorem ki_11_type : Cond.instanceMethod yX11_type ∈ lw_g := mt_at 403 (by decide +kernel) rfl
theorem kl_11_type : Cond.selects (kRn 11) yX11_type yX11_type ∈ lw_g := mt_at 404 (by decide +kernel) rfl
theorem cw11_79 : cCw RX11 79 yX3_put cX3_put 6 (some .boolean) 2 := ⟨kd_3_put, mt_at 406 (by decide +kernel) rfl, mt_at 2 (by decide +kernel) rfl, by decide +kernel⟩
section
variable {p : Program} {l : Launch} {e : Env} {R : Room} {s : State} {m : MethodId} {args : Array Value} {below : List Frame} {meth : Method} {c : Code} {H : Heap} {locs : List Loc} {cells slots : Nat} {Q : State → Prop}
variable {D : cG} {S S0 : cSt} {cc : ByteArray} {nL : Nat} {pc : Nat} {ls : Array Slot} {rest : List Value} {H0 : Heap} {nF nR nC nS : Nat} {ret : Option FieldType} {a : Nat}
theorem gk11_12 (C : cY p R s m args meth c RX11 cc nL nF nC nS nR ret) (X : cX D s) (hW : cW D S H) (hk : kK S a = 12) {x : Nat} (hx : kR S a 0 = some x) (hdg : decode cc pc = .ok (.getfield 12, 3)) (kk : W p l e R s m args below meth c H locs cells slots Q (F0 m (pc + 3) ls (.ref x :: rest))) : W p l e R s m args below meth c H locs cells slots Q (F0 m pc ls (.ref a :: rest)) := c_get C X hW 11 (by decide) ly_11 hk 0 (by decide) (mt_at 371 (by decide +kernel) (by decide +kernel)) hdg (by rw [cV_R (by decide +kernel) hx]; exact kk)
end
section
variable {p : Program} {l : Launch} {e : Env} {R : Room} {s : State} {m : MethodId} {args : Array Value} {below : List Frame} {meth : Method} {c : Code} {D : cG} {S0 S9 : cSt} {r : Int32}
noncomputable def fk_11_type (S : cSt) (v0 : Nat) (v1 : Int64) (v3 : Int32) : Option (Int32 × cSt) :=
ckk S v0 12 (bd (kR S v0 0) fun a1 =>
ckk S a1 4 (bd (fk_3_put S a1 v1 v3) fun q_r3 => lt q_r3.1 fun r3 => lt q_r3.2 fun S2 =>
ckz r3 (some (r3, S2))))
set_option maxRecDepth 100000 in
set_option maxHeartbeats 4000000 in
theorem tk_11_type (l : Launch) {D : cG} {S : cSt} {v0 : Nat} {v1 : Int64} {v3 : Int32} {r : Int32} {S9 : cSt} (h : fk_11_type S v0 v1 v3 = some (r, S9)) : Met l yX11_type (Cond.code yX11_type cX11_type 4 (some .boolean) :: lw_g) { frames := 2, cells := 0, slots := 0, locals := 47 } (kPi [.ref v0, .long v1, .int v3] D S) (kW (some (.int r)) D S S9) 0 0 (cA S) := by
  refine Met.ofW (cc := cX11_type) (maxL := 4) (ret := (some .boolean)) (by decide) rfl ?_
  intro p e s m args below meth c s₁ B hml hv
  obtain ⟨rfl, hW, X⟩ := hv
  have C : cY p (headSpec (Cond.code yX11_type cX11_type 4 (some .boolean) :: lw_g) { frames := 2, cells := 0, slots := 0, locals := 47 }).room s m _ meth c RX11 cX11_type 4 2 0 0 47 (some .boolean) := ⟨B.exec, B.bytes, hml, findClass_of_methodNamed B.named, fun w hw => atoms_spec (ws := Cond.code yX11_type cX11_type 4 (some .boolean) :: lw_g) B.pre w (List.mem_cons_of_mem _ hw), ⟨Nat.le_refl _, Nat.le_refl _, Nat.le_refl _, Nat.le_refl _⟩, B.returns, B.notSynchronized⟩
  have hl := lv_entry ([.ref v0, .long v1, .int v3]) (n := 4) (Nat.le_of_ble_eq_true rfl)
  rw [lg_entry_eq]
  generalize (lg_sl ([.ref v0, .long v1, .int v3]) ++ List.replicate (4 - (lg_sl ([.ref v0, .long v1, .int v3])).length) Slot.unset).toArray = ls at hl ⊢
  have hl : lv_has ls 4 [(0, .ref v0), (1, .long v1), (3, .int v3)] := hl
  have hJ : cJ D S s.heap S s.heap [] := cJ.rf hW
  unfold fk_11_type at h
  refine lv_aload_n C.1 C.2.1 dX11_type_0 rfl (lv_at hl 0 rfl) ?_
  obtain ⟨hk, h⟩ := ckk_ok h
  obtain ⟨a1, h_a1, h⟩ := bd_ok h
  refine gk11_12 C X hJ.1 hk h_a1 dX11_type_1 ?_
  refine lv_lload_n C.1 C.2.1 dX11_type_4 rfl (lv_at hl 1 rfl) ?_
  refine lv_iload_n C.1 C.2.1 dX11_type_5 rfl (lv_at hl 2 rfl) ?_
  obtain ⟨hk, h⟩ := ckk_ok h
  obtain ⟨⟨r3, S2⟩, h_S2, h⟩ := bd_ok h
  replace h := lt2_ok h
  refine c_callW (rest := []) C X hJ hl.1 3 (by decide) hk [.long v1, .int v3] (tk_3_put l h_S2) cw11_79 ki_3_put kl_3_put rfl ⟨by decide, by decide⟩ ⟨(by decide), (by decide)⟩ rfl (Nat.le_of_ble_eq_true rfl) dX11_type_6 (fun H locs hJ => ?_)
  refine W.eq (g2 := F0 m 9 ls [.int r3]) rfl ?_
  obtain ⟨hzo, h⟩ := ckz_ok h
  cases h
  exact c_retnW C (by rcases hzo with h9 | h9 <;> (rw [h9]; rfl)) hJ dX11_type_9
end
theorem dX11_fault_0 : decode cX11_fault 0 = .ok (.aload_n 0, 1) := by decide +kernel
theorem dX11_fault_1 : decode cX11_fault 1 = .ok (.getfield 12, 3) := by decide +kernel
theorem dX11_fault_4 : decode cX11_fault 4 = .ok (.getfield 91, 3) := by decide +kernel
theorem dX11_fault_7 : decode cX11_fault 7 = .ok (.ireturn, 1) := by decide +kernel
theorem kd_11_fault : Cond.code yX11_fault cX11_fault 1 (some .int) ∈ lw_g := mt_at 416 (by decide +kernel) rfl
theorem ki_11_fault : Cond.instanceMethod yX11_fault ∈ lw_g := mt_at 414 (by decide +kernel) rfl
theorem kl_11_fault : Cond.selects (kRn 11) yX11_fault yX11_fault ∈ lw_g := mt_at 415 (by decide +kernel) rfl
section
variable {p : Program} {l : Launch} {e : Env} {R : Room} {s : State} {m : MethodId} {args : Array Value} {below : List Frame} {meth : Method} {c : Code} {H : Heap} {locs : List Loc} {cells slots : Nat} {Q : State → Prop}
variable {D : cG} {S S0 : cSt} {cc : ByteArray} {nL : Nat} {pc : Nat} {ls : Array Slot} {rest : List Value} {H0 : Heap} {nF nR nC nS : Nat} {ret : Option FieldType} {a : Nat}
theorem gk11_91 (C : cY p R s m args meth c RX11 cc nL nF nC nS nR ret) (X : cX D s) (hW : cW D S H) (hk : kK S a = 4) (hdg : decode cc pc = .ok (.getfield 91, 3)) (kk : W p l e R s m args below meth c H locs cells slots Q (F0 m (pc + 3) ls (.int (kF S a 3) :: rest))) : W p l e R s m args below meth c H locs cells slots Q (F0 m pc ls (.ref a :: rest)) := c_get C X hW 3 (by decide) ly_3 hk 3 (by decide) (mt_at 53 (by decide +kernel) (by decide +kernel)) hdg (by rw [cV_I (by decide +kernel)]; exact kk)
end
section
variable {p : Program} {l : Launch} {e : Env} {R : Room} {s : State} {m : MethodId} {args : Array Value} {below : List Frame} {meth : Method} {c : Code} {D : cG} {S : cSt} {r : Int32}
noncomputable def fk_11_fault (S : cSt) (v0 : Nat) : Option (Int32) :=
ckk S v0 12 (bd (kR S v0 0) fun a1 =>
ckk S a1 4 (
some (kF S a1 3)))
set_option maxRecDepth 100000 in
set_option maxHeartbeats 4000000 in
theorem tk_11_fault (l : Launch) {D : cG} {S : cSt} {v0 : Nat} {r : Int32}  (h : fk_11_fault S v0 = some r) : Met l yX11_fault (Cond.code yX11_fault cX11_fault 1 (some .int) :: lw_g) { frames := 0, cells := 0, slots := 0, locals := 0 } (kPi [.ref v0] D S) (kQ (some (.int r))) 0 0 (mNo) := by
  refine Met.ofW (cc := cX11_fault) (maxL := 1) (ret := (some .int)) (by decide) rfl ?_
  intro p e s m args below meth c s₁ B hml hv
  obtain ⟨rfl, hW, X⟩ := hv
  have C : cY p (headSpec (Cond.code yX11_fault cX11_fault 1 (some .int) :: lw_g) { frames := 0, cells := 0, slots := 0, locals := 0 }).room s m _ meth c RX11 cX11_fault 1 0 0 0 0 (some .int) := ⟨B.exec, B.bytes, hml, findClass_of_methodNamed B.named, fun w hw => atoms_spec (ws := Cond.code yX11_fault cX11_fault 1 (some .int) :: lw_g) B.pre w (List.mem_cons_of_mem _ hw), ⟨Nat.le_refl _, Nat.le_refl _, Nat.le_refl _, Nat.le_refl _⟩, B.returns, B.notSynchronized⟩
  have hl := lv_entry ([.ref v0]) (n := 1) (Nat.le_of_ble_eq_true rfl)
  rw [lg_entry_eq]
  generalize (lg_sl ([.ref v0]) ++ List.replicate (1 - (lg_sl ([.ref v0])).length) Slot.unset).toArray = ls at hl ⊢
  have hl : lv_has ls 1 [(0, .ref v0)] := hl
  unfold fk_11_fault at h
  refine lv_aload_n C.1 C.2.1 dX11_fault_0 rfl (lv_at hl 0 rfl) ?_
  obtain ⟨hk, h⟩ := ckk_ok h
  obtain ⟨a1, h_a1, h⟩ := bd_ok h
  refine gk11_12 C X hW hk h_a1 dX11_fault_1 ?_
  obtain ⟨hk, h⟩ := ckk_ok h
  refine gk11_91 C X hW hk dX11_fault_4 ?_
  cases h
  exact c_reti C rfl rfl dX11_fault_7
end
theorem dX11_isNode_0 : decode cX11_isNode 0 = .ok (.iload_n 0, 1) := by decide +kernel
theorem dX11_isNode_1 : decode cX11_isNode 1 = .ok (.ifCond .lt 12, 3) := by decide +kernel
theorem dX11_isNode_4 : decode cX11_isNode 4 = .ok (.iload_n 0, 1) := by decide +kernel
theorem dX11_isNode_5 : decode cX11_isNode 5 = .ok (.iconst 4, 1) := by decide +kernel
theorem dX11_isNode_6 : decode cX11_isNode 6 = .ok (.if_icmp .ge 7, 3) := by decide +kernel
theorem dX11_isNode_9 : decode cX11_isNode 9 = .ok (.iconst 1, 1) := by decide +kernel
theorem dX11_isNode_10 : decode cX11_isNode 10 = .ok (.goto 4, 3) := by decide +kernel
theorem dX11_isNode_13 : decode cX11_isNode 13 = .ok (.iconst 0, 1) := by decide +kernel
theorem dX11_isNode_14 : decode cX11_isNode 14 = .ok (.ireturn, 1) := by decide +kernel
theorem kd_11_isNode : Cond.code yX11_isNode cX11_isNode 1 (some .boolean) ∈ lw_g := mt_at 423 (by decide +kernel) rfl
theorem ks_11_isNode : Cond.static yX11_isNode ∈ lw_g := mt_at 422 (by decide +kernel) rfl
section
variable {p : Program} {l : Launch} {e : Env} {R : Room} {s : State} {m : MethodId} {args : Array Value} {below : List Frame} {meth : Method} {c : Code} {D : cG} {r : Int32}
noncomputable def fk_11_isNode_14 (s0 : Int32) : Option (Int32) :=
ckz s0 (some s0)
set_option maxRecDepth 100000 in
set_option maxHeartbeats 4000000 in
theorem wk_11_isNode_14 (C : cY p R s m args meth c RX11 cX11_isNode 1 0 0 0 0 (some .boolean)) : ∀ {s0 : Int32} {ls : Array Slot}, fk_11_isNode_14 s0 = some r → lv_has ls 1 [] → W p l e R s m args below meth c s.heap [] 0 0 (MQ below (kQ (some (.int r))) args s 0 0 mNo) (F0 m 14 ls [.int s0]) := by
  intro s0 ls h hl
  unfold fk_11_isNode_14 at h
  obtain ⟨hzo, h⟩ := ckz_ok h
  cases h
  exact c_retn C (by rcases hzo with h9 | h9 <;> (rw [h9]; rfl)) rfl rfl dX11_isNode_14
noncomputable def fk_11_isNode_13 : Option (Int32) :=
fk_11_isNode_14 (0 : Int32)
set_option maxRecDepth 100000 in
set_option maxHeartbeats 4000000 in
theorem wk_11_isNode_13 (C : cY p R s m args meth c RX11 cX11_isNode 1 0 0 0 0 (some .boolean)) : ∀ {ls : Array Slot}, fk_11_isNode_13 = some r → lv_has ls 1 [] → W p l e R s m args below meth c s.heap [] 0 0 (MQ below (kQ (some (.int r))) args s 0 0 mNo) (F0 m 13 ls []) := by
  intro ls h hl
  unfold fk_11_isNode_13 at h
  refine lv_iconst (v := 0) C.1 C.2.1 dX11_isNode_13 (by decide) ?_
  exact wk_11_isNode_14 C h (lv_sub hl [] rfl)
noncomputable def fk_11_isNode (v0 : Int32) : Option (Int32) :=
if v0 < 0 then (
fk_11_isNode_13)
else (
if (4 : Int32) ≤ v0 then (
fk_11_isNode_13)
else (
fk_11_isNode_14 (1 : Int32)))
set_option maxRecDepth 100000 in
set_option maxHeartbeats 4000000 in
theorem tk_11_isNode (l : Launch) {v0 : Int32} {r : Int32}  (h : fk_11_isNode v0 = some r) : Met l yX11_isNode (Cond.code yX11_isNode cX11_isNode 1 (some .boolean) :: lw_g) { frames := 0, cells := 0, slots := 0, locals := 0 } (mPs [.int v0]) (kQ (some (.int r))) 0 0 (mNo) := by
  refine Met.ofW (cc := cX11_isNode) (maxL := 1) (ret := (some .boolean)) (by decide) rfl ?_
  intro p e s m args below meth c s₁ B hml hv
  obtain rfl := hv
  have C : cY p (headSpec (Cond.code yX11_isNode cX11_isNode 1 (some .boolean) :: lw_g) { frames := 0, cells := 0, slots := 0, locals := 0 }).room s m _ meth c RX11 cX11_isNode 1 0 0 0 0 (some .boolean) := ⟨B.exec, B.bytes, hml, findClass_of_methodNamed B.named, fun w hw => atoms_spec (ws := Cond.code yX11_isNode cX11_isNode 1 (some .boolean) :: lw_g) B.pre w (List.mem_cons_of_mem _ hw), ⟨Nat.le_refl _, Nat.le_refl _, Nat.le_refl _, Nat.le_refl _⟩, B.returns, B.notSynchronized⟩
  have hl := lv_entry ([.int v0]) (n := 1) (Nat.le_of_ble_eq_true rfl)
  rw [lg_entry_eq]
  generalize (lg_sl ([.int v0]) ++ List.replicate (1 - (lg_sl ([.int v0])).length) Slot.unset).toArray = ls at hl ⊢
  have hl : lv_has ls 1 [(0, .int v0)] := hl
  unfold fk_11_isNode at h
  refine lv_iload_n C.1 C.2.1 dX11_isNode_0 rfl (lv_at hl 0 rfl) ?_
  refine lv_if_lt (tgt := 13) C.1 C.2.1 dX11_isNode_1 (by decide) (fun c1 => ?_) (fun c1 => ?_)
  · have h := if_t h c1
    exact wk_11_isNode_13 C h (lv_sub hl [] rfl)
  · have h := if_f h c1
    refine lv_iload_n C.1 C.2.1 dX11_isNode_4 rfl (lv_at hl 0 rfl) ?_
    refine lv_iconst (v := 4) C.1 C.2.1 dX11_isNode_5 (by decide) ?_
    refine lv_icmp_ge (tgt := 13) C.1 C.2.1 dX11_isNode_6 (by decide) (fun c2 => ?_) (fun c2 => ?_)
    · have h := if_t h c2
      exact wk_11_isNode_13 C h (lv_sub hl [] rfl)
    · have h := if_f h c2
      refine lv_iconst (v := 1) C.1 C.2.1 dX11_isNode_9 (by decide) ?_
      refine lv_goto (tgt := 14) C.1 C.2.1 dX11_isNode_10 (by decide) ?_
      exact wk_11_isNode_14 C h (lv_sub hl [] rfl)
end
theorem dX11_tick_0 : decode cX11_tick 0 = .ok (.iload_n 1, 1) := by decide +kernel
theorem dX11_tick_1 : decode cX11_tick 1 = .ok (.invokestatic 112, 3) := by decide +kernel
theorem dX11_tick_4 : decode cX11_tick 4 = .ok (.ifCond .eq 15, 3) := by decide +kernel
theorem dX11_tick_7 : decode cX11_tick 7 = .ok (.iload_n 2, 1) := by decide +kernel
theorem dX11_tick_8 : decode cX11_tick 8 = .ok (.iconst 1, 1) := by decide +kernel
theorem dX11_tick_9 : decode cX11_tick 9 = .ok (.if_icmp .lt 10, 3) := by decide +kernel
theorem dX11_tick_12 : decode cX11_tick 12 = .ok (.iload_n 2, 1) := by decide +kernel
theorem dX11_tick_13 : decode cX11_tick 13 = .ok (.sipush 1000, 3) := by decide +kernel
theorem dX11_tick_16 : decode cX11_tick 16 = .ok (.if_icmp .le 5, 3) := by decide +kernel
theorem dX11_tick_19 : decode cX11_tick 19 = .ok (.iconst (-1), 1) := by decide +kernel
theorem dX11_tick_20 : decode cX11_tick 20 = .ok (.ireturn, 1) := by decide +kernel
theorem dX11_tick_21 : decode cX11_tick 21 = .ok (.aload_n 0, 1) := by decide +kernel
theorem dX11_tick_22 : decode cX11_tick 22 = .ok (.getfield 25, 3) := by decide +kernel
theorem dX11_tick_25 : decode cX11_tick 25 = .ok (.iload_n 1, 1) := by decide +kernel
theorem dX11_tick_26 : decode cX11_tick 26 = .ok (.aaload, 1) := by decide +kernel
theorem dX11_tick_27 : decode cX11_tick 27 = .ok (.dup, 1) := by decide +kernel
theorem dX11_tick_28 : decode cX11_tick 28 = .ok (.getfield 116, 3) := by decide +kernel
theorem dX11_tick_31 : decode cX11_tick 31 = .ok (.iload_n 2, 1) := by decide +kernel
theorem dX11_tick_32 : decode cX11_tick 32 = .ok (.iadd, 1) := by decide +kernel
theorem dX11_tick_33 : decode cX11_tick 33 = .ok (.putfield 116, 3) := by decide +kernel
theorem dX11_tick_36 : decode cX11_tick 36 = .ok (.aload_n 0, 1) := by decide +kernel
theorem dX11_tick_37 : decode cX11_tick 37 = .ok (.getfield 25, 3) := by decide +kernel
theorem dX11_tick_40 : decode cX11_tick 40 = .ok (.iload_n 1, 1) := by decide +kernel
theorem dX11_tick_41 : decode cX11_tick 41 = .ok (.aaload, 1) := by decide +kernel
theorem dX11_tick_42 : decode cX11_tick 42 = .ok (.getfield 116, 3) := by decide +kernel
theorem dX11_tick_45 : decode cX11_tick 45 = .ok (.ireturn, 1) := by decide +kernel
theorem kd_11_tick : Cond.code yX11_tick cX11_tick 3 (some .int) ∈ lw_g := mt_at 420 (by decide +kernel) rfl
theorem ki_11_tick : Cond.instanceMethod yX11_tick ∈ lw_g := mt_at 418 (by decide +kernel) rfl
theorem kl_11_tick : Cond.selects (kRn 11) yX11_tick yX11_tick ∈ lw_g := mt_at 419 (by decide +kernel) rfl
theorem cw11_112 : cCw RX11 112 yX11_isNode cX11_isNode 1 (some .boolean) 1 := ⟨kd_11_isNode, mt_at 421 (by decide +kernel) rfl, mt_at 1 (by decide +kernel) rfl, by decide +kernel⟩
section
variable {p : Program} {l : Launch} {e : Env} {R : Room} {s : State} {m : MethodId} {args : Array Value} {below : List Frame} {meth : Method} {c : Code} {H : Heap} {locs : List Loc} {cells slots : Nat} {Q : State → Prop}
variable {D : cG} {S S0 : cSt} {cc : ByteArray} {nL : Nat} {pc : Nat} {ls : Array Slot} {rest : List Value} {H0 : Heap} {nF nR nC nS : Nat} {ret : Option FieldType} {a : Nat}
theorem gk11_116 (C : cY p R s m args meth c RX11 cc nL nF nC nS nR ret) (X : cX D s) (hW : cW D S H) (hk : kK S a = 8) (hdg : decode cc pc = .ok (.getfield 116, 3)) (kk : W p l e R s m args below meth c H locs cells slots Q (F0 m (pc + 3) ls (.int (kF S a 8) :: rest))) : W p l e R s m args below meth c H locs cells slots Q (F0 m pc ls (.ref a :: rest)) := c_get C X hW 7 (by decide) ly_7 hk 8 (by decide) (mt_at 322 (by decide +kernel) (by decide +kernel)) hdg (by rw [cV_I (by decide +kernel)]; exact kk)
theorem pk11_116 {x : Int32} (C : cY p R s m args meth c RX11 cc nL nF nC nS nR ret) (X : cX D s) (hJ : cJ D S0 H0 S H locs) (hk : kK S a = 8) (hdg : decode cc pc = .ok (.putfield 116, 3)) (kk : ∀ (H1 : Heap) (locs1 : List Loc), cJ D S0 H0 (cPi S a 8 x) H1 locs1 → W p l e R s m args below meth c H1 locs1 cells slots Q (F0 m (pc + 3) ls (rest))) : W p l e R s m args below meth c H locs cells slots Q (F0 m pc ls (.int x :: .ref a :: rest)) := c_put (S1 := (cPi S a 8 x)) C X hJ 7 (by decide) ly_7 hk 8 (by decide) (by decide +kernel)  rfl rfl (by decide) rfl rfl (fun j _ => c_vI (by decide +kernel)) c_oPi (mt_at 322 (by decide +kernel) (by decide +kernel)) hdg kk
end
section
variable {p : Program} {l : Launch} {e : Env} {R : Room} {s : State} {m : MethodId} {args : Array Value} {below : List Frame} {meth : Method} {c : Code} {D : cG} {S0 S9 : cSt} {r : Int32}
noncomputable def fk_11_tick_19 (S : cSt) : Option (Int32 × cSt) :=
some ((-1 : Int32), S)
set_option maxRecDepth 100000 in
set_option maxHeartbeats 4000000 in
theorem wk_11_tick_19 (C : cY p R s m args meth c RX11 cX11_tick 3 1 0 0 20 (some .int)) (X : cX D s) : ∀ {S : cSt} {H : Heap} {locs : List Loc} {ls : Array Slot}, fk_11_tick_19 S = some (r, S9) → cJ D S0 s.heap S H locs → lv_has ls 3 [] → W p l e R s m args below meth c H locs 0 0 (MQ below (kW (some (.int r)) D S0 S9) args s 0 0 (cA S0)) (F0 m 19 ls []) := by
  intro S H locs ls h hJ hl
  unfold fk_11_tick_19 at h
  refine lv_iconst (v := -1) C.1 C.2.1 dX11_tick_19 (by decide) ?_
  cases h
  exact c_retiW C hJ dX11_tick_20
noncomputable def fk_11_tick (S : cSt) (v0 : Nat) (v1 : Int32) (v2 : Int32) : Option (Int32 × cSt) :=
bd (fk_11_isNode v1) fun r1 =>
if r1 = 0 then (
fk_11_tick_19 S)
else (
if v2 < (1 : Int32) then (
fk_11_tick_19 S)
else (
if v2 ≤ (1000 : Int32) then (
ckk S v0 12 (bd (kR S v0 2) fun a5 =>
ckk S a5 31 (ck v1 (kL S a5) (lt (kO S a5 (Int32.toNatClampNeg v1)) fun o6 =>
bd o6 fun a7 =>
ckk S a7 8 (
ckk S a7 8 (lt (cPi S a7 8 ((kF S a7 8) + v2)) fun S8 =>
ckk S8 v0 12 (bd (kR S8 v0 2) fun a9 =>
ckk S8 a9 31 (ck v1 (kL S8 a9) (lt (kO S8 a9 (Int32.toNatClampNeg v1)) fun o10 =>
bd o10 fun a11 =>
ckk S8 a11 8 (
some (kF S8 a11 8, S8)))))))))))
else (
fk_11_tick_19 S)))
set_option maxRecDepth 100000 in
set_option maxHeartbeats 4000000 in
theorem tk_11_tick (l : Launch) {D : cG} {S : cSt} {v0 : Nat} {v1 : Int32} {v2 : Int32} {r : Int32} {S9 : cSt} (h : fk_11_tick S v0 v1 v2 = some (r, S9)) : Met l yX11_tick (Cond.code yX11_tick cX11_tick 3 (some .int) :: lw_g) { frames := 1, cells := 0, slots := 0, locals := 20 } (kPi [.ref v0, .int v1, .int v2] D S) (kW (some (.int r)) D S S9) 0 0 (cA S) := by
  refine Met.ofW (cc := cX11_tick) (maxL := 3) (ret := (some .int)) (by decide) rfl ?_
  intro p e s m args below meth c s₁ B hml hv
  obtain ⟨rfl, hW, X⟩ := hv
  have C : cY p (headSpec (Cond.code yX11_tick cX11_tick 3 (some .int) :: lw_g) { frames := 1, cells := 0, slots := 0, locals := 20 }).room s m _ meth c RX11 cX11_tick 3 1 0 0 20 (some .int) := ⟨B.exec, B.bytes, hml, findClass_of_methodNamed B.named, fun w hw => atoms_spec (ws := Cond.code yX11_tick cX11_tick 3 (some .int) :: lw_g) B.pre w (List.mem_cons_of_mem _ hw), ⟨Nat.le_refl _, Nat.le_refl _, Nat.le_refl _, Nat.le_refl _⟩, B.returns, B.notSynchronized⟩
  have hl := lv_entry ([.ref v0, .int v1, .int v2]) (n := 3) (Nat.le_of_ble_eq_true rfl)
  rw [lg_entry_eq]
  generalize (lg_sl ([.ref v0, .int v1, .int v2]) ++ List.replicate (3 - (lg_sl ([.ref v0, .int v1, .int v2])).length) Slot.unset).toArray = ls at hl ⊢
  have hl : lv_has ls 3 [(0, .ref v0), (1, .int v1), (2, .int v2)] := hl
  have hJ : cJ D S s.heap S s.heap [] := cJ.rf hW
  unfold fk_11_tick at h
  refine lv_iload_n C.1 C.2.1 dX11_tick_0 rfl (lv_at hl 1 rfl) ?_
  obtain ⟨r1, h_r1, h⟩ := bd_ok h
  refine c_callS (rest := []) C hl.1 [.int v1] (tk_11_isNode l h_r1) cw11_112 ks_11_isNode rfl ⟨by decide, by decide⟩ ⟨(by decide), (by decide)⟩ rfl (Nat.le_of_ble_eq_true rfl) dX11_tick_1 ?_
  refine W.eq (g2 := F0 m 4 ls [.int r1]) rfl ?_
  refine lv_if_eq (tgt := 19) C.1 C.2.1 dX11_tick_4 (by decide) (fun c2 => ?_) (fun c2 => ?_)
  · have h := if_t h c2
    exact wk_11_tick_19 C X h hJ (lv_sub hl [] rfl)
  · have h := if_f h c2
    refine lv_iload_n C.1 C.2.1 dX11_tick_7 rfl (lv_at hl 2 rfl) ?_
    refine lv_iconst (v := 1) C.1 C.2.1 dX11_tick_8 (by decide) ?_
    refine lv_icmp_lt (tgt := 19) C.1 C.2.1 dX11_tick_9 (by decide) (fun c3 => ?_) (fun c3 => ?_)
    · have h := if_t h c3
      exact wk_11_tick_19 C X h hJ (lv_sub hl [] rfl)
    · have h := if_f h c3
      refine lv_iload_n C.1 C.2.1 dX11_tick_12 rfl (lv_at hl 2 rfl) ?_
      refine lv_sipush (v := 1000) C.1 C.2.1 dX11_tick_13 (by decide) ?_
      refine lv_icmp_le (tgt := 21) C.1 C.2.1 dX11_tick_16 (by decide) (fun c4 => ?_) (fun c4 => ?_)
      · have h := if_t h c4
        refine lv_aload_n C.1 C.2.1 dX11_tick_21 rfl (lv_at hl 0 rfl) ?_
        obtain ⟨hk, h⟩ := ckk_ok h
        obtain ⟨a5, h_a5, h⟩ := bd_ok h
        refine gk11_25 C X hJ.1 hk h_a5 dX11_tick_22 ?_
        refine lv_iload_n C.1 C.2.1 dX11_tick_25 rfl (lv_at hl 1 rfl) ?_
        obtain ⟨hk, h⟩ := ckk_ok h
        obtain ⟨hin2, h⟩ := ck_ok h
        refine c_aald C 31 (by decide) X.2.2.2.2.2.1 hJ.1 hk hin2 dX11_tick_26 ?_
        refine lt_ok h (fun o6 e_o6 h => ?_)
        refine lv_nmq e_o6 ?_
        refine lv_dup C.1 C.2.1 dX11_tick_27 (kcat _) ?_
        obtain ⟨a7, e_a7, h⟩ := bd_ok h
        revert h; subst e_a7; intro h
        obtain ⟨hk, h⟩ := ckk_ok h
        refine gk11_116 C X hJ.1 hk dX11_tick_28 ?_
        refine lv_iload_n C.1 C.2.1 dX11_tick_31 rfl (lv_at hl 2 rfl) ?_
        refine lv_iadd C.1 C.2.1 dX11_tick_32 ?_
        obtain ⟨hk, h⟩ := ckk_ok h
        refine pk11_116 C X hJ hk dX11_tick_33 (fun H locs hJ => ?_)
        refine lt_ok h (fun S8 e_S8 h => ?_)
        rw [e_S8] at hJ
        refine lv_aload_n C.1 C.2.1 dX11_tick_36 rfl (lv_at hl 0 rfl) ?_
        obtain ⟨hk, h⟩ := ckk_ok h
        obtain ⟨a9, h_a9, h⟩ := bd_ok h
        refine gk11_25 C X hJ.1 hk h_a9 dX11_tick_37 ?_
        refine lv_iload_n C.1 C.2.1 dX11_tick_40 rfl (lv_at hl 1 rfl) ?_
        obtain ⟨hk, h⟩ := ckk_ok h
        obtain ⟨hin2, h⟩ := ck_ok h
        refine c_aald C 31 (by decide) X.2.2.2.2.2.1 hJ.1 hk hin2 dX11_tick_41 ?_
        refine lt_ok h (fun o10 e_o10 h => ?_)
        refine lv_nmq e_o10 ?_
        obtain ⟨a11, e_a11, h⟩ := bd_ok h
        revert h; subst e_a11; intro h
        obtain ⟨hk, h⟩ := ckk_ok h
        refine gk11_116 C X hJ.1 hk dX11_tick_42 ?_
        cases h
        exact c_retiW C hJ dX11_tick_45
      · have h := if_f h c4
        exact wk_11_tick_19 C X h hJ (lv_sub hl [] rfl)
end
theorem dX11_madeSlot_0 : decode cX11_madeSlot 0 = .ok (.iload_n 1, 1) := by decide +kernel
theorem dX11_madeSlot_1 : decode cX11_madeSlot 1 = .ok (.invokestatic 112, 3) := by decide +kernel
theorem dX11_madeSlot_4 : decode cX11_madeSlot 4 = .ok (.ifCond .ne 5, 3) := by decide +kernel
theorem dX11_madeSlot_7 : decode cX11_madeSlot 7 = .ok (.iconst (-1), 1) := by decide +kernel
theorem dX11_madeSlot_8 : decode cX11_madeSlot 8 = .ok (.ireturn, 1) := by decide +kernel
theorem dX11_madeSlot_9 : decode cX11_madeSlot 9 = .ok (.aload_n 0, 1) := by decide +kernel
theorem dX11_madeSlot_10 : decode cX11_madeSlot 10 = .ok (.getfield 19, 3) := by decide +kernel
theorem dX11_madeSlot_13 : decode cX11_madeSlot 13 = .ok (.iload_n 2, 1) := by decide +kernel
theorem dX11_madeSlot_14 : decode cX11_madeSlot 14 = .ok (.invokevirtual 123, 3) := by decide +kernel
theorem dX11_madeSlot_17 : decode cX11_madeSlot 17 = .ok (.istore_n 3, 1) := by decide +kernel
theorem dX11_madeSlot_18 : decode cX11_madeSlot 18 = .ok (.aload_n 0, 1) := by decide +kernel
theorem dX11_madeSlot_19 : decode cX11_madeSlot 19 = .ok (.getfield 25, 3) := by decide +kernel
theorem dX11_madeSlot_22 : decode cX11_madeSlot 22 = .ok (.iload_n 1, 1) := by decide +kernel
theorem dX11_madeSlot_23 : decode cX11_madeSlot 23 = .ok (.aaload, 1) := by decide +kernel
theorem dX11_madeSlot_24 : decode cX11_madeSlot 24 = .ok (.getfield 147, 3) := by decide +kernel
theorem dX11_madeSlot_27 : decode cX11_madeSlot 27 = .ok (.iload_n 3, 1) := by decide +kernel
theorem dX11_madeSlot_28 : decode cX11_madeSlot 28 = .ok (.invokevirtual 458, 3) := by decide +kernel
theorem dX11_madeSlot_31 : decode cX11_madeSlot 31 = .ok (.ifCond .eq 7, 3) := by decide +kernel
theorem dX11_madeSlot_34 : decode cX11_madeSlot 34 = .ok (.iload_n 3, 1) := by decide +kernel
theorem dX11_madeSlot_35 : decode cX11_madeSlot 35 = .ok (.goto 4, 3) := by decide +kernel
theorem dX11_madeSlot_38 : decode cX11_madeSlot 38 = .ok (.iconst (-1), 1) := by decide +kernel
theorem dX11_madeSlot_39 : decode cX11_madeSlot 39 = .ok (.ireturn, 1) := by decide +kernel
theorem kd_11_madeSlot : Cond.code yX11_madeSlot cX11_madeSlot 4 (some .int) ∈ lw_g := mt_at 439 (by decide +kernel) rfl
theorem ki_11_madeSlot : Cond.instanceMethod yX11_madeSlot ∈ lw_g := mt_at 438 (by decide +kernel) rfl
theorem kl_11_madeSlot : Cond.selects (kRn 11) yX11_madeSlot yX11_madeSlot ∈ lw_g := mt_sel 1 (by decide +kernel) rfl
theorem cw11_123 : cCw RX11 123 yX0_slotOf cX0_slotOf 3 (some .int) 1 := ⟨kd_0_slotOf, mt_at 440 (by decide +kernel) rfl, mt_at 3 (by decide +kernel) rfl, by decide +kernel⟩
theorem cw11_458 : cCw RX11 458 yX10_isMade cX10_isMade 3 (some .boolean) 1 := ⟨kd_10_isMade, mt_at 448 (by decide +kernel) rfl, mt_at 10 (by decide +kernel) rfl, by decide +kernel⟩
section
variable {p : Program} {l : Launch} {e : Env} {R : Room} {s : State} {m : MethodId} {args : Array Value} {below : List Frame} {meth : Method} {c : Code} {H : Heap} {locs : List Loc} {cells slots : Nat} {Q : State → Prop}
variable {D : cG} {S S0 : cSt} {cc : ByteArray} {nL : Nat} {pc : Nat} {ls : Array Slot} {rest : List Value} {H0 : Heap} {nF nR nC nS : Nat} {ret : Option FieldType} {a : Nat}
theorem gk11_147 (C : cY p R s m args meth c RX11 cc nL nF nC nS nR ret) (X : cX D s) (hW : cW D S H) (hk : kK S a = 8) {x : Nat} (hx : kR S a 2 = some x) (hdg : decode cc pc = .ok (.getfield 147, 3)) (kk : W p l e R s m args below meth c H locs cells slots Q (F0 m (pc + 3) ls (.ref x :: rest))) : W p l e R s m args below meth c H locs cells slots Q (F0 m pc ls (.ref a :: rest)) := c_get C X hW 7 (by decide) ly_7 hk 2 (by decide) (mt_at 308 (by decide +kernel) (by decide +kernel)) hdg (by rw [cV_R (by decide +kernel) hx]; exact kk)
end
section
variable {p : Program} {l : Launch} {e : Env} {R : Room} {s : State} {m : MethodId} {args : Array Value} {below : List Frame} {meth : Method} {c : Code} {D : cG} {S : cSt} {r : Int32}
noncomputable def fk_11_madeSlot_39 (S : cSt) (s0 : Int32) : Option (Int32) :=
some s0
set_option maxRecDepth 100000 in
set_option maxHeartbeats 4000000 in
theorem wk_11_madeSlot_39 (C : cY p R s m args meth c RX11 cX11_madeSlot 4 2 0 0 44 (some .int)) (X : cX D s) (hW : cW D S s.heap) : ∀ {s0 : Int32} {ls : Array Slot}, fk_11_madeSlot_39 S s0 = some r → lv_has ls 4 [] → W p l e R s m args below meth c s.heap [] 0 0 (MQ below (kQ (some (.int r))) args s 0 0 mNo) (F0 m 39 ls [.int s0]) := by
  intro s0 ls h hl
  unfold fk_11_madeSlot_39 at h
  cases h
  exact c_reti C rfl rfl dX11_madeSlot_39
noncomputable def fk_11_madeSlot (S : cSt) (v0 : Nat) (v1 : Int32) (v2 : Int32) : Option (Int32) :=
bd (fk_11_isNode v1) fun r1 =>
if r1 = 0 then (
some (-1 : Int32))
else (
ckk S v0 12 (bd (kR S v0 1) fun a3 =>
ckk S a3 1 (bd (fk_0_slotOf S a3 v2) fun r4 =>
ckk S v0 12 (bd (kR S v0 2) fun a5 =>
ckk S a5 31 (ck v1 (kL S a5) (lt (kO S a5 (Int32.toNatClampNeg v1)) fun o6 =>
bd o6 fun a7 =>
ckk S a7 8 (bd (kR S a7 2) fun a8 =>
ckk S a8 11 (bd (fk_10_isMade S a8 r4) fun r9 =>
if r9 = 0 then (
fk_11_madeSlot_39 S (-1 : Int32))
else (
fk_11_madeSlot_39 S r4)))))))))
set_option maxRecDepth 100000 in
set_option maxHeartbeats 4000000 in
theorem tk_11_madeSlot (l : Launch) {D : cG} {S : cSt} {v0 : Nat} {v1 : Int32} {v2 : Int32} {r : Int32}  (h : fk_11_madeSlot S v0 v1 v2 = some r) : Met l yX11_madeSlot (Cond.code yX11_madeSlot cX11_madeSlot 4 (some .int) :: lw_g) { frames := 2, cells := 0, slots := 0, locals := 44 } (kPi [.ref v0, .int v1, .int v2] D S) (kQ (some (.int r))) 0 0 (mNo) := by
  refine Met.ofW (cc := cX11_madeSlot) (maxL := 4) (ret := (some .int)) (by decide) rfl ?_
  intro p e s m args below meth c s₁ B hml hv
  obtain ⟨rfl, hW, X⟩ := hv
  have C : cY p (headSpec (Cond.code yX11_madeSlot cX11_madeSlot 4 (some .int) :: lw_g) { frames := 2, cells := 0, slots := 0, locals := 44 }).room s m _ meth c RX11 cX11_madeSlot 4 2 0 0 44 (some .int) := ⟨B.exec, B.bytes, hml, findClass_of_methodNamed B.named, fun w hw => atoms_spec (ws := Cond.code yX11_madeSlot cX11_madeSlot 4 (some .int) :: lw_g) B.pre w (List.mem_cons_of_mem _ hw), ⟨Nat.le_refl _, Nat.le_refl _, Nat.le_refl _, Nat.le_refl _⟩, B.returns, B.notSynchronized⟩
  have hl := lv_entry ([.ref v0, .int v1, .int v2]) (n := 4) (Nat.le_of_ble_eq_true rfl)
  rw [lg_entry_eq]
  generalize (lg_sl ([.ref v0, .int v1, .int v2]) ++ List.replicate (4 - (lg_sl ([.ref v0, .int v1, .int v2])).length) Slot.unset).toArray = ls at hl ⊢
  have hl : lv_has ls 4 [(0, .ref v0), (1, .int v1), (2, .int v2)] := hl
  unfold fk_11_madeSlot at h
  refine lv_iload_n C.1 C.2.1 dX11_madeSlot_0 rfl (lv_at hl 1 rfl) ?_
  obtain ⟨r1, h_r1, h⟩ := bd_ok h
  refine c_callS (rest := []) C hl.1 [.int v1] (tk_11_isNode l h_r1) cw11_112 ks_11_isNode rfl ⟨by decide, by decide⟩ ⟨(by decide), (by decide)⟩ rfl (Nat.le_of_ble_eq_true rfl) dX11_madeSlot_1 ?_
  refine W.eq (g2 := F0 m 4 ls [.int r1]) rfl ?_
  refine lv_if_ne (tgt := 9) C.1 C.2.1 dX11_madeSlot_4 (by decide) (fun c2 => ?_) (fun c2 => ?_)
  · have h := if_f h c2
    refine lv_aload_n C.1 C.2.1 dX11_madeSlot_9 rfl (lv_at hl 0 rfl) ?_
    obtain ⟨hk, h⟩ := ckk_ok h
    obtain ⟨a3, h_a3, h⟩ := bd_ok h
    refine gk11_19 C X hW hk h_a3 dX11_madeSlot_10 ?_
    refine lv_iload_n C.1 C.2.1 dX11_madeSlot_13 rfl (lv_at hl 2 rfl) ?_
    obtain ⟨hk, h⟩ := ckk_ok h
    obtain ⟨r4, h_r4, h⟩ := bd_ok h
    refine c_callR (rest := []) C X hW hl.1 0 (by decide) hk [.int v2] (tk_0_slotOf l h_r4) cw11_123 ki_0_slotOf kl_0_slotOf rfl ⟨by decide, by decide⟩ ⟨(by decide), (by decide)⟩ rfl (Nat.le_of_ble_eq_true rfl) dX11_madeSlot_14 ?_
    refine W.eq (g2 := F0 m 17 ls [.int r4]) rfl ?_
    refine lv_istore_n (lv' := [(3, .int r4), (0, .ref v0), (1, .int v1), (2, .int v2)]) C.1 C.2.1 dX11_madeSlot_17 rfl hl (by decide) rfl (fun ls hl => ?_)
    refine lv_aload_n C.1 C.2.1 dX11_madeSlot_18 rfl (lv_at hl 1 rfl) ?_
    obtain ⟨hk, h⟩ := ckk_ok h
    obtain ⟨a5, h_a5, h⟩ := bd_ok h
    refine gk11_25 C X hW hk h_a5 dX11_madeSlot_19 ?_
    refine lv_iload_n C.1 C.2.1 dX11_madeSlot_22 rfl (lv_at hl 2 rfl) ?_
    obtain ⟨hk, h⟩ := ckk_ok h
    obtain ⟨hin2, h⟩ := ck_ok h
    refine c_aald C 31 (by decide) X.2.2.2.2.2.1 hW hk hin2 dX11_madeSlot_23 ?_
    refine lt_ok h (fun o6 e_o6 h => ?_)
    refine lv_nmq e_o6 ?_
    obtain ⟨a7, e_a7, h⟩ := bd_ok h
    revert h; subst e_a7; intro h
    obtain ⟨hk, h⟩ := ckk_ok h
    obtain ⟨a8, h_a8, h⟩ := bd_ok h
    refine gk11_147 C X hW hk h_a8 dX11_madeSlot_24 ?_
    refine lv_iload_n C.1 C.2.1 dX11_madeSlot_27 rfl (lv_at hl 0 rfl) ?_
    obtain ⟨hk, h⟩ := ckk_ok h
    obtain ⟨r9, h_r9, h⟩ := bd_ok h
    refine c_callR (rest := []) C X hW hl.1 10 (by decide) hk [.int r4] (tk_10_isMade l h_r9) cw11_458 ki_10_isMade kl_10_isMade rfl ⟨by decide, by decide⟩ ⟨(by decide), (by decide)⟩ rfl (Nat.le_of_ble_eq_true rfl) dX11_madeSlot_28 ?_
    refine W.eq (g2 := F0 m 31 ls [.int r9]) rfl ?_
    refine lv_if_eq (tgt := 38) C.1 C.2.1 dX11_madeSlot_31 (by decide) (fun c10 => ?_) (fun c10 => ?_)
    · have h := if_t h c10
      refine lv_iconst (v := -1) C.1 C.2.1 dX11_madeSlot_38 (by decide) ?_
      exact wk_11_madeSlot_39 C X hW h (lv_sub hl [] rfl)
    · have h := if_f h c10
      refine lv_iload_n C.1 C.2.1 dX11_madeSlot_34 rfl (lv_at hl 0 rfl) ?_
      refine lv_goto (tgt := 39) C.1 C.2.1 dX11_madeSlot_35 (by decide) ?_
      exact wk_11_madeSlot_39 C X hW h (lv_sub hl [] rfl)
  · have h := if_t h c2
    refine lv_iconst (v := -1) C.1 C.2.1 dX11_madeSlot_7 (by decide) ?_
    cases h
    exact c_reti C rfl rfl dX11_madeSlot_8
end
theorem dX11_ruleAt_0 : decode cX11_ruleAt 0 = .ok (.iload_n 1, 1) := by decide +kernel
theorem dX11_ruleAt_1 : decode cX11_ruleAt 1 = .ok (.ifCond .ge 8, 3) := by decide +kernel
theorem dX11_ruleAt_4 : decode cX11_ruleAt 4 = .ok (.bipush 32, 2) := by decide +kernel
theorem dX11_ruleAt_6 : decode cX11_ruleAt 6 = .ok (.goto 19, 3) := by decide +kernel
theorem dX11_ruleAt_9 : decode cX11_ruleAt 9 = .ok (.aload_n 0, 1) := by decide +kernel
theorem dX11_ruleAt_10 : decode cX11_ruleAt 10 = .ok (.getfield 12, 3) := by decide +kernel
theorem dX11_ruleAt_13 : decode cX11_ruleAt 13 = .ok (.aload_n 0, 1) := by decide +kernel
theorem dX11_ruleAt_14 : decode cX11_ruleAt 14 = .ok (.getfield 19, 3) := by decide +kernel
theorem dX11_ruleAt_17 : decode cX11_ruleAt 17 = .ok (.iload_n 1, 1) := by decide +kernel
theorem dX11_ruleAt_18 : decode cX11_ruleAt 18 = .ok (.invokevirtual 301, 3) := by decide +kernel
theorem dX11_ruleAt_21 : decode cX11_ruleAt 21 = .ok (.iload_n 2, 1) := by decide +kernel
theorem dX11_ruleAt_22 : decode cX11_ruleAt 22 = .ok (.invokevirtual 190, 3) := by decide +kernel
theorem dX11_ruleAt_25 : decode cX11_ruleAt 25 = .ok (.ireturn, 1) := by decide +kernel
theorem kd_11_ruleAt : Cond.code yX11_ruleAt cX11_ruleAt 3 (some .char) ∈ lw_g := mt_at 504 (by decide +kernel) rfl
theorem ki_11_ruleAt : Cond.instanceMethod yX11_ruleAt ∈ lw_g := mt_at 503 (by decide +kernel) rfl
theorem kl_11_ruleAt : Cond.selects (kRn 11) yX11_ruleAt yX11_ruleAt ∈ lw_g := mt_sel 2 (by decide +kernel) rfl
theorem cw11_190 : cCw RX11 190 yX3_ruleOf cX3_ruleOf 3 (some .char) 2 := ⟨kd_3_ruleOf, mt_at 510 (by decide +kernel) rfl, mt_at 2 (by decide +kernel) rfl, by decide +kernel⟩
theorem cw11_301 : cCw RX11 301 yX0_kindOf cX0_kindOf 3 (some .int) 1 := ⟨kd_0_kindOf, mt_at 505 (by decide +kernel) rfl, mt_at 3 (by decide +kernel) rfl, by decide +kernel⟩
section
variable {p : Program} {l : Launch} {e : Env} {R : Room} {s : State} {m : MethodId} {args : Array Value} {below : List Frame} {meth : Method} {c : Code} {D : cG} {S : cSt} {r : Int32}
noncomputable def fk_11_ruleAt_25 (S : cSt) (s0 : Int32) : Option (Int32) :=
ckp (vp_nar .char s0 = s0) (some s0)
set_option maxRecDepth 100000 in
set_option maxHeartbeats 4000000 in
theorem wk_11_ruleAt_25 (C : cY p R s m args meth c RX11 cX11_ruleAt 3 2 0 0 43 (some .char)) (X : cX D s) (hW : cW D S s.heap) : ∀ {s0 : Int32} {ls : Array Slot}, fk_11_ruleAt_25 S s0 = some r → lv_has ls 3 [] → W p l e R s m args below meth c s.heap [] 0 0 (MQ below (kQ (some (.int r))) args s 0 0 mNo) (F0 m 25 ls [.int s0]) := by
  intro s0 ls h hl
  unfold fk_11_ruleAt_25 at h
  obtain ⟨hnr, h⟩ := ckp_ok h
  cases h
  exact c_retn C (congrArg Value.int hnr) rfl rfl dX11_ruleAt_25
noncomputable def fk_11_ruleAt (S : cSt) (v0 : Nat) (v1 : Int32) (v2 : Int32) : Option (Int32) :=
if 0 ≤ v1 then (
ckk S v0 12 (bd (kR S v0 0) fun a2 =>
ckk S v0 12 (bd (kR S v0 1) fun a3 =>
ckk S a3 1 (bd (fk_0_kindOf S a3 v1) fun r4 =>
ckk S a2 4 (bd (fk_3_ruleOf S a2 r4 v2) fun r5 =>
fk_11_ruleAt_25 S r5)))))
else (
fk_11_ruleAt_25 S (32 : Int32))
set_option maxRecDepth 100000 in
set_option maxHeartbeats 4000000 in
theorem tk_11_ruleAt (l : Launch) {D : cG} {S : cSt} {v0 : Nat} {v1 : Int32} {v2 : Int32} {r : Int32}  (h : fk_11_ruleAt S v0 v1 v2 = some r) : Met l yX11_ruleAt (Cond.code yX11_ruleAt cX11_ruleAt 3 (some .char) :: lw_g) { frames := 2, cells := 0, slots := 0, locals := 43 } (kPi [.ref v0, .int v1, .int v2] D S) (kQ (some (.int r))) 0 0 (mNo) := by
  refine Met.ofW (cc := cX11_ruleAt) (maxL := 3) (ret := (some .char)) (by decide) rfl ?_
  intro p e s m args below meth c s₁ B hml hv
  obtain ⟨rfl, hW, X⟩ := hv
  have C : cY p (headSpec (Cond.code yX11_ruleAt cX11_ruleAt 3 (some .char) :: lw_g) { frames := 2, cells := 0, slots := 0, locals := 43 }).room s m _ meth c RX11 cX11_ruleAt 3 2 0 0 43 (some .char) := ⟨B.exec, B.bytes, hml, findClass_of_methodNamed B.named, fun w hw => atoms_spec (ws := Cond.code yX11_ruleAt cX11_ruleAt 3 (some .char) :: lw_g) B.pre w (List.mem_cons_of_mem _ hw), ⟨Nat.le_refl _, Nat.le_refl _, Nat.le_refl _, Nat.le_refl _⟩, B.returns, B.notSynchronized⟩
  have hl := lv_entry ([.ref v0, .int v1, .int v2]) (n := 3) (Nat.le_of_ble_eq_true rfl)
  rw [lg_entry_eq]
  generalize (lg_sl ([.ref v0, .int v1, .int v2]) ++ List.replicate (3 - (lg_sl ([.ref v0, .int v1, .int v2])).length) Slot.unset).toArray = ls at hl ⊢
  have hl : lv_has ls 3 [(0, .ref v0), (1, .int v1), (2, .int v2)] := hl
  unfold fk_11_ruleAt at h
  refine lv_iload_n C.1 C.2.1 dX11_ruleAt_0 rfl (lv_at hl 1 rfl) ?_
  refine lv_if_ge (tgt := 9) C.1 C.2.1 dX11_ruleAt_1 (by decide) (fun c1 => ?_) (fun c1 => ?_)
  · have h := if_t h c1
    refine lv_aload_n C.1 C.2.1 dX11_ruleAt_9 rfl (lv_at hl 0 rfl) ?_
    obtain ⟨hk, h⟩ := ckk_ok h
    obtain ⟨a2, h_a2, h⟩ := bd_ok h
    refine gk11_12 C X hW hk h_a2 dX11_ruleAt_10 ?_
    refine lv_aload_n C.1 C.2.1 dX11_ruleAt_13 rfl (lv_at hl 0 rfl) ?_
    obtain ⟨hk, h⟩ := ckk_ok h
    obtain ⟨a3, h_a3, h⟩ := bd_ok h
    refine gk11_19 C X hW hk h_a3 dX11_ruleAt_14 ?_
    refine lv_iload_n C.1 C.2.1 dX11_ruleAt_17 rfl (lv_at hl 1 rfl) ?_
    obtain ⟨hk, h⟩ := ckk_ok h
    obtain ⟨r4, h_r4, h⟩ := bd_ok h
    refine c_callR (rest := [.ref a2]) C X hW hl.1 0 (by decide) hk [.int v1] (tk_0_kindOf l h_r4) cw11_301 ki_0_kindOf kl_0_kindOf rfl ⟨by decide, by decide⟩ ⟨(by decide), (by decide)⟩ rfl (Nat.le_of_ble_eq_true rfl) dX11_ruleAt_18 ?_
    refine W.eq (g2 := F0 m 21 ls [.int r4, .ref a2]) rfl ?_
    refine lv_iload_n C.1 C.2.1 dX11_ruleAt_21 rfl (lv_at hl 2 rfl) ?_
    obtain ⟨hk, h⟩ := ckk_ok h
    obtain ⟨r5, h_r5, h⟩ := bd_ok h
    refine c_callR (rest := []) C X hW hl.1 3 (by decide) hk [.int r4, .int v2] (tk_3_ruleOf l h_r5) cw11_190 ki_3_ruleOf kl_3_ruleOf rfl ⟨by decide, by decide⟩ ⟨(by decide), (by decide)⟩ rfl (Nat.le_of_ble_eq_true rfl) dX11_ruleAt_22 ?_
    refine W.eq (g2 := F0 m 25 ls [.int r5]) rfl ?_
    exact wk_11_ruleAt_25 C X hW h (lv_sub hl [] rfl)
  · have h := if_f h c1
    refine lv_bipush (v := 32) C.1 C.2.1 dX11_ruleAt_4 (by decide) ?_
    refine lv_goto (tgt := 25) C.1 C.2.1 dX11_ruleAt_6 (by decide) ?_
    exact wk_11_ruleAt_25 C X hW h (lv_sub hl [] rfl)
end
theorem dX11_refusalOf_0 : decode cX11_refusalOf 0 = .ok (.iload_n 1, 1) := by decide +kernel
theorem dX11_refusalOf_1 : decode cX11_refusalOf 1 = .ok (.invokestatic 112, 3) := by decide +kernel
theorem dX11_refusalOf_4 : decode cX11_refusalOf 4 = .ok (.ifCond .eq 13, 3) := by decide +kernel
theorem dX11_refusalOf_7 : decode cX11_refusalOf 7 = .ok (.iload_n 2, 1) := by decide +kernel
theorem dX11_refusalOf_8 : decode cX11_refusalOf 8 = .ok (.ifCond .lt 9, 3) := by decide +kernel
theorem dX11_refusalOf_11 : decode cX11_refusalOf 11 = .ok (.iload_n 2, 1) := by decide +kernel
theorem dX11_refusalOf_12 : decode cX11_refusalOf 12 = .ok (.bipush 18, 2) := by decide +kernel
theorem dX11_refusalOf_14 : decode cX11_refusalOf 14 = .ok (.if_icmp .le 5, 3) := by decide +kernel
theorem dX11_refusalOf_17 : decode cX11_refusalOf 17 = .ok (.iconst (-1), 1) := by decide +kernel
theorem dX11_refusalOf_18 : decode cX11_refusalOf 18 = .ok (.ireturn, 1) := by decide +kernel
theorem dX11_refusalOf_19 : decode cX11_refusalOf 19 = .ok (.iload_n 2, 1) := by decide +kernel
theorem dX11_refusalOf_20 : decode cX11_refusalOf 20 = .ok (.ifCond .ne 21, 3) := by decide +kernel
theorem dX11_refusalOf_23 : decode cX11_refusalOf 23 = .ok (.aload_n 0, 1) := by decide +kernel
theorem dX11_refusalOf_24 : decode cX11_refusalOf 24 = .ok (.getfield 12, 3) := by decide +kernel
theorem dX11_refusalOf_27 : decode cX11_refusalOf 27 = .ok (.iload 5, 2) := by decide +kernel
theorem dX11_refusalOf_29 : decode cX11_refusalOf 29 = .ok (.invokevirtual 461, 3) := by decide +kernel
theorem dX11_refusalOf_32 : decode cX11_refusalOf 32 = .ok (.ifCond .eq 7, 3) := by decide +kernel
theorem dX11_refusalOf_35 : decode cX11_refusalOf 35 = .ok (.iconst 0, 1) := by decide +kernel
theorem dX11_refusalOf_36 : decode cX11_refusalOf 36 = .ok (.goto 4, 3) := by decide +kernel
theorem dX11_refusalOf_39 : decode cX11_refusalOf 39 = .ok (.iconst (-1), 1) := by decide +kernel
theorem dX11_refusalOf_40 : decode cX11_refusalOf 40 = .ok (.ireturn, 1) := by decide +kernel
theorem dX11_refusalOf_41 : decode cX11_refusalOf 41 = .ok (.iload_n 2, 1) := by decide +kernel
theorem dX11_refusalOf_42 : decode cX11_refusalOf 42 = .ok (.bipush 13, 2) := by decide +kernel
theorem dX11_refusalOf_44 : decode cX11_refusalOf 44 = .ok (.if_icmp .eq 9, 3) := by decide +kernel
theorem dX11_refusalOf_47 : decode cX11_refusalOf 47 = .ok (.iload_n 2, 1) := by decide +kernel
theorem dX11_refusalOf_48 : decode cX11_refusalOf 48 = .ok (.bipush 14, 2) := by decide +kernel
theorem dX11_refusalOf_50 : decode cX11_refusalOf 50 = .ok (.if_icmp .ne 5, 3) := by decide +kernel
theorem dX11_refusalOf_53 : decode cX11_refusalOf 53 = .ok (.iconst 0, 1) := by decide +kernel
theorem dX11_refusalOf_54 : decode cX11_refusalOf 54 = .ok (.ireturn, 1) := by decide +kernel
theorem dX11_refusalOf_55 : decode cX11_refusalOf 55 = .ok (.aload_n 0, 1) := by decide +kernel
theorem dX11_refusalOf_56 : decode cX11_refusalOf 56 = .ok (.iload_n 1, 1) := by decide +kernel
theorem dX11_refusalOf_57 : decode cX11_refusalOf 57 = .ok (.iload_n 3, 1) := by decide +kernel
theorem dX11_refusalOf_58 : decode cX11_refusalOf 58 = .ok (.invokevirtual 295, 3) := by decide +kernel
theorem dX11_refusalOf_61 : decode cX11_refusalOf 61 = .ok (.istore 6, 2) := by decide +kernel
theorem dX11_refusalOf_63 : decode cX11_refusalOf 63 = .ok (.iload 6, 2) := by decide +kernel
theorem dX11_refusalOf_65 : decode cX11_refusalOf 65 = .ok (.ifCond .ge 5, 3) := by decide +kernel
theorem dX11_refusalOf_68 : decode cX11_refusalOf 68 = .ok (.iconst (-1), 1) := by decide +kernel
theorem dX11_refusalOf_69 : decode cX11_refusalOf 69 = .ok (.ireturn, 1) := by decide +kernel
theorem dX11_refusalOf_70 : decode cX11_refusalOf 70 = .ok (.ldc_w 463, 3) := by decide +kernel
theorem dX11_refusalOf_73 : decode cX11_refusalOf 73 = .ok (.iload_n 2, 1) := by decide +kernel
theorem dX11_refusalOf_74 : decode cX11_refusalOf 74 = .ok (.invokevirtual 465, 3) := by decide +kernel
theorem dX11_refusalOf_77 : decode cX11_refusalOf 77 = .ok (.istore 7, 2) := by decide +kernel
theorem dX11_refusalOf_79 : decode cX11_refusalOf 79 = .ok (.iload 7, 2) := by decide +kernel
theorem dX11_refusalOf_81 : decode cX11_refusalOf 81 = .ok (.bipush 32, 2) := by decide +kernel
theorem dX11_refusalOf_83 : decode cX11_refusalOf 83 = .ok (.if_icmp .eq 34, 3) := by decide +kernel
theorem dX11_refusalOf_86 : decode cX11_refusalOf 86 = .ok (.aload_n 0, 1) := by decide +kernel
theorem dX11_refusalOf_87 : decode cX11_refusalOf 87 = .ok (.iload 6, 2) := by decide +kernel
theorem dX11_refusalOf_89 : decode cX11_refusalOf 89 = .ok (.iload 4, 2) := by decide +kernel
theorem dX11_refusalOf_91 : decode cX11_refusalOf 91 = .ok (.invokevirtual 316, 3) := by decide +kernel
theorem dX11_refusalOf_94 : decode cX11_refusalOf 94 = .ok (.istore 8, 2) := by decide +kernel
theorem dX11_refusalOf_96 : decode cX11_refusalOf 96 = .ok (.iload 8, 2) := by decide +kernel
theorem dX11_refusalOf_98 : decode cX11_refusalOf 98 = .ok (.iload 7, 2) := by decide +kernel
theorem dX11_refusalOf_100 : decode cX11_refusalOf 100 = .ok (.if_icmp .eq 17, 3) := by decide +kernel
theorem dX11_refusalOf_103 : decode cX11_refusalOf 103 = .ok (.iload 8, 2) := by decide +kernel
theorem dX11_refusalOf_105 : decode cX11_refusalOf 105 = .ok (.bipush 32, 2) := by decide +kernel
theorem dX11_refusalOf_107 : decode cX11_refusalOf 107 = .ok (.if_icmp .ne 7, 3) := by decide +kernel
theorem dX11_refusalOf_110 : decode cX11_refusalOf 110 = .ok (.iconst (-1), 1) := by decide +kernel
theorem dX11_refusalOf_111 : decode cX11_refusalOf 111 = .ok (.goto 5, 3) := by decide +kernel
theorem dX11_refusalOf_114 : decode cX11_refusalOf 114 = .ok (.bipush (-2), 2) := by decide +kernel
theorem dX11_refusalOf_116 : decode cX11_refusalOf 116 = .ok (.ireturn, 1) := by decide +kernel
theorem dX11_refusalOf_117 : decode cX11_refusalOf 117 = .ok (.aload_n 0, 1) := by decide +kernel
theorem dX11_refusalOf_118 : decode cX11_refusalOf 118 = .ok (.getfield 25, 3) := by decide +kernel
theorem dX11_refusalOf_121 : decode cX11_refusalOf 121 = .ok (.iload_n 1, 1) := by decide +kernel
theorem dX11_refusalOf_122 : decode cX11_refusalOf 122 = .ok (.aaload, 1) := by decide +kernel
theorem dX11_refusalOf_123 : decode cX11_refusalOf 123 = .ok (.getfield 147, 3) := by decide +kernel
theorem dX11_refusalOf_126 : decode cX11_refusalOf 126 = .ok (.astore 8, 2) := by decide +kernel
theorem dX11_refusalOf_128 : decode cX11_refusalOf 128 = .ok (.aload 8, 2) := by decide +kernel
theorem dX11_refusalOf_130 : decode cX11_refusalOf 130 = .ok (.iload 6, 2) := by decide +kernel
theorem dX11_refusalOf_132 : decode cX11_refusalOf 132 = .ok (.invokevirtual 298, 3) := by decide +kernel
theorem dX11_refusalOf_135 : decode cX11_refusalOf 135 = .ok (.ifCond .ne 6, 3) := by decide +kernel
theorem dX11_refusalOf_138 : decode cX11_refusalOf 138 = .ok (.bipush (-3), 2) := by decide +kernel
theorem dX11_refusalOf_140 : decode cX11_refusalOf 140 = .ok (.ireturn, 1) := by decide +kernel
theorem dX11_refusalOf_141 : decode cX11_refusalOf 141 = .ok (.iload_n 2, 1) := by decide +kernel
theorem dX11_refusalOf_142 : decode cX11_refusalOf 142 = .ok (.bipush 11, 2) := by decide +kernel
theorem dX11_refusalOf_144 : decode cX11_refusalOf 144 = .ok (.if_icmp .ne 31, 3) := by decide +kernel
theorem dX11_refusalOf_147 : decode cX11_refusalOf 147 = .ok (.iload 5, 2) := by decide +kernel
theorem dX11_refusalOf_149 : decode cX11_refusalOf 149 = .ok (.iconst (-1), 1) := by decide +kernel
theorem dX11_refusalOf_150 : decode cX11_refusalOf 150 = .ok (.if_icmp .eq 25, 3) := by decide +kernel
theorem dX11_refusalOf_153 : decode cX11_refusalOf 153 = .ok (.aload 8, 2) := by decide +kernel
theorem dX11_refusalOf_155 : decode cX11_refusalOf 155 = .ok (.aload_n 0, 1) := by decide +kernel
theorem dX11_refusalOf_156 : decode cX11_refusalOf 156 = .ok (.getfield 19, 3) := by decide +kernel
theorem dX11_refusalOf_159 : decode cX11_refusalOf 159 = .ok (.iload 5, 2) := by decide +kernel
theorem dX11_refusalOf_161 : decode cX11_refusalOf 161 = .ok (.invokevirtual 123, 3) := by decide +kernel
theorem dX11_refusalOf_164 : decode cX11_refusalOf 164 = .ok (.invokevirtual 298, 3) := by decide +kernel
theorem dX11_refusalOf_167 : decode cX11_refusalOf 167 = .ok (.ifCond .ne 8, 3) := by decide +kernel
theorem dX11_refusalOf_170 : decode cX11_refusalOf 170 = .ok (.bipush (-3), 2) := by decide +kernel
theorem dX11_refusalOf_172 : decode cX11_refusalOf 172 = .ok (.goto 4, 3) := by decide +kernel
theorem dX11_refusalOf_175 : decode cX11_refusalOf 175 = .ok (.iconst 0, 1) := by decide +kernel
theorem dX11_refusalOf_176 : decode cX11_refusalOf 176 = .ok (.ireturn, 1) := by decide +kernel
theorem kd_11_refusalOf : Cond.code yX11_refusalOf cX11_refusalOf 9 (some .int) ∈ lw_g := mt_at 431 (by decide +kernel) rfl
theorem ki_11_refusalOf : Cond.instanceMethod yX11_refusalOf ∈ lw_g := mt_at 430 (by decide +kernel) rfl
theorem kl_11_refusalOf : Cond.selects (kRn 11) yX11_refusalOf yX11_refusalOf ∈ lw_g := mt_sel 0 (by decide +kernel) rfl
theorem cw11_295 : cCw RX11 295 yX11_madeSlot cX11_madeSlot 4 (some .int) 2 := ⟨kd_11_madeSlot, mt_at 436 (by decide +kernel) rfl, mt_at 1 (by decide +kernel) rfl, by decide +kernel⟩
theorem cw11_298 : cCw RX11 298 yX10_isThere cX10_isThere 2 (some .boolean) 1 := ⟨kd_10_isThere, mt_at 515 (by decide +kernel) rfl, mt_at 10 (by decide +kernel) rfl, by decide +kernel⟩
theorem cw11_316 : cCw RX11 316 yX11_ruleAt cX11_ruleAt 3 (some .char) 2 := ⟨kd_11_ruleAt, mt_at 501 (by decide +kernel) rfl, mt_at 1 (by decide +kernel) rfl, by decide +kernel⟩
theorem cw11_461 : cCw RX11 461 yX3_has cX3_has 2 (some .boolean) 1 := ⟨kd_3_has, mt_at 432 (by decide +kernel) rfl, mt_at 2 (by decide +kernel) rfl, by decide +kernel⟩
theorem cw11_465 : cCw RX11 465 yJ0_charAt_5068e cJ0_charAt_5068e 2 (some .char) 1 := ⟨kd_100_charAt_5068e, mt_at 461 (by decide +kernel) rfl, mt_at 13 (by decide +kernel) rfl, by decide +kernel⟩
section
variable {p : Program} {l : Launch} {e : Env} {R : Room} {s : State} {m : MethodId} {args : Array Value} {below : List Frame} {meth : Method} {c : Code} {D : cG} {S : cSt} {r : Int32}
noncomputable def fk_11_refusalOf_17 (S : cSt) : Option (Int32) :=
some (-1 : Int32)
set_option maxRecDepth 100000 in
set_option maxHeartbeats 4000000 in
theorem wk_11_refusalOf_17 (C : cY p R s m args meth c RX11 cX11_refusalOf 9 4 0 0 85 (some .int)) (X : cX D s) (hW : cW D S s.heap) : ∀ {ls : Array Slot}, fk_11_refusalOf_17 S = some r → lv_has ls 9 [] → W p l e R s m args below meth c s.heap [] 0 0 (MQ below (kQ (some (.int r))) args s 0 0 mNo) (F0 m 17 ls []) := by
  intro ls h hl
  unfold fk_11_refusalOf_17 at h
  refine lv_iconst (v := -1) C.1 C.2.1 dX11_refusalOf_17 (by decide) ?_
  cases h
  exact c_reti C rfl rfl dX11_refusalOf_18
noncomputable def fk_11_refusalOf_53 (S : cSt) : Option (Int32) :=
some (0 : Int32)
set_option maxRecDepth 100000 in
set_option maxHeartbeats 4000000 in
theorem wk_11_refusalOf_53 (C : cY p R s m args meth c RX11 cX11_refusalOf 9 4 0 0 85 (some .int)) (X : cX D s) (hW : cW D S s.heap) : ∀ {ls : Array Slot}, fk_11_refusalOf_53 S = some r → lv_has ls 9 [] → W p l e R s m args below meth c s.heap [] 0 0 (MQ below (kQ (some (.int r))) args s 0 0 mNo) (F0 m 53 ls []) := by
  intro ls h hl
  unfold fk_11_refusalOf_53 at h
  refine lv_iconst (v := 0) C.1 C.2.1 dX11_refusalOf_53 (by decide) ?_
  cases h
  exact c_reti C rfl rfl dX11_refusalOf_54
noncomputable def fk_11_refusalOf_176 (S : cSt) (s0 : Int32) : Option (Int32) :=
some s0
set_option maxRecDepth 100000 in
set_option maxHeartbeats 4000000 in
theorem wk_11_refusalOf_176 (C : cY p R s m args meth c RX11 cX11_refusalOf 9 4 0 0 85 (some .int)) (X : cX D s) (hW : cW D S s.heap) : ∀ {s0 : Int32} {ls : Array Slot}, fk_11_refusalOf_176 S s0 = some r → lv_has ls 9 [] → W p l e R s m args below meth c s.heap [] 0 0 (MQ below (kQ (some (.int r))) args s 0 0 mNo) (F0 m 176 ls [.int s0]) := by
  intro s0 ls h hl
  unfold fk_11_refusalOf_176 at h
  cases h
  exact c_reti C rfl rfl dX11_refusalOf_176
noncomputable def fk_11_refusalOf_175 (S : cSt) : Option (Int32) :=
fk_11_refusalOf_176 S (0 : Int32)
set_option maxRecDepth 100000 in
set_option maxHeartbeats 4000000 in
theorem wk_11_refusalOf_175 (C : cY p R s m args meth c RX11 cX11_refusalOf 9 4 0 0 85 (some .int)) (X : cX D s) (hW : cW D S s.heap) : ∀ {ls : Array Slot}, fk_11_refusalOf_175 S = some r → lv_has ls 9 [] → W p l e R s m args below meth c s.heap [] 0 0 (MQ below (kQ (some (.int r))) args s 0 0 mNo) (F0 m 175 ls []) := by
  intro ls h hl
  unfold fk_11_refusalOf_175 at h
  refine lv_iconst (v := 0) C.1 C.2.1 dX11_refusalOf_175 (by decide) ?_
  exact wk_11_refusalOf_176 C X hW h (lv_sub hl [] rfl)
noncomputable def fk_11_refusalOf_117 (S : cSt) (v0 : Nat) (v1 : Int32) (v2 : Int32) (v5 : Int32) (v6 : Int32) : Option (Int32) :=
ckk S v0 12 (bd (kR S v0 2) fun a1 =>
ckk S a1 31 (ck v1 (kL S a1) (lt (kO S a1 (Int32.toNatClampNeg v1)) fun o2 =>
bd o2 fun a3 =>
ckk S a3 8 (bd (kR S a3 2) fun a4 =>
ckk S a4 11 (bd (fk_10_isThere S a4 v6) fun r5 =>
if r5 = 0 then (
some (-3 : Int32))
else (
if v2 = (11 : Int32) then (
if v5 = (-1 : Int32) then (
fk_11_refusalOf_175 S)
else (
ckk S v0 12 (bd (kR S v0 1) fun a9 =>
ckk S a9 1 (bd (fk_0_slotOf S a9 v5) fun r10 =>
ckk S a4 11 (bd (fk_10_isThere S a4 r10) fun r11 =>
if r11 = 0 then (
fk_11_refusalOf_176 S (-3 : Int32))
else (
fk_11_refusalOf_175 S))))))
else (
fk_11_refusalOf_175 S)))))))
set_option maxRecDepth 100000 in
set_option maxHeartbeats 4000000 in
theorem wk_11_refusalOf_117 (C : cY p R s m args meth c RX11 cX11_refusalOf 9 4 0 0 85 (some .int)) (X : cX D s) (hW : cW D S s.heap) : ∀ {v0 : Nat} {v1 : Int32} {v2 : Int32} {v5 : Int32} {v6 : Int32} {ls : Array Slot}, fk_11_refusalOf_117 S v0 v1 v2 v5 v6 = some r → lv_has ls 9 [(0, .ref v0), (1, .int v1), (2, .int v2), (5, .int v5), (6, .int v6)] → W p l e R s m args below meth c s.heap [] 0 0 (MQ below (kQ (some (.int r))) args s 0 0 mNo) (F0 m 117 ls []) := by
  intro v0 v1 v2 v5 v6 ls h hl
  unfold fk_11_refusalOf_117 at h
  refine lv_aload_n C.1 C.2.1 dX11_refusalOf_117 rfl (lv_at hl 0 rfl) ?_
  obtain ⟨hk, h⟩ := ckk_ok h
  obtain ⟨a1, h_a1, h⟩ := bd_ok h
  refine gk11_25 C X hW hk h_a1 dX11_refusalOf_118 ?_
  refine lv_iload_n C.1 C.2.1 dX11_refusalOf_121 rfl (lv_at hl 1 rfl) ?_
  obtain ⟨hk, h⟩ := ckk_ok h
  obtain ⟨hin2, h⟩ := ck_ok h
  refine c_aald C 31 (by decide) X.2.2.2.2.2.1 hW hk hin2 dX11_refusalOf_122 ?_
  refine lt_ok h (fun o2 e_o2 h => ?_)
  refine lv_nmq e_o2 ?_
  obtain ⟨a3, e_a3, h⟩ := bd_ok h
  revert h; subst e_a3; intro h
  obtain ⟨hk, h⟩ := ckk_ok h
  obtain ⟨a4, h_a4, h⟩ := bd_ok h
  refine gk11_147 C X hW hk h_a4 dX11_refusalOf_123 ?_
  refine lv_astore (lv' := [(8, .ref a4), (0, .ref v0), (1, .int v1), (2, .int v2), (5, .int v5), (6, .int v6)]) C.1 C.2.1 dX11_refusalOf_126 hl (by decide) rfl (fun ls hl => ?_)
  refine lv_aload C.1 C.2.1 dX11_refusalOf_128 (lv_at hl 0 rfl) ?_
  refine lv_iload C.1 C.2.1 dX11_refusalOf_130 (lv_at hl 5 rfl) ?_
  obtain ⟨hk, h⟩ := ckk_ok h
  obtain ⟨r5, h_r5, h⟩ := bd_ok h
  refine c_callR (rest := []) C X hW hl.1 10 (by decide) hk [.int v6] (tk_10_isThere l h_r5) cw11_298 ki_10_isThere kl_10_isThere rfl ⟨by decide, by decide⟩ ⟨(by decide), (by decide)⟩ rfl (Nat.le_of_ble_eq_true rfl) dX11_refusalOf_132 ?_
  refine W.eq (g2 := F0 m 135 ls [.int r5]) rfl ?_
  refine lv_if_ne (tgt := 141) C.1 C.2.1 dX11_refusalOf_135 (by decide) (fun c6 => ?_) (fun c6 => ?_)
  · have h := if_f h c6
    refine lv_iload_n C.1 C.2.1 dX11_refusalOf_141 rfl (lv_at hl 3 rfl) ?_
    refine lv_bipush (v := 11) C.1 C.2.1 dX11_refusalOf_142 (by decide) ?_
    refine lv_icmp_ne (tgt := 175) C.1 C.2.1 dX11_refusalOf_144 (by decide) (fun c7 => ?_) (fun c7 => ?_)
    · have h := if_f h c7
      exact wk_11_refusalOf_175 C X hW h (lv_sub hl [] rfl)
    · have h := if_t h c7
      refine lv_iload C.1 C.2.1 dX11_refusalOf_147 (lv_at hl 4 rfl) ?_
      refine lv_iconst (v := -1) C.1 C.2.1 dX11_refusalOf_149 (by decide) ?_
      refine lv_icmp_eq (tgt := 175) C.1 C.2.1 dX11_refusalOf_150 (by decide) (fun c8 => ?_) (fun c8 => ?_)
      · have h := if_t h c8
        exact wk_11_refusalOf_175 C X hW h (lv_sub hl [] rfl)
      · have h := if_f h c8
        refine lv_aload C.1 C.2.1 dX11_refusalOf_153 (lv_at hl 0 rfl) ?_
        refine lv_aload_n C.1 C.2.1 dX11_refusalOf_155 rfl (lv_at hl 1 rfl) ?_
        obtain ⟨hk, h⟩ := ckk_ok h
        obtain ⟨a9, h_a9, h⟩ := bd_ok h
        refine gk11_19 C X hW hk h_a9 dX11_refusalOf_156 ?_
        refine lv_iload C.1 C.2.1 dX11_refusalOf_159 (lv_at hl 4 rfl) ?_
        obtain ⟨hk, h⟩ := ckk_ok h
        obtain ⟨r10, h_r10, h⟩ := bd_ok h
        refine c_callR (rest := [.ref a4]) C X hW hl.1 0 (by decide) hk [.int v5] (tk_0_slotOf l h_r10) cw11_123 ki_0_slotOf kl_0_slotOf rfl ⟨by decide, by decide⟩ ⟨(by decide), (by decide)⟩ rfl (Nat.le_of_ble_eq_true rfl) dX11_refusalOf_161 ?_
        refine W.eq (g2 := F0 m 164 ls [.int r10, .ref a4]) rfl ?_
        obtain ⟨hk, h⟩ := ckk_ok h
        obtain ⟨r11, h_r11, h⟩ := bd_ok h
        refine c_callR (rest := []) C X hW hl.1 10 (by decide) hk [.int r10] (tk_10_isThere l h_r11) cw11_298 ki_10_isThere kl_10_isThere rfl ⟨by decide, by decide⟩ ⟨(by decide), (by decide)⟩ rfl (Nat.le_of_ble_eq_true rfl) dX11_refusalOf_164 ?_
        refine W.eq (g2 := F0 m 167 ls [.int r11]) rfl ?_
        refine lv_if_ne (tgt := 175) C.1 C.2.1 dX11_refusalOf_167 (by decide) (fun c12 => ?_) (fun c12 => ?_)
        · have h := if_f h c12
          exact wk_11_refusalOf_175 C X hW h (lv_sub hl [] rfl)
        · have h := if_t h c12
          refine lv_bipush (v := -3) C.1 C.2.1 dX11_refusalOf_170 (by decide) ?_
          refine lv_goto (tgt := 176) C.1 C.2.1 dX11_refusalOf_172 (by decide) ?_
          exact wk_11_refusalOf_176 C X hW h (lv_sub hl [] rfl)
  · have h := if_t h c6
    refine lv_bipush (v := -3) C.1 C.2.1 dX11_refusalOf_138 (by decide) ?_
    cases h
    exact c_reti C rfl rfl dX11_refusalOf_140
noncomputable def fk_11_refusalOf_116 (S : cSt) (s0 : Int32) : Option (Int32) :=
some s0
set_option maxRecDepth 100000 in
set_option maxHeartbeats 4000000 in
theorem wk_11_refusalOf_116 (C : cY p R s m args meth c RX11 cX11_refusalOf 9 4 0 0 85 (some .int)) (X : cX D s) (hW : cW D S s.heap) : ∀ {s0 : Int32} {ls : Array Slot}, fk_11_refusalOf_116 S s0 = some r → lv_has ls 9 [] → W p l e R s m args below meth c s.heap [] 0 0 (MQ below (kQ (some (.int r))) args s 0 0 mNo) (F0 m 116 ls [.int s0]) := by
  intro s0 ls h hl
  unfold fk_11_refusalOf_116 at h
  cases h
  exact c_reti C rfl rfl dX11_refusalOf_116
noncomputable def fk_11_refusalOf_40 (S : cSt) (s0 : Int32) : Option (Int32) :=
some s0
set_option maxRecDepth 100000 in
set_option maxHeartbeats 4000000 in
theorem wk_11_refusalOf_40 (C : cY p R s m args meth c RX11 cX11_refusalOf 9 4 0 0 85 (some .int)) (X : cX D s) (hW : cW D S s.heap) : ∀ {s0 : Int32} {ls : Array Slot}, fk_11_refusalOf_40 S s0 = some r → lv_has ls 9 [] → W p l e R s m args below meth c s.heap [] 0 0 (MQ below (kQ (some (.int r))) args s 0 0 mNo) (F0 m 40 ls [.int s0]) := by
  intro s0 ls h hl
  unfold fk_11_refusalOf_40 at h
  cases h
  exact c_reti C rfl rfl dX11_refusalOf_40
noncomputable def fk_11_refusalOf (S : cSt) (v0 : Nat) (v1 : Int32) (v2 : Int32) (v3 : Int32) (v4 : Int32) (v5 : Int32) : Option (Int32) :=
bd (fk_11_isNode v1) fun r1 =>
if r1 = 0 then (
fk_11_refusalOf_17 S)
else (
if v2 < 0 then (
fk_11_refusalOf_17 S)
else (
if v2 ≤ (18 : Int32) then (
if v2 = 0 then (
ckk S v0 12 (bd (kR S v0 0) fun a16 =>
ckk S a16 4 (bd (fk_3_has S a16 v5) fun r17 =>
if r17 = 0 then (
fk_11_refusalOf_40 S (-1 : Int32))
else (
fk_11_refusalOf_40 S (0 : Int32)))))
else (
if v2 = (13 : Int32) then (
fk_11_refusalOf_53 S)
else (
if v2 = (14 : Int32) then (
fk_11_refusalOf_53 S)
else (
ckk S v0 12 (bd (fk_11_madeSlot S v0 v1 v3) fun r8 =>
if 0 ≤ r8 then (
lt (kT S 0) fun a10 =>
ckk S a10 13 (bd (fk_100_charAt_5068e S a10 v2) fun r11 =>
if r11 = (32 : Int32) then (
fk_11_refusalOf_117 S v0 v1 v2 v5 r8)
else (
ckk S v0 12 (bd (fk_11_ruleAt S v0 r8 v4) fun r13 =>
if r13 = r11 then (
fk_11_refusalOf_117 S v0 v1 v2 v5 r8)
else (
if r13 = (32 : Int32) then (
fk_11_refusalOf_116 S (-1 : Int32))
else (
fk_11_refusalOf_116 S (-2 : Int32)))))))
else (
some (-1 : Int32)))))))
else (
fk_11_refusalOf_17 S)))
set_option maxRecDepth 100000 in
set_option maxHeartbeats 4000000 in
theorem tk_11_refusalOf (l : Launch) {D : cG} {S : cSt} {v0 : Nat} {v1 : Int32} {v2 : Int32} {v3 : Int32} {v4 : Int32} {v5 : Int32} {r : Int32}  (h : fk_11_refusalOf S v0 v1 v2 v3 v4 v5 = some r) : Met l yX11_refusalOf (Cond.code yX11_refusalOf cX11_refusalOf 9 (some .int) :: lw_g) { frames := 4, cells := 0, slots := 0, locals := 85 } (kPi [.ref v0, .int v1, .int v2, .int v3, .int v4, .int v5] D S) (kQ (some (.int r))) 0 0 (mNo) := by
  refine Met.ofW (cc := cX11_refusalOf) (maxL := 9) (ret := (some .int)) (by decide) rfl ?_
  intro p e s m args below meth c s₁ B hml hv
  obtain ⟨rfl, hW, X⟩ := hv
  have C : cY p (headSpec (Cond.code yX11_refusalOf cX11_refusalOf 9 (some .int) :: lw_g) { frames := 4, cells := 0, slots := 0, locals := 85 }).room s m _ meth c RX11 cX11_refusalOf 9 4 0 0 85 (some .int) := ⟨B.exec, B.bytes, hml, findClass_of_methodNamed B.named, fun w hw => atoms_spec (ws := Cond.code yX11_refusalOf cX11_refusalOf 9 (some .int) :: lw_g) B.pre w (List.mem_cons_of_mem _ hw), ⟨Nat.le_refl _, Nat.le_refl _, Nat.le_refl _, Nat.le_refl _⟩, B.returns, B.notSynchronized⟩
  have hl := lv_entry ([.ref v0, .int v1, .int v2, .int v3, .int v4, .int v5]) (n := 9) (Nat.le_of_ble_eq_true rfl)
  rw [lg_entry_eq]
  generalize (lg_sl ([.ref v0, .int v1, .int v2, .int v3, .int v4, .int v5]) ++ List.replicate (9 - (lg_sl ([.ref v0, .int v1, .int v2, .int v3, .int v4, .int v5])).length) Slot.unset).toArray = ls at hl ⊢
  have hl : lv_has ls 9 [(0, .ref v0), (1, .int v1), (2, .int v2), (3, .int v3), (4, .int v4), (5, .int v5)] := hl
  unfold fk_11_refusalOf at h
  refine lv_iload_n C.1 C.2.1 dX11_refusalOf_0 rfl (lv_at hl 1 rfl) ?_
  obtain ⟨r1, h_r1, h⟩ := bd_ok h
  refine c_callS (rest := []) C hl.1 [.int v1] (tk_11_isNode l h_r1) cw11_112 ks_11_isNode rfl ⟨by decide, by decide⟩ ⟨(by decide), (by decide)⟩ rfl (Nat.le_of_ble_eq_true rfl) dX11_refusalOf_1 ?_
  refine W.eq (g2 := F0 m 4 ls [.int r1]) rfl ?_
  refine lv_if_eq (tgt := 17) C.1 C.2.1 dX11_refusalOf_4 (by decide) (fun c2 => ?_) (fun c2 => ?_)
  · have h := if_t h c2
    exact wk_11_refusalOf_17 C X hW h (lv_sub hl [] rfl)
  · have h := if_f h c2
    refine lv_iload_n C.1 C.2.1 dX11_refusalOf_7 rfl (lv_at hl 2 rfl) ?_
    refine lv_if_lt (tgt := 17) C.1 C.2.1 dX11_refusalOf_8 (by decide) (fun c3 => ?_) (fun c3 => ?_)
    · have h := if_t h c3
      exact wk_11_refusalOf_17 C X hW h (lv_sub hl [] rfl)
    · have h := if_f h c3
      refine lv_iload_n C.1 C.2.1 dX11_refusalOf_11 rfl (lv_at hl 2 rfl) ?_
      refine lv_bipush (v := 18) C.1 C.2.1 dX11_refusalOf_12 (by decide) ?_
      refine lv_icmp_le (tgt := 19) C.1 C.2.1 dX11_refusalOf_14 (by decide) (fun c4 => ?_) (fun c4 => ?_)
      · have h := if_t h c4
        refine lv_iload_n C.1 C.2.1 dX11_refusalOf_19 rfl (lv_at hl 2 rfl) ?_
        refine lv_if_ne (tgt := 41) C.1 C.2.1 dX11_refusalOf_20 (by decide) (fun c5 => ?_) (fun c5 => ?_)
        · have h := if_f h c5
          refine lv_iload_n C.1 C.2.1 dX11_refusalOf_41 rfl (lv_at hl 2 rfl) ?_
          refine lv_bipush (v := 13) C.1 C.2.1 dX11_refusalOf_42 (by decide) ?_
          refine lv_icmp_eq (tgt := 53) C.1 C.2.1 dX11_refusalOf_44 (by decide) (fun c6 => ?_) (fun c6 => ?_)
          · have h := if_t h c6
            exact wk_11_refusalOf_53 C X hW h (lv_sub hl [] rfl)
          · have h := if_f h c6
            refine lv_iload_n C.1 C.2.1 dX11_refusalOf_47 rfl (lv_at hl 2 rfl) ?_
            refine lv_bipush (v := 14) C.1 C.2.1 dX11_refusalOf_48 (by decide) ?_
            refine lv_icmp_ne (tgt := 55) C.1 C.2.1 dX11_refusalOf_50 (by decide) (fun c7 => ?_) (fun c7 => ?_)
            · have h := if_f h c7
              refine lv_aload_n C.1 C.2.1 dX11_refusalOf_55 rfl (lv_at hl 0 rfl) ?_
              refine lv_iload_n C.1 C.2.1 dX11_refusalOf_56 rfl (lv_at hl 1 rfl) ?_
              refine lv_iload_n C.1 C.2.1 dX11_refusalOf_57 rfl (lv_at hl 3 rfl) ?_
              obtain ⟨hk, h⟩ := ckk_ok h
              obtain ⟨r8, h_r8, h⟩ := bd_ok h
              refine c_callR (rest := []) C X hW hl.1 11 (by decide) hk [.int v1, .int v3] (tk_11_madeSlot l h_r8) cw11_295 ki_11_madeSlot kl_11_madeSlot rfl ⟨by decide, by decide⟩ ⟨(by decide), (by decide)⟩ rfl (Nat.le_of_ble_eq_true rfl) dX11_refusalOf_58 ?_
              refine W.eq (g2 := F0 m 61 ls [.int r8]) rfl ?_
              refine lv_istore (lv' := [(6, .int r8), (0, .ref v0), (1, .int v1), (2, .int v2), (3, .int v3), (4, .int v4), (5, .int v5)]) C.1 C.2.1 dX11_refusalOf_61 hl (by decide) rfl (fun ls hl => ?_)
              refine lv_iload C.1 C.2.1 dX11_refusalOf_63 (lv_at hl 0 rfl) ?_
              refine lv_if_ge (tgt := 70) C.1 C.2.1 dX11_refusalOf_65 (by decide) (fun c9 => ?_) (fun c9 => ?_)
              · have h := if_t h c9
                refine c_ldcsw (tx := " LSCBBBAATT    MM  ") C X hW 0 (by decide +kernel) dX11_refusalOf_70 ?_
                refine lt_ok h (fun a10 e_a10 h => ?_)
                rw [e_a10]
                refine lv_iload_n C.1 C.2.1 dX11_refusalOf_73 rfl (lv_at hl 3 rfl) ?_
                obtain ⟨hk, h⟩ := ckk_ok h
                obtain ⟨r11, h_r11, h⟩ := bd_ok h
                refine c_callR (rest := []) C X hW hl.1 12 (by decide) hk [.int v2] (tk_100_charAt_5068e l h_r11) cw11_465 ki_100_charAt_5068e kl_100_charAt_5068e rfl ⟨by decide, by decide⟩ ⟨(by decide), (by decide)⟩ rfl (Nat.le_of_ble_eq_true rfl) dX11_refusalOf_74 ?_
                refine W.eq (g2 := F0 m 77 ls [.int r11]) rfl ?_
                refine lv_istore (lv' := [(7, .int r11), (6, .int r8), (0, .ref v0), (1, .int v1), (2, .int v2), (3, .int v3), (4, .int v4), (5, .int v5)]) C.1 C.2.1 dX11_refusalOf_77 hl (by decide) rfl (fun ls hl => ?_)
                refine lv_iload C.1 C.2.1 dX11_refusalOf_79 (lv_at hl 0 rfl) ?_
                refine lv_bipush (v := 32) C.1 C.2.1 dX11_refusalOf_81 (by decide) ?_
                refine lv_icmp_eq (tgt := 117) C.1 C.2.1 dX11_refusalOf_83 (by decide) (fun c12 => ?_) (fun c12 => ?_)
                · have h := if_t h c12
                  exact wk_11_refusalOf_117 C X hW h (lv_sub hl [2, 3, 4, 7, 1] rfl)
                · have h := if_f h c12
                  refine lv_aload_n C.1 C.2.1 dX11_refusalOf_86 rfl (lv_at hl 2 rfl) ?_
                  refine lv_iload C.1 C.2.1 dX11_refusalOf_87 (lv_at hl 1 rfl) ?_
                  refine lv_iload C.1 C.2.1 dX11_refusalOf_89 (lv_at hl 6 rfl) ?_
                  obtain ⟨hk, h⟩ := ckk_ok h
                  obtain ⟨r13, h_r13, h⟩ := bd_ok h
                  refine c_callR (rest := []) C X hW hl.1 11 (by decide) hk [.int r8, .int v4] (tk_11_ruleAt l h_r13) cw11_316 ki_11_ruleAt kl_11_ruleAt rfl ⟨by decide, by decide⟩ ⟨(by decide), (by decide)⟩ rfl (Nat.le_of_ble_eq_true rfl) dX11_refusalOf_91 ?_
                  refine W.eq (g2 := F0 m 94 ls [.int r13]) rfl ?_
                  refine lv_istore (lv' := [(8, .int r13), (7, .int r11), (6, .int r8), (0, .ref v0), (1, .int v1), (2, .int v2), (3, .int v3), (4, .int v4), (5, .int v5)]) C.1 C.2.1 dX11_refusalOf_94 hl (by decide) rfl (fun ls hl => ?_)
                  refine lv_iload C.1 C.2.1 dX11_refusalOf_96 (lv_at hl 0 rfl) ?_
                  refine lv_iload C.1 C.2.1 dX11_refusalOf_98 (lv_at hl 1 rfl) ?_
                  refine lv_icmp_eq (tgt := 117) C.1 C.2.1 dX11_refusalOf_100 (by decide) (fun c14 => ?_) (fun c14 => ?_)
                  · have h := if_t h c14
                    exact wk_11_refusalOf_117 C X hW h (lv_sub hl [3, 4, 5, 8, 2] rfl)
                  · have h := if_f h c14
                    refine lv_iload C.1 C.2.1 dX11_refusalOf_103 (lv_at hl 0 rfl) ?_
                    refine lv_bipush (v := 32) C.1 C.2.1 dX11_refusalOf_105 (by decide) ?_
                    refine lv_icmp_ne (tgt := 114) C.1 C.2.1 dX11_refusalOf_107 (by decide) (fun c15 => ?_) (fun c15 => ?_)
                    · have h := if_f h c15
                      refine lv_bipush (v := -2) C.1 C.2.1 dX11_refusalOf_114 (by decide) ?_
                      exact wk_11_refusalOf_116 C X hW h (lv_sub hl [] rfl)
                    · have h := if_t h c15
                      refine lv_iconst (v := -1) C.1 C.2.1 dX11_refusalOf_110 (by decide) ?_
                      refine lv_goto (tgt := 116) C.1 C.2.1 dX11_refusalOf_111 (by decide) ?_
                      exact wk_11_refusalOf_116 C X hW h (lv_sub hl [] rfl)
              · have h := if_f h c9
                refine lv_iconst (v := -1) C.1 C.2.1 dX11_refusalOf_68 (by decide) ?_
                cases h
                exact c_reti C rfl rfl dX11_refusalOf_69
            · have h := if_t h c7
              exact wk_11_refusalOf_53 C X hW h (lv_sub hl [] rfl)
        · have h := if_t h c5
          refine lv_aload_n C.1 C.2.1 dX11_refusalOf_23 rfl (lv_at hl 0 rfl) ?_
          obtain ⟨hk, h⟩ := ckk_ok h
          obtain ⟨a16, h_a16, h⟩ := bd_ok h
          refine gk11_12 C X hW hk h_a16 dX11_refusalOf_24 ?_
          refine lv_iload C.1 C.2.1 dX11_refusalOf_27 (lv_at hl 5 rfl) ?_
          obtain ⟨hk, h⟩ := ckk_ok h
          obtain ⟨r17, h_r17, h⟩ := bd_ok h
          refine c_callR (rest := []) C X hW hl.1 3 (by decide) hk [.int v5] (tk_3_has l h_r17) cw11_461 ki_3_has kl_3_has rfl ⟨by decide, by decide⟩ ⟨(by decide), (by decide)⟩ rfl (Nat.le_of_ble_eq_true rfl) dX11_refusalOf_29 ?_
          refine W.eq (g2 := F0 m 32 ls [.int r17]) rfl ?_
          refine lv_if_eq (tgt := 39) C.1 C.2.1 dX11_refusalOf_32 (by decide) (fun c18 => ?_) (fun c18 => ?_)
          · have h := if_t h c18
            refine lv_iconst (v := -1) C.1 C.2.1 dX11_refusalOf_39 (by decide) ?_
            exact wk_11_refusalOf_40 C X hW h (lv_sub hl [] rfl)
          · have h := if_f h c18
            refine lv_iconst (v := 0) C.1 C.2.1 dX11_refusalOf_35 (by decide) ?_
            refine lv_goto (tgt := 40) C.1 C.2.1 dX11_refusalOf_36 (by decide) ?_
            exact wk_11_refusalOf_40 C X hW h (lv_sub hl [] rfl)
      · have h := if_f h c4
        exact wk_11_refusalOf_17 C X hW h (lv_sub hl [] rfl)
end
