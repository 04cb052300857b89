-- made by wip/whole/gen12.py: 2_copyFrom, 2_byteNow, 2_twist, 3_init, 3_byteOf, 3_put, 3_takeTape, 3_enter, 3_has, 3_ruleOf, 4_init, 4_has, 8_turnsAnother, 4_mark, 8_isBefore, 4_link
theorem dX2_copyFrom_0 : decode cX2_copyFrom 0 = .ok (.aload_n 0, 1) := by decide +kernel
theorem dX2_copyFrom_1 : decode cX2_copyFrom 1 = .ok (.aload_n 1, 1) := by decide +kernel
theorem dX2_copyFrom_2 : decode cX2_copyFrom 2 = .ok (.getfield 37, 3) := by decide +kernel
theorem dX2_copyFrom_5 : decode cX2_copyFrom 5 = .ok (.putfield 37, 3) := by decide +kernel
theorem dX2_copyFrom_8 : decode cX2_copyFrom 8 = .ok (.aload_n 0, 1) := by decide +kernel
theorem dX2_copyFrom_9 : decode cX2_copyFrom 9 = .ok (.aload_n 1, 1) := by decide +kernel
theorem dX2_copyFrom_10 : decode cX2_copyFrom 10 = .ok (.getfield 40, 3) := by decide +kernel
theorem dX2_copyFrom_13 : decode cX2_copyFrom 13 = .ok (.putfield 40, 3) := by decide +kernel
theorem dX2_copyFrom_16 : decode cX2_copyFrom 16 = .ok (.aload_n 0, 1) := by decide +kernel
theorem dX2_copyFrom_17 : decode cX2_copyFrom 17 = .ok (.aload_n 1, 1) := by decide +kernel
theorem dX2_copyFrom_18 : decode cX2_copyFrom 18 = .ok (.getfield 43, 3) := by decide +kernel
theorem dX2_copyFrom_21 : decode cX2_copyFrom 21 = .ok (.putfield 43, 3) := by decide +kernel
theorem dX2_copyFrom_24 : decode cX2_copyFrom 24 = .ok (.aload_n 0, 1) := by decide +kernel
theorem dX2_copyFrom_25 : decode cX2_copyFrom 25 = .ok (.aload_n 1, 1) := by decide +kernel
theorem dX2_copyFrom_26 : decode cX2_copyFrom 26 = .ok (.getfield 47, 3) := by decide +kernel
theorem dX2_copyFrom_29 : decode cX2_copyFrom 29 = .ok (.putfield 47, 3) := by decide +kernel
theorem dX2_copyFrom_32 : decode cX2_copyFrom 32 = .ok (.aload_n 0, 1) := by decide +kernel
theorem dX2_copyFrom_33 : decode cX2_copyFrom 33 = .ok (.iconst 0, 1) := by decide +kernel
theorem dX2_copyFrom_34 : decode cX2_copyFrom 34 = .ok (.putfield 50, 3) := by decide +kernel
theorem dX2_copyFrom_37 : decode cX2_copyFrom 37 = .ok (.aload_n 0, 1) := by decide +kernel
theorem dX2_copyFrom_38 : decode cX2_copyFrom 38 = .ok (.iconst 0, 1) := by decide +kernel
theorem dX2_copyFrom_39 : decode cX2_copyFrom 39 = .ok (.putfield 53, 3) := by decide +kernel
theorem dX2_copyFrom_42 : decode cX2_copyFrom 42 = .ok (.aload_n 1, 1) := by decide +kernel
theorem dX2_copyFrom_43 : decode cX2_copyFrom 43 = .ok (.getfield 9, 3) := by decide +kernel
theorem dX2_copyFrom_46 : decode cX2_copyFrom 46 = .ok (.iconst 0, 1) := by decide +kernel
theorem dX2_copyFrom_47 : decode cX2_copyFrom 47 = .ok (.aload_n 0, 1) := by decide +kernel
theorem dX2_copyFrom_48 : decode cX2_copyFrom 48 = .ok (.getfield 9, 3) := by decide +kernel
theorem dX2_copyFrom_51 : decode cX2_copyFrom 51 = .ok (.iconst 0, 1) := by decide +kernel
theorem dX2_copyFrom_52 : decode cX2_copyFrom 52 = .ok (.iconst 4, 1) := by decide +kernel
theorem dX2_copyFrom_53 : decode cX2_copyFrom 53 = .ok (.invokestatic 59, 3) := by decide +kernel
theorem dX2_copyFrom_56 : decode cX2_copyFrom 56 = .ok (.aload_n 1, 1) := by decide +kernel
theorem dX2_copyFrom_57 : decode cX2_copyFrom 57 = .ok (.getfield 15, 3) := by decide +kernel
theorem dX2_copyFrom_60 : decode cX2_copyFrom 60 = .ok (.iconst 0, 1) := by decide +kernel
theorem dX2_copyFrom_61 : decode cX2_copyFrom 61 = .ok (.aload_n 0, 1) := by decide +kernel
theorem dX2_copyFrom_62 : decode cX2_copyFrom 62 = .ok (.getfield 15, 3) := by decide +kernel
theorem dX2_copyFrom_65 : decode cX2_copyFrom 65 = .ok (.iconst 0, 1) := by decide +kernel
theorem dX2_copyFrom_66 : decode cX2_copyFrom 66 = .ok (.bipush 16, 2) := by decide +kernel
theorem dX2_copyFrom_68 : decode cX2_copyFrom 68 = .ok (.invokestatic 59, 3) := by decide +kernel
theorem dX2_copyFrom_71 : decode cX2_copyFrom 71 = .ok (.iconst 0, 1) := by decide +kernel
theorem dX2_copyFrom_72 : decode cX2_copyFrom 72 = .ok (.istore_n 2, 1) := by decide +kernel
theorem dX2_copyFrom_73 : decode cX2_copyFrom 73 = .ok (.iload_n 2, 1) := by decide +kernel
theorem dX2_copyFrom_74 : decode cX2_copyFrom 74 = .ok (.aload_n 0, 1) := by decide +kernel
theorem dX2_copyFrom_75 : decode cX2_copyFrom 75 = .ok (.getfield 47, 3) := by decide +kernel
theorem dX2_copyFrom_78 : decode cX2_copyFrom 78 = .ok (.if_icmp .ge 21, 3) := by decide +kernel
theorem dX2_copyFrom_81 : decode cX2_copyFrom 81 = .ok (.aload_n 0, 1) := by decide +kernel
theorem dX2_copyFrom_82 : decode cX2_copyFrom 82 = .ok (.getfield 20, 3) := by decide +kernel
theorem dX2_copyFrom_85 : decode cX2_copyFrom 85 = .ok (.iload_n 2, 1) := by decide +kernel
theorem dX2_copyFrom_86 : decode cX2_copyFrom 86 = .ok (.aload_n 1, 1) := by decide +kernel
theorem dX2_copyFrom_87 : decode cX2_copyFrom 87 = .ok (.getfield 20, 3) := by decide +kernel
theorem dX2_copyFrom_90 : decode cX2_copyFrom 90 = .ok (.iload_n 2, 1) := by decide +kernel
theorem dX2_copyFrom_91 : decode cX2_copyFrom 91 = .ok (.aaload, 1) := by decide +kernel
theorem dX2_copyFrom_92 : decode cX2_copyFrom 92 = .ok (.aastore, 1) := by decide +kernel
theorem dX2_copyFrom_93 : decode cX2_copyFrom 93 = .ok (.iinc 2 1, 3) := by decide +kernel
theorem dX2_copyFrom_96 : decode cX2_copyFrom 96 = .ok (.goto (-23), 3) := by decide +kernel
theorem dX2_copyFrom_99 : decode cX2_copyFrom 99 = .ok (.aload_n 1, 1) := by decide +kernel
theorem dX2_copyFrom_100 : decode cX2_copyFrom 100 = .ok (.getfield 53, 3) := by decide +kernel
theorem dX2_copyFrom_103 : decode cX2_copyFrom 103 = .ok (.ifCond .le 32, 3) := by decide +kernel
theorem dX2_copyFrom_106 : decode cX2_copyFrom 106 = .ok (.aload_n 0, 1) := by decide +kernel
theorem dX2_copyFrom_107 : decode cX2_copyFrom 107 = .ok (.invokevirtual 66, 3) := by decide +kernel
theorem dX2_copyFrom_110 : decode cX2_copyFrom 110 = .ok (.aload_n 1, 1) := by decide +kernel
theorem dX2_copyFrom_111 : decode cX2_copyFrom 111 = .ok (.getfield 28, 3) := by decide +kernel
theorem dX2_copyFrom_114 : decode cX2_copyFrom 114 = .ok (.iconst 0, 1) := by decide +kernel
theorem dX2_copyFrom_115 : decode cX2_copyFrom 115 = .ok (.aload_n 0, 1) := by decide +kernel
theorem dX2_copyFrom_116 : decode cX2_copyFrom 116 = .ok (.getfield 28, 3) := by decide +kernel
theorem dX2_copyFrom_119 : decode cX2_copyFrom 119 = .ok (.iconst 0, 1) := by decide +kernel
theorem dX2_copyFrom_120 : decode cX2_copyFrom 120 = .ok (.aload_n 0, 1) := by decide +kernel
theorem dX2_copyFrom_121 : decode cX2_copyFrom 121 = .ok (.getfield 50, 3) := by decide +kernel
theorem dX2_copyFrom_124 : decode cX2_copyFrom 124 = .ok (.invokestatic 59, 3) := by decide +kernel
theorem dX2_copyFrom_127 : decode cX2_copyFrom 127 = .ok (.aload_n 0, 1) := by decide +kernel
theorem dX2_copyFrom_128 : decode cX2_copyFrom 128 = .ok (.aload_n 1, 1) := by decide +kernel
theorem dX2_copyFrom_129 : decode cX2_copyFrom 129 = .ok (.getfield 53, 3) := by decide +kernel
theorem dX2_copyFrom_132 : decode cX2_copyFrom 132 = .ok (.putfield 53, 3) := by decide +kernel
theorem dX2_copyFrom_135 : decode cX2_copyFrom 135 = .ok (.return_, 1) := by decide +kernel
theorem kd_2_copyFrom : Cond.code yX2_copyFrom cX2_copyFrom 3 none ∈ lw_g := mt_at 1381 (by decide +kernel) rfl
theorem ki_2_copyFrom : Cond.instanceMethod yX2_copyFrom ∈ lw_g := mt_at 1379 (by decide +kernel) rfl
theorem kl_2_copyFrom : Cond.selects (kRn 2) yX2_copyFrom yX2_copyFrom ∈ lw_g := mt_at 1380 (by decide +kernel) rfl
theorem cw2_66 : cCw RX2 66 yX2_write cX2_write 2 none 0 := ⟨kd_2_write, mt_at 1382 (by decide +kernel) rfl, mt_at 30 (by decide +kernel) rfl, by decide +kernel⟩
section
variable {p : Program} {l : Launch} {e : Env} {R : Room} {s : State} {m : MethodId} {args : Array Value} {below : List Frame} {meth : Method} {c : Code} {H : Heap} {locs : List Loc} {cells slots : Nat} {Q : State → Prop}
variable {D : cG} {S S0 : cSt} {cc : ByteArray} {nL : Nat} {pc : Nat} {ls : Array Slot} {rest : List Value} {H0 : Heap} {nF nR nC nS : Nat} {ret : Option FieldType} {a : Nat}
theorem gk2_53 (C : cY p R s m args meth c RX2 cc nL nF nC nS nR ret) (X : cX D s) (hW : cW D S H) (hk : kK S a = 3) (hdg : decode cc pc = .ok (.getfield 53, 3)) (kk : W p l e R s m args below meth c H locs cells slots Q (F0 m (pc + 3) ls (.int (kF S a 8) :: rest))) : W p l e R s m args below meth c H locs cells slots Q (F0 m pc ls (.ref a :: rest)) := c_get C X hW 2 (by decide) ly_2 hk 8 (by decide) (mt_at 1290 (by decide +kernel) (by decide +kernel)) hdg (by rw [cV_I (by decide +kernel)]; exact kk)
end
section
variable {p : Program} {l : Launch} {e : Env} {R : Room} {s : State} {m : MethodId} {args : Array Value} {below : List Frame} {meth : Method} {c : Code} {D : cG} {S0 S9 : cSt}
noncomputable def fk_2_copyFrom_135 (S : cSt) : Option (cSt) :=
some S
set_option maxRecDepth 100000 in
set_option maxHeartbeats 4000000 in
theorem wk_2_copyFrom_135 (C : cY p R s m args meth c RX2 cX2_copyFrom 3 5 2 1120 110 none) (X : cX D s) : ∀ {S : cSt} {H : Heap} {locs : List Loc} {ls : Array Slot}, fk_2_copyFrom_135 S = some S9 → cJ D S0 s.heap S H locs → lv_has ls 3 [] → W p l e R s m args below meth c H locs 2 1120 (MQ below (kW none D S0 S9) args s 2 1120 (cA S0)) (F0 m 135 ls []) := by
  intro S H locs ls h hJ hl
  unfold fk_2_copyFrom_135 at h
  cases h
  exact c_retvW C hJ dX2_copyFrom_135
noncomputable def fk_2_copyFrom_73 : Nat → cSt → Nat → Nat → Int32 → Option (cSt)
  | 0, _, _, _, _ => none
  | n + 1, S, v0, v1, v2 =>
    ckk S v0 3 (
    if (kF S v0 6) ≤ v2 then (
    ckk S v1 3 (
    if (kF S v1 8) ≤ 0 then (
    fk_2_copyFrom_135 S)
    else (
    ckk S v0 3 (bd (fk_2_write S v0) fun S3 =>
    ckk S3 v1 3 (bd (kR S3 v1 10) fun a4 =>
    ckk S3 v0 3 (bd (kR S3 v0 10) fun a5 =>
    ckk S3 v0 3 (
    ckk S3 a4 21 (ckk S3 a5 21 (ckp ((¬ (0 : Int32) < 0 ∧ ¬ (0 : Int32) < 0 ∧ ¬ (kF S3 v0 7) < 0) ∧ (Int32.toNatClampNeg (0 : Int32)) + (Int32.toNatClampNeg (kF S3 v0 7)) ≤ kL S3 a4 ∧ (Int32.toNatClampNeg (0 : Int32)) + (Int32.toNatClampNeg (kF S3 v0 7)) ≤ kL S3 a5) (ckp (∀ i, i < (Int32.toNatClampNeg (kF S3 v0 7)) → fits .byte (.int (kI S3 a4 ((Int32.toNatClampNeg (0 : Int32)) + i))) = true) (lt (cCp S3 a4 (Int32.toNatClampNeg (0 : Int32)) a5 (Int32.toNatClampNeg (0 : Int32)) (Int32.toNatClampNeg (kF S3 v0 7))) fun S6 =>
    ckk S6 v1 3 (
    ckk S6 v0 3 (lt (cPi S6 v0 8 (kF S6 v1 8)) fun S7 =>
    fk_2_copyFrom_135 S7)))))))))))))
    else (
    ckk S v0 3 (bd (kR S v0 2) fun a8 =>
    ckk S v1 3 (bd (kR S v1 2) fun a9 =>
    ckk S a9 30 (ck v2 (kL S a9) (lt (kO S a9 (Int32.toNatClampNeg v2)) fun o10 =>
    ckk S a8 30 (ck v2 (kL S a8) (ckq S o10 9 (lt (cWo S a8 (Int32.toNatClampNeg v2) o10) fun S11 =>
    lt (v2 + (1 : Int32)) fun x12 =>
    fk_2_copyFrom_73 n S11 v0 v1 x12)))))))))
set_option maxRecDepth 100000 in
set_option maxHeartbeats 4000000 in
theorem wk_2_copyFrom_73 (C : cY p R s m args meth c RX2 cX2_copyFrom 3 5 2 1120 110 none) (X : cX D s) : ∀ (n : Nat), ∀ {S : cSt} {v0 : Nat} {v1 : Nat} {v2 : Int32} {H : Heap} {locs : List Loc} {ls : Array Slot}, fk_2_copyFrom_73 n S v0 v1 v2 = some S9 → cJ D S0 s.heap S H locs → lv_has ls 3 [(0, .ref v0), (1, .ref v1), (2, .int v2)] → W p l e R s m args below meth c H locs 0 0 (MQ below (kW none D S0 S9) args s 2 1120 (cA S0)) (F0 m 73 ls []) := by
  intro n
  induction n with
  | zero =>
    intro S v0 v1 v2 H locs ls h hJ hl
    exact absurd (show (none : Option (cSt)) = _ from h) (fun q => by cases q)
  | succ n ih =>
    intro S v0 v1 v2 H locs ls h hJ hl
    rw [fk_2_copyFrom_73] at h
    refine lv_iload_n C.1 C.2.1 dX2_copyFrom_73 rfl (lv_at hl 2 rfl) ?_
    refine lv_aload_n C.1 C.2.1 dX2_copyFrom_74 rfl (lv_at hl 0 rfl) ?_
    obtain ⟨hk, h⟩ := ckk_ok h
    refine gk2_47 C X hJ.1 hk dX2_copyFrom_75 ?_
    refine lv_icmp_ge (tgt := 99) C.1 C.2.1 dX2_copyFrom_78 (by decide) (fun c1 => ?_) (fun c1 => ?_)
    · have h := if_t h c1
      refine lv_aload_n C.1 C.2.1 dX2_copyFrom_99 rfl (lv_at hl 1 rfl) ?_
      obtain ⟨hk, h⟩ := ckk_ok h
      refine gk2_53 C X hJ.1 hk dX2_copyFrom_100 ?_
      refine lv_if_le (tgt := 135) C.1 C.2.1 dX2_copyFrom_103 (by decide) (fun c2 => ?_) (fun c2 => ?_)
      · have h := if_t h c2
        refine W.widen (k := 2) (n := 1120) (by decide) (by decide) ?_
        exact wk_2_copyFrom_135 C X h hJ (lv_sub hl [] rfl)
      · have h := if_f h c2
        refine lv_aload_n C.1 C.2.1 dX2_copyFrom_106 rfl (lv_at hl 0 rfl) ?_
        obtain ⟨hk, h⟩ := ckk_ok h
        obtain ⟨S3, h_S3, h⟩ := bd_ok h
        refine c_callW (rest := []) C X hJ hl.1 2 (by decide) hk [] (tk_2_write l h_S3) cw2_66 ki_2_write kl_2_write rfl ⟨by decide, by decide⟩ ⟨(by decide), (by decide)⟩ rfl (Nat.le_of_ble_eq_true rfl) dX2_copyFrom_107 (fun H locs hJ => ?_)
        refine W.eq (g2 := F0 m 110 ls []) rfl ?_
        refine lv_aload_n C.1 C.2.1 dX2_copyFrom_110 rfl (lv_at hl 1 rfl) ?_
        obtain ⟨hk, h⟩ := ckk_ok h
        obtain ⟨a4, h_a4, h⟩ := bd_ok h
        refine gk2_28 C X hJ.1 hk h_a4 dX2_copyFrom_111 ?_
        refine lv_iconst (v := 0) C.1 C.2.1 dX2_copyFrom_114 (by decide) ?_
        refine lv_aload_n C.1 C.2.1 dX2_copyFrom_115 rfl (lv_at hl 0 rfl) ?_
        obtain ⟨hk, h⟩ := ckk_ok h
        obtain ⟨a5, h_a5, h⟩ := bd_ok h
        refine gk2_28 C X hJ.1 hk h_a5 dX2_copyFrom_116 ?_
        refine lv_iconst (v := 0) C.1 C.2.1 dX2_copyFrom_119 (by decide) ?_
        refine lv_aload_n C.1 C.2.1 dX2_copyFrom_120 rfl (lv_at hl 0 rfl) ?_
        obtain ⟨hk, h⟩ := ckk_ok h
        refine gk2_50 C X hJ.1 hk dX2_copyFrom_121 ?_
        obtain ⟨hk0, h⟩ := ckk_ok h
        obtain ⟨hk1, h⟩ := ckk_ok h
        obtain ⟨hcp, h⟩ := ckp_ok h
        obtain ⟨hft, h⟩ := ckp_ok h
        refine c_copy (rest := []) C hl.1 mm2_59 ac_n ac_s ac_i 21 (by decide) (by decide) X.2.2.1 rfl hJ hk0 hk1 hcp hft (by decide) (Nat.le_of_ble_eq_true rfl) dX2_copyFrom_124 (fun H locs hJ => ?_)
        refine lt_ok h (fun S6 e_S6 h => ?_)
        rw [e_S6] at hJ
        refine lv_aload_n C.1 C.2.1 dX2_copyFrom_127 rfl (lv_at hl 0 rfl) ?_
        refine lv_aload_n C.1 C.2.1 dX2_copyFrom_128 rfl (lv_at hl 1 rfl) ?_
        obtain ⟨hk, h⟩ := ckk_ok h
        refine gk2_53 C X hJ.1 hk dX2_copyFrom_129 ?_
        obtain ⟨hk, h⟩ := ckk_ok h
        refine pk2_53 C X hJ hk dX2_copyFrom_132 (fun H locs hJ => ?_)
        refine lt_ok h (fun S7 e_S7 h => ?_)
        rw [e_S7] at hJ
        exact wk_2_copyFrom_135 C X h hJ (lv_sub hl [] rfl)
    · have h := if_f h c1
      refine lv_aload_n C.1 C.2.1 dX2_copyFrom_81 rfl (lv_at hl 0 rfl) ?_
      obtain ⟨hk, h⟩ := ckk_ok h
      obtain ⟨a8, h_a8, h⟩ := bd_ok h
      refine gk2_20 C X hJ.1 hk h_a8 dX2_copyFrom_82 ?_
      refine lv_iload_n C.1 C.2.1 dX2_copyFrom_85 rfl (lv_at hl 2 rfl) ?_
      refine lv_aload_n C.1 C.2.1 dX2_copyFrom_86 rfl (lv_at hl 1 rfl) ?_
      obtain ⟨hk, h⟩ := ckk_ok h
      obtain ⟨a9, h_a9, h⟩ := bd_ok h
      refine gk2_20 C X hJ.1 hk h_a9 dX2_copyFrom_87 ?_
      refine lv_iload_n C.1 C.2.1 dX2_copyFrom_90 rfl (lv_at hl 2 rfl) ?_
      obtain ⟨hk, h⟩ := ckk_ok h
      obtain ⟨hin2, h⟩ := ck_ok h
      refine c_aald C 30 (by decide) X.2.2.2.2.1 hJ.1 hk hin2 dX2_copyFrom_91 ?_
      refine lt_ok h (fun o10 e_o10 h => ?_)
      refine lv_nmq e_o10 ?_
      obtain ⟨hk, h⟩ := ckk_ok h
      obtain ⟨hin2, h⟩ := ck_ok h
      obtain ⟨hkv, h⟩ := ckq_ok h
      refine c_aastq (o := o10) C X 30 8 (by decide) (by decide) X.2.2.2.2.1 hJ hk hkv hin2 dX2_copyFrom_92 (fun H locs hJ => ?_)
      refine lt_ok h (fun S11 e_S11 h => ?_)
      rw [e_S11] at hJ
      refine lt_ok h (fun x12 e_x12 h => ?_)
      refine lv_iinc (v := x12) (lv' := [(2, .int x12), (0, .ref v0), (1, .ref v1)]) C.1 C.2.1 dX2_copyFrom_93 hl (k := 2) rfl (by rw [← e_x12]; rfl) (by decide) rfl (fun ls hl => ?_)
      refine lv_goto (tgt := 73) C.1 C.2.1 dX2_copyFrom_96 (by decide) ?_
      exact ih h hJ (lv_sub hl [1, 2, 0] rfl)
noncomputable def fk_2_copyFrom (S : cSt) (v0 : Nat) (v1 : Nat) : Option (cSt) :=
ckk S v1 3 (
ckk S v0 3 (lt (cPi S v0 3 (kF S v1 3)) fun S1 =>
ckk S1 v1 3 (
ckk S1 v0 3 (lt (cPi S1 v0 4 (kF S1 v1 4)) fun S2 =>
ckk S2 v1 3 (
ckk S2 v0 3 (ckz (kF S2 v1 5) (lt (cPi S2 v0 5 (kF S2 v1 5)) fun S3 =>
ckk S3 v1 3 (
ckk S3 v0 3 (lt (cPi S3 v0 6 (kF S3 v1 6)) fun S4 =>
ckk S4 v0 3 (lt (cPi S4 v0 7 (0 : Int32)) fun S5 =>
ckk S5 v0 3 (lt (cPi S5 v0 8 (0 : Int32)) fun S6 =>
ckk S6 v1 3 (bd (kR S6 v1 0) fun a7 =>
ckk S6 v0 3 (bd (kR S6 v0 0) fun a8 =>
ckk S6 a7 20 (ckk S6 a8 20 (ckp ((¬ (0 : Int32) < 0 ∧ ¬ (0 : Int32) < 0 ∧ ¬ (4 : Int32) < 0) ∧ (Int32.toNatClampNeg (0 : Int32)) + (Int32.toNatClampNeg (4 : Int32)) ≤ kL S6 a7 ∧ (Int32.toNatClampNeg (0 : Int32)) + (Int32.toNatClampNeg (4 : Int32)) ≤ kL S6 a8) (lt (cCp S6 a7 (Int32.toNatClampNeg (0 : Int32)) a8 (Int32.toNatClampNeg (0 : Int32)) (Int32.toNatClampNeg (4 : Int32))) fun S10 =>
ckk S10 v1 3 (bd (kR S10 v1 1) fun a11 =>
ckk S10 v0 3 (bd (kR S10 v0 1) fun a12 =>
ckk S10 a11 20 (ckk S10 a12 20 (ckp ((¬ (0 : Int32) < 0 ∧ ¬ (0 : Int32) < 0 ∧ ¬ (16 : Int32) < 0) ∧ (Int32.toNatClampNeg (0 : Int32)) + (Int32.toNatClampNeg (16 : Int32)) ≤ kL S10 a11 ∧ (Int32.toNatClampNeg (0 : Int32)) + (Int32.toNatClampNeg (16 : Int32)) ≤ kL S10 a12) (lt (cCp S10 a11 (Int32.toNatClampNeg (0 : Int32)) a12 (Int32.toNatClampNeg (0 : Int32)) (Int32.toNatClampNeg (16 : Int32))) fun S13 =>
fk_2_copyFrom_73 mFU S13 v0 v1 (0 : Int32))))))))))))))))))))))
set_option maxRecDepth 100000 in
set_option maxHeartbeats 4000000 in
theorem tk_2_copyFrom (l : Launch) {D : cG} {S : cSt} {v0 : Nat} {v1 : Nat} {S9 : cSt} (h : fk_2_copyFrom S v0 v1 = some S9) : Met l yX2_copyFrom (Cond.code yX2_copyFrom cX2_copyFrom 3 none :: lw_g) { frames := 5, cells := 2, slots := 1120, locals := 110 } (kPi [.ref v0, .ref v1] D S) (kW none D S S9) 2 1120 (cA S) := by
  refine Met.ofW (cc := cX2_copyFrom) (maxL := 3) (ret := none) (by decide) rfl ?_
  intro p e s m args below meth c s₁ B hml hv
  obtain ⟨rfl, hW, X⟩ := hv
  have C : cY p (headSpec (Cond.code yX2_copyFrom cX2_copyFrom 3 none :: lw_g) { frames := 5, cells := 2, slots := 1120, locals := 110 }).room s m _ meth c RX2 cX2_copyFrom 3 5 2 1120 110 none := ⟨B.exec, B.bytes, hml, findClass_of_methodNamed B.named, fun w hw => atoms_spec (ws := Cond.code yX2_copyFrom cX2_copyFrom 3 none :: lw_g) B.pre w (List.mem_cons_of_mem _ hw), ⟨Nat.le_refl _, Nat.le_refl _, Nat.le_refl _, Nat.le_refl _⟩, B.returns, B.notSynchronized⟩
  have hl := lv_entry ([.ref v0, .ref v1]) (n := 3) (Nat.le_of_ble_eq_true rfl)
  rw [lg_entry_eq]
  generalize (lg_sl ([.ref v0, .ref v1]) ++ List.replicate (3 - (lg_sl ([.ref v0, .ref v1])).length) Slot.unset).toArray = ls at hl ⊢
  have hl : lv_has ls 3 [(0, .ref v0), (1, .ref v1)] := hl
  have hJ : cJ D S s.heap S s.heap [] := cJ.rf hW
  unfold fk_2_copyFrom at h
  refine lv_aload_n C.1 C.2.1 dX2_copyFrom_0 rfl (lv_at hl 0 rfl) ?_
  refine lv_aload_n C.1 C.2.1 dX2_copyFrom_1 rfl (lv_at hl 1 rfl) ?_
  obtain ⟨hk, h⟩ := ckk_ok h
  refine gk2_37 C X hJ.1 hk dX2_copyFrom_2 ?_
  obtain ⟨hk, h⟩ := ckk_ok h
  refine pk2_37 C X hJ hk dX2_copyFrom_5 (fun H locs hJ => ?_)
  refine lt_ok h (fun S1 e_S1 h => ?_)
  rw [e_S1] at hJ
  refine lv_aload_n C.1 C.2.1 dX2_copyFrom_8 rfl (lv_at hl 0 rfl) ?_
  refine lv_aload_n C.1 C.2.1 dX2_copyFrom_9 rfl (lv_at hl 1 rfl) ?_
  obtain ⟨hk, h⟩ := ckk_ok h
  refine gk2_40 C X hJ.1 hk dX2_copyFrom_10 ?_
  obtain ⟨hk, h⟩ := ckk_ok h
  refine pk2_40 C X hJ hk dX2_copyFrom_13 (fun H locs hJ => ?_)
  refine lt_ok h (fun S2 e_S2 h => ?_)
  rw [e_S2] at hJ
  refine lv_aload_n C.1 C.2.1 dX2_copyFrom_16 rfl (lv_at hl 0 rfl) ?_
  refine lv_aload_n C.1 C.2.1 dX2_copyFrom_17 rfl (lv_at hl 1 rfl) ?_
  obtain ⟨hk, h⟩ := ckk_ok h
  refine gk2_43 C X hJ.1 hk dX2_copyFrom_18 ?_
  obtain ⟨hk, h⟩ := ckk_ok h
  obtain ⟨hzo, h⟩ := ckz_ok h
  refine pk2_43 C X hJ hk hzo dX2_copyFrom_21 (fun H locs hJ => ?_)
  refine lt_ok h (fun S3 e_S3 h => ?_)
  rw [e_S3] at hJ
  refine lv_aload_n C.1 C.2.1 dX2_copyFrom_24 rfl (lv_at hl 0 rfl) ?_
  refine lv_aload_n C.1 C.2.1 dX2_copyFrom_25 rfl (lv_at hl 1 rfl) ?_
  obtain ⟨hk, h⟩ := ckk_ok h
  refine gk2_47 C X hJ.1 hk dX2_copyFrom_26 ?_
  obtain ⟨hk, h⟩ := ckk_ok h
  refine pk2_47 C X hJ hk dX2_copyFrom_29 (fun H locs hJ => ?_)
  refine lt_ok h (fun S4 e_S4 h => ?_)
  rw [e_S4] at hJ
  refine lv_aload_n C.1 C.2.1 dX2_copyFrom_32 rfl (lv_at hl 0 rfl) ?_
  refine lv_iconst (v := 0) C.1 C.2.1 dX2_copyFrom_33 (by decide) ?_
  obtain ⟨hk, h⟩ := ckk_ok h
  refine pk2_50 C X hJ hk dX2_copyFrom_34 (fun H locs hJ => ?_)
  refine lt_ok h (fun S5 e_S5 h => ?_)
  rw [e_S5] at hJ
  refine lv_aload_n C.1 C.2.1 dX2_copyFrom_37 rfl (lv_at hl 0 rfl) ?_
  refine lv_iconst (v := 0) C.1 C.2.1 dX2_copyFrom_38 (by decide) ?_
  obtain ⟨hk, h⟩ := ckk_ok h
  refine pk2_53 C X hJ hk dX2_copyFrom_39 (fun H locs hJ => ?_)
  refine lt_ok h (fun S6 e_S6 h => ?_)
  rw [e_S6] at hJ
  refine lv_aload_n C.1 C.2.1 dX2_copyFrom_42 rfl (lv_at hl 1 rfl) ?_
  obtain ⟨hk, h⟩ := ckk_ok h
  obtain ⟨a7, h_a7, h⟩ := bd_ok h
  refine gk2_9 C X hJ.1 hk h_a7 dX2_copyFrom_43 ?_
  refine lv_iconst (v := 0) C.1 C.2.1 dX2_copyFrom_46 (by decide) ?_
  refine lv_aload_n C.1 C.2.1 dX2_copyFrom_47 rfl (lv_at hl 0 rfl) ?_
  obtain ⟨hk, h⟩ := ckk_ok h
  obtain ⟨a8, h_a8, h⟩ := bd_ok h
  refine gk2_9 C X hJ.1 hk h_a8 dX2_copyFrom_48 ?_
  refine lv_iconst (v := 0) C.1 C.2.1 dX2_copyFrom_51 (by decide) ?_
  refine lv_iconst (v := 4) C.1 C.2.1 dX2_copyFrom_52 (by decide) ?_
  obtain ⟨hk0, h⟩ := ckk_ok h
  obtain ⟨hk1, h⟩ := ckk_ok h
  obtain ⟨hcp, h⟩ := ckp_ok h
  refine c_copy (rest := []) C hl.1 mm2_59 ac_n ac_s ac_i 20 (by decide) (by decide) X.2.1 rfl hJ hk0 hk1 hcp (fun _ _ => rfl) (by decide) (Nat.le_of_ble_eq_true rfl) dX2_copyFrom_53 (fun H locs hJ => ?_)
  refine lt_ok h (fun S10 e_S10 h => ?_)
  rw [e_S10] at hJ
  refine lv_aload_n C.1 C.2.1 dX2_copyFrom_56 rfl (lv_at hl 1 rfl) ?_
  obtain ⟨hk, h⟩ := ckk_ok h
  obtain ⟨a11, h_a11, h⟩ := bd_ok h
  refine gk2_15 C X hJ.1 hk h_a11 dX2_copyFrom_57 ?_
  refine lv_iconst (v := 0) C.1 C.2.1 dX2_copyFrom_60 (by decide) ?_
  refine lv_aload_n C.1 C.2.1 dX2_copyFrom_61 rfl (lv_at hl 0 rfl) ?_
  obtain ⟨hk, h⟩ := ckk_ok h
  obtain ⟨a12, h_a12, h⟩ := bd_ok h
  refine gk2_15 C X hJ.1 hk h_a12 dX2_copyFrom_62 ?_
  refine lv_iconst (v := 0) C.1 C.2.1 dX2_copyFrom_65 (by decide) ?_
  refine lv_bipush (v := 16) C.1 C.2.1 dX2_copyFrom_66 (by decide) ?_
  obtain ⟨hk0, h⟩ := ckk_ok h
  obtain ⟨hk1, h⟩ := ckk_ok h
  obtain ⟨hcp, h⟩ := ckp_ok h
  refine c_copy (rest := []) C hl.1 mm2_59 ac_n ac_s ac_i 20 (by decide) (by decide) X.2.1 rfl hJ hk0 hk1 hcp (fun _ _ => rfl) (by decide) (Nat.le_of_ble_eq_true rfl) dX2_copyFrom_68 (fun H locs hJ => ?_)
  refine lt_ok h (fun S13 e_S13 h => ?_)
  rw [e_S13] at hJ
  refine lv_iconst (v := 0) C.1 C.2.1 dX2_copyFrom_71 (by decide) ?_
  refine lv_istore_n (lv' := [(2, .int (0 : Int32)), (0, .ref v0), (1, .ref v1)]) C.1 C.2.1 dX2_copyFrom_72 rfl hl (by decide) rfl (fun ls hl => ?_)
  exact wk_2_copyFrom_73 C X mFU h hJ (lv_sub hl [1, 2, 0] rfl)
end
theorem dX2_byteNow_0 : decode cX2_byteNow 0 = .ok (.aload_n 0, 1) := by decide +kernel
theorem dX2_byteNow_1 : decode cX2_byteNow 1 = .ok (.getfield 24, 3) := by decide +kernel
theorem dX2_byteNow_4 : decode cX2_byteNow 4 = .ok (.iload_n 1, 1) := by decide +kernel
theorem dX2_byteNow_5 : decode cX2_byteNow 5 = .ok (.baload, 1) := by decide +kernel
theorem dX2_byteNow_6 : decode cX2_byteNow 6 = .ok (.aload_n 0, 1) := by decide +kernel
theorem dX2_byteNow_7 : decode cX2_byteNow 7 = .ok (.getfield 28, 3) := by decide +kernel
theorem dX2_byteNow_10 : decode cX2_byteNow 10 = .ok (.iload_n 1, 1) := by decide +kernel
theorem dX2_byteNow_11 : decode cX2_byteNow 11 = .ok (.baload, 1) := by decide +kernel
theorem dX2_byteNow_12 : decode cX2_byteNow 12 = .ok (.ixor, 1) := by decide +kernel
theorem dX2_byteNow_13 : decode cX2_byteNow 13 = .ok (.sipush 255, 3) := by decide +kernel
theorem dX2_byteNow_16 : decode cX2_byteNow 16 = .ok (.iand, 1) := by decide +kernel
theorem dX2_byteNow_17 : decode cX2_byteNow 17 = .ok (.ireturn, 1) := by decide +kernel
theorem kd_2_byteNow : Cond.code yX2_byteNow cX2_byteNow 2 (some .int) ∈ lw_g := mt_at 1419 (by decide +kernel) rfl
theorem ki_2_byteNow : Cond.instanceMethod yX2_byteNow ∈ lw_g := mt_at 1417 (by decide +kernel) rfl
theorem kl_2_byteNow : Cond.selects (kRn 2) yX2_byteNow yX2_byteNow ∈ lw_g := mt_at 1418 (by decide +kernel) rfl
section
variable {p : Program} {l : Launch} {e : Env} {R : Room} {s : State} {m : MethodId} {args : Array Value} {below : List Frame} {meth : Method} {c : Code} {D : cG} {S : cSt} {r : Int32}
noncomputable def fk_2_byteNow (S : cSt) (v0 : Nat) (v1 : Int32) : Option (Int32) :=
ckk S v0 3 (bd (kR S v0 9) fun a1 =>
ckk S a1 21 (ck v1 (kL S a1) (
ckk S v0 3 (bd (kR S v0 10) fun a2 =>
ckk S a2 21 (ck v1 (kL S a2) (
some (((kI S a1 (Int32.toNatClampNeg v1)) ^^^ (kI S a2 (Int32.toNatClampNeg v1))) &&& (255 : Int32))))))))
set_option maxRecDepth 100000 in
set_option maxHeartbeats 4000000 in
theorem tk_2_byteNow (l : Launch) {D : cG} {S : cSt} {v0 : Nat} {v1 : Int32} {r : Int32}  (h : fk_2_byteNow S v0 v1 = some r) : Met l yX2_byteNow (Cond.code yX2_byteNow cX2_byteNow 2 (some .int) :: lw_g) { frames := 0, cells := 0, slots := 0, locals := 0 } (kPi [.ref v0, .int v1] D S) (kQ (some (.int r))) 0 0 (mNo) := by
  refine Met.ofW (cc := cX2_byteNow) (maxL := 2) (ret := (some .int)) (by decide) rfl ?_
  intro p e s m args below meth c s₁ B hml hv
  obtain ⟨rfl, hW, X⟩ := hv
  have C : cY p (headSpec (Cond.code yX2_byteNow cX2_byteNow 2 (some .int) :: lw_g) { frames := 0, cells := 0, slots := 0, locals := 0 }).room s m _ meth c RX2 cX2_byteNow 2 0 0 0 0 (some .int) := ⟨B.exec, B.bytes, hml, findClass_of_methodNamed B.named, fun w hw => atoms_spec (ws := Cond.code yX2_byteNow cX2_byteNow 2 (some .int) :: lw_g) B.pre w (List.mem_cons_of_mem _ hw), ⟨Nat.le_refl _, Nat.le_refl _, Nat.le_refl _, Nat.le_refl _⟩, B.returns, B.notSynchronized⟩
  have hl := lv_entry ([.ref v0, .int v1]) (n := 2) (Nat.le_of_ble_eq_true rfl)
  rw [lg_entry_eq]
  generalize (lg_sl ([.ref v0, .int v1]) ++ List.replicate (2 - (lg_sl ([.ref v0, .int v1])).length) Slot.unset).toArray = ls at hl ⊢
  have hl : lv_has ls 2 [(0, .ref v0), (1, .int v1)] := hl
  unfold fk_2_byteNow at h
  refine lv_aload_n C.1 C.2.1 dX2_byteNow_0 rfl (lv_at hl 0 rfl) ?_
  obtain ⟨hk, h⟩ := ckk_ok h
  obtain ⟨a1, h_a1, h⟩ := bd_ok h
  refine gk2_24 C X hW hk h_a1 dX2_byteNow_1 ?_
  refine lv_iload_n C.1 C.2.1 dX2_byteNow_4 rfl (lv_at hl 1 rfl) ?_
  obtain ⟨hk, h⟩ := ckk_ok h
  obtain ⟨hin2, h⟩ := ck_ok h
  refine c_bald C X hW hk hin2 dX2_byteNow_5 ?_
  refine lv_aload_n C.1 C.2.1 dX2_byteNow_6 rfl (lv_at hl 0 rfl) ?_
  obtain ⟨hk, h⟩ := ckk_ok h
  obtain ⟨a2, h_a2, h⟩ := bd_ok h
  refine gk2_28 C X hW hk h_a2 dX2_byteNow_7 ?_
  refine lv_iload_n C.1 C.2.1 dX2_byteNow_10 rfl (lv_at hl 1 rfl) ?_
  obtain ⟨hk, h⟩ := ckk_ok h
  obtain ⟨hin2, h⟩ := ck_ok h
  refine c_bald C X hW hk hin2 dX2_byteNow_11 ?_
  refine lv_ixor C.1 C.2.1 dX2_byteNow_12 ?_
  refine lv_sipush (v := 255) C.1 C.2.1 dX2_byteNow_13 (by decide) ?_
  refine lv_iand C.1 C.2.1 dX2_byteNow_16 ?_
  cases h
  exact c_reti C rfl rfl dX2_byteNow_17
end
theorem dX2_twist_0 : decode cX2_twist 0 = .ok (.aload_n 0, 1) := by decide +kernel
theorem dX2_twist_1 : decode cX2_twist 1 = .ok (.getfield 28, 3) := by decide +kernel
theorem dX2_twist_4 : decode cX2_twist 4 = .ok (.iload_n 1, 1) := by decide +kernel
theorem dX2_twist_5 : decode cX2_twist 5 = .ok (.baload, 1) := by decide +kernel
theorem dX2_twist_6 : decode cX2_twist 6 = .ok (.ifCond .ne 7, 3) := by decide +kernel
theorem dX2_twist_9 : decode cX2_twist 9 = .ok (.iconst 0, 1) := by decide +kernel
theorem dX2_twist_10 : decode cX2_twist 10 = .ok (.goto 4, 3) := by decide +kernel
theorem dX2_twist_13 : decode cX2_twist 13 = .ok (.iconst 1, 1) := by decide +kernel
theorem dX2_twist_14 : decode cX2_twist 14 = .ok (.istore_n 3, 1) := by decide +kernel
theorem dX2_twist_15 : decode cX2_twist 15 = .ok (.aload_n 0, 1) := by decide +kernel
theorem dX2_twist_16 : decode cX2_twist 16 = .ok (.getfield 28, 3) := by decide +kernel
theorem dX2_twist_19 : decode cX2_twist 19 = .ok (.iload_n 1, 1) := by decide +kernel
theorem dX2_twist_20 : decode cX2_twist 20 = .ok (.dup2, 1) := by decide +kernel
theorem dX2_twist_21 : decode cX2_twist 21 = .ok (.baload, 1) := by decide +kernel
theorem dX2_twist_22 : decode cX2_twist 22 = .ok (.iload_n 2, 1) := by decide +kernel
theorem dX2_twist_23 : decode cX2_twist 23 = .ok (.i2b, 1) := by decide +kernel
theorem dX2_twist_24 : decode cX2_twist 24 = .ok (.ixor, 1) := by decide +kernel
theorem dX2_twist_25 : decode cX2_twist 25 = .ok (.i2b, 1) := by decide +kernel
theorem dX2_twist_26 : decode cX2_twist 26 = .ok (.bastore, 1) := by decide +kernel
theorem dX2_twist_27 : decode cX2_twist 27 = .ok (.aload_n 0, 1) := by decide +kernel
theorem dX2_twist_28 : decode cX2_twist 28 = .ok (.dup, 1) := by decide +kernel
theorem dX2_twist_29 : decode cX2_twist 29 = .ok (.getfield 53, 3) := by decide +kernel
theorem dX2_twist_32 : decode cX2_twist 32 = .ok (.aload_n 0, 1) := by decide +kernel
theorem dX2_twist_33 : decode cX2_twist 33 = .ok (.getfield 28, 3) := by decide +kernel
theorem dX2_twist_36 : decode cX2_twist 36 = .ok (.iload_n 1, 1) := by decide +kernel
theorem dX2_twist_37 : decode cX2_twist 37 = .ok (.baload, 1) := by decide +kernel
theorem dX2_twist_38 : decode cX2_twist 38 = .ok (.ifCond .ne 7, 3) := by decide +kernel
theorem dX2_twist_41 : decode cX2_twist 41 = .ok (.iconst 0, 1) := by decide +kernel
theorem dX2_twist_42 : decode cX2_twist 42 = .ok (.goto 4, 3) := by decide +kernel
theorem dX2_twist_45 : decode cX2_twist 45 = .ok (.iconst 1, 1) := by decide +kernel
theorem dX2_twist_46 : decode cX2_twist 46 = .ok (.iload_n 3, 1) := by decide +kernel
theorem dX2_twist_47 : decode cX2_twist 47 = .ok (.isub, 1) := by decide +kernel
theorem dX2_twist_48 : decode cX2_twist 48 = .ok (.iadd, 1) := by decide +kernel
theorem dX2_twist_49 : decode cX2_twist 49 = .ok (.putfield 53, 3) := by decide +kernel
theorem dX2_twist_52 : decode cX2_twist 52 = .ok (.return_, 1) := by decide +kernel
theorem kd_2_twist : Cond.code yX2_twist cX2_twist 4 none ∈ lw_g := mt_at 1427 (by decide +kernel) rfl
theorem ki_2_twist : Cond.instanceMethod yX2_twist ∈ lw_g := mt_at 1425 (by decide +kernel) rfl
theorem kl_2_twist : Cond.selects (kRn 2) yX2_twist yX2_twist ∈ lw_g := mt_at 1426 (by decide +kernel) rfl
section
variable {p : Program} {l : Launch} {e : Env} {R : Room} {s : State} {m : MethodId} {args : Array Value} {below : List Frame} {meth : Method} {c : Code} {D : cG} {S0 S9 : cSt}
noncomputable def fk_2_twist_46 (S : cSt) (v3 : Int32) (s0 : Nat) (s1 : Int32) (s2 : Int32) : Option (cSt) :=
ckk S s0 3 (lt (cPi S s0 8 (s1 + (s2 - v3))) fun S1 =>
some S1)
set_option maxRecDepth 100000 in
set_option maxHeartbeats 4000000 in
theorem wk_2_twist_46 (C : cY p R s m args meth c RX2 cX2_twist 4 0 0 0 0 none) (X : cX D s) : ∀ {S : cSt} {v3 : Int32} {s0 : Nat} {s1 : Int32} {s2 : Int32} {H : Heap} {locs : List Loc} {ls : Array Slot}, fk_2_twist_46 S v3 s0 s1 s2 = some S9 → cJ D S0 s.heap S H locs → lv_has ls 4 [(3, .int v3)] → W p l e R s m args below meth c H locs 0 0 (MQ below (kW none D S0 S9) args s 0 0 (cA S0)) (F0 m 46 ls [.int s2, .int s1, .ref s0]) := by
  intro S v3 s0 s1 s2 H locs ls h hJ hl
  unfold fk_2_twist_46 at h
  refine lv_iload_n C.1 C.2.1 dX2_twist_46 rfl (lv_at hl 0 rfl) ?_
  refine lv_isub C.1 C.2.1 dX2_twist_47 ?_
  refine lv_iadd C.1 C.2.1 dX2_twist_48 ?_
  obtain ⟨hk, h⟩ := ckk_ok h
  refine pk2_53 C X hJ hk dX2_twist_49 (fun H locs hJ => ?_)
  refine lt_ok h (fun S1 e_S1 h => ?_)
  rw [e_S1] at hJ
  cases h
  exact c_retvW C hJ dX2_twist_52
noncomputable def fk_2_twist_14 (S : cSt) (v0 : Nat) (v1 : Int32) (v2 : Int32) (s0 : Int32) : Option (cSt) :=
ckk S v0 3 (bd (kR S v0 10) fun a1 =>
ckk S a1 21 (ck v1 (kL S a1) (
ckk S a1 21 (ck v1 (kL S a1) (ckp (vp_nar .byte (((kI S a1 (Int32.toNatClampNeg v1)) ^^^ (v2.toInt8.toInt32)).toInt8.toInt32) = (((kI S a1 (Int32.toNatClampNeg v1)) ^^^ (v2.toInt8.toInt32)).toInt8.toInt32)) (lt (cWi S a1 (Int32.toNatClampNeg v1) (((kI S a1 (Int32.toNatClampNeg v1)) ^^^ (v2.toInt8.toInt32)).toInt8.toInt32)) fun S2 =>
ckk S2 v0 3 (
ckk S2 v0 3 (bd (kR S2 v0 10) fun a3 =>
ckk S2 a3 21 (ck v1 (kL S2 a3) (
if (kI S2 a3 (Int32.toNatClampNeg v1)) = 0 then (
fk_2_twist_46 S2 s0 v0 (kF S2 v0 8) (0 : Int32))
else (
fk_2_twist_46 S2 s0 v0 (kF S2 v0 8) (1 : Int32))))))))))))
set_option maxRecDepth 100000 in
set_option maxHeartbeats 4000000 in
theorem wk_2_twist_14 (C : cY p R s m args meth c RX2 cX2_twist 4 0 0 0 0 none) (X : cX D s) : ∀ {S : cSt} {v0 : Nat} {v1 : Int32} {v2 : Int32} {s0 : Int32} {H : Heap} {locs : List Loc} {ls : Array Slot}, fk_2_twist_14 S v0 v1 v2 s0 = some S9 → cJ D S0 s.heap S H locs → lv_has ls 4 [(0, .ref v0), (1, .int v1), (2, .int v2)] → W p l e R s m args below meth c H locs 0 0 (MQ below (kW none D S0 S9) args s 0 0 (cA S0)) (F0 m 14 ls [.int s0]) := by
  intro S v0 v1 v2 s0 H locs ls h hJ hl
  unfold fk_2_twist_14 at h
  refine lv_istore_n (lv' := [(3, .int s0), (0, .ref v0), (1, .int v1), (2, .int v2)]) C.1 C.2.1 dX2_twist_14 rfl hl (by decide) rfl (fun ls hl => ?_)
  refine lv_aload_n C.1 C.2.1 dX2_twist_15 rfl (lv_at hl 1 rfl) ?_
  obtain ⟨hk, h⟩ := ckk_ok h
  obtain ⟨a1, h_a1, h⟩ := bd_ok h
  refine gk2_28 C X hJ.1 hk h_a1 dX2_twist_16 ?_
  refine lv_iload_n C.1 C.2.1 dX2_twist_19 rfl (lv_at hl 2 rfl) ?_
  refine lv_dup2_11 C.1 C.2.1 dX2_twist_20 rfl rfl ?_
  obtain ⟨hk, h⟩ := ckk_ok h
  obtain ⟨hin2, h⟩ := ck_ok h
  refine c_bald C X hJ.1 hk hin2 dX2_twist_21 ?_
  refine lv_iload_n C.1 C.2.1 dX2_twist_22 rfl (lv_at hl 3 rfl) ?_
  refine lv_i2b (v := v2.toInt8.toInt32) C.1 C.2.1 dX2_twist_23 rfl ?_
  refine lv_ixor C.1 C.2.1 dX2_twist_24 ?_
  refine lv_i2b (v := ((kI S a1 (Int32.toNatClampNeg v1)) ^^^ (v2.toInt8.toInt32)).toInt8.toInt32) C.1 C.2.1 dX2_twist_25 rfl ?_
  obtain ⟨hk, h⟩ := ckk_ok h
  obtain ⟨hin2, h⟩ := ck_ok h
  obtain ⟨hnr, h⟩ := ckp_ok h
  refine c_bast C X hJ hk hnr hin2 dX2_twist_26 (fun H locs hJ => ?_)
  refine lt_ok h (fun S2 e_S2 h => ?_)
  rw [e_S2] at hJ
  refine lv_aload_n C.1 C.2.1 dX2_twist_27 rfl (lv_at hl 1 rfl) ?_
  refine lv_dup C.1 C.2.1 dX2_twist_28 rfl ?_
  obtain ⟨hk, h⟩ := ckk_ok h
  refine gk2_53 C X hJ.1 hk dX2_twist_29 ?_
  refine lv_aload_n C.1 C.2.1 dX2_twist_32 rfl (lv_at hl 1 rfl) ?_
  obtain ⟨hk, h⟩ := ckk_ok h
  obtain ⟨a3, h_a3, h⟩ := bd_ok h
  refine gk2_28 C X hJ.1 hk h_a3 dX2_twist_33 ?_
  refine lv_iload_n C.1 C.2.1 dX2_twist_36 rfl (lv_at hl 2 rfl) ?_
  obtain ⟨hk, h⟩ := ckk_ok h
  obtain ⟨hin2, h⟩ := ck_ok h
  refine c_bald C X hJ.1 hk hin2 dX2_twist_37 ?_
  refine lv_if_ne (tgt := 45) C.1 C.2.1 dX2_twist_38 (by decide) (fun c4 => ?_) (fun c4 => ?_)
  · have h := if_f h c4
    refine lv_iconst (v := 1) C.1 C.2.1 dX2_twist_45 (by decide) ?_
    exact wk_2_twist_46 C X h hJ (lv_sub hl [0] rfl)
  · have h := if_t h c4
    refine lv_iconst (v := 0) C.1 C.2.1 dX2_twist_41 (by decide) ?_
    refine lv_goto (tgt := 46) C.1 C.2.1 dX2_twist_42 (by decide) ?_
    exact wk_2_twist_46 C X h hJ (lv_sub hl [0] rfl)
noncomputable def fk_2_twist (S : cSt) (v0 : Nat) (v1 : Int32) (v2 : Int32) : Option (cSt) :=
ckk S v0 3 (bd (kR S v0 10) fun a1 =>
ckk S a1 21 (ck v1 (kL S a1) (
if (kI S a1 (Int32.toNatClampNeg v1)) = 0 then (
fk_2_twist_14 S v0 v1 v2 (0 : Int32))
else (
fk_2_twist_14 S v0 v1 v2 (1 : Int32)))))
set_option maxRecDepth 100000 in
set_option maxHeartbeats 4000000 in
theorem tk_2_twist (l : Launch) {D : cG} {S : cSt} {v0 : Nat} {v1 : Int32} {v2 : Int32} {S9 : cSt} (h : fk_2_twist S v0 v1 v2 = some S9) : Met l yX2_twist (Cond.code yX2_twist cX2_twist 4 none :: lw_g) { frames := 0, cells := 0, slots := 0, locals := 0 } (kPi [.ref v0, .int v1, .int v2] D S) (kW none D S S9) 0 0 (cA S) := by
  refine Met.ofW (cc := cX2_twist) (maxL := 4) (ret := none) (by decide) rfl ?_
  intro p e s m args below meth c s₁ B hml hv
  obtain ⟨rfl, hW, X⟩ := hv
  have C : cY p (headSpec (Cond.code yX2_twist cX2_twist 4 none :: lw_g) { frames := 0, cells := 0, slots := 0, locals := 0 }).room s m _ meth c RX2 cX2_twist 4 0 0 0 0 none := ⟨B.exec, B.bytes, hml, findClass_of_methodNamed B.named, fun w hw => atoms_spec (ws := Cond.code yX2_twist cX2_twist 4 none :: lw_g) B.pre w (List.mem_cons_of_mem _ hw), ⟨Nat.le_refl _, Nat.le_refl _, Nat.le_refl _, Nat.le_refl _⟩, B.returns, B.notSynchronized⟩
  have hl := lv_entry ([.ref v0, .int v1, .int v2]) (n := 4) (Nat.le_of_ble_eq_true rfl)
  rw [lg_entry_eq]
  generalize (lg_sl ([.ref v0, .int v1, .int v2]) ++ List.replicate (4 - (lg_sl ([.ref v0, .int v1, .int v2])).length) Slot.unset).toArray = ls at hl ⊢
  have hl : lv_has ls 4 [(0, .ref v0), (1, .int v1), (2, .int v2)] := hl
  have hJ : cJ D S s.heap S s.heap [] := cJ.rf hW
  unfold fk_2_twist at h
  refine lv_aload_n C.1 C.2.1 dX2_twist_0 rfl (lv_at hl 0 rfl) ?_
  obtain ⟨hk, h⟩ := ckk_ok h
  obtain ⟨a1, h_a1, h⟩ := bd_ok h
  refine gk2_28 C X hJ.1 hk h_a1 dX2_twist_1 ?_
  refine lv_iload_n C.1 C.2.1 dX2_twist_4 rfl (lv_at hl 1 rfl) ?_
  obtain ⟨hk, h⟩ := ckk_ok h
  obtain ⟨hin2, h⟩ := ck_ok h
  refine c_bald C X hJ.1 hk hin2 dX2_twist_5 ?_
  refine lv_if_ne (tgt := 13) C.1 C.2.1 dX2_twist_6 (by decide) (fun c2 => ?_) (fun c2 => ?_)
  · have h := if_f h c2
    refine lv_iconst (v := 1) C.1 C.2.1 dX2_twist_13 (by decide) ?_
    exact wk_2_twist_14 C X h hJ (lv_sub hl [0, 1, 2] rfl)
  · have h := if_t h c2
    refine lv_iconst (v := 0) C.1 C.2.1 dX2_twist_9 (by decide) ?_
    refine lv_goto (tgt := 14) C.1 C.2.1 dX2_twist_10 (by decide) ?_
    exact wk_2_twist_14 C X h hJ (lv_sub hl [0, 1, 2] rfl)
end
theorem dX3_init_0 : decode cX3_init 0 = .ok (.aload_n 0, 1) := by decide +kernel
theorem dX3_init_1 : decode cX3_init 1 = .ok (.invokespecial 3, 3) := by decide +kernel
theorem dX3_init_4 : decode cX3_init 4 = .ok (.aload_n 0, 1) := by decide +kernel
theorem dX3_init_5 : decode cX3_init 5 = .ok (.bipush 40, 2) := by decide +kernel
theorem dX3_init_7 : decode cX3_init 7 = .ok (.newarray .char, 2) := by decide +kernel
theorem dX3_init_9 : decode cX3_init 9 = .ok (.putfield 9, 3) := by decide +kernel
theorem dX3_init_12 : decode cX3_init 12 = .ok (.aload_n 0, 1) := by decide +kernel
theorem dX3_init_13 : decode cX3_init 13 = .ok (.iconst 0, 1) := by decide +kernel
theorem dX3_init_14 : decode cX3_init 14 = .ok (.putfield 15, 3) := by decide +kernel
theorem dX3_init_17 : decode cX3_init 17 = .ok (.aload_n 0, 1) := by decide +kernel
theorem dX3_init_18 : decode cX3_init 18 = .ok (.iconst 0, 1) := by decide +kernel
theorem dX3_init_19 : decode cX3_init 19 = .ok (.putfield 19, 3) := by decide +kernel
theorem dX3_init_22 : decode cX3_init 22 = .ok (.aload_n 0, 1) := by decide +kernel
theorem dX3_init_23 : decode cX3_init 23 = .ok (.iconst (-1), 1) := by decide +kernel
theorem dX3_init_24 : decode cX3_init 24 = .ok (.putfield 22, 3) := by decide +kernel
theorem dX3_init_27 : decode cX3_init 27 = .ok (.aload_n 0, 1) := by decide +kernel
theorem dX3_init_28 : decode cX3_init 28 = .ok (.bipush 48, 2) := by decide +kernel
theorem dX3_init_30 : decode cX3_init 30 = .ok (.newarray .char, 2) := by decide +kernel
theorem dX3_init_32 : decode cX3_init 32 = .ok (.putfield 25, 3) := by decide +kernel
theorem dX3_init_35 : decode cX3_init 35 = .ok (.aload_n 0, 1) := by decide +kernel
theorem dX3_init_36 : decode cX3_init 36 = .ok (.bipush 8, 2) := by decide +kernel
theorem dX3_init_38 : decode cX3_init 38 = .ok (.newarray .int, 2) := by decide +kernel
theorem dX3_init_40 : decode cX3_init 40 = .ok (.putfield 28, 3) := by decide +kernel
theorem dX3_init_43 : decode cX3_init 43 = .ok (.return_, 1) := by decide +kernel
theorem kd_3_init : Cond.code yX3_init cX3_init 1 none ∈ lw_g := mt_at 44 (by decide +kernel) rfl
theorem ki_3_init : Cond.instanceMethod yX3_init ∈ lw_g := mt_at 43 (by decide +kernel) rfl
theorem oi3 : Cond.methodLink RX3 3 objectInit ∈ lw_g := mt_at 45 (by decide +kernel) rfl
section
variable {p : Program} {l : Launch} {e : Env} {R : Room} {s : State} {m : MethodId} {args : Array Value} {below : List Frame} {meth : Method} {c : Code} {H : Heap} {locs : List Loc} {cells slots : Nat} {Q : State → Prop}
variable {D : cG} {S S0 : cSt} {cc : ByteArray} {nL : Nat} {pc : Nat} {ls : Array Slot} {rest : List Value} {H0 : Heap} {nF nR nC nS : Nat} {ret : Option FieldType} {a : Nat}
theorem pk3_9 {o : Option Nat} (C : cY p R s m args meth c RX3 cc nL nF nC nS nR ret) (hin : meth.name = "<init>") (X : cX D s) (hJ : cJ D S0 H0 S H locs) (hk : kK S a = 4) (hdg : decode cc pc = .ok (.putfield 9, 3)) (kk : ∀ (H1 : Heap) (locs1 : List Loc), cJ D S0 H0 (cPr S a 0 o) H1 locs1 → W p l e R s m args below meth c H1 locs1 cells slots Q (F0 m (pc + 3) ls (rest))) : W p l e R s m args below meth c H locs cells slots Q (F0 m pc ls (va_rf o :: .ref a :: rest)) := c_putF (S1 := (cPr S a 0 o)) C X hJ 3 (by decide) ly_3 hk 0 (by decide) (by decide +kernel) hin rfl nar_ra fit_ra (by decide) rfl rfl (fun j _ => c_vR (by decide +kernel)) c_oPr (mt_at 46 (by decide +kernel) (by decide +kernel)) hdg kk
theorem pk3_15 {x : Int32} (C : cY p R s m args meth c RX3 cc nL nF nC nS nR ret) (X : cX D s) (hJ : cJ D S0 H0 S H locs) (hk : kK S a = 4) (hdg : decode cc pc = .ok (.putfield 15, 3)) (kk : ∀ (H1 : Heap) (locs1 : List Loc), cJ D S0 H0 (cPi S a 1 x) H1 locs1 → W p l e R s m args below meth c H1 locs1 cells slots Q (F0 m (pc + 3) ls (rest))) : W p l e R s m args below meth c H locs cells slots Q (F0 m pc ls (.int x :: .ref a :: rest)) := c_put (S1 := (cPi S a 1 x)) C X hJ 3 (by decide) ly_3 hk 1 (by decide) (by decide +kernel)  rfl rfl (by decide) rfl rfl (fun j _ => c_vI (by decide +kernel)) c_oPi (mt_at 48 (by decide +kernel) (by decide +kernel)) hdg kk
theorem pk3_19 {x : Int32} (C : cY p R s m args meth c RX3 cc nL nF nC nS nR ret) (X : cX D s) (hJ : cJ D S0 H0 S H locs) (hk : kK S a = 4) (hdg : decode cc pc = .ok (.putfield 19, 3)) (kk : ∀ (H1 : Heap) (locs1 : List Loc), cJ D S0 H0 (cPi S a 2 x) H1 locs1 → W p l e R s m args below meth c H1 locs1 cells slots Q (F0 m (pc + 3) ls (rest))) : W p l e R s m args below meth c H locs cells slots Q (F0 m pc ls (.int x :: .ref a :: rest)) := c_put (S1 := (cPi S a 2 x)) C X hJ 3 (by decide) ly_3 hk 2 (by decide) (by decide +kernel)  rfl rfl (by decide) rfl rfl (fun j _ => c_vI (by decide +kernel)) c_oPi (mt_at 50 (by decide +kernel) (by decide +kernel)) hdg kk
theorem pk3_22 {x : Int32} (C : cY p R s m args meth c RX3 cc nL nF nC nS nR ret) (X : cX D s) (hJ : cJ D S0 H0 S H locs) (hk : kK S a = 4) (hdg : decode cc pc = .ok (.putfield 22, 3)) (kk : ∀ (H1 : Heap) (locs1 : List Loc), cJ D S0 H0 (cPi S a 3 x) H1 locs1 → W p l e R s m args below meth c H1 locs1 cells slots Q (F0 m (pc + 3) ls (rest))) : W p l e R s m args below meth c H locs cells slots Q (F0 m pc ls (.int x :: .ref a :: rest)) := c_put (S1 := (cPi S a 3 x)) C X hJ 3 (by decide) ly_3 hk 3 (by decide) (by decide +kernel)  rfl rfl (by decide) rfl rfl (fun j _ => c_vI (by decide +kernel)) c_oPi (mt_at 52 (by decide +kernel) (by decide +kernel)) hdg kk
theorem pk3_25 {o : Option Nat} (C : cY p R s m args meth c RX3 cc nL nF nC nS nR ret) (hin : meth.name = "<init>") (X : cX D s) (hJ : cJ D S0 H0 S H locs) (hk : kK S a = 4) (hdg : decode cc pc = .ok (.putfield 25, 3)) (kk : ∀ (H1 : Heap) (locs1 : List Loc), cJ D S0 H0 (cPr S a 4 o) H1 locs1 → W p l e R s m args below meth c H1 locs1 cells slots Q (F0 m (pc + 3) ls (rest))) : W p l e R s m args below meth c H locs cells slots Q (F0 m pc ls (va_rf o :: .ref a :: rest)) := c_putF (S1 := (cPr S a 4 o)) C X hJ 3 (by decide) ly_3 hk 4 (by decide) (by decide +kernel) hin rfl nar_ra fit_ra (by decide) rfl rfl (fun j _ => c_vR (by decide +kernel)) c_oPr (mt_at 54 (by decide +kernel) (by decide +kernel)) hdg kk
theorem pk3_28 {o : Option Nat} (C : cY p R s m args meth c RX3 cc nL nF nC nS nR ret) (hin : meth.name = "<init>") (X : cX D s) (hJ : cJ D S0 H0 S H locs) (hk : kK S a = 4) (hdg : decode cc pc = .ok (.putfield 28, 3)) (kk : ∀ (H1 : Heap) (locs1 : List Loc), cJ D S0 H0 (cPr S a 5 o) H1 locs1 → W p l e R s m args below meth c H1 locs1 cells slots Q (F0 m (pc + 3) ls (rest))) : W p l e R s m args below meth c H locs cells slots Q (F0 m pc ls (va_rf o :: .ref a :: rest)) := c_putF (S1 := (cPr S a 5 o)) C X hJ 3 (by decide) ly_3 hk 5 (by decide) (by decide +kernel) hin rfl nar_ra fit_ra (by decide) rfl rfl (fun j _ => c_vR (by decide +kernel)) c_oPr (mt_at 55 (by decide +kernel) (by decide +kernel)) hdg kk
end
section
variable {p : Program} {l : Launch} {e : Env} {R : Room} {s : State} {m : MethodId} {args : Array Value} {below : List Frame} {meth : Method} {c : Code} {D : cG} {S0 S9 : cSt}
noncomputable def fk_3_init (S : cSt) (v0 : Nat) : Option (cSt) :=
lt (kZ S) fun a2 => lt (cNw S 22 40) fun S1 =>
ckk S1 v0 4 (lt (cPr S1 v0 0 (some a2)) fun S3 =>
ckk S3 v0 4 (lt (cPi S3 v0 1 (0 : Int32)) fun S4 =>
ckk S4 v0 4 (lt (cPi S4 v0 2 (0 : Int32)) fun S5 =>
ckk S5 v0 4 (lt (cPi S5 v0 3 (-1 : Int32)) fun S6 =>
lt (kZ S6) fun a8 => lt (cNw S6 22 48) fun S7 =>
ckk S7 v0 4 (lt (cPr S7 v0 4 (some a8)) fun S10 =>
lt (kZ S10) fun a12 => lt (cNw S10 20 8) fun S11 =>
ckk S11 v0 4 (lt (cPr S11 v0 5 (some a12)) fun S13 =>
some S13))))))
set_option maxRecDepth 100000 in
set_option maxHeartbeats 4000000 in
theorem tk_3_init (l : Launch) {D : cG} {S : cSt} {v0 : Nat} {S9 : cSt} (h : fk_3_init S v0 = some S9) : Met l yX3_init (Cond.code yX3_init cX3_init 1 none :: lw_g) { frames := 2, cells := 3, slots := 96, locals := 60 } (kPi [.ref v0] D S) (kW none D S S9) 3 96 (cA S) := by
  refine Met.ofW (cc := cX3_init) (maxL := 1) (ret := none) (by decide) rfl ?_
  intro p e s m args below meth c s₁ B hml hv
  obtain ⟨rfl, hW, X⟩ := hv
  have C : cY p (headSpec (Cond.code yX3_init cX3_init 1 none :: lw_g) { frames := 2, cells := 3, slots := 96, locals := 60 }).room s m _ meth c RX3 cX3_init 1 2 3 96 60 none := ⟨B.exec, B.bytes, hml, findClass_of_methodNamed B.named, fun w hw => atoms_spec (ws := Cond.code yX3_init cX3_init 1 none :: lw_g) B.pre w (List.mem_cons_of_mem _ hw), ⟨Nat.le_refl _, Nat.le_refl _, Nat.le_refl _, Nat.le_refl _⟩, B.returns, B.notSynchronized⟩
  have hin : meth.name = "<init>" := (name_of_methodNamed B.named B.method).1
  have hl := lv_entry ([.ref v0]) (n := 1) (Nat.le_of_ble_eq_true rfl)
  rw [lg_entry_eq]
  generalize (lg_sl ([.ref v0]) ++ List.replicate (1 - (lg_sl ([.ref v0])).length) Slot.unset).toArray = ls at hl ⊢
  have hl : lv_has ls 1 [(0, .ref v0)] := hl
  have hJ : cJ D S s.heap S s.heap [] := cJ.rf hW
  unfold fk_3_init at h
  refine lv_aload_n C.1 C.2.1 dX3_init_0 rfl (lv_at hl 0 rfl) ?_
  refine W.objInit C.1 C.2.1 C.2.2.2.1 (C.2.2.2.2.1 _ oi3) (C.2.2.2.2.1 _ oi_i) (C.2.2.2.2.1 _ oi_c) rfl (by rw [C.2.2.1]; exact hl.1) rfl dX3_init_1 (Nat.le_trans (by decide) C.2.2.2.2.2.1.1) (Nat.le_trans (Nat.le_of_ble_eq_true rfl) C.2.2.2.2.2.1.2.2.2) ?_
  refine W.eq (g2 := F0 m 4 ls []) rfl ?_
  refine lv_aload_n C.1 C.2.1 dX3_init_4 rfl (lv_at hl 0 rfl) ?_
  refine lv_bipush (v := 40) C.1 C.2.1 dX3_init_5 (by decide) ?_
  refine c_newa (N := 40) C hJ 22 (by decide) (by decide) X.2.2.2.1 rfl id rfl ar_22 (by decide) (by decide) (by decide) (by decide) (by decide) dX3_init_7 (fun H hJ => ?_)
  refine lt_ok h (fun a2 e_a2 h => ?_)
  refine lt_ok h (fun S1 e_S1 h => ?_)
  rw [e_S1] at hJ
  rw [e_a2]
  obtain ⟨hk, h⟩ := ckk_ok h
  refine pk3_9 (o := (some a2)) C hin X hJ hk dX3_init_9 (fun H locs hJ => ?_)
  refine lt_ok h (fun S3 e_S3 h => ?_)
  rw [e_S3] at hJ
  refine lv_aload_n C.1 C.2.1 dX3_init_12 rfl (lv_at hl 0 rfl) ?_
  refine lv_iconst (v := 0) C.1 C.2.1 dX3_init_13 (by decide) ?_
  obtain ⟨hk, h⟩ := ckk_ok h
  refine pk3_15 C X hJ hk dX3_init_14 (fun H locs hJ => ?_)
  refine lt_ok h (fun S4 e_S4 h => ?_)
  rw [e_S4] at hJ
  refine lv_aload_n C.1 C.2.1 dX3_init_17 rfl (lv_at hl 0 rfl) ?_
  refine lv_iconst (v := 0) C.1 C.2.1 dX3_init_18 (by decide) ?_
  obtain ⟨hk, h⟩ := ckk_ok h
  refine pk3_19 C X hJ hk dX3_init_19 (fun H locs hJ => ?_)
  refine lt_ok h (fun S5 e_S5 h => ?_)
  rw [e_S5] at hJ
  refine lv_aload_n C.1 C.2.1 dX3_init_22 rfl (lv_at hl 0 rfl) ?_
  refine lv_iconst (v := -1) C.1 C.2.1 dX3_init_23 (by decide) ?_
  obtain ⟨hk, h⟩ := ckk_ok h
  refine pk3_22 C X hJ hk dX3_init_24 (fun H locs hJ => ?_)
  refine lt_ok h (fun S6 e_S6 h => ?_)
  rw [e_S6] at hJ
  refine lv_aload_n C.1 C.2.1 dX3_init_27 rfl (lv_at hl 0 rfl) ?_
  refine lv_bipush (v := 48) C.1 C.2.1 dX3_init_28 (by decide) ?_
  refine c_newa (N := 48) C hJ 22 (by decide) (by decide) X.2.2.2.1 rfl id rfl ar_22 (by decide) (by decide) (by decide) (by decide) (by decide) dX3_init_30 (fun H hJ => ?_)
  refine lt_ok h (fun a8 e_a8 h => ?_)
  refine lt_ok h (fun S7 e_S7 h => ?_)
  rw [e_S7] at hJ
  rw [e_a8]
  obtain ⟨hk, h⟩ := ckk_ok h
  refine pk3_25 (o := (some a8)) C hin X hJ hk dX3_init_32 (fun H locs hJ => ?_)
  refine lt_ok h (fun S10 e_S10 h => ?_)
  rw [e_S10] at hJ
  refine lv_aload_n C.1 C.2.1 dX3_init_35 rfl (lv_at hl 0 rfl) ?_
  refine lv_bipush (v := 8) C.1 C.2.1 dX3_init_36 (by decide) ?_
  refine c_newa (N := 8) C hJ 20 (by decide) (by decide) X.2.1 rfl id rfl ar_20 (by decide) (by decide) (by decide) (by decide) (by decide) dX3_init_38 (fun H hJ => ?_)
  refine lt_ok h (fun a12 e_a12 h => ?_)
  refine lt_ok h (fun S11 e_S11 h => ?_)
  rw [e_S11] at hJ
  rw [e_a12]
  obtain ⟨hk, h⟩ := ckk_ok h
  refine pk3_28 (o := (some a12)) C hin X hJ hk dX3_init_40 (fun H locs hJ => ?_)
  refine lt_ok h (fun S13 e_S13 h => ?_)
  rw [e_S13] at hJ
  cases h
  exact c_retvW C hJ dX3_init_43
end
theorem dX3_byteOf_0 : decode cX3_byteOf 0 = .ok (.lload_n 0, 1) := by decide +kernel
theorem dX3_byteOf_1 : decode cX3_byteOf 1 = .ok (.bipush 8, 2) := by decide +kernel
theorem dX3_byteOf_3 : decode cX3_byteOf 3 = .ok (.iload_n 2, 1) := by decide +kernel
theorem dX3_byteOf_4 : decode cX3_byteOf 4 = .ok (.imul, 1) := by decide +kernel
theorem dX3_byteOf_5 : decode cX3_byteOf 5 = .ok (.lushr, 1) := by decide +kernel
theorem dX3_byteOf_6 : decode cX3_byteOf 6 = .ok (.l2i, 1) := by decide +kernel
theorem dX3_byteOf_7 : decode cX3_byteOf 7 = .ok (.sipush 255, 3) := by decide +kernel
theorem dX3_byteOf_10 : decode cX3_byteOf 10 = .ok (.iand, 1) := by decide +kernel
theorem dX3_byteOf_11 : decode cX3_byteOf 11 = .ok (.ireturn, 1) := by decide +kernel
theorem kd_3_byteOf : Cond.code yX3_byteOf cX3_byteOf 3 (some .int) ∈ lw_g := mt_at 412 (by decide +kernel) rfl
theorem ks_3_byteOf : Cond.static yX3_byteOf ∈ lw_g := mt_at 411 (by decide +kernel) rfl
section
variable {p : Program} {l : Launch} {e : Env} {R : Room} {s : State} {m : MethodId} {args : Array Value} {below : List Frame} {meth : Method} {c : Code} {D : cG} {r : Int32}
noncomputable def fk_3_byteOf (v0 : Int64) (v2 : Int32) : Option (Int32) :=
some ((Int64.toInt32 ((Int64.toUInt64 v0 >>> (Int64.toUInt64 (Int32.toInt64 ((8 : Int32) * v2)) &&& Int64.toUInt64 63)).toInt64)) &&& (255 : Int32))
set_option maxRecDepth 100000 in
set_option maxHeartbeats 4000000 in
theorem tk_3_byteOf (l : Launch) {v0 : Int64} {v2 : Int32} {r : Int32}  (h : fk_3_byteOf v0 v2 = some r) : Met l yX3_byteOf (Cond.code yX3_byteOf cX3_byteOf 3 (some .int) :: lw_g) { frames := 0, cells := 0, slots := 0, locals := 0 } (mPs [.long v0, .int v2]) (kQ (some (.int r))) 0 0 (mNo) := by
  refine Met.ofW (cc := cX3_byteOf) (maxL := 3) (ret := (some .int)) (by decide) rfl ?_
  intro p e s m args below meth c s₁ B hml hv
  obtain rfl := hv
  have C : cY p (headSpec (Cond.code yX3_byteOf cX3_byteOf 3 (some .int) :: lw_g) { frames := 0, cells := 0, slots := 0, locals := 0 }).room s m _ meth c RX3 cX3_byteOf 3 0 0 0 0 (some .int) := ⟨B.exec, B.bytes, hml, findClass_of_methodNamed B.named, fun w hw => atoms_spec (ws := Cond.code yX3_byteOf cX3_byteOf 3 (some .int) :: lw_g) B.pre w (List.mem_cons_of_mem _ hw), ⟨Nat.le_refl _, Nat.le_refl _, Nat.le_refl _, Nat.le_refl _⟩, B.returns, B.notSynchronized⟩
  have hl := lv_entry ([.long v0, .int v2]) (n := 3) (Nat.le_of_ble_eq_true rfl)
  rw [lg_entry_eq]
  generalize (lg_sl ([.long v0, .int v2]) ++ List.replicate (3 - (lg_sl ([.long v0, .int v2])).length) Slot.unset).toArray = ls at hl ⊢
  have hl : lv_has ls 3 [(0, .long v0), (2, .int v2)] := hl
  unfold fk_3_byteOf at h
  refine lv_lload_n C.1 C.2.1 dX3_byteOf_0 rfl (lv_at hl 0 rfl) ?_
  refine lv_bipush (v := 8) C.1 C.2.1 dX3_byteOf_1 (by decide) ?_
  refine lv_iload_n C.1 C.2.1 dX3_byteOf_3 rfl (lv_at hl 1 rfl) ?_
  refine lv_imul C.1 C.2.1 dX3_byteOf_4 ?_
  refine lv_lushr (v := (Int64.toUInt64 v0 >>> (Int64.toUInt64 (Int32.toInt64 ((8 : Int32) * v2)) &&& Int64.toUInt64 63)).toInt64) C.1 C.2.1 dX3_byteOf_5 rfl ?_
  refine lv_l2i (v := Int64.toInt32 ((Int64.toUInt64 v0 >>> (Int64.toUInt64 (Int32.toInt64 ((8 : Int32) * v2)) &&& Int64.toUInt64 63)).toInt64)) C.1 C.2.1 dX3_byteOf_6 rfl ?_
  refine lv_sipush (v := 255) C.1 C.2.1 dX3_byteOf_7 (by decide) ?_
  refine lv_iand C.1 C.2.1 dX3_byteOf_10 ?_
  cases h
  exact c_reti C rfl rfl dX3_byteOf_11
end
theorem dX3_put_0 : decode cX3_put 0 = .ok (.iload_n 3, 1) := by decide +kernel
theorem dX3_put_1 : decode cX3_put 1 = .ok (.iconst 1, 1) := by decide +kernel
theorem dX3_put_2 : decode cX3_put 2 = .ok (.if_icmp .lt 20, 3) := by decide +kernel
theorem dX3_put_5 : decode cX3_put 5 = .ok (.iload_n 3, 1) := by decide +kernel
theorem dX3_put_6 : decode cX3_put 6 = .ok (.bipush 8, 2) := by decide +kernel
theorem dX3_put_8 : decode cX3_put 8 = .ok (.if_icmp .gt 14, 3) := by decide +kernel
theorem dX3_put_11 : decode cX3_put 11 = .ok (.aload_n 0, 1) := by decide +kernel
theorem dX3_put_12 : decode cX3_put 12 = .ok (.getfield 15, 3) := by decide +kernel
theorem dX3_put_15 : decode cX3_put 15 = .ok (.iload_n 3, 1) := by decide +kernel
theorem dX3_put_16 : decode cX3_put 16 = .ok (.iadd, 1) := by decide +kernel
theorem dX3_put_17 : decode cX3_put 17 = .ok (.bipush 40, 2) := by decide +kernel
theorem dX3_put_19 : decode cX3_put 19 = .ok (.if_icmp .le 5, 3) := by decide +kernel
theorem dX3_put_22 : decode cX3_put 22 = .ok (.iconst 0, 1) := by decide +kernel
theorem dX3_put_23 : decode cX3_put 23 = .ok (.ireturn, 1) := by decide +kernel
theorem dX3_put_24 : decode cX3_put 24 = .ok (.iconst 0, 1) := by decide +kernel
theorem dX3_put_25 : decode cX3_put 25 = .ok (.istore 4, 2) := by decide +kernel
theorem dX3_put_27 : decode cX3_put 27 = .ok (.iload 4, 2) := by decide +kernel
theorem dX3_put_29 : decode cX3_put 29 = .ok (.iload_n 3, 1) := by decide +kernel
theorem dX3_put_30 : decode cX3_put 30 = .ok (.if_icmp .ge 33, 3) := by decide +kernel
theorem dX3_put_33 : decode cX3_put 33 = .ok (.lload_n 1, 1) := by decide +kernel
theorem dX3_put_34 : decode cX3_put 34 = .ok (.iload 4, 2) := by decide +kernel
theorem dX3_put_36 : decode cX3_put 36 = .ok (.invokestatic 32, 3) := by decide +kernel
theorem dX3_put_39 : decode cX3_put 39 = .ok (.istore 5, 2) := by decide +kernel
theorem dX3_put_41 : decode cX3_put 41 = .ok (.iload 5, 2) := by decide +kernel
theorem dX3_put_43 : decode cX3_put 43 = .ok (.bipush 32, 2) := by decide +kernel
theorem dX3_put_45 : decode cX3_put 45 = .ok (.if_icmp .lt 10, 3) := by decide +kernel
theorem dX3_put_48 : decode cX3_put 48 = .ok (.iload 5, 2) := by decide +kernel
theorem dX3_put_50 : decode cX3_put 50 = .ok (.bipush 126, 2) := by decide +kernel
theorem dX3_put_52 : decode cX3_put 52 = .ok (.if_icmp .le 5, 3) := by decide +kernel
theorem dX3_put_55 : decode cX3_put 55 = .ok (.iconst 0, 1) := by decide +kernel
theorem dX3_put_56 : decode cX3_put 56 = .ok (.ireturn, 1) := by decide +kernel
theorem dX3_put_57 : decode cX3_put 57 = .ok (.iinc 4 1, 3) := by decide +kernel
theorem dX3_put_60 : decode cX3_put 60 = .ok (.goto (-33), 3) := by decide +kernel
theorem dX3_put_63 : decode cX3_put 63 = .ok (.iload_n 3, 1) := by decide +kernel
theorem dX3_put_64 : decode cX3_put 64 = .ok (.iconst 1, 1) := by decide +kernel
theorem dX3_put_65 : decode cX3_put 65 = .ok (.isub, 1) := by decide +kernel
theorem dX3_put_66 : decode cX3_put 66 = .ok (.istore 4, 2) := by decide +kernel
theorem dX3_put_68 : decode cX3_put 68 = .ok (.iload 4, 2) := by decide +kernel
theorem dX3_put_70 : decode cX3_put 70 = .ok (.ifCond .lt 35, 3) := by decide +kernel
theorem dX3_put_73 : decode cX3_put 73 = .ok (.aload_n 0, 1) := by decide +kernel
theorem dX3_put_74 : decode cX3_put 74 = .ok (.getfield 9, 3) := by decide +kernel
theorem dX3_put_77 : decode cX3_put 77 = .ok (.aload_n 0, 1) := by decide +kernel
theorem dX3_put_78 : decode cX3_put 78 = .ok (.getfield 15, 3) := by decide +kernel
theorem dX3_put_81 : decode cX3_put 81 = .ok (.lload_n 1, 1) := by decide +kernel
theorem dX3_put_82 : decode cX3_put 82 = .ok (.iload 4, 2) := by decide +kernel
theorem dX3_put_84 : decode cX3_put 84 = .ok (.invokestatic 32, 3) := by decide +kernel
theorem dX3_put_87 : decode cX3_put 87 = .ok (.i2c, 1) := by decide +kernel
theorem dX3_put_88 : decode cX3_put 88 = .ok (.castore, 1) := by decide +kernel
theorem dX3_put_89 : decode cX3_put 89 = .ok (.aload_n 0, 1) := by decide +kernel
theorem dX3_put_90 : decode cX3_put 90 = .ok (.dup, 1) := by decide +kernel
theorem dX3_put_91 : decode cX3_put 91 = .ok (.getfield 15, 3) := by decide +kernel
theorem dX3_put_94 : decode cX3_put 94 = .ok (.iconst 1, 1) := by decide +kernel
theorem dX3_put_95 : decode cX3_put 95 = .ok (.iadd, 1) := by decide +kernel
theorem dX3_put_96 : decode cX3_put 96 = .ok (.putfield 15, 3) := by decide +kernel
theorem dX3_put_99 : decode cX3_put 99 = .ok (.iinc 4 (-1), 3) := by decide +kernel
theorem dX3_put_102 : decode cX3_put 102 = .ok (.goto (-34), 3) := by decide +kernel
theorem dX3_put_105 : decode cX3_put 105 = .ok (.iconst 1, 1) := by decide +kernel
theorem dX3_put_106 : decode cX3_put 106 = .ok (.ireturn, 1) := by decide +kernel
theorem kd_3_put : Cond.code yX3_put cX3_put 6 (some .boolean) ∈ lw_g := mt_at 409 (by decide +kernel) rfl
theorem ki_3_put : Cond.instanceMethod yX3_put ∈ lw_g := mt_at 407 (by decide +kernel) rfl
theorem kl_3_put : Cond.selects (kRn 3) yX3_put yX3_put ∈ lw_g := mt_at 408 (by decide +kernel) rfl
theorem cw3_32 : cCw RX3 32 yX3_byteOf cX3_byteOf 3 (some .int) 2 := ⟨kd_3_byteOf, mt_at 410 (by decide +kernel) rfl, mt_at 2 (by decide +kernel) rfl, by decide +kernel⟩
section
variable {p : Program} {l : Launch} {e : Env} {R : Room} {s : State} {m : MethodId} {args : Array Value} {below : List Frame} {meth : Method} {c : Code} {H : Heap} {locs : List Loc} {cells slots : Nat} {Q : State → Prop}
variable {D : cG} {S S0 : cSt} {cc : ByteArray} {nL : Nat} {pc : Nat} {ls : Array Slot} {rest : List Value} {H0 : Heap} {nF nR nC nS : Nat} {ret : Option FieldType} {a : Nat}
theorem gk3_9 (C : cY p R s m args meth c RX3 cc nL nF nC nS nR ret) (X : cX D s) (hW : cW D S H) (hk : kK S a = 4) {x : Nat} (hx : kR S a 0 = some x) (hdg : decode cc pc = .ok (.getfield 9, 3)) (kk : W p l e R s m args below meth c H locs cells slots Q (F0 m (pc + 3) ls (.ref x :: rest))) : W p l e R s m args below meth c H locs cells slots Q (F0 m pc ls (.ref a :: rest)) := c_get C X hW 3 (by decide) ly_3 hk 0 (by decide) (mt_at 46 (by decide +kernel) (by decide +kernel)) hdg (by rw [cV_R (by decide +kernel) hx]; exact kk)
theorem gk3_15 (C : cY p R s m args meth c RX3 cc nL nF nC nS nR ret) (X : cX D s) (hW : cW D S H) (hk : kK S a = 4) (hdg : decode cc pc = .ok (.getfield 15, 3)) (kk : W p l e R s m args below meth c H locs cells slots Q (F0 m (pc + 3) ls (.int (kF S a 1) :: rest))) : W p l e R s m args below meth c H locs cells slots Q (F0 m pc ls (.ref a :: rest)) := c_get C X hW 3 (by decide) ly_3 hk 1 (by decide) (mt_at 48 (by decide +kernel) (by decide +kernel)) hdg (by rw [cV_I (by decide +kernel)]; exact kk)
end
section
variable {p : Program} {l : Launch} {e : Env} {R : Room} {s : State} {m : MethodId} {args : Array Value} {below : List Frame} {meth : Method} {c : Code} {D : cG} {S0 S9 : cSt} {r : Int32}
noncomputable def fk_3_put_22 (S : cSt) : Option (Int32 × cSt) :=
ckz (0 : Int32) (some ((0 : Int32), S))
set_option maxRecDepth 100000 in
set_option maxHeartbeats 4000000 in
theorem wk_3_put_22 (C : cY p R s m args meth c RX3 cX3_put 6 1 0 0 22 (some .boolean)) (X : cX D s) : ∀ {S : cSt} {H : Heap} {locs : List Loc} {ls : Array Slot}, fk_3_put_22 S = some (r, S9) → cJ D S0 s.heap S H locs → lv_has ls 6 [] → W p l e R s m args below meth c H locs 0 0 (MQ below (kW (some (.int r)) D S0 S9) args s 0 0 (cA S0)) (F0 m 22 ls []) := by
  intro S H locs ls h hJ hl
  unfold fk_3_put_22 at h
  refine lv_iconst (v := 0) C.1 C.2.1 dX3_put_22 (by decide) ?_
  obtain ⟨hzo, h⟩ := ckz_ok h
  cases h
  exact c_retnW C (by rcases hzo with h9 | h9 <;> (rw [h9]; rfl)) hJ dX3_put_23
noncomputable def fk_3_put_68 : Nat → cSt → Nat → Int64 → Int32 → Option (Int32 × cSt)
  | 0, _, _, _, _ => none
  | n + 1, S, v0, v1, v4 =>
    if v4 < 0 then (
    ckz (1 : Int32) (some ((1 : Int32), S)))
    else (
    ckk S v0 4 (bd (kR S v0 0) fun a2 =>
    ckk S v0 4 (
    bd (fk_3_byteOf v1 v4) fun r3 =>
    ckk S a2 22 (ck (kF S v0 1) (kL S a2) (ckp (vp_nar .char ((Int32.toUInt32 r3 % 65536).toInt32) = ((Int32.toUInt32 r3 % 65536).toInt32)) (lt (cWi S a2 (Int32.toNatClampNeg (kF S v0 1)) ((Int32.toUInt32 r3 % 65536).toInt32)) fun S4 =>
    ckk S4 v0 4 (
    ckk S4 v0 4 (lt (cPi S4 v0 1 ((kF S4 v0 1) + (1 : Int32))) fun S5 =>
    lt (v4 + (-1 : Int32)) fun x6 =>
    fk_3_put_68 n S5 v0 v1 x6))))))))
set_option maxRecDepth 100000 in
set_option maxHeartbeats 4000000 in
theorem wk_3_put_68 (C : cY p R s m args meth c RX3 cX3_put 6 1 0 0 22 (some .boolean)) (X : cX D s) : ∀ (n : Nat), ∀ {S : cSt} {v0 : Nat} {v1 : Int64} {v4 : Int32} {H : Heap} {locs : List Loc} {ls : Array Slot}, fk_3_put_68 n S v0 v1 v4 = some (r, S9) → cJ D S0 s.heap S H locs → lv_has ls 6 [(0, .ref v0), (1, .long v1), (4, .int v4)] → W p l e R s m args below meth c H locs 0 0 (MQ below (kW (some (.int r)) D S0 S9) args s 0 0 (cA S0)) (F0 m 68 ls []) := by
  intro n
  induction n with
  | zero =>
    intro S v0 v1 v4 H locs ls h hJ hl
    exact absurd (show (none : Option (Int32 × cSt)) = _ from h) (fun q => by cases q)
  | succ n ih =>
    intro S v0 v1 v4 H locs ls h hJ hl
    rw [fk_3_put_68] at h
    refine lv_iload C.1 C.2.1 dX3_put_68 (lv_at hl 2 rfl) ?_
    refine lv_if_lt (tgt := 105) C.1 C.2.1 dX3_put_70 (by decide) (fun c1 => ?_) (fun c1 => ?_)
    · have h := if_t h c1
      refine lv_iconst (v := 1) C.1 C.2.1 dX3_put_105 (by decide) ?_
      obtain ⟨hzo, h⟩ := ckz_ok h
      cases h
      exact c_retnW C (by rcases hzo with h9 | h9 <;> (rw [h9]; rfl)) hJ dX3_put_106
    · have h := if_f h c1
      refine lv_aload_n C.1 C.2.1 dX3_put_73 rfl (lv_at hl 0 rfl) ?_
      obtain ⟨hk, h⟩ := ckk_ok h
      obtain ⟨a2, h_a2, h⟩ := bd_ok h
      refine gk3_9 C X hJ.1 hk h_a2 dX3_put_74 ?_
      refine lv_aload_n C.1 C.2.1 dX3_put_77 rfl (lv_at hl 0 rfl) ?_
      obtain ⟨hk, h⟩ := ckk_ok h
      refine gk3_15 C X hJ.1 hk dX3_put_78 ?_
      refine lv_lload_n C.1 C.2.1 dX3_put_81 rfl (lv_at hl 1 rfl) ?_
      refine lv_iload C.1 C.2.1 dX3_put_82 (lv_at hl 2 rfl) ?_
      obtain ⟨r3, h_r3, h⟩ := bd_ok h
      refine c_callS (rest := [.int (kF S v0 1), .ref a2]) C hl.1 [.long v1, .int v4] (tk_3_byteOf l h_r3) cw3_32 ks_3_byteOf rfl ⟨by decide, by decide⟩ ⟨(by decide), (by decide)⟩ rfl (Nat.le_of_ble_eq_true rfl) dX3_put_84 ?_
      refine W.eq (g2 := F0 m 87 ls [.int r3, .int (kF S v0 1), .ref a2]) rfl ?_
      refine lv_i2c (v := (Int32.toUInt32 r3 % 65536).toInt32) C.1 C.2.1 dX3_put_87 rfl ?_
      obtain ⟨hk, h⟩ := ckk_ok h
      obtain ⟨hin2, h⟩ := ck_ok h
      obtain ⟨hnr, h⟩ := ckp_ok h
      refine c_cast C X hJ hk hnr hin2 dX3_put_88 (fun H locs hJ => ?_)
      refine lt_ok h (fun S4 e_S4 h => ?_)
      rw [e_S4] at hJ
      refine lv_aload_n C.1 C.2.1 dX3_put_89 rfl (lv_at hl 0 rfl) ?_
      refine lv_dup C.1 C.2.1 dX3_put_90 rfl ?_
      obtain ⟨hk, h⟩ := ckk_ok h
      refine gk3_15 C X hJ.1 hk dX3_put_91 ?_
      refine lv_iconst (v := 1) C.1 C.2.1 dX3_put_94 (by decide) ?_
      refine lv_iadd C.1 C.2.1 dX3_put_95 ?_
      obtain ⟨hk, h⟩ := ckk_ok h
      refine pk3_15 C X hJ hk dX3_put_96 (fun H locs hJ => ?_)
      refine lt_ok h (fun S5 e_S5 h => ?_)
      rw [e_S5] at hJ
      refine lt_ok h (fun x6 e_x6 h => ?_)
      refine lv_iinc (v := x6) (lv' := [(4, .int x6), (0, .ref v0), (1, .long v1)]) C.1 C.2.1 dX3_put_99 hl (k := 2) rfl (by rw [← e_x6]; rfl) (by decide) rfl (fun ls hl => ?_)
      refine lv_goto (tgt := 68) C.1 C.2.1 dX3_put_102 (by decide) ?_
      exact ih h hJ (lv_sub hl [1, 2, 0] rfl)
noncomputable def fk_3_put_55 (S : cSt) : Option (Int32 × cSt) :=
ckz (0 : Int32) (some ((0 : Int32), S))
set_option maxRecDepth 100000 in
set_option maxHeartbeats 4000000 in
theorem wk_3_put_55 (C : cY p R s m args meth c RX3 cX3_put 6 1 0 0 22 (some .boolean)) (X : cX D s) : ∀ {S : cSt} {H : Heap} {locs : List Loc} {ls : Array Slot}, fk_3_put_55 S = some (r, S9) → cJ D S0 s.heap S H locs → lv_has ls 6 [] → W p l e R s m args below meth c H locs 0 0 (MQ below (kW (some (.int r)) D S0 S9) args s 0 0 (cA S0)) (F0 m 55 ls []) := by
  intro S H locs ls h hJ hl
  unfold fk_3_put_55 at h
  refine lv_iconst (v := 0) C.1 C.2.1 dX3_put_55 (by decide) ?_
  obtain ⟨hzo, h⟩ := ckz_ok h
  cases h
  exact c_retnW C (by rcases hzo with h9 | h9 <;> (rw [h9]; rfl)) hJ dX3_put_56
noncomputable def fk_3_put_27 : Nat → cSt → Nat → Int64 → Int32 → Int32 → Option (Int32 × cSt)
  | 0, _, _, _, _, _ => none
  | n + 1, S, v0, v1, v3, v4 =>
    if v3 ≤ v4 then (
    lt (v3 - (1 : Int32)) fun x2 =>
    fk_3_put_68 mFU S v0 v1 x2)
    else (
    bd (fk_3_byteOf v1 v4) fun r3 =>
    if r3 < (32 : Int32) then (
    fk_3_put_55 S)
    else (
    if r3 ≤ (126 : Int32) then (
    lt (v4 + (1 : Int32)) fun x6 =>
    fk_3_put_27 n S v0 v1 v3 x6)
    else (
    fk_3_put_55 S)))
set_option maxRecDepth 100000 in
set_option maxHeartbeats 4000000 in
theorem wk_3_put_27 (C : cY p R s m args meth c RX3 cX3_put 6 1 0 0 22 (some .boolean)) (X : cX D s) : ∀ (n : Nat), ∀ {S : cSt} {v0 : Nat} {v1 : Int64} {v3 : Int32} {v4 : Int32} {H : Heap} {locs : List Loc} {ls : Array Slot}, fk_3_put_27 n S v0 v1 v3 v4 = some (r, S9) → cJ D S0 s.heap S H locs → lv_has ls 6 [(0, .ref v0), (1, .long v1), (3, .int v3), (4, .int v4)] → W p l e R s m args below meth c H locs 0 0 (MQ below (kW (some (.int r)) D S0 S9) args s 0 0 (cA S0)) (F0 m 27 ls []) := by
  intro n
  induction n with
  | zero =>
    intro S v0 v1 v3 v4 H locs ls h hJ hl
    exact absurd (show (none : Option (Int32 × cSt)) = _ from h) (fun q => by cases q)
  | succ n ih =>
    intro S v0 v1 v3 v4 H locs ls h hJ hl
    rw [fk_3_put_27] at h
    refine lv_iload C.1 C.2.1 dX3_put_27 (lv_at hl 3 rfl) ?_
    refine lv_iload_n C.1 C.2.1 dX3_put_29 rfl (lv_at hl 2 rfl) ?_
    refine lv_icmp_ge (tgt := 63) C.1 C.2.1 dX3_put_30 (by decide) (fun c1 => ?_) (fun c1 => ?_)
    · have h := if_t h c1
      refine lv_iload_n C.1 C.2.1 dX3_put_63 rfl (lv_at hl 2 rfl) ?_
      refine lv_iconst (v := 1) C.1 C.2.1 dX3_put_64 (by decide) ?_
      refine lv_isub C.1 C.2.1 dX3_put_65 ?_
      refine lt_ok h (fun x2 e_x2 h => ?_)
      refine lv_nm e_x2 ?_
      refine lv_istore (lv' := [(4, .int x2), (0, .ref v0), (1, .long v1), (3, .int v3)]) C.1 C.2.1 dX3_put_66 hl (by decide) rfl (fun ls hl => ?_)
      exact wk_3_put_68 C X mFU h hJ (lv_sub hl [1, 2, 0] rfl)
    · have h := if_f h c1
      refine lv_lload_n C.1 C.2.1 dX3_put_33 rfl (lv_at hl 1 rfl) ?_
      refine lv_iload C.1 C.2.1 dX3_put_34 (lv_at hl 3 rfl) ?_
      obtain ⟨r3, h_r3, h⟩ := bd_ok h
      refine c_callS (rest := []) C hl.1 [.long v1, .int v4] (tk_3_byteOf l h_r3) cw3_32 ks_3_byteOf rfl ⟨by decide, by decide⟩ ⟨(by decide), (by decide)⟩ rfl (Nat.le_of_ble_eq_true rfl) dX3_put_36 ?_
      refine W.eq (g2 := F0 m 39 ls [.int r3]) rfl ?_
      refine lv_istore (lv' := [(5, .int r3), (0, .ref v0), (1, .long v1), (3, .int v3), (4, .int v4)]) C.1 C.2.1 dX3_put_39 hl (by decide) rfl (fun ls hl => ?_)
      refine lv_iload C.1 C.2.1 dX3_put_41 (lv_at hl 0 rfl) ?_
      refine lv_bipush (v := 32) C.1 C.2.1 dX3_put_43 (by decide) ?_
      refine lv_icmp_lt (tgt := 55) C.1 C.2.1 dX3_put_45 (by decide) (fun c4 => ?_) (fun c4 => ?_)
      · have h := if_t h c4
        exact wk_3_put_55 C X h hJ (lv_sub hl [] rfl)
      · have h := if_f h c4
        refine lv_iload C.1 C.2.1 dX3_put_48 (lv_at hl 0 rfl) ?_
        refine lv_bipush (v := 126) C.1 C.2.1 dX3_put_50 (by decide) ?_
        refine lv_icmp_le (tgt := 57) C.1 C.2.1 dX3_put_52 (by decide) (fun c5 => ?_) (fun c5 => ?_)
        · have h := if_t h c5
          refine lt_ok h (fun x6 e_x6 h => ?_)
          refine lv_iinc (v := x6) (lv' := [(4, .int x6), (5, .int r3), (0, .ref v0), (1, .long v1), (3, .int v3)]) C.1 C.2.1 dX3_put_57 hl (k := 4) rfl (by rw [← e_x6]; rfl) (by decide) rfl (fun ls hl => ?_)
          refine lv_goto (tgt := 27) C.1 C.2.1 dX3_put_60 (by decide) ?_
          exact ih h hJ (lv_sub hl [2, 3, 4, 0] rfl)
        · have h := if_f h c5
          exact wk_3_put_55 C X h hJ (lv_sub hl [] rfl)
noncomputable def fk_3_put (S : cSt) (v0 : Nat) (v1 : Int64) (v3 : Int32) : Option (Int32 × cSt) :=
if v3 < (1 : Int32) then (
fk_3_put_22 S)
else (
if (8 : Int32) < v3 then (
fk_3_put_22 S)
else (
ckk S v0 4 (
if ((kF S v0 1) + v3) ≤ (40 : Int32) then (
fk_3_put_27 mFU S v0 v1 v3 (0 : Int32))
else (
fk_3_put_22 S))))
set_option maxRecDepth 100000 in
set_option maxHeartbeats 4000000 in
theorem tk_3_put (l : Launch) {D : cG} {S : cSt} {v0 : Nat} {v1 : Int64} {v3 : Int32} {r : Int32} {S9 : cSt} (h : fk_3_put S v0 v1 v3 = some (r, S9)) : Met l yX3_put (Cond.code yX3_put cX3_put 6 (some .boolean) :: lw_g) { frames := 1, cells := 0, slots := 0, locals := 22 } (kPi [.ref v0, .long v1, .int v3] D S) (kW (some (.int r)) D S S9) 0 0 (cA S) := by
  refine Met.ofW (cc := cX3_put) (maxL := 6) (ret := (some .boolean)) (by decide) rfl ?_
  intro p e s m args below meth c s₁ B hml hv
  obtain ⟨rfl, hW, X⟩ := hv
  have C : cY p (headSpec (Cond.code yX3_put cX3_put 6 (some .boolean) :: lw_g) { frames := 1, cells := 0, slots := 0, locals := 22 }).room s m _ meth c RX3 cX3_put 6 1 0 0 22 (some .boolean) := ⟨B.exec, B.bytes, hml, findClass_of_methodNamed B.named, fun w hw => atoms_spec (ws := Cond.code yX3_put cX3_put 6 (some .boolean) :: lw_g) B.pre w (List.mem_cons_of_mem _ hw), ⟨Nat.le_refl _, Nat.le_refl _, Nat.le_refl _, Nat.le_refl _⟩, B.returns, B.notSynchronized⟩
  have hl := lv_entry ([.ref v0, .long v1, .int v3]) (n := 6) (Nat.le_of_ble_eq_true rfl)
  rw [lg_entry_eq]
  generalize (lg_sl ([.ref v0, .long v1, .int v3]) ++ List.replicate (6 - (lg_sl ([.ref v0, .long v1, .int v3])).length) Slot.unset).toArray = ls at hl ⊢
  have hl : lv_has ls 6 [(0, .ref v0), (1, .long v1), (3, .int v3)] := hl
  have hJ : cJ D S s.heap S s.heap [] := cJ.rf hW
  unfold fk_3_put at h
  refine lv_iload_n C.1 C.2.1 dX3_put_0 rfl (lv_at hl 2 rfl) ?_
  refine lv_iconst (v := 1) C.1 C.2.1 dX3_put_1 (by decide) ?_
  refine lv_icmp_lt (tgt := 22) C.1 C.2.1 dX3_put_2 (by decide) (fun c1 => ?_) (fun c1 => ?_)
  · have h := if_t h c1
    exact wk_3_put_22 C X h hJ (lv_sub hl [] rfl)
  · have h := if_f h c1
    refine lv_iload_n C.1 C.2.1 dX3_put_5 rfl (lv_at hl 2 rfl) ?_
    refine lv_bipush (v := 8) C.1 C.2.1 dX3_put_6 (by decide) ?_
    refine lv_icmp_gt (tgt := 22) C.1 C.2.1 dX3_put_8 (by decide) (fun c2 => ?_) (fun c2 => ?_)
    · have h := if_t h c2
      exact wk_3_put_22 C X h hJ (lv_sub hl [] rfl)
    · have h := if_f h c2
      refine lv_aload_n C.1 C.2.1 dX3_put_11 rfl (lv_at hl 0 rfl) ?_
      obtain ⟨hk, h⟩ := ckk_ok h
      refine gk3_15 C X hJ.1 hk dX3_put_12 ?_
      refine lv_iload_n C.1 C.2.1 dX3_put_15 rfl (lv_at hl 2 rfl) ?_
      refine lv_iadd C.1 C.2.1 dX3_put_16 ?_
      refine lv_bipush (v := 40) C.1 C.2.1 dX3_put_17 (by decide) ?_
      refine lv_icmp_le (tgt := 24) C.1 C.2.1 dX3_put_19 (by decide) (fun c3 => ?_) (fun c3 => ?_)
      · have h := if_t h c3
        refine lv_iconst (v := 0) C.1 C.2.1 dX3_put_24 (by decide) ?_
        refine lv_istore (lv' := [(4, .int (0 : Int32)), (0, .ref v0), (1, .long v1), (3, .int v3)]) C.1 C.2.1 dX3_put_25 hl (by decide) rfl (fun ls hl => ?_)
        exact wk_3_put_27 C X mFU h hJ (lv_sub hl [1, 2, 3, 0] rfl)
      · have h := if_f h c3
        exact wk_3_put_22 C X h hJ (lv_sub hl [] rfl)
end
theorem dX3_takeTape_0 : decode cX3_takeTape 0 = .ok (.aload_n 0, 1) := by decide +kernel
theorem dX3_takeTape_1 : decode cX3_takeTape 1 = .ok (.getfield 15, 3) := by decide +kernel
theorem dX3_takeTape_4 : decode cX3_takeTape 4 = .ok (.istore_n 1, 1) := by decide +kernel
theorem dX3_takeTape_5 : decode cX3_takeTape 5 = .ok (.aload_n 0, 1) := by decide +kernel
theorem dX3_takeTape_6 : decode cX3_takeTape 6 = .ok (.iconst 0, 1) := by decide +kernel
theorem dX3_takeTape_7 : decode cX3_takeTape 7 = .ok (.putfield 15, 3) := by decide +kernel
theorem dX3_takeTape_10 : decode cX3_takeTape 10 = .ok (.iload_n 1, 1) := by decide +kernel
theorem dX3_takeTape_11 : decode cX3_takeTape 11 = .ok (.ireturn, 1) := by decide +kernel
theorem kd_3_takeTape : Cond.code yX3_takeTape cX3_takeTape 2 (some .int) ∈ lw_g := mt_at 1179 (by decide +kernel) rfl
theorem ki_3_takeTape : Cond.instanceMethod yX3_takeTape ∈ lw_g := mt_at 1177 (by decide +kernel) rfl
theorem kl_3_takeTape : Cond.selects (kRn 3) yX3_takeTape yX3_takeTape ∈ lw_g := mt_at 1178 (by decide +kernel) rfl
section
variable {p : Program} {l : Launch} {e : Env} {R : Room} {s : State} {m : MethodId} {args : Array Value} {below : List Frame} {meth : Method} {c : Code} {D : cG} {S0 S9 : cSt} {r : Int32}
noncomputable def fk_3_takeTape (S : cSt) (v0 : Nat) : Option (Int32 × cSt) :=
ckk S v0 4 (
lt (kF S v0 1) fun x1 =>
ckk S v0 4 (lt (cPi S v0 1 (0 : Int32)) fun S2 =>
some (x1, S2)))
set_option maxRecDepth 100000 in
set_option maxHeartbeats 4000000 in
theorem tk_3_takeTape (l : Launch) {D : cG} {S : cSt} {v0 : Nat} {r : Int32} {S9 : cSt} (h : fk_3_takeTape S v0 = some (r, S9)) : Met l yX3_takeTape (Cond.code yX3_takeTape cX3_takeTape 2 (some .int) :: lw_g) { frames := 0, cells := 0, slots := 0, locals := 0 } (kPi [.ref v0] D S) (kW (some (.int r)) D S S9) 0 0 (cA S) := by
  refine Met.ofW (cc := cX3_takeTape) (maxL := 2) (ret := (some .int)) (by decide) rfl ?_
  intro p e s m args below meth c s₁ B hml hv
  obtain ⟨rfl, hW, X⟩ := hv
  have C : cY p (headSpec (Cond.code yX3_takeTape cX3_takeTape 2 (some .int) :: lw_g) { frames := 0, cells := 0, slots := 0, locals := 0 }).room s m _ meth c RX3 cX3_takeTape 2 0 0 0 0 (some .int) := ⟨B.exec, B.bytes, hml, findClass_of_methodNamed B.named, fun w hw => atoms_spec (ws := Cond.code yX3_takeTape cX3_takeTape 2 (some .int) :: lw_g) B.pre w (List.mem_cons_of_mem _ hw), ⟨Nat.le_refl _, Nat.le_refl _, Nat.le_refl _, Nat.le_refl _⟩, B.returns, B.notSynchronized⟩
  have hl := lv_entry ([.ref v0]) (n := 2) (Nat.le_of_ble_eq_true rfl)
  rw [lg_entry_eq]
  generalize (lg_sl ([.ref v0]) ++ List.replicate (2 - (lg_sl ([.ref v0])).length) Slot.unset).toArray = ls at hl ⊢
  have hl : lv_has ls 2 [(0, .ref v0)] := hl
  have hJ : cJ D S s.heap S s.heap [] := cJ.rf hW
  unfold fk_3_takeTape at h
  refine lv_aload_n C.1 C.2.1 dX3_takeTape_0 rfl (lv_at hl 0 rfl) ?_
  obtain ⟨hk, h⟩ := ckk_ok h
  refine gk3_15 C X hJ.1 hk dX3_takeTape_1 ?_
  refine lt_ok h (fun x1 e_x1 h => ?_)
  refine lv_nm e_x1 ?_
  refine lv_istore_n (lv' := [(1, .int x1), (0, .ref v0)]) C.1 C.2.1 dX3_takeTape_4 rfl hl (by decide) rfl (fun ls hl => ?_)
  refine lv_aload_n C.1 C.2.1 dX3_takeTape_5 rfl (lv_at hl 1 rfl) ?_
  refine lv_iconst (v := 0) C.1 C.2.1 dX3_takeTape_6 (by decide) ?_
  obtain ⟨hk, h⟩ := ckk_ok h
  refine pk3_15 C X hJ hk dX3_takeTape_7 (fun H locs hJ => ?_)
  refine lt_ok h (fun S2 e_S2 h => ?_)
  rw [e_S2] at hJ
  refine lv_iload_n C.1 C.2.1 dX3_takeTape_10 rfl (lv_at hl 0 rfl) ?_
  cases h
  exact c_retiW C hJ dX3_takeTape_11
end
theorem dX3_enter_0 : decode cX3_enter 0 = .ok (.aload_n 0, 1) := by decide +kernel
theorem dX3_enter_1 : decode cX3_enter 1 = .ok (.getfield 19, 3) := by decide +kernel
theorem dX3_enter_4 : decode cX3_enter 4 = .ok (.istore_n 2, 1) := by decide +kernel
theorem dX3_enter_5 : decode cX3_enter 5 = .ok (.aload_n 0, 1) := by decide +kernel
theorem dX3_enter_6 : decode cX3_enter 6 = .ok (.getfield 9, 3) := by decide +kernel
theorem dX3_enter_9 : decode cX3_enter 9 = .ok (.iconst 0, 1) := by decide +kernel
theorem dX3_enter_10 : decode cX3_enter 10 = .ok (.aload_n 0, 1) := by decide +kernel
theorem dX3_enter_11 : decode cX3_enter 11 = .ok (.getfield 25, 3) := by decide +kernel
theorem dX3_enter_14 : decode cX3_enter 14 = .ok (.iload_n 2, 1) := by decide +kernel
theorem dX3_enter_15 : decode cX3_enter 15 = .ok (.bipush 6, 2) := by decide +kernel
theorem dX3_enter_17 : decode cX3_enter 17 = .ok (.imul, 1) := by decide +kernel
theorem dX3_enter_18 : decode cX3_enter 18 = .ok (.iload_n 1, 1) := by decide +kernel
theorem dX3_enter_19 : decode cX3_enter 19 = .ok (.invokestatic 50, 3) := by decide +kernel
theorem dX3_enter_22 : decode cX3_enter 22 = .ok (.aload_n 0, 1) := by decide +kernel
theorem dX3_enter_23 : decode cX3_enter 23 = .ok (.getfield 28, 3) := by decide +kernel
theorem dX3_enter_26 : decode cX3_enter 26 = .ok (.iload_n 2, 1) := by decide +kernel
theorem dX3_enter_27 : decode cX3_enter 27 = .ok (.iload_n 1, 1) := by decide +kernel
theorem dX3_enter_28 : decode cX3_enter 28 = .ok (.iastore, 1) := by decide +kernel
theorem dX3_enter_29 : decode cX3_enter 29 = .ok (.aload_n 0, 1) := by decide +kernel
theorem dX3_enter_30 : decode cX3_enter 30 = .ok (.dup, 1) := by decide +kernel
theorem dX3_enter_31 : decode cX3_enter 31 = .ok (.getfield 19, 3) := by decide +kernel
theorem dX3_enter_34 : decode cX3_enter 34 = .ok (.iconst 1, 1) := by decide +kernel
theorem dX3_enter_35 : decode cX3_enter 35 = .ok (.iadd, 1) := by decide +kernel
theorem dX3_enter_36 : decode cX3_enter 36 = .ok (.putfield 19, 3) := by decide +kernel
theorem dX3_enter_39 : decode cX3_enter 39 = .ok (.iload_n 2, 1) := by decide +kernel
theorem dX3_enter_40 : decode cX3_enter 40 = .ok (.ireturn, 1) := by decide +kernel
theorem kd_3_enter : Cond.code yX3_enter cX3_enter 3 (some .int) ∈ lw_g := mt_at 1640 (by decide +kernel) rfl
theorem ki_3_enter : Cond.instanceMethod yX3_enter ∈ lw_g := mt_at 1638 (by decide +kernel) rfl
theorem kl_3_enter : Cond.selects (kRn 3) yX3_enter yX3_enter ∈ lw_g := mt_at 1639 (by decide +kernel) rfl
theorem mm3_50 : Cond.methodLink RX3 50 arraycopyName ∈ lw_g := mt_at 1641 (by decide +kernel) rfl
section
variable {p : Program} {l : Launch} {e : Env} {R : Room} {s : State} {m : MethodId} {args : Array Value} {below : List Frame} {meth : Method} {c : Code} {H : Heap} {locs : List Loc} {cells slots : Nat} {Q : State → Prop}
variable {D : cG} {S S0 : cSt} {cc : ByteArray} {nL : Nat} {pc : Nat} {ls : Array Slot} {rest : List Value} {H0 : Heap} {nF nR nC nS : Nat} {ret : Option FieldType} {a : Nat}
theorem gk3_19 (C : cY p R s m args meth c RX3 cc nL nF nC nS nR ret) (X : cX D s) (hW : cW D S H) (hk : kK S a = 4) (hdg : decode cc pc = .ok (.getfield 19, 3)) (kk : W p l e R s m args below meth c H locs cells slots Q (F0 m (pc + 3) ls (.int (kF S a 2) :: rest))) : W p l e R s m args below meth c H locs cells slots Q (F0 m pc ls (.ref a :: rest)) := c_get C X hW 3 (by decide) ly_3 hk 2 (by decide) (mt_at 50 (by decide +kernel) (by decide +kernel)) hdg (by rw [cV_I (by decide +kernel)]; exact kk)
theorem gk3_25 (C : cY p R s m args meth c RX3 cc nL nF nC nS nR ret) (X : cX D s) (hW : cW D S H) (hk : kK S a = 4) {x : Nat} (hx : kR S a 4 = some x) (hdg : decode cc pc = .ok (.getfield 25, 3)) (kk : W p l e R s m args below meth c H locs cells slots Q (F0 m (pc + 3) ls (.ref x :: rest))) : W p l e R s m args below meth c H locs cells slots Q (F0 m pc ls (.ref a :: rest)) := c_get C X hW 3 (by decide) ly_3 hk 4 (by decide) (mt_at 54 (by decide +kernel) (by decide +kernel)) hdg (by rw [cV_R (by decide +kernel) hx]; exact kk)
theorem gk3_28 (C : cY p R s m args meth c RX3 cc nL nF nC nS nR ret) (X : cX D s) (hW : cW D S H) (hk : kK S a = 4) {x : Nat} (hx : kR S a 5 = some x) (hdg : decode cc pc = .ok (.getfield 28, 3)) (kk : W p l e R s m args below meth c H locs cells slots Q (F0 m (pc + 3) ls (.ref x :: rest))) : W p l e R s m args below meth c H locs cells slots Q (F0 m pc ls (.ref a :: rest)) := c_get C X hW 3 (by decide) ly_3 hk 5 (by decide) (mt_at 55 (by decide +kernel) (by decide +kernel)) hdg (by rw [cV_R (by decide +kernel) hx]; exact kk)
end
section
variable {p : Program} {l : Launch} {e : Env} {R : Room} {s : State} {m : MethodId} {args : Array Value} {below : List Frame} {meth : Method} {c : Code} {D : cG} {S0 S9 : cSt} {r : Int32}
noncomputable def fk_3_enter (S : cSt) (v0 : Nat) (v1 : Int32) : Option (Int32 × cSt) :=
ckk S v0 4 (
lt (kF S v0 2) fun x1 =>
ckk S v0 4 (bd (kR S v0 0) fun a2 =>
ckk S v0 4 (bd (kR S v0 4) fun a3 =>
ckk S a2 22 (ckk S a3 22 (ckp ((¬ (0 : Int32) < 0 ∧ ¬ (x1 * (6 : Int32)) < 0 ∧ ¬ v1 < 0) ∧ (Int32.toNatClampNeg (0 : Int32)) + (Int32.toNatClampNeg v1) ≤ kL S a2 ∧ (Int32.toNatClampNeg (x1 * (6 : Int32))) + (Int32.toNatClampNeg v1) ≤ kL S a3) (ckp (∀ i, i < (Int32.toNatClampNeg v1) → fits .char (.int (kI S a2 ((Int32.toNatClampNeg (0 : Int32)) + i))) = true) (lt (cCp S a2 (Int32.toNatClampNeg (0 : Int32)) a3 (Int32.toNatClampNeg (x1 * (6 : Int32))) (Int32.toNatClampNeg v1)) fun S4 =>
ckk S4 v0 4 (bd (kR S4 v0 5) fun a5 =>
ckk S4 a5 20 (ck x1 (kL S4 a5) (lt (cWi S4 a5 (Int32.toNatClampNeg x1) v1) fun S6 =>
ckk S6 v0 4 (
ckk S6 v0 4 (lt (cPi S6 v0 2 ((kF S6 v0 2) + (1 : Int32))) fun S7 =>
some (x1, S7)))))))))))))
set_option maxRecDepth 100000 in
set_option maxHeartbeats 4000000 in
theorem tk_3_enter (l : Launch) {D : cG} {S : cSt} {v0 : Nat} {v1 : Int32} {r : Int32} {S9 : cSt} (h : fk_3_enter S v0 v1 = some (r, S9)) : Met l yX3_enter (Cond.code yX3_enter cX3_enter 3 (some .int) :: lw_g) { frames := 2, cells := 0, slots := 0, locals := 60 } (kPi [.ref v0, .int v1] D S) (kW (some (.int r)) D S S9) 0 0 (cA S) := by
  refine Met.ofW (cc := cX3_enter) (maxL := 3) (ret := (some .int)) (by decide) rfl ?_
  intro p e s m args below meth c s₁ B hml hv
  obtain ⟨rfl, hW, X⟩ := hv
  have C : cY p (headSpec (Cond.code yX3_enter cX3_enter 3 (some .int) :: lw_g) { frames := 2, cells := 0, slots := 0, locals := 60 }).room s m _ meth c RX3 cX3_enter 3 2 0 0 60 (some .int) := ⟨B.exec, B.bytes, hml, findClass_of_methodNamed B.named, fun w hw => atoms_spec (ws := Cond.code yX3_enter cX3_enter 3 (some .int) :: lw_g) B.pre w (List.mem_cons_of_mem _ hw), ⟨Nat.le_refl _, Nat.le_refl _, Nat.le_refl _, Nat.le_refl _⟩, B.returns, B.notSynchronized⟩
  have hl := lv_entry ([.ref v0, .int v1]) (n := 3) (Nat.le_of_ble_eq_true rfl)
  rw [lg_entry_eq]
  generalize (lg_sl ([.ref v0, .int v1]) ++ List.replicate (3 - (lg_sl ([.ref v0, .int v1])).length) Slot.unset).toArray = ls at hl ⊢
  have hl : lv_has ls 3 [(0, .ref v0), (1, .int v1)] := hl
  have hJ : cJ D S s.heap S s.heap [] := cJ.rf hW
  unfold fk_3_enter at h
  refine lv_aload_n C.1 C.2.1 dX3_enter_0 rfl (lv_at hl 0 rfl) ?_
  obtain ⟨hk, h⟩ := ckk_ok h
  refine gk3_19 C X hJ.1 hk dX3_enter_1 ?_
  refine lt_ok h (fun x1 e_x1 h => ?_)
  refine lv_nm e_x1 ?_
  refine lv_istore_n (lv' := [(2, .int x1), (0, .ref v0), (1, .int v1)]) C.1 C.2.1 dX3_enter_4 rfl hl (by decide) rfl (fun ls hl => ?_)
  refine lv_aload_n C.1 C.2.1 dX3_enter_5 rfl (lv_at hl 1 rfl) ?_
  obtain ⟨hk, h⟩ := ckk_ok h
  obtain ⟨a2, h_a2, h⟩ := bd_ok h
  refine gk3_9 C X hJ.1 hk h_a2 dX3_enter_6 ?_
  refine lv_iconst (v := 0) C.1 C.2.1 dX3_enter_9 (by decide) ?_
  refine lv_aload_n C.1 C.2.1 dX3_enter_10 rfl (lv_at hl 1 rfl) ?_
  obtain ⟨hk, h⟩ := ckk_ok h
  obtain ⟨a3, h_a3, h⟩ := bd_ok h
  refine gk3_25 C X hJ.1 hk h_a3 dX3_enter_11 ?_
  refine lv_iload_n C.1 C.2.1 dX3_enter_14 rfl (lv_at hl 0 rfl) ?_
  refine lv_bipush (v := 6) C.1 C.2.1 dX3_enter_15 (by decide) ?_
  refine lv_imul C.1 C.2.1 dX3_enter_17 ?_
  refine lv_iload_n C.1 C.2.1 dX3_enter_18 rfl (lv_at hl 2 rfl) ?_
  obtain ⟨hk0, h⟩ := ckk_ok h
  obtain ⟨hk1, h⟩ := ckk_ok h
  obtain ⟨hcp, h⟩ := ckp_ok h
  obtain ⟨hft, h⟩ := ckp_ok h
  refine c_copy (rest := []) C hl.1 mm3_50 ac_n ac_s ac_i 22 (by decide) (by decide) X.2.2.2.1 rfl hJ hk0 hk1 hcp hft (by decide) (Nat.le_of_ble_eq_true rfl) dX3_enter_19 (fun H locs hJ => ?_)
  refine lt_ok h (fun S4 e_S4 h => ?_)
  rw [e_S4] at hJ
  refine lv_aload_n C.1 C.2.1 dX3_enter_22 rfl (lv_at hl 1 rfl) ?_
  obtain ⟨hk, h⟩ := ckk_ok h
  obtain ⟨a5, h_a5, h⟩ := bd_ok h
  refine gk3_28 C X hJ.1 hk h_a5 dX3_enter_23 ?_
  refine lv_iload_n C.1 C.2.1 dX3_enter_26 rfl (lv_at hl 0 rfl) ?_
  refine lv_iload_n C.1 C.2.1 dX3_enter_27 rfl (lv_at hl 2 rfl) ?_
  obtain ⟨hk, h⟩ := ckk_ok h
  obtain ⟨hin2, h⟩ := ck_ok h
  refine c_iast C X hJ hk hin2 dX3_enter_28 (fun H locs hJ => ?_)
  refine lt_ok h (fun S6 e_S6 h => ?_)
  rw [e_S6] at hJ
  refine lv_aload_n C.1 C.2.1 dX3_enter_29 rfl (lv_at hl 1 rfl) ?_
  refine lv_dup C.1 C.2.1 dX3_enter_30 rfl ?_
  obtain ⟨hk, h⟩ := ckk_ok h
  refine gk3_19 C X hJ.1 hk dX3_enter_31 ?_
  refine lv_iconst (v := 1) C.1 C.2.1 dX3_enter_34 (by decide) ?_
  refine lv_iadd C.1 C.2.1 dX3_enter_35 ?_
  obtain ⟨hk, h⟩ := ckk_ok h
  refine pk3_19 C X hJ hk dX3_enter_36 (fun H locs hJ => ?_)
  refine lt_ok h (fun S7 e_S7 h => ?_)
  rw [e_S7] at hJ
  refine lv_iload_n C.1 C.2.1 dX3_enter_39 rfl (lv_at hl 0 rfl) ?_
  cases h
  exact c_retiW C hJ dX3_enter_40
end
theorem dX3_has_0 : decode cX3_has 0 = .ok (.iload_n 1, 1) := by decide +kernel
theorem dX3_has_1 : decode cX3_has 1 = .ok (.ifCond .lt 15, 3) := by decide +kernel
theorem dX3_has_4 : decode cX3_has 4 = .ok (.iload_n 1, 1) := by decide +kernel
theorem dX3_has_5 : decode cX3_has 5 = .ok (.aload_n 0, 1) := by decide +kernel
theorem dX3_has_6 : decode cX3_has 6 = .ok (.getfield 19, 3) := by decide +kernel
theorem dX3_has_9 : decode cX3_has 9 = .ok (.if_icmp .ge 7, 3) := by decide +kernel
theorem dX3_has_12 : decode cX3_has 12 = .ok (.iconst 1, 1) := by decide +kernel
theorem dX3_has_13 : decode cX3_has 13 = .ok (.goto 4, 3) := by decide +kernel
theorem dX3_has_16 : decode cX3_has 16 = .ok (.iconst 0, 1) := by decide +kernel
theorem dX3_has_17 : decode cX3_has 17 = .ok (.ireturn, 1) := by decide +kernel
theorem kd_3_has : Cond.code yX3_has cX3_has 2 (some .boolean) ∈ lw_g := mt_at 435 (by decide +kernel) rfl
theorem ki_3_has : Cond.instanceMethod yX3_has ∈ lw_g := mt_at 433 (by decide +kernel) rfl
theorem kl_3_has : Cond.selects (kRn 3) yX3_has yX3_has ∈ lw_g := mt_at 434 (by decide +kernel) rfl
section
variable {p : Program} {l : Launch} {e : Env} {R : Room} {s : State} {m : MethodId} {args : Array Value} {below : List Frame} {meth : Method} {c : Code} {D : cG} {S : cSt} {r : Int32}
noncomputable def fk_3_has_17 (S : cSt) (s0 : Int32) : Option (Int32) :=
ckz s0 (some s0)
set_option maxRecDepth 100000 in
set_option maxHeartbeats 4000000 in
theorem wk_3_has_17 (C : cY p R s m args meth c RX3 cX3_has 2 0 0 0 0 (some .boolean)) (X : cX D s) (hW : cW D S s.heap) : ∀ {s0 : Int32} {ls : Array Slot}, fk_3_has_17 S s0 = some r → lv_has ls 2 [] → W p l e R s m args below meth c s.heap [] 0 0 (MQ below (kQ (some (.int r))) args s 0 0 mNo) (F0 m 17 ls [.int s0]) := by
  intro s0 ls h hl
  unfold fk_3_has_17 at h
  obtain ⟨hzo, h⟩ := ckz_ok h
  cases h
  exact c_retn C (by rcases hzo with h9 | h9 <;> (rw [h9]; rfl)) rfl rfl dX3_has_17
noncomputable def fk_3_has_16 (S : cSt) : Option (Int32) :=
fk_3_has_17 S (0 : Int32)
set_option maxRecDepth 100000 in
set_option maxHeartbeats 4000000 in
theorem wk_3_has_16 (C : cY p R s m args meth c RX3 cX3_has 2 0 0 0 0 (some .boolean)) (X : cX D s) (hW : cW D S s.heap) : ∀ {ls : Array Slot}, fk_3_has_16 S = some r → lv_has ls 2 [] → W p l e R s m args below meth c s.heap [] 0 0 (MQ below (kQ (some (.int r))) args s 0 0 mNo) (F0 m 16 ls []) := by
  intro ls h hl
  unfold fk_3_has_16 at h
  refine lv_iconst (v := 0) C.1 C.2.1 dX3_has_16 (by decide) ?_
  exact wk_3_has_17 C X hW h (lv_sub hl [] rfl)
noncomputable def fk_3_has (S : cSt) (v0 : Nat) (v1 : Int32) : Option (Int32) :=
if v1 < 0 then (
fk_3_has_16 S)
else (
ckk S v0 4 (
if (kF S v0 2) ≤ v1 then (
fk_3_has_16 S)
else (
fk_3_has_17 S (1 : Int32))))
set_option maxRecDepth 100000 in
set_option maxHeartbeats 4000000 in
theorem tk_3_has (l : Launch) {D : cG} {S : cSt} {v0 : Nat} {v1 : Int32} {r : Int32}  (h : fk_3_has S v0 v1 = some r) : Met l yX3_has (Cond.code yX3_has cX3_has 2 (some .boolean) :: lw_g) { frames := 0, cells := 0, slots := 0, locals := 0 } (kPi [.ref v0, .int v1] D S) (kQ (some (.int r))) 0 0 (mNo) := by
  refine Met.ofW (cc := cX3_has) (maxL := 2) (ret := (some .boolean)) (by decide) rfl ?_
  intro p e s m args below meth c s₁ B hml hv
  obtain ⟨rfl, hW, X⟩ := hv
  have C : cY p (headSpec (Cond.code yX3_has cX3_has 2 (some .boolean) :: lw_g) { frames := 0, cells := 0, slots := 0, locals := 0 }).room s m _ meth c RX3 cX3_has 2 0 0 0 0 (some .boolean) := ⟨B.exec, B.bytes, hml, findClass_of_methodNamed B.named, fun w hw => atoms_spec (ws := Cond.code yX3_has cX3_has 2 (some .boolean) :: lw_g) B.pre w (List.mem_cons_of_mem _ hw), ⟨Nat.le_refl _, Nat.le_refl _, Nat.le_refl _, Nat.le_refl _⟩, B.returns, B.notSynchronized⟩
  have hl := lv_entry ([.ref v0, .int v1]) (n := 2) (Nat.le_of_ble_eq_true rfl)
  rw [lg_entry_eq]
  generalize (lg_sl ([.ref v0, .int v1]) ++ List.replicate (2 - (lg_sl ([.ref v0, .int v1])).length) Slot.unset).toArray = ls at hl ⊢
  have hl : lv_has ls 2 [(0, .ref v0), (1, .int v1)] := hl
  unfold fk_3_has at h
  refine lv_iload_n C.1 C.2.1 dX3_has_0 rfl (lv_at hl 1 rfl) ?_
  refine lv_if_lt (tgt := 16) C.1 C.2.1 dX3_has_1 (by decide) (fun c1 => ?_) (fun c1 => ?_)
  · have h := if_t h c1
    exact wk_3_has_16 C X hW h (lv_sub hl [] rfl)
  · have h := if_f h c1
    refine lv_iload_n C.1 C.2.1 dX3_has_4 rfl (lv_at hl 1 rfl) ?_
    refine lv_aload_n C.1 C.2.1 dX3_has_5 rfl (lv_at hl 0 rfl) ?_
    obtain ⟨hk, h⟩ := ckk_ok h
    refine gk3_19 C X hW hk dX3_has_6 ?_
    refine lv_icmp_ge (tgt := 16) C.1 C.2.1 dX3_has_9 (by decide) (fun c2 => ?_) (fun c2 => ?_)
    · have h := if_t h c2
      exact wk_3_has_16 C X hW h (lv_sub hl [] rfl)
    · have h := if_f h c2
      refine lv_iconst (v := 1) C.1 C.2.1 dX3_has_12 (by decide) ?_
      refine lv_goto (tgt := 17) C.1 C.2.1 dX3_has_13 (by decide) ?_
      exact wk_3_has_17 C X hW h (lv_sub hl [] rfl)
end
theorem dX3_ruleOf_0 : decode cX3_ruleOf 0 = .ok (.aload_n 0, 1) := by decide +kernel
theorem dX3_ruleOf_1 : decode cX3_ruleOf 1 = .ok (.iload_n 1, 1) := by decide +kernel
theorem dX3_ruleOf_2 : decode cX3_ruleOf 2 = .ok (.invokevirtual 56, 3) := by decide +kernel
theorem dX3_ruleOf_5 : decode cX3_ruleOf 5 = .ok (.ifCond .eq 17, 3) := by decide +kernel
theorem dX3_ruleOf_8 : decode cX3_ruleOf 8 = .ok (.iload_n 2, 1) := by decide +kernel
theorem dX3_ruleOf_9 : decode cX3_ruleOf 9 = .ok (.ifCond .lt 13, 3) := by decide +kernel
theorem dX3_ruleOf_12 : decode cX3_ruleOf 12 = .ok (.iload_n 2, 1) := by decide +kernel
theorem dX3_ruleOf_13 : decode cX3_ruleOf 13 = .ok (.aload_n 0, 1) := by decide +kernel
theorem dX3_ruleOf_14 : decode cX3_ruleOf 14 = .ok (.getfield 28, 3) := by decide +kernel
theorem dX3_ruleOf_17 : decode cX3_ruleOf 17 = .ok (.iload_n 1, 1) := by decide +kernel
theorem dX3_ruleOf_18 : decode cX3_ruleOf 18 = .ok (.iaload, 1) := by decide +kernel
theorem dX3_ruleOf_19 : decode cX3_ruleOf 19 = .ok (.if_icmp .lt 6, 3) := by decide +kernel
theorem dX3_ruleOf_22 : decode cX3_ruleOf 22 = .ok (.bipush 32, 2) := by decide +kernel
theorem dX3_ruleOf_24 : decode cX3_ruleOf 24 = .ok (.ireturn, 1) := by decide +kernel
theorem dX3_ruleOf_25 : decode cX3_ruleOf 25 = .ok (.aload_n 0, 1) := by decide +kernel
theorem dX3_ruleOf_26 : decode cX3_ruleOf 26 = .ok (.getfield 25, 3) := by decide +kernel
theorem dX3_ruleOf_29 : decode cX3_ruleOf 29 = .ok (.iload_n 1, 1) := by decide +kernel
theorem dX3_ruleOf_30 : decode cX3_ruleOf 30 = .ok (.bipush 6, 2) := by decide +kernel
theorem dX3_ruleOf_32 : decode cX3_ruleOf 32 = .ok (.imul, 1) := by decide +kernel
theorem dX3_ruleOf_33 : decode cX3_ruleOf 33 = .ok (.iload_n 2, 1) := by decide +kernel
theorem dX3_ruleOf_34 : decode cX3_ruleOf 34 = .ok (.iadd, 1) := by decide +kernel
theorem dX3_ruleOf_35 : decode cX3_ruleOf 35 = .ok (.caload, 1) := by decide +kernel
theorem dX3_ruleOf_36 : decode cX3_ruleOf 36 = .ok (.ireturn, 1) := by decide +kernel
theorem kd_3_ruleOf : Cond.code yX3_ruleOf cX3_ruleOf 3 (some .char) ∈ lw_g := mt_at 513 (by decide +kernel) rfl
theorem ki_3_ruleOf : Cond.instanceMethod yX3_ruleOf ∈ lw_g := mt_at 511 (by decide +kernel) rfl
theorem kl_3_ruleOf : Cond.selects (kRn 3) yX3_ruleOf yX3_ruleOf ∈ lw_g := mt_at 512 (by decide +kernel) rfl
theorem cw3_56 : cCw RX3 56 yX3_has cX3_has 2 (some .boolean) 1 := ⟨kd_3_has, mt_at 514 (by decide +kernel) rfl, mt_at 2 (by decide +kernel) rfl, by decide +kernel⟩
section
variable {p : Program} {l : Launch} {e : Env} {R : Room} {s : State} {m : MethodId} {args : Array Value} {below : List Frame} {meth : Method} {c : Code} {D : cG} {S : cSt} {r : Int32}
noncomputable def fk_3_ruleOf_22 (S : cSt) : Option (Int32) :=
ckp (vp_nar .char (32 : Int32) = (32 : Int32)) (some (32 : Int32))
set_option maxRecDepth 100000 in
set_option maxHeartbeats 4000000 in
theorem wk_3_ruleOf_22 (C : cY p R s m args meth c RX3 cX3_ruleOf 3 1 0 0 21 (some .char)) (X : cX D s) (hW : cW D S s.heap) : ∀ {ls : Array Slot}, fk_3_ruleOf_22 S = some r → lv_has ls 3 [] → W p l e R s m args below meth c s.heap [] 0 0 (MQ below (kQ (some (.int r))) args s 0 0 mNo) (F0 m 22 ls []) := by
  intro ls h hl
  unfold fk_3_ruleOf_22 at h
  refine lv_bipush (v := 32) C.1 C.2.1 dX3_ruleOf_22 (by decide) ?_
  obtain ⟨hnr, h⟩ := ckp_ok h
  cases h
  exact c_retn C (congrArg Value.int hnr) rfl rfl dX3_ruleOf_24
noncomputable def fk_3_ruleOf (S : cSt) (v0 : Nat) (v1 : Int32) (v2 : Int32) : Option (Int32) :=
ckk S v0 4 (bd (fk_3_has S v0 v1) fun r1 =>
if r1 = 0 then (
fk_3_ruleOf_22 S)
else (
if v2 < 0 then (
fk_3_ruleOf_22 S)
else (
ckk S v0 4 (bd (kR S v0 5) fun a4 =>
ckk S a4 20 (ck v1 (kL S a4) (
if v2 < (kI S a4 (Int32.toNatClampNeg v1)) then (
ckk S v0 4 (bd (kR S v0 4) fun a6 =>
ckk S a6 22 (ck ((v1 * (6 : Int32)) + v2) (kL S a6) (
ckp (vp_nar .char (kI S a6 (Int32.toNatClampNeg ((v1 * (6 : Int32)) + v2))) = (kI S a6 (Int32.toNatClampNeg ((v1 * (6 : Int32)) + v2)))) (some (kI S a6 (Int32.toNatClampNeg ((v1 * (6 : Int32)) + v2))))))))
else (
fk_3_ruleOf_22 S)))))))
set_option maxRecDepth 100000 in
set_option maxHeartbeats 4000000 in
theorem tk_3_ruleOf (l : Launch) {D : cG} {S : cSt} {v0 : Nat} {v1 : Int32} {v2 : Int32} {r : Int32}  (h : fk_3_ruleOf S v0 v1 v2 = some r) : Met l yX3_ruleOf (Cond.code yX3_ruleOf cX3_ruleOf 3 (some .char) :: lw_g) { frames := 1, cells := 0, slots := 0, locals := 21 } (kPi [.ref v0, .int v1, .int v2] D S) (kQ (some (.int r))) 0 0 (mNo) := by
  refine Met.ofW (cc := cX3_ruleOf) (maxL := 3) (ret := (some .char)) (by decide) rfl ?_
  intro p e s m args below meth c s₁ B hml hv
  obtain ⟨rfl, hW, X⟩ := hv
  have C : cY p (headSpec (Cond.code yX3_ruleOf cX3_ruleOf 3 (some .char) :: lw_g) { frames := 1, cells := 0, slots := 0, locals := 21 }).room s m _ meth c RX3 cX3_ruleOf 3 1 0 0 21 (some .char) := ⟨B.exec, B.bytes, hml, findClass_of_methodNamed B.named, fun w hw => atoms_spec (ws := Cond.code yX3_ruleOf cX3_ruleOf 3 (some .char) :: lw_g) B.pre w (List.mem_cons_of_mem _ hw), ⟨Nat.le_refl _, Nat.le_refl _, Nat.le_refl _, Nat.le_refl _⟩, B.returns, B.notSynchronized⟩
  have hl := lv_entry ([.ref v0, .int v1, .int v2]) (n := 3) (Nat.le_of_ble_eq_true rfl)
  rw [lg_entry_eq]
  generalize (lg_sl ([.ref v0, .int v1, .int v2]) ++ List.replicate (3 - (lg_sl ([.ref v0, .int v1, .int v2])).length) Slot.unset).toArray = ls at hl ⊢
  have hl : lv_has ls 3 [(0, .ref v0), (1, .int v1), (2, .int v2)] := hl
  unfold fk_3_ruleOf at h
  refine lv_aload_n C.1 C.2.1 dX3_ruleOf_0 rfl (lv_at hl 0 rfl) ?_
  refine lv_iload_n C.1 C.2.1 dX3_ruleOf_1 rfl (lv_at hl 1 rfl) ?_
  obtain ⟨hk, h⟩ := ckk_ok h
  obtain ⟨r1, h_r1, h⟩ := bd_ok h
  refine c_callR (rest := []) C X hW hl.1 3 (by decide) hk [.int v1] (tk_3_has l h_r1) cw3_56 ki_3_has kl_3_has rfl ⟨by decide, by decide⟩ ⟨(by decide), (by decide)⟩ rfl (Nat.le_of_ble_eq_true rfl) dX3_ruleOf_2 ?_
  refine W.eq (g2 := F0 m 5 ls [.int r1]) rfl ?_
  refine lv_if_eq (tgt := 22) C.1 C.2.1 dX3_ruleOf_5 (by decide) (fun c2 => ?_) (fun c2 => ?_)
  · have h := if_t h c2
    exact wk_3_ruleOf_22 C X hW h (lv_sub hl [] rfl)
  · have h := if_f h c2
    refine lv_iload_n C.1 C.2.1 dX3_ruleOf_8 rfl (lv_at hl 2 rfl) ?_
    refine lv_if_lt (tgt := 22) C.1 C.2.1 dX3_ruleOf_9 (by decide) (fun c3 => ?_) (fun c3 => ?_)
    · have h := if_t h c3
      exact wk_3_ruleOf_22 C X hW h (lv_sub hl [] rfl)
    · have h := if_f h c3
      refine lv_iload_n C.1 C.2.1 dX3_ruleOf_12 rfl (lv_at hl 2 rfl) ?_
      refine lv_aload_n C.1 C.2.1 dX3_ruleOf_13 rfl (lv_at hl 0 rfl) ?_
      obtain ⟨hk, h⟩ := ckk_ok h
      obtain ⟨a4, h_a4, h⟩ := bd_ok h
      refine gk3_28 C X hW hk h_a4 dX3_ruleOf_14 ?_
      refine lv_iload_n C.1 C.2.1 dX3_ruleOf_17 rfl (lv_at hl 1 rfl) ?_
      obtain ⟨hk, h⟩ := ckk_ok h
      obtain ⟨hin2, h⟩ := ck_ok h
      refine c_iald C X hW hk hin2 dX3_ruleOf_18 ?_
      refine lv_icmp_lt (tgt := 25) C.1 C.2.1 dX3_ruleOf_19 (by decide) (fun c5 => ?_) (fun c5 => ?_)
      · have h := if_t h c5
        refine lv_aload_n C.1 C.2.1 dX3_ruleOf_25 rfl (lv_at hl 0 rfl) ?_
        obtain ⟨hk, h⟩ := ckk_ok h
        obtain ⟨a6, h_a6, h⟩ := bd_ok h
        refine gk3_25 C X hW hk h_a6 dX3_ruleOf_26 ?_
        refine lv_iload_n C.1 C.2.1 dX3_ruleOf_29 rfl (lv_at hl 1 rfl) ?_
        refine lv_bipush (v := 6) C.1 C.2.1 dX3_ruleOf_30 (by decide) ?_
        refine lv_imul C.1 C.2.1 dX3_ruleOf_32 ?_
        refine lv_iload_n C.1 C.2.1 dX3_ruleOf_33 rfl (lv_at hl 2 rfl) ?_
        refine lv_iadd C.1 C.2.1 dX3_ruleOf_34 ?_
        obtain ⟨hk, h⟩ := ckk_ok h
        obtain ⟨hin2, h⟩ := ck_ok h
        refine c_cald C X hW hk hin2 dX3_ruleOf_35 ?_
        obtain ⟨hnr, h⟩ := ckp_ok h
        cases h
        exact c_retn C (congrArg Value.int hnr) rfl rfl dX3_ruleOf_36
      · have h := if_f h c5
        exact wk_3_ruleOf_22 C X hW h (lv_sub hl [] rfl)
end
theorem dX4_init_0 : decode cX4_init 0 = .ok (.aload_n 0, 1) := by decide +kernel
theorem dX4_init_1 : decode cX4_init 1 = .ok (.invokespecial 3, 3) := by decide +kernel
theorem dX4_init_4 : decode cX4_init 4 = .ok (.aload_n 0, 1) := by decide +kernel
theorem dX4_init_5 : decode cX4_init 5 = .ok (.sipush 1000, 3) := by decide +kernel
theorem dX4_init_8 : decode cX4_init 8 = .ok (.newarray .int, 2) := by decide +kernel
theorem dX4_init_10 : decode cX4_init 10 = .ok (.putfield 9, 3) := by decide +kernel
theorem dX4_init_13 : decode cX4_init 13 = .ok (.aload_n 0, 1) := by decide +kernel
theorem dX4_init_14 : decode cX4_init 14 = .ok (.sipush 1000, 3) := by decide +kernel
theorem dX4_init_17 : decode cX4_init 17 = .ok (.newarray .int, 2) := by decide +kernel
theorem dX4_init_19 : decode cX4_init 19 = .ok (.putfield 15, 3) := by decide +kernel
theorem dX4_init_22 : decode cX4_init 22 = .ok (.aload_n 0, 1) := by decide +kernel
theorem dX4_init_23 : decode cX4_init 23 = .ok (.sipush 1000, 3) := by decide +kernel
theorem dX4_init_26 : decode cX4_init 26 = .ok (.newarray .int, 2) := by decide +kernel
theorem dX4_init_28 : decode cX4_init 28 = .ok (.putfield 18, 3) := by decide +kernel
theorem dX4_init_31 : decode cX4_init 31 = .ok (.aload_n 0, 1) := by decide +kernel
theorem dX4_init_32 : decode cX4_init 32 = .ok (.sipush 1000, 3) := by decide +kernel
theorem dX4_init_35 : decode cX4_init 35 = .ok (.anewarray 21, 3) := by decide +kernel
theorem dX4_init_38 : decode cX4_init 38 = .ok (.putfield 23, 3) := by decide +kernel
theorem dX4_init_41 : decode cX4_init 41 = .ok (.aload_n 0, 1) := by decide +kernel
theorem dX4_init_42 : decode cX4_init 42 = .ok (.sipush 1000, 3) := by decide +kernel
theorem dX4_init_45 : decode cX4_init 45 = .ok (.anewarray 21, 3) := by decide +kernel
theorem dX4_init_48 : decode cX4_init 48 = .ok (.putfield 27, 3) := by decide +kernel
theorem dX4_init_51 : decode cX4_init 51 = .ok (.aload_n 0, 1) := by decide +kernel
theorem dX4_init_52 : decode cX4_init 52 = .ok (.sipush 385, 3) := by decide +kernel
theorem dX4_init_55 : decode cX4_init 55 = .ok (.anewarray 21, 3) := by decide +kernel
theorem dX4_init_58 : decode cX4_init 58 = .ok (.putfield 30, 3) := by decide +kernel
theorem dX4_init_61 : decode cX4_init 61 = .ok (.aload_n 0, 1) := by decide +kernel
theorem dX4_init_62 : decode cX4_init 62 = .ok (.sipush 385, 3) := by decide +kernel
theorem dX4_init_65 : decode cX4_init 65 = .ok (.anewarray 21, 3) := by decide +kernel
theorem dX4_init_68 : decode cX4_init 68 = .ok (.putfield 33, 3) := by decide +kernel
theorem dX4_init_71 : decode cX4_init 71 = .ok (.aload_n 0, 1) := by decide +kernel
theorem dX4_init_72 : decode cX4_init 72 = .ok (.iconst 0, 1) := by decide +kernel
theorem dX4_init_73 : decode cX4_init 73 = .ok (.putfield 36, 3) := by decide +kernel
theorem dX4_init_76 : decode cX4_init 76 = .ok (.aload_n 0, 1) := by decide +kernel
theorem dX4_init_77 : decode cX4_init 77 = .ok (.aload_n 1, 1) := by decide +kernel
theorem dX4_init_78 : decode cX4_init 78 = .ok (.putfield 40, 3) := by decide +kernel
theorem dX4_init_81 : decode cX4_init 81 = .ok (.return_, 1) := by decide +kernel
theorem kd_4_init : Cond.code yX4_init cX4_init 2 none ∈ lw_g := mt_at 223 (by decide +kernel) rfl
theorem ki_4_init : Cond.instanceMethod yX4_init ∈ lw_g := mt_at 222 (by decide +kernel) rfl
theorem oi4 : Cond.methodLink RX4 3 objectInit ∈ lw_g := mt_at 224 (by decide +kernel) rfl
theorem cl4_21 : Cond.classLink RX4 21 RX8 ∈ lw_g := mt_at 225 (by decide +kernel) rfl
section
variable {p : Program} {l : Launch} {e : Env} {R : Room} {s : State} {m : MethodId} {args : Array Value} {below : List Frame} {meth : Method} {c : Code} {H : Heap} {locs : List Loc} {cells slots : Nat} {Q : State → Prop}
variable {D : cG} {S S0 : cSt} {cc : ByteArray} {nL : Nat} {pc : Nat} {ls : Array Slot} {rest : List Value} {H0 : Heap} {nF nR nC nS : Nat} {ret : Option FieldType} {a : Nat}
theorem pk4_9 {o : Option Nat} (C : cY p R s m args meth c RX4 cc nL nF nC nS nR ret) (hin : meth.name = "<init>") (X : cX D s) (hJ : cJ D S0 H0 S H locs) (hk : kK S a = 5) (hdg : decode cc pc = .ok (.putfield 9, 3)) (kk : ∀ (H1 : Heap) (locs1 : List Loc), cJ D S0 H0 (cPr S a 0 o) H1 locs1 → W p l e R s m args below meth c H1 locs1 cells slots Q (F0 m (pc + 3) ls (rest))) : W p l e R s m args below meth c H locs cells slots Q (F0 m pc ls (va_rf o :: .ref a :: rest)) := c_putF (S1 := (cPr S a 0 o)) C X hJ 4 (by decide) ly_4 hk 0 (by decide) (by decide +kernel) hin rfl nar_ra fit_ra (by decide) rfl rfl (fun j _ => c_vR (by decide +kernel)) c_oPr (mt_at 226 (by decide +kernel) (by decide +kernel)) hdg kk
theorem pk4_15 {o : Option Nat} (C : cY p R s m args meth c RX4 cc nL nF nC nS nR ret) (hin : meth.name = "<init>") (X : cX D s) (hJ : cJ D S0 H0 S H locs) (hk : kK S a = 5) (hdg : decode cc pc = .ok (.putfield 15, 3)) (kk : ∀ (H1 : Heap) (locs1 : List Loc), cJ D S0 H0 (cPr S a 1 o) H1 locs1 → W p l e R s m args below meth c H1 locs1 cells slots Q (F0 m (pc + 3) ls (rest))) : W p l e R s m args below meth c H locs cells slots Q (F0 m pc ls (va_rf o :: .ref a :: rest)) := c_putF (S1 := (cPr S a 1 o)) C X hJ 4 (by decide) ly_4 hk 1 (by decide) (by decide +kernel) hin rfl nar_ra fit_ra (by decide) rfl rfl (fun j _ => c_vR (by decide +kernel)) c_oPr (mt_at 228 (by decide +kernel) (by decide +kernel)) hdg kk
theorem pk4_18 {o : Option Nat} (C : cY p R s m args meth c RX4 cc nL nF nC nS nR ret) (hin : meth.name = "<init>") (X : cX D s) (hJ : cJ D S0 H0 S H locs) (hk : kK S a = 5) (hdg : decode cc pc = .ok (.putfield 18, 3)) (kk : ∀ (H1 : Heap) (locs1 : List Loc), cJ D S0 H0 (cPr S a 2 o) H1 locs1 → W p l e R s m args below meth c H1 locs1 cells slots Q (F0 m (pc + 3) ls (rest))) : W p l e R s m args below meth c H locs cells slots Q (F0 m pc ls (va_rf o :: .ref a :: rest)) := c_putF (S1 := (cPr S a 2 o)) C X hJ 4 (by decide) ly_4 hk 2 (by decide) (by decide +kernel) hin rfl nar_ra fit_ra (by decide) rfl rfl (fun j _ => c_vR (by decide +kernel)) c_oPr (mt_at 231 (by decide +kernel) (by decide +kernel)) hdg kk
theorem pk4_23 {o : Option Nat} (C : cY p R s m args meth c RX4 cc nL nF nC nS nR ret) (hin : meth.name = "<init>") (X : cX D s) (hJ : cJ D S0 H0 S H locs) (hk : kK S a = 5) (hdg : decode cc pc = .ok (.putfield 23, 3)) (kk : ∀ (H1 : Heap) (locs1 : List Loc), cJ D S0 H0 (cPr S a 3 o) H1 locs1 → W p l e R s m args below meth c H1 locs1 cells slots Q (F0 m (pc + 3) ls (rest))) : W p l e R s m args below meth c H locs cells slots Q (F0 m pc ls (va_rf o :: .ref a :: rest)) := c_putF (S1 := (cPr S a 3 o)) C X hJ 4 (by decide) ly_4 hk 3 (by decide) (by decide +kernel) hin rfl nar_ra fit_ra (by decide) rfl rfl (fun j _ => c_vR (by decide +kernel)) c_oPr (mt_at 233 (by decide +kernel) (by decide +kernel)) hdg kk
theorem pk4_27 {o : Option Nat} (C : cY p R s m args meth c RX4 cc nL nF nC nS nR ret) (hin : meth.name = "<init>") (X : cX D s) (hJ : cJ D S0 H0 S H locs) (hk : kK S a = 5) (hdg : decode cc pc = .ok (.putfield 27, 3)) (kk : ∀ (H1 : Heap) (locs1 : List Loc), cJ D S0 H0 (cPr S a 4 o) H1 locs1 → W p l e R s m args below meth c H1 locs1 cells slots Q (F0 m (pc + 3) ls (rest))) : W p l e R s m args below meth c H locs cells slots Q (F0 m pc ls (va_rf o :: .ref a :: rest)) := c_putF (S1 := (cPr S a 4 o)) C X hJ 4 (by decide) ly_4 hk 4 (by decide) (by decide +kernel) hin rfl nar_ra fit_ra (by decide) rfl rfl (fun j _ => c_vR (by decide +kernel)) c_oPr (mt_at 235 (by decide +kernel) (by decide +kernel)) hdg kk
theorem pk4_30 {o : Option Nat} (C : cY p R s m args meth c RX4 cc nL nF nC nS nR ret) (hin : meth.name = "<init>") (X : cX D s) (hJ : cJ D S0 H0 S H locs) (hk : kK S a = 5) (hdg : decode cc pc = .ok (.putfield 30, 3)) (kk : ∀ (H1 : Heap) (locs1 : List Loc), cJ D S0 H0 (cPr S a 5 o) H1 locs1 → W p l e R s m args below meth c H1 locs1 cells slots Q (F0 m (pc + 3) ls (rest))) : W p l e R s m args below meth c H locs cells slots Q (F0 m pc ls (va_rf o :: .ref a :: rest)) := c_putF (S1 := (cPr S a 5 o)) C X hJ 4 (by decide) ly_4 hk 5 (by decide) (by decide +kernel) hin rfl nar_ra fit_ra (by decide) rfl rfl (fun j _ => c_vR (by decide +kernel)) c_oPr (mt_at 238 (by decide +kernel) (by decide +kernel)) hdg kk
theorem pk4_33 {o : Option Nat} (C : cY p R s m args meth c RX4 cc nL nF nC nS nR ret) (hin : meth.name = "<init>") (X : cX D s) (hJ : cJ D S0 H0 S H locs) (hk : kK S a = 5) (hdg : decode cc pc = .ok (.putfield 33, 3)) (kk : ∀ (H1 : Heap) (locs1 : List Loc), cJ D S0 H0 (cPr S a 6 o) H1 locs1 → W p l e R s m args below meth c H1 locs1 cells slots Q (F0 m (pc + 3) ls (rest))) : W p l e R s m args below meth c H locs cells slots Q (F0 m pc ls (va_rf o :: .ref a :: rest)) := c_putF (S1 := (cPr S a 6 o)) C X hJ 4 (by decide) ly_4 hk 6 (by decide) (by decide +kernel) hin rfl nar_ra fit_ra (by decide) rfl rfl (fun j _ => c_vR (by decide +kernel)) c_oPr (mt_at 241 (by decide +kernel) (by decide +kernel)) hdg kk
theorem pk4_36 {x : Int32} (C : cY p R s m args meth c RX4 cc nL nF nC nS nR ret) (X : cX D s) (hJ : cJ D S0 H0 S H locs) (hk : kK S a = 5) (hdg : decode cc pc = .ok (.putfield 36, 3)) (kk : ∀ (H1 : Heap) (locs1 : List Loc), cJ D S0 H0 (cPi S a 7 x) H1 locs1 → W p l e R s m args below meth c H1 locs1 cells slots Q (F0 m (pc + 3) ls (rest))) : W p l e R s m args below meth c H locs cells slots Q (F0 m pc ls (.int x :: .ref a :: rest)) := c_put (S1 := (cPi S a 7 x)) C X hJ 4 (by decide) ly_4 hk 7 (by decide) (by decide +kernel)  rfl rfl (by decide) rfl rfl (fun j _ => c_vI (by decide +kernel)) c_oPi (mt_at 243 (by decide +kernel) (by decide +kernel)) hdg kk
theorem pk4_40 {o : Option Nat} (C : cY p R s m args meth c RX4 cc nL nF nC nS nR ret) (hin : meth.name = "<init>") (X : cX D s) (hJ : cJ D S0 H0 S H locs) (hk : kK S a = 5) (hdg : decode cc pc = .ok (.putfield 40, 3)) (kk : ∀ (H1 : Heap) (locs1 : List Loc), cJ D S0 H0 (cPr S a 8 o) H1 locs1 → W p l e R s m args below meth c H1 locs1 cells slots Q (F0 m (pc + 3) ls (rest))) : W p l e R s m args below meth c H locs cells slots Q (F0 m pc ls (va_rf o :: .ref a :: rest)) := c_putF (S1 := (cPr S a 8 o)) C X hJ 4 (by decide) ly_4 hk 8 (by decide) (by decide +kernel) hin rfl nar_rf fit_rf (by decide) rfl rfl (fun j _ => c_vR (by decide +kernel)) c_oPr (mt_at 245 (by decide +kernel) (by decide +kernel)) hdg kk
end
section
variable {p : Program} {l : Launch} {e : Env} {R : Room} {s : State} {m : MethodId} {args : Array Value} {below : List Frame} {meth : Method} {c : Code} {D : cG} {S0 S9 : cSt}
noncomputable def fk_4_init (S : cSt) (v0 : Nat) (v1 : Nat) : Option (cSt) :=
lt (kZ S) fun a2 => lt (cNw S 20 1000) fun S1 =>
ckk S1 v0 5 (lt (cPr S1 v0 0 (some a2)) fun S3 =>
lt (kZ S3) fun a5 => lt (cNw S3 20 1000) fun S4 =>
ckk S4 v0 5 (lt (cPr S4 v0 1 (some a5)) fun S6 =>
lt (kZ S6) fun a8 => lt (cNw S6 20 1000) fun S7 =>
ckk S7 v0 5 (lt (cPr S7 v0 2 (some a8)) fun S10 =>
lt (kZ S10) fun a12 => lt (cNw S10 30 1000) fun S11 =>
ckk S11 v0 5 (lt (cPr S11 v0 3 (some a12)) fun S13 =>
lt (kZ S13) fun a15 => lt (cNw S13 30 1000) fun S14 =>
ckk S14 v0 5 (lt (cPr S14 v0 4 (some a15)) fun S16 =>
lt (kZ S16) fun a18 => lt (cNw S16 30 385) fun S17 =>
ckk S17 v0 5 (lt (cPr S17 v0 5 (some a18)) fun S19 =>
lt (kZ S19) fun a21 => lt (cNw S19 30 385) fun S20 =>
ckk S20 v0 5 (lt (cPr S20 v0 6 (some a21)) fun S22 =>
ckk S22 v0 5 (lt (cPi S22 v0 7 (0 : Int32)) fun S23 =>
ckk S23 v0 5 (lt (cPr S23 v0 8 (some v1)) fun S24 =>
some S24)))))))))
set_option maxRecDepth 100000 in
set_option maxHeartbeats 4000000 in
theorem tk_4_init (l : Launch) {D : cG} {S : cSt} {v0 : Nat} {v1 : Nat} {S9 : cSt} (h : fk_4_init S v0 v1 = some S9) : Met l yX4_init (Cond.code yX4_init cX4_init 2 none :: lw_g) { frames := 2, cells := 7, slots := 5770, locals := 60 } (kPi [.ref v0, .ref v1] D S) (kW none D S S9) 7 5770 (cA S) := by
  refine Met.ofW (cc := cX4_init) (maxL := 2) (ret := none) (by decide) rfl ?_
  intro p e s m args below meth c s₁ B hml hv
  obtain ⟨rfl, hW, X⟩ := hv
  have C : cY p (headSpec (Cond.code yX4_init cX4_init 2 none :: lw_g) { frames := 2, cells := 7, slots := 5770, locals := 60 }).room s m _ meth c RX4 cX4_init 2 2 7 5770 60 none := ⟨B.exec, B.bytes, hml, findClass_of_methodNamed B.named, fun w hw => atoms_spec (ws := Cond.code yX4_init cX4_init 2 none :: lw_g) B.pre w (List.mem_cons_of_mem _ hw), ⟨Nat.le_refl _, Nat.le_refl _, Nat.le_refl _, Nat.le_refl _⟩, B.returns, B.notSynchronized⟩
  have hin : meth.name = "<init>" := (name_of_methodNamed B.named B.method).1
  have hl := lv_entry ([.ref v0, .ref v1]) (n := 2) (Nat.le_of_ble_eq_true rfl)
  rw [lg_entry_eq]
  generalize (lg_sl ([.ref v0, .ref v1]) ++ List.replicate (2 - (lg_sl ([.ref v0, .ref v1])).length) Slot.unset).toArray = ls at hl ⊢
  have hl : lv_has ls 2 [(0, .ref v0), (1, .ref v1)] := hl
  have hJ : cJ D S s.heap S s.heap [] := cJ.rf hW
  unfold fk_4_init at h
  refine lv_aload_n C.1 C.2.1 dX4_init_0 rfl (lv_at hl 0 rfl) ?_
  refine W.objInit C.1 C.2.1 C.2.2.2.1 (C.2.2.2.2.1 _ oi4) (C.2.2.2.2.1 _ oi_i) (C.2.2.2.2.1 _ oi_c) rfl (by rw [C.2.2.1]; exact hl.1) rfl dX4_init_1 (Nat.le_trans (by decide) C.2.2.2.2.2.1.1) (Nat.le_trans (Nat.le_of_ble_eq_true rfl) C.2.2.2.2.2.1.2.2.2) ?_
  refine W.eq (g2 := F0 m 4 ls []) rfl ?_
  refine lv_aload_n C.1 C.2.1 dX4_init_4 rfl (lv_at hl 0 rfl) ?_
  refine lv_sipush (v := 1000) C.1 C.2.1 dX4_init_5 (by decide) ?_
  refine c_newa (N := 1000) C hJ 20 (by decide) (by decide) X.2.1 rfl id rfl ar_20 (by decide) (by decide) (by decide) (by decide) (by decide) dX4_init_8 (fun H hJ => ?_)
  refine lt_ok h (fun a2 e_a2 h => ?_)
  refine lt_ok h (fun S1 e_S1 h => ?_)
  rw [e_S1] at hJ
  rw [e_a2]
  obtain ⟨hk, h⟩ := ckk_ok h
  refine pk4_9 (o := (some a2)) C hin X hJ hk dX4_init_10 (fun H locs hJ => ?_)
  refine lt_ok h (fun S3 e_S3 h => ?_)
  rw [e_S3] at hJ
  refine lv_aload_n C.1 C.2.1 dX4_init_13 rfl (lv_at hl 0 rfl) ?_
  refine lv_sipush (v := 1000) C.1 C.2.1 dX4_init_14 (by decide) ?_
  refine c_newa (N := 1000) C hJ 20 (by decide) (by decide) X.2.1 rfl id rfl ar_20 (by decide) (by decide) (by decide) (by decide) (by decide) dX4_init_17 (fun H hJ => ?_)
  refine lt_ok h (fun a5 e_a5 h => ?_)
  refine lt_ok h (fun S4 e_S4 h => ?_)
  rw [e_S4] at hJ
  rw [e_a5]
  obtain ⟨hk, h⟩ := ckk_ok h
  refine pk4_15 (o := (some a5)) C hin X hJ hk dX4_init_19 (fun H locs hJ => ?_)
  refine lt_ok h (fun S6 e_S6 h => ?_)
  rw [e_S6] at hJ
  refine lv_aload_n C.1 C.2.1 dX4_init_22 rfl (lv_at hl 0 rfl) ?_
  refine lv_sipush (v := 1000) C.1 C.2.1 dX4_init_23 (by decide) ?_
  refine c_newa (N := 1000) C hJ 20 (by decide) (by decide) X.2.1 rfl id rfl ar_20 (by decide) (by decide) (by decide) (by decide) (by decide) dX4_init_26 (fun H hJ => ?_)
  refine lt_ok h (fun a8 e_a8 h => ?_)
  refine lt_ok h (fun S7 e_S7 h => ?_)
  rw [e_S7] at hJ
  rw [e_a8]
  obtain ⟨hk, h⟩ := ckk_ok h
  refine pk4_18 (o := (some a8)) C hin X hJ hk dX4_init_28 (fun H locs hJ => ?_)
  refine lt_ok h (fun S10 e_S10 h => ?_)
  rw [e_S10] at hJ
  refine lv_aload_n C.1 C.2.1 dX4_init_31 rfl (lv_at hl 0 rfl) ?_
  refine lv_sipush (v := 1000) C.1 C.2.1 dX4_init_32 (by decide) ?_
  refine c_anew (N := 1000) C hJ 30 (by decide) X.2.2.2.2.1 cl4_21 X.2.2.2.2.2.2.2.1.1 (by decide) (by decide) (by decide) (by decide) (by decide) dX4_init_35 (fun H hJ => ?_)
  refine lt_ok h (fun a12 e_a12 h => ?_)
  refine lt_ok h (fun S11 e_S11 h => ?_)
  rw [e_S11] at hJ
  rw [e_a12]
  obtain ⟨hk, h⟩ := ckk_ok h
  refine pk4_23 (o := (some a12)) C hin X hJ hk dX4_init_38 (fun H locs hJ => ?_)
  refine lt_ok h (fun S13 e_S13 h => ?_)
  rw [e_S13] at hJ
  refine lv_aload_n C.1 C.2.1 dX4_init_41 rfl (lv_at hl 0 rfl) ?_
  refine lv_sipush (v := 1000) C.1 C.2.1 dX4_init_42 (by decide) ?_
  refine c_anew (N := 1000) C hJ 30 (by decide) X.2.2.2.2.1 cl4_21 X.2.2.2.2.2.2.2.1.1 (by decide) (by decide) (by decide) (by decide) (by decide) dX4_init_45 (fun H hJ => ?_)
  refine lt_ok h (fun a15 e_a15 h => ?_)
  refine lt_ok h (fun S14 e_S14 h => ?_)
  rw [e_S14] at hJ
  rw [e_a15]
  obtain ⟨hk, h⟩ := ckk_ok h
  refine pk4_27 (o := (some a15)) C hin X hJ hk dX4_init_48 (fun H locs hJ => ?_)
  refine lt_ok h (fun S16 e_S16 h => ?_)
  rw [e_S16] at hJ
  refine lv_aload_n C.1 C.2.1 dX4_init_51 rfl (lv_at hl 0 rfl) ?_
  refine lv_sipush (v := 385) C.1 C.2.1 dX4_init_52 (by decide) ?_
  refine c_anew (N := 385) C hJ 30 (by decide) X.2.2.2.2.1 cl4_21 X.2.2.2.2.2.2.2.1.1 (by decide) (by decide) (by decide) (by decide) (by decide) dX4_init_55 (fun H hJ => ?_)
  refine lt_ok h (fun a18 e_a18 h => ?_)
  refine lt_ok h (fun S17 e_S17 h => ?_)
  rw [e_S17] at hJ
  rw [e_a18]
  obtain ⟨hk, h⟩ := ckk_ok h
  refine pk4_30 (o := (some a18)) C hin X hJ hk dX4_init_58 (fun H locs hJ => ?_)
  refine lt_ok h (fun S19 e_S19 h => ?_)
  rw [e_S19] at hJ
  refine lv_aload_n C.1 C.2.1 dX4_init_61 rfl (lv_at hl 0 rfl) ?_
  refine lv_sipush (v := 385) C.1 C.2.1 dX4_init_62 (by decide) ?_
  refine c_anew (N := 385) C hJ 30 (by decide) X.2.2.2.2.1 cl4_21 X.2.2.2.2.2.2.2.1.1 (by decide) (by decide) (by decide) (by decide) (by decide) dX4_init_65 (fun H hJ => ?_)
  refine lt_ok h (fun a21 e_a21 h => ?_)
  refine lt_ok h (fun S20 e_S20 h => ?_)
  rw [e_S20] at hJ
  rw [e_a21]
  obtain ⟨hk, h⟩ := ckk_ok h
  refine pk4_33 (o := (some a21)) C hin X hJ hk dX4_init_68 (fun H locs hJ => ?_)
  refine lt_ok h (fun S22 e_S22 h => ?_)
  rw [e_S22] at hJ
  refine lv_aload_n C.1 C.2.1 dX4_init_71 rfl (lv_at hl 0 rfl) ?_
  refine lv_iconst (v := 0) C.1 C.2.1 dX4_init_72 (by decide) ?_
  obtain ⟨hk, h⟩ := ckk_ok h
  refine pk4_36 C X hJ hk dX4_init_73 (fun H locs hJ => ?_)
  refine lt_ok h (fun S23 e_S23 h => ?_)
  rw [e_S23] at hJ
  refine lv_aload_n C.1 C.2.1 dX4_init_76 rfl (lv_at hl 0 rfl) ?_
  refine lv_aload_n C.1 C.2.1 dX4_init_77 rfl (lv_at hl 1 rfl) ?_
  obtain ⟨hk, h⟩ := ckk_ok h
  refine pk4_40 (o := (some v1)) C hin X hJ hk dX4_init_78 (fun H locs hJ => ?_)
  refine lt_ok h (fun S24 e_S24 h => ?_)
  rw [e_S24] at hJ
  cases h
  exact c_retvW C hJ dX4_init_81
end
theorem dX4_has_0 : decode cX4_has 0 = .ok (.aload_n 0, 1) := by decide +kernel
theorem dX4_has_1 : decode cX4_has 1 = .ok (.getfield 15, 3) := by decide +kernel
theorem dX4_has_4 : decode cX4_has 4 = .ok (.aload_n 1, 1) := by decide +kernel
theorem dX4_has_5 : decode cX4_has 5 = .ok (.getfield 44, 3) := by decide +kernel
theorem dX4_has_8 : decode cX4_has 8 = .ok (.iaload, 1) := by decide +kernel
theorem dX4_has_9 : decode cX4_has 9 = .ok (.ifCond .le 7, 3) := by decide +kernel
theorem dX4_has_12 : decode cX4_has 12 = .ok (.iconst 1, 1) := by decide +kernel
theorem dX4_has_13 : decode cX4_has 13 = .ok (.goto 4, 3) := by decide +kernel
theorem dX4_has_16 : decode cX4_has 16 = .ok (.iconst 0, 1) := by decide +kernel
theorem dX4_has_17 : decode cX4_has 17 = .ok (.ireturn, 1) := by decide +kernel
theorem kd_4_has : Cond.code yX4_has cX4_has 2 (some .boolean) ∈ lw_g := mt_at 1137 (by decide +kernel) rfl
theorem ki_4_has : Cond.instanceMethod yX4_has ∈ lw_g := mt_at 1135 (by decide +kernel) rfl
theorem kl_4_has : Cond.selects (kRn 4) yX4_has yX4_has ∈ lw_g := mt_at 1136 (by decide +kernel) rfl
section
variable {p : Program} {l : Launch} {e : Env} {R : Room} {s : State} {m : MethodId} {args : Array Value} {below : List Frame} {meth : Method} {c : Code} {H : Heap} {locs : List Loc} {cells slots : Nat} {Q : State → Prop}
variable {D : cG} {S S0 : cSt} {cc : ByteArray} {nL : Nat} {pc : Nat} {ls : Array Slot} {rest : List Value} {H0 : Heap} {nF nR nC nS : Nat} {ret : Option FieldType} {a : Nat}
theorem gk4_15 (C : cY p R s m args meth c RX4 cc nL nF nC nS nR ret) (X : cX D s) (hW : cW D S H) (hk : kK S a = 5) {x : Nat} (hx : kR S a 1 = some x) (hdg : decode cc pc = .ok (.getfield 15, 3)) (kk : W p l e R s m args below meth c H locs cells slots Q (F0 m (pc + 3) ls (.ref x :: rest))) : W p l e R s m args below meth c H locs cells slots Q (F0 m pc ls (.ref a :: rest)) := c_get C X hW 4 (by decide) ly_4 hk 1 (by decide) (mt_at 228 (by decide +kernel) (by decide +kernel)) hdg (by rw [cV_R (by decide +kernel) hx]; exact kk)
theorem gk4_44 (C : cY p R s m args meth c RX4 cc nL nF nC nS nR ret) (X : cX D s) (hW : cW D S H) (hk : kK S a = 9) (hdg : decode cc pc = .ok (.getfield 44, 3)) (kk : W p l e R s m args below meth c H locs cells slots Q (F0 m (pc + 3) ls (.int (kF S a 12) :: rest))) : W p l e R s m args below meth c H locs cells slots Q (F0 m pc ls (.ref a :: rest)) := c_get C X hW 8 (by decide) ly_8 hk 12 (by decide) (mt_at 1025 (by decide +kernel) (by decide +kernel)) hdg (by rw [cV_I (by decide +kernel)]; exact kk)
end
section
variable {p : Program} {l : Launch} {e : Env} {R : Room} {s : State} {m : MethodId} {args : Array Value} {below : List Frame} {meth : Method} {c : Code} {D : cG} {S : cSt} {r : Int32}
noncomputable def fk_4_has_17 (S : cSt) (s0 : Int32) : Option (Int32) :=
ckz s0 (some s0)
set_option maxRecDepth 100000 in
set_option maxHeartbeats 4000000 in
theorem wk_4_has_17 (C : cY p R s m args meth c RX4 cX4_has 2 0 0 0 0 (some .boolean)) (X : cX D s) (hW : cW D S s.heap) : ∀ {s0 : Int32} {ls : Array Slot}, fk_4_has_17 S s0 = some r → lv_has ls 2 [] → W p l e R s m args below meth c s.heap [] 0 0 (MQ below (kQ (some (.int r))) args s 0 0 mNo) (F0 m 17 ls [.int s0]) := by
  intro s0 ls h hl
  unfold fk_4_has_17 at h
  obtain ⟨hzo, h⟩ := ckz_ok h
  cases h
  exact c_retn C (by rcases hzo with h9 | h9 <;> (rw [h9]; rfl)) rfl rfl dX4_has_17
noncomputable def fk_4_has (S : cSt) (v0 : Nat) (v1 : Nat) : Option (Int32) :=
ckk S v0 5 (bd (kR S v0 1) fun a1 =>
ckk S v1 9 (
ckk S a1 20 (ck (kF S v1 12) (kL S a1) (
if (kI S a1 (Int32.toNatClampNeg (kF S v1 12))) ≤ 0 then (
fk_4_has_17 S (0 : Int32))
else (
fk_4_has_17 S (1 : Int32))))))
set_option maxRecDepth 100000 in
set_option maxHeartbeats 4000000 in
theorem tk_4_has (l : Launch) {D : cG} {S : cSt} {v0 : Nat} {v1 : Nat} {r : Int32}  (h : fk_4_has S v0 v1 = some r) : Met l yX4_has (Cond.code yX4_has cX4_has 2 (some .boolean) :: lw_g) { frames := 0, cells := 0, slots := 0, locals := 0 } (kPi [.ref v0, .ref v1] D S) (kQ (some (.int r))) 0 0 (mNo) := by
  refine Met.ofW (cc := cX4_has) (maxL := 2) (ret := (some .boolean)) (by decide) rfl ?_
  intro p e s m args below meth c s₁ B hml hv
  obtain ⟨rfl, hW, X⟩ := hv
  have C : cY p (headSpec (Cond.code yX4_has cX4_has 2 (some .boolean) :: lw_g) { frames := 0, cells := 0, slots := 0, locals := 0 }).room s m _ meth c RX4 cX4_has 2 0 0 0 0 (some .boolean) := ⟨B.exec, B.bytes, hml, findClass_of_methodNamed B.named, fun w hw => atoms_spec (ws := Cond.code yX4_has cX4_has 2 (some .boolean) :: lw_g) B.pre w (List.mem_cons_of_mem _ hw), ⟨Nat.le_refl _, Nat.le_refl _, Nat.le_refl _, Nat.le_refl _⟩, B.returns, B.notSynchronized⟩
  have hl := lv_entry ([.ref v0, .ref v1]) (n := 2) (Nat.le_of_ble_eq_true rfl)
  rw [lg_entry_eq]
  generalize (lg_sl ([.ref v0, .ref v1]) ++ List.replicate (2 - (lg_sl ([.ref v0, .ref v1])).length) Slot.unset).toArray = ls at hl ⊢
  have hl : lv_has ls 2 [(0, .ref v0), (1, .ref v1)] := hl
  unfold fk_4_has at h
  refine lv_aload_n C.1 C.2.1 dX4_has_0 rfl (lv_at hl 0 rfl) ?_
  obtain ⟨hk, h⟩ := ckk_ok h
  obtain ⟨a1, h_a1, h⟩ := bd_ok h
  refine gk4_15 C X hW hk h_a1 dX4_has_1 ?_
  refine lv_aload_n C.1 C.2.1 dX4_has_4 rfl (lv_at hl 1 rfl) ?_
  obtain ⟨hk, h⟩ := ckk_ok h
  refine gk4_44 C X hW hk dX4_has_5 ?_
  obtain ⟨hk, h⟩ := ckk_ok h
  obtain ⟨hin2, h⟩ := ck_ok h
  refine c_iald C X hW hk hin2 dX4_has_8 ?_
  refine lv_if_le (tgt := 16) C.1 C.2.1 dX4_has_9 (by decide) (fun c2 => ?_) (fun c2 => ?_)
  · have h := if_t h c2
    refine lv_iconst (v := 0) C.1 C.2.1 dX4_has_16 (by decide) ?_
    exact wk_4_has_17 C X hW h (lv_sub hl [] rfl)
  · have h := if_f h c2
    refine lv_iconst (v := 1) C.1 C.2.1 dX4_has_12 (by decide) ?_
    refine lv_goto (tgt := 17) C.1 C.2.1 dX4_has_13 (by decide) ?_
    exact wk_4_has_17 C X hW h (lv_sub hl [] rfl)
end
theorem dX8_turnsAnother_0 : decode cX8_turnsAnother 0 = .ok (.aload_n 0, 1) := by decide +kernel
theorem dX8_turnsAnother_1 : decode cX8_turnsAnother 1 = .ok (.getfield 15, 3) := by decide +kernel
theorem dX8_turnsAnother_4 : decode cX8_turnsAnother 4 = .ok (.bipush 13, 2) := by decide +kernel
theorem dX8_turnsAnother_6 : decode cX8_turnsAnother 6 = .ok (.if_icmp .eq 12, 3) := by decide +kernel
theorem dX8_turnsAnother_9 : decode cX8_turnsAnother 9 = .ok (.aload_n 0, 1) := by decide +kernel
theorem dX8_turnsAnother_10 : decode cX8_turnsAnother 10 = .ok (.getfield 15, 3) := by decide +kernel
theorem dX8_turnsAnother_13 : decode cX8_turnsAnother 13 = .ok (.bipush 14, 2) := by decide +kernel
theorem dX8_turnsAnother_15 : decode cX8_turnsAnother 15 = .ok (.if_icmp .ne 7, 3) := by decide +kernel
theorem dX8_turnsAnother_18 : decode cX8_turnsAnother 18 = .ok (.iconst 1, 1) := by decide +kernel
theorem dX8_turnsAnother_19 : decode cX8_turnsAnother 19 = .ok (.goto 4, 3) := by decide +kernel
theorem dX8_turnsAnother_22 : decode cX8_turnsAnother 22 = .ok (.iconst 0, 1) := by decide +kernel
theorem dX8_turnsAnother_23 : decode cX8_turnsAnother 23 = .ok (.ireturn, 1) := by decide +kernel
theorem kd_8_turnsAnother : Cond.code yX8_turnsAnother cX8_turnsAnother 1 (some .boolean) ∈ lw_g := mt_at 1074 (by decide +kernel) rfl
theorem ki_8_turnsAnother : Cond.instanceMethod yX8_turnsAnother ∈ lw_g := mt_at 1072 (by decide +kernel) rfl
theorem kl_8_turnsAnother : Cond.selects (kRn 8) yX8_turnsAnother yX8_turnsAnother ∈ lw_g := mt_at 1073 (by decide +kernel) rfl
section
variable {p : Program} {l : Launch} {e : Env} {R : Room} {s : State} {m : MethodId} {args : Array Value} {below : List Frame} {meth : Method} {c : Code} {H : Heap} {locs : List Loc} {cells slots : Nat} {Q : State → Prop}
variable {D : cG} {S S0 : cSt} {cc : ByteArray} {nL : Nat} {pc : Nat} {ls : Array Slot} {rest : List Value} {H0 : Heap} {nF nR nC nS : Nat} {ret : Option FieldType} {a : Nat}
theorem gk8_15 (C : cY p R s m args meth c RX8 cc nL nF nC nS nR ret) (X : cX D s) (hW : cW D S H) (hk : kK S a = 9) (hdg : decode cc pc = .ok (.getfield 15, 3)) (kk : W p l e R s m args below meth c H locs cells slots Q (F0 m (pc + 3) ls (.int (kF S a 0) :: rest))) : W p l e R s m args below meth c H locs cells slots Q (F0 m pc ls (.ref a :: rest)) := c_get C X hW 8 (by decide) ly_8 hk 0 (by decide) (mt_at 962 (by decide +kernel) (by decide +kernel)) hdg (by rw [cV_I (by decide +kernel)]; exact kk)
end
section
variable {p : Program} {l : Launch} {e : Env} {R : Room} {s : State} {m : MethodId} {args : Array Value} {below : List Frame} {meth : Method} {c : Code} {D : cG} {S : cSt} {r : Int32}
noncomputable def fk_8_turnsAnother_23 (S : cSt) (s0 : Int32) : Option (Int32) :=
ckz s0 (some s0)
set_option maxRecDepth 100000 in
set_option maxHeartbeats 4000000 in
theorem wk_8_turnsAnother_23 (C : cY p R s m args meth c RX8 cX8_turnsAnother 1 0 0 0 0 (some .boolean)) (X : cX D s) (hW : cW D S s.heap) : ∀ {s0 : Int32} {ls : Array Slot}, fk_8_turnsAnother_23 S s0 = some r → lv_has ls 1 [] → W p l e R s m args below meth c s.heap [] 0 0 (MQ below (kQ (some (.int r))) args s 0 0 mNo) (F0 m 23 ls [.int s0]) := by
  intro s0 ls h hl
  unfold fk_8_turnsAnother_23 at h
  obtain ⟨hzo, h⟩ := ckz_ok h
  cases h
  exact c_retn C (by rcases hzo with h9 | h9 <;> (rw [h9]; rfl)) rfl rfl dX8_turnsAnother_23
noncomputable def fk_8_turnsAnother_18 (S : cSt) : Option (Int32) :=
fk_8_turnsAnother_23 S (1 : Int32)
set_option maxRecDepth 100000 in
set_option maxHeartbeats 4000000 in
theorem wk_8_turnsAnother_18 (C : cY p R s m args meth c RX8 cX8_turnsAnother 1 0 0 0 0 (some .boolean)) (X : cX D s) (hW : cW D S s.heap) : ∀ {ls : Array Slot}, fk_8_turnsAnother_18 S = some r → lv_has ls 1 [] → W p l e R s m args below meth c s.heap [] 0 0 (MQ below (kQ (some (.int r))) args s 0 0 mNo) (F0 m 18 ls []) := by
  intro ls h hl
  unfold fk_8_turnsAnother_18 at h
  refine lv_iconst (v := 1) C.1 C.2.1 dX8_turnsAnother_18 (by decide) ?_
  refine lv_goto (tgt := 23) C.1 C.2.1 dX8_turnsAnother_19 (by decide) ?_
  exact wk_8_turnsAnother_23 C X hW h (lv_sub hl [] rfl)
noncomputable def fk_8_turnsAnother (S : cSt) (v0 : Nat) : Option (Int32) :=
ckk S v0 9 (
if (kF S v0 0) = (13 : Int32) then (
fk_8_turnsAnother_18 S)
else (
ckk S v0 9 (
if (kF S v0 0) = (14 : Int32) then (
fk_8_turnsAnother_18 S)
else (
fk_8_turnsAnother_23 S (0 : Int32)))))
set_option maxRecDepth 100000 in
set_option maxHeartbeats 4000000 in
theorem tk_8_turnsAnother (l : Launch) {D : cG} {S : cSt} {v0 : Nat} {r : Int32}  (h : fk_8_turnsAnother S v0 = some r) : Met l yX8_turnsAnother (Cond.code yX8_turnsAnother cX8_turnsAnother 1 (some .boolean) :: lw_g) { frames := 0, cells := 0, slots := 0, locals := 0 } (kPi [.ref v0] D S) (kQ (some (.int r))) 0 0 (mNo) := by
  refine Met.ofW (cc := cX8_turnsAnother) (maxL := 1) (ret := (some .boolean)) (by decide) rfl ?_
  intro p e s m args below meth c s₁ B hml hv
  obtain ⟨rfl, hW, X⟩ := hv
  have C : cY p (headSpec (Cond.code yX8_turnsAnother cX8_turnsAnother 1 (some .boolean) :: lw_g) { frames := 0, cells := 0, slots := 0, locals := 0 }).room s m _ meth c RX8 cX8_turnsAnother 1 0 0 0 0 (some .boolean) := ⟨B.exec, B.bytes, hml, findClass_of_methodNamed B.named, fun w hw => atoms_spec (ws := Cond.code yX8_turnsAnother cX8_turnsAnother 1 (some .boolean) :: lw_g) B.pre w (List.mem_cons_of_mem _ hw), ⟨Nat.le_refl _, Nat.le_refl _, Nat.le_refl _, Nat.le_refl _⟩, B.returns, B.notSynchronized⟩
  have hl := lv_entry ([.ref v0]) (n := 1) (Nat.le_of_ble_eq_true rfl)
  rw [lg_entry_eq]
  generalize (lg_sl ([.ref v0]) ++ List.replicate (1 - (lg_sl ([.ref v0])).length) Slot.unset).toArray = ls at hl ⊢
  have hl : lv_has ls 1 [(0, .ref v0)] := hl
  unfold fk_8_turnsAnother at h
  refine lv_aload_n C.1 C.2.1 dX8_turnsAnother_0 rfl (lv_at hl 0 rfl) ?_
  obtain ⟨hk, h⟩ := ckk_ok h
  refine gk8_15 C X hW hk dX8_turnsAnother_1 ?_
  refine lv_bipush (v := 13) C.1 C.2.1 dX8_turnsAnother_4 (by decide) ?_
  refine lv_icmp_eq (tgt := 18) C.1 C.2.1 dX8_turnsAnother_6 (by decide) (fun c1 => ?_) (fun c1 => ?_)
  · have h := if_t h c1
    exact wk_8_turnsAnother_18 C X hW h (lv_sub hl [] rfl)
  · have h := if_f h c1
    refine lv_aload_n C.1 C.2.1 dX8_turnsAnother_9 rfl (lv_at hl 0 rfl) ?_
    obtain ⟨hk, h⟩ := ckk_ok h
    refine gk8_15 C X hW hk dX8_turnsAnother_10 ?_
    refine lv_bipush (v := 14) C.1 C.2.1 dX8_turnsAnother_13 (by decide) ?_
    refine lv_icmp_ne (tgt := 22) C.1 C.2.1 dX8_turnsAnother_15 (by decide) (fun c2 => ?_) (fun c2 => ?_)
    · have h := if_f h c2
      refine lv_iconst (v := 0) C.1 C.2.1 dX8_turnsAnother_22 (by decide) ?_
      exact wk_8_turnsAnother_23 C X hW h (lv_sub hl [] rfl)
    · have h := if_t h c2
      exact wk_8_turnsAnother_18 C X hW h (lv_sub hl [] rfl)
end
theorem dX4_mark_0 : decode cX4_mark 0 = .ok (.aload_n 1, 1) := by decide +kernel
theorem dX4_mark_1 : decode cX4_mark 1 = .ok (.invokevirtual 62, 3) := by decide +kernel
theorem dX4_mark_4 : decode cX4_mark 4 = .ok (.ifCond .ne 4, 3) := by decide +kernel
theorem dX4_mark_7 : decode cX4_mark 7 = .ok (.return_, 1) := by decide +kernel
theorem dX4_mark_8 : decode cX4_mark 8 = .ok (.aload_n 0, 1) := by decide +kernel
theorem dX4_mark_9 : decode cX4_mark 9 = .ok (.getfield 40, 3) := by decide +kernel
theorem dX4_mark_12 : decode cX4_mark 12 = .ok (.aload_n 1, 1) := by decide +kernel
theorem dX4_mark_13 : decode cX4_mark 13 = .ok (.getfield 66, 3) := by decide +kernel
theorem dX4_mark_16 : decode cX4_mark 16 = .ok (.invokevirtual 69, 3) := by decide +kernel
theorem dX4_mark_19 : decode cX4_mark 19 = .ok (.astore_n 3, 1) := by decide +kernel
theorem dX4_mark_20 : decode cX4_mark 20 = .ok (.aload_n 3, 1) := by decide +kernel
theorem dX4_mark_21 : decode cX4_mark 21 = .ok (.ifnull 23, 3) := by decide +kernel
theorem dX4_mark_24 : decode cX4_mark 24 = .ok (.aload_n 2, 1) := by decide +kernel
theorem dX4_mark_25 : decode cX4_mark 25 = .ok (.aload_n 3, 1) := by decide +kernel
theorem dX4_mark_26 : decode cX4_mark 26 = .ok (.getfield 44, 3) := by decide +kernel
theorem dX4_mark_29 : decode cX4_mark 29 = .ok (.aload_n 1, 1) := by decide +kernel
theorem dX4_mark_30 : decode cX4_mark 30 = .ok (.getfield 75, 3) := by decide +kernel
theorem dX4_mark_33 : decode cX4_mark 33 = .ok (.bipush 13, 2) := by decide +kernel
theorem dX4_mark_35 : decode cX4_mark 35 = .ok (.if_icmp .ne 7, 3) := by decide +kernel
theorem dX4_mark_38 : decode cX4_mark 38 = .ok (.iconst 1, 1) := by decide +kernel
theorem dX4_mark_39 : decode cX4_mark 39 = .ok (.goto 4, 3) := by decide +kernel
theorem dX4_mark_42 : decode cX4_mark 42 = .ok (.iconst 0, 1) := by decide +kernel
theorem dX4_mark_43 : decode cX4_mark 43 = .ok (.iastore, 1) := by decide +kernel
theorem dX4_mark_44 : decode cX4_mark 44 = .ok (.return_, 1) := by decide +kernel
theorem kd_4_mark : Cond.code yX4_mark cX4_mark 4 none ∈ lw_g := mt_at 1141 (by decide +kernel) rfl
theorem ki_4_mark : Cond.instanceMethod yX4_mark ∈ lw_g := mt_at 1139 (by decide +kernel) rfl
theorem kl_4_mark : Cond.selects (kRn 4) yX4_mark yX4_mark ∈ lw_g := mt_at 1140 (by decide +kernel) rfl
theorem cw4_62 : cCw RX4 62 yX8_turnsAnother cX8_turnsAnother 1 (some .boolean) 0 := ⟨kd_8_turnsAnother, mt_at 1142 (by decide +kernel) rfl, mt_at 29 (by decide +kernel) rfl, by decide +kernel⟩
theorem cw4_69 : cCw RX4 69 yX0_rowNamed cX0_rowNamed 3 (some (.object "AccordHouse$Row")) 1 := ⟨kd_0_rowNamed, mt_at 1143 (by decide +kernel) rfl, mt_at 3 (by decide +kernel) rfl, by decide +kernel⟩
section
variable {p : Program} {l : Launch} {e : Env} {R : Room} {s : State} {m : MethodId} {args : Array Value} {below : List Frame} {meth : Method} {c : Code} {H : Heap} {locs : List Loc} {cells slots : Nat} {Q : State → Prop}
variable {D : cG} {S S0 : cSt} {cc : ByteArray} {nL : Nat} {pc : Nat} {ls : Array Slot} {rest : List Value} {H0 : Heap} {nF nR nC nS : Nat} {ret : Option FieldType} {a : Nat}
theorem gk4_40 (C : cY p R s m args meth c RX4 cc nL nF nC nS nR ret) (X : cX D s) (hW : cW D S H) (hk : kK S a = 5) {x : Nat} (hx : kR S a 8 = some x) (hdg : decode cc pc = .ok (.getfield 40, 3)) (kk : W p l e R s m args below meth c H locs cells slots Q (F0 m (pc + 3) ls (.ref x :: rest))) : W p l e R s m args below meth c H locs cells slots Q (F0 m pc ls (.ref a :: rest)) := c_get C X hW 4 (by decide) ly_4 hk 8 (by decide) (mt_at 245 (by decide +kernel) (by decide +kernel)) hdg (by rw [cV_R (by decide +kernel) hx]; exact kk)
theorem gk4_66 (C : cY p R s m args meth c RX4 cc nL nF nC nS nR ret) (X : cX D s) (hW : cW D S H) (hk : kK S a = 9) (hdg : decode cc pc = .ok (.getfield 66, 3)) (kk : W p l e R s m args below meth c H locs cells slots Q (F0 m (pc + 3) ls (.int (kF S a 5) :: rest))) : W p l e R s m args below meth c H locs cells slots Q (F0 m pc ls (.ref a :: rest)) := c_get C X hW 8 (by decide) ly_8 hk 5 (by decide) (mt_at 989 (by decide +kernel) (by decide +kernel)) hdg (by rw [cV_I (by decide +kernel)]; exact kk)
theorem gk4_75 (C : cY p R s m args meth c RX4 cc nL nF nC nS nR ret) (X : cX D s) (hW : cW D S H) (hk : kK S a = 9) (hdg : decode cc pc = .ok (.getfield 75, 3)) (kk : W p l e R s m args below meth c H locs cells slots Q (F0 m (pc + 3) ls (.int (kF S a 0) :: rest))) : W p l e R s m args below meth c H locs cells slots Q (F0 m pc ls (.ref a :: rest)) := c_get C X hW 8 (by decide) ly_8 hk 0 (by decide) (mt_at 965 (by decide +kernel) (by decide +kernel)) hdg (by rw [cV_I (by decide +kernel)]; exact kk)
end
section
variable {p : Program} {l : Launch} {e : Env} {R : Room} {s : State} {m : MethodId} {args : Array Value} {below : List Frame} {meth : Method} {c : Code} {D : cG} {S0 S9 : cSt}
noncomputable def fk_4_mark_44 (S : cSt) : Option (cSt) :=
some S
set_option maxRecDepth 100000 in
set_option maxHeartbeats 4000000 in
theorem wk_4_mark_44 (C : cY p R s m args meth c RX4 cX4_mark 4 1 0 0 22 none) (X : cX D s) : ∀ {S : cSt} {H : Heap} {locs : List Loc} {ls : Array Slot}, fk_4_mark_44 S = some S9 → cJ D S0 s.heap S H locs → lv_has ls 4 [] → W p l e R s m args below meth c H locs 0 0 (MQ below (kW none D S0 S9) args s 0 0 (cA S0)) (F0 m 44 ls []) := by
  intro S H locs ls h hJ hl
  unfold fk_4_mark_44 at h
  cases h
  exact c_retvW C hJ dX4_mark_44
noncomputable def fk_4_mark_43 (S : cSt) (s0 : Nat) (s1 : Int32) (s2 : Int32) : Option (cSt) :=
ckk S s0 20 (ck s1 (kL S s0) (lt (cWi S s0 (Int32.toNatClampNeg s1) s2) fun S1 =>
fk_4_mark_44 S1))
set_option maxRecDepth 100000 in
set_option maxHeartbeats 4000000 in
theorem wk_4_mark_43 (C : cY p R s m args meth c RX4 cX4_mark 4 1 0 0 22 none) (X : cX D s) : ∀ {S : cSt} {s0 : Nat} {s1 : Int32} {s2 : Int32} {H : Heap} {locs : List Loc} {ls : Array Slot}, fk_4_mark_43 S s0 s1 s2 = some S9 → cJ D S0 s.heap S H locs → lv_has ls 4 [] → W p l e R s m args below meth c H locs 0 0 (MQ below (kW none D S0 S9) args s 0 0 (cA S0)) (F0 m 43 ls [.int s2, .int s1, .ref s0]) := by
  intro S s0 s1 s2 H locs ls h hJ hl
  unfold fk_4_mark_43 at h
  obtain ⟨hk, h⟩ := ckk_ok h
  obtain ⟨hin2, h⟩ := ck_ok h
  refine c_iast C X hJ hk hin2 dX4_mark_43 (fun H locs hJ => ?_)
  refine lt_ok h (fun S1 e_S1 h => ?_)
  rw [e_S1] at hJ
  exact wk_4_mark_44 C X h hJ (lv_sub hl [] rfl)
noncomputable def fk_4_mark (S : cSt) (v0 : Nat) (v1 : Nat) (v2 : Nat) : Option (cSt) :=
ckk S v1 9 (bd (fk_8_turnsAnother S v1) fun r1 =>
if r1 = 0 then (
some S)
else (
ckk S v0 5 (bd (kR S v0 8) fun a3 =>
ckk S v1 9 (
ckk S a3 1 (bd (fk_0_rowNamed S a3 (kF S v1 5)) fun o4 =>
cs o4 (
fk_4_mark_44 S) (fun a5 =>
ckk S a5 9 (
ckk S v1 9 (
if (kF S v1 0) = (13 : Int32) then (
fk_4_mark_43 S v2 (kF S a5 12) (1 : Int32))
else (
fk_4_mark_43 S v2 (kF S a5 12) (0 : Int32))))))))))
set_option maxRecDepth 100000 in
set_option maxHeartbeats 4000000 in
theorem tk_4_mark (l : Launch) {D : cG} {S : cSt} {v0 : Nat} {v1 : Nat} {v2 : Nat} {S9 : cSt} (h : fk_4_mark S v0 v1 v2 = some S9) : Met l yX4_mark (Cond.code yX4_mark cX4_mark 4 none :: lw_g) { frames := 1, cells := 0, slots := 0, locals := 22 } (kPi [.ref v0, .ref v1, .ref v2] D S) (kW none D S S9) 0 0 (cA S) := by
  refine Met.ofW (cc := cX4_mark) (maxL := 4) (ret := none) (by decide) rfl ?_
  intro p e s m args below meth c s₁ B hml hv
  obtain ⟨rfl, hW, X⟩ := hv
  have C : cY p (headSpec (Cond.code yX4_mark cX4_mark 4 none :: lw_g) { frames := 1, cells := 0, slots := 0, locals := 22 }).room s m _ meth c RX4 cX4_mark 4 1 0 0 22 none := ⟨B.exec, B.bytes, hml, findClass_of_methodNamed B.named, fun w hw => atoms_spec (ws := Cond.code yX4_mark cX4_mark 4 none :: lw_g) B.pre w (List.mem_cons_of_mem _ hw), ⟨Nat.le_refl _, Nat.le_refl _, Nat.le_refl _, Nat.le_refl _⟩, B.returns, B.notSynchronized⟩
  have hl := lv_entry ([.ref v0, .ref v1, .ref v2]) (n := 4) (Nat.le_of_ble_eq_true rfl)
  rw [lg_entry_eq]
  generalize (lg_sl ([.ref v0, .ref v1, .ref v2]) ++ List.replicate (4 - (lg_sl ([.ref v0, .ref v1, .ref v2])).length) Slot.unset).toArray = ls at hl ⊢
  have hl : lv_has ls 4 [(0, .ref v0), (1, .ref v1), (2, .ref v2)] := hl
  have hJ : cJ D S s.heap S s.heap [] := cJ.rf hW
  unfold fk_4_mark at h
  refine lv_aload_n C.1 C.2.1 dX4_mark_0 rfl (lv_at hl 1 rfl) ?_
  obtain ⟨hk, h⟩ := ckk_ok h
  obtain ⟨r1, h_r1, h⟩ := bd_ok h
  refine c_callR (rest := []) C X hJ.1 hl.1 8 (by decide) hk [] (tk_8_turnsAnother l h_r1) cw4_62 ki_8_turnsAnother kl_8_turnsAnother rfl ⟨by decide, by decide⟩ ⟨(by decide), (by decide)⟩ rfl (Nat.le_of_ble_eq_true rfl) dX4_mark_1 ?_
  refine W.eq (g2 := F0 m 4 ls [.int r1]) rfl ?_
  refine lv_if_ne (tgt := 8) C.1 C.2.1 dX4_mark_4 (by decide) (fun c2 => ?_) (fun c2 => ?_)
  · have h := if_f h c2
    refine lv_aload_n C.1 C.2.1 dX4_mark_8 rfl (lv_at hl 0 rfl) ?_
    obtain ⟨hk, h⟩ := ckk_ok h
    obtain ⟨a3, h_a3, h⟩ := bd_ok h
    refine gk4_40 C X hJ.1 hk h_a3 dX4_mark_9 ?_
    refine lv_aload_n C.1 C.2.1 dX4_mark_12 rfl (lv_at hl 1 rfl) ?_
    obtain ⟨hk, h⟩ := ckk_ok h
    refine gk4_66 C X hJ.1 hk dX4_mark_13 ?_
    obtain ⟨hk, h⟩ := ckk_ok h
    obtain ⟨o4, h_o4, h⟩ := bd_ok h
    refine c_callR (rest := []) C X hJ.1 hl.1 0 (by decide) hk [.int (kF S v1 5)] (tk_0_rowNamed l h_o4) cw4_69 ki_0_rowNamed kl_0_rowNamed rfl ⟨by decide, by decide⟩ ⟨(by decide), (by decide)⟩ rfl (Nat.le_of_ble_eq_true rfl) dX4_mark_16 ?_
    refine W.eq (g2 := F0 m 19 ls [va_rf o4]) rfl ?_
    refine lv_astore_nq (o := o4) (lv' := [(3, va_rf o4), (0, .ref v0), (1, .ref v1), (2, .ref v2)]) C.1 C.2.1 dX4_mark_19 rfl hl (by decide) rfl (fun ls hl => ?_)
    refine lv_aload_nq (o := o4) C.1 C.2.1 dX4_mark_20 rfl (lv_at hl 0 rfl) ?_
    rcases o4 with _ | a5
    · replace h := cs_n h
      refine lv_ifnullN (tgt := 44) C.1 C.2.1 dX4_mark_21 (by decide) ?_
      exact wk_4_mark_44 C X h hJ (lv_sub hl [] rfl)
    · replace h := cs_s h
      refine lv_ifnull C.1 C.2.1 dX4_mark_21 ?_
      refine lv_aload_n C.1 C.2.1 dX4_mark_24 rfl (lv_at hl 3 rfl) ?_
      refine lv_aload_n C.1 C.2.1 dX4_mark_25 rfl (lv_at hl 0 rfl) ?_
      obtain ⟨hk, h⟩ := ckk_ok h
      refine gk4_44 C X hJ.1 hk dX4_mark_26 ?_
      refine lv_aload_n C.1 C.2.1 dX4_mark_29 rfl (lv_at hl 2 rfl) ?_
      obtain ⟨hk, h⟩ := ckk_ok h
      refine gk4_75 C X hJ.1 hk dX4_mark_30 ?_
      refine lv_bipush (v := 13) C.1 C.2.1 dX4_mark_33 (by decide) ?_
      refine lv_icmp_ne (tgt := 42) C.1 C.2.1 dX4_mark_35 (by decide) (fun c6 => ?_) (fun c6 => ?_)
      · have h := if_f h c6
        refine lv_iconst (v := 0) C.1 C.2.1 dX4_mark_42 (by decide) ?_
        exact wk_4_mark_43 C X h hJ (lv_sub hl [] rfl)
      · have h := if_t h c6
        refine lv_iconst (v := 1) C.1 C.2.1 dX4_mark_38 (by decide) ?_
        refine lv_goto (tgt := 43) C.1 C.2.1 dX4_mark_39 (by decide) ?_
        exact wk_4_mark_43 C X h hJ (lv_sub hl [] rfl)
  · have h := if_t h c2
    cases h
    exact c_retvW C hJ dX4_mark_7
end
theorem dX8_isBefore_0 : decode cX8_isBefore 0 = .ok (.aload_n 0, 1) := by decide +kernel
theorem dX8_isBefore_1 : decode cX8_isBefore 1 = .ok (.getfield 44, 3) := by decide +kernel
theorem dX8_isBefore_4 : decode cX8_isBefore 4 = .ok (.aload_n 1, 1) := by decide +kernel
theorem dX8_isBefore_5 : decode cX8_isBefore 5 = .ok (.getfield 44, 3) := by decide +kernel
theorem dX8_isBefore_8 : decode cX8_isBefore 8 = .ok (.if_icmp .eq 20, 3) := by decide +kernel
theorem dX8_isBefore_11 : decode cX8_isBefore 11 = .ok (.aload_n 0, 1) := by decide +kernel
theorem dX8_isBefore_12 : decode cX8_isBefore 12 = .ok (.getfield 44, 3) := by decide +kernel
theorem dX8_isBefore_15 : decode cX8_isBefore 15 = .ok (.aload_n 1, 1) := by decide +kernel
theorem dX8_isBefore_16 : decode cX8_isBefore 16 = .ok (.getfield 44, 3) := by decide +kernel
theorem dX8_isBefore_19 : decode cX8_isBefore 19 = .ok (.if_icmp .ge 7, 3) := by decide +kernel
theorem dX8_isBefore_22 : decode cX8_isBefore 22 = .ok (.iconst 1, 1) := by decide +kernel
theorem dX8_isBefore_23 : decode cX8_isBefore 23 = .ok (.goto 4, 3) := by decide +kernel
theorem dX8_isBefore_26 : decode cX8_isBefore 26 = .ok (.iconst 0, 1) := by decide +kernel
theorem dX8_isBefore_27 : decode cX8_isBefore 27 = .ok (.ireturn, 1) := by decide +kernel
theorem dX8_isBefore_28 : decode cX8_isBefore 28 = .ok (.aload_n 0, 1) := by decide +kernel
theorem dX8_isBefore_29 : decode cX8_isBefore 29 = .ok (.getfield 47, 3) := by decide +kernel
theorem dX8_isBefore_32 : decode cX8_isBefore 32 = .ok (.aload_n 1, 1) := by decide +kernel
theorem dX8_isBefore_33 : decode cX8_isBefore 33 = .ok (.getfield 47, 3) := by decide +kernel
theorem dX8_isBefore_36 : decode cX8_isBefore 36 = .ok (.if_icmp .eq 20, 3) := by decide +kernel
theorem dX8_isBefore_39 : decode cX8_isBefore 39 = .ok (.aload_n 0, 1) := by decide +kernel
theorem dX8_isBefore_40 : decode cX8_isBefore 40 = .ok (.getfield 47, 3) := by decide +kernel
theorem dX8_isBefore_43 : decode cX8_isBefore 43 = .ok (.aload_n 1, 1) := by decide +kernel
theorem dX8_isBefore_44 : decode cX8_isBefore 44 = .ok (.getfield 47, 3) := by decide +kernel
theorem dX8_isBefore_47 : decode cX8_isBefore 47 = .ok (.if_icmp .ge 7, 3) := by decide +kernel
theorem dX8_isBefore_50 : decode cX8_isBefore 50 = .ok (.iconst 1, 1) := by decide +kernel
theorem dX8_isBefore_51 : decode cX8_isBefore 51 = .ok (.goto 4, 3) := by decide +kernel
theorem dX8_isBefore_54 : decode cX8_isBefore 54 = .ok (.iconst 0, 1) := by decide +kernel
theorem dX8_isBefore_55 : decode cX8_isBefore 55 = .ok (.ireturn, 1) := by decide +kernel
theorem dX8_isBefore_56 : decode cX8_isBefore 56 = .ok (.aload_n 0, 1) := by decide +kernel
theorem dX8_isBefore_57 : decode cX8_isBefore 57 = .ok (.getfield 38, 3) := by decide +kernel
theorem dX8_isBefore_60 : decode cX8_isBefore 60 = .ok (.aload_n 1, 1) := by decide +kernel
theorem dX8_isBefore_61 : decode cX8_isBefore 61 = .ok (.getfield 38, 3) := by decide +kernel
theorem dX8_isBefore_64 : decode cX8_isBefore 64 = .ok (.if_icmp .ge 7, 3) := by decide +kernel
theorem dX8_isBefore_67 : decode cX8_isBefore 67 = .ok (.iconst 1, 1) := by decide +kernel
theorem dX8_isBefore_68 : decode cX8_isBefore 68 = .ok (.goto 4, 3) := by decide +kernel
theorem dX8_isBefore_71 : decode cX8_isBefore 71 = .ok (.iconst 0, 1) := by decide +kernel
theorem dX8_isBefore_72 : decode cX8_isBefore 72 = .ok (.ireturn, 1) := by decide +kernel
theorem kd_8_isBefore : Cond.code yX8_isBefore cX8_isBefore 2 (some .boolean) ∈ lw_g := mt_at 1151 (by decide +kernel) rfl
theorem ki_8_isBefore : Cond.instanceMethod yX8_isBefore ∈ lw_g := mt_at 1149 (by decide +kernel) rfl
theorem kl_8_isBefore : Cond.selects (kRn 8) yX8_isBefore yX8_isBefore ∈ lw_g := mt_at 1150 (by decide +kernel) rfl
section
variable {p : Program} {l : Launch} {e : Env} {R : Room} {s : State} {m : MethodId} {args : Array Value} {below : List Frame} {meth : Method} {c : Code} {H : Heap} {locs : List Loc} {cells slots : Nat} {Q : State → Prop}
variable {D : cG} {S S0 : cSt} {cc : ByteArray} {nL : Nat} {pc : Nat} {ls : Array Slot} {rest : List Value} {H0 : Heap} {nF nR nC nS : Nat} {ret : Option FieldType} {a : Nat}
theorem gk8_38 (C : cY p R s m args meth c RX8 cc nL nF nC nS nR ret) (X : cX D s) (hW : cW D S H) (hk : kK S a = 9) (hdg : decode cc pc = .ok (.getfield 38, 3)) (kk : W p l e R s m args below meth c H locs cells slots Q (F0 m (pc + 3) ls (.int (kF S a 6) :: rest))) : W p l e R s m args below meth c H locs cells slots Q (F0 m pc ls (.ref a :: rest)) := c_get C X hW 8 (by decide) ly_8 hk 6 (by decide) (mt_at 994 (by decide +kernel) (by decide +kernel)) hdg (by rw [cV_I (by decide +kernel)]; exact kk)
theorem gk8_44 (C : cY p R s m args meth c RX8 cc nL nF nC nS nR ret) (X : cX D s) (hW : cW D S H) (hk : kK S a = 9) (hdg : decode cc pc = .ok (.getfield 44, 3)) (kk : W p l e R s m args below meth c H locs cells slots Q (F0 m (pc + 3) ls (.int (kF S a 8) :: rest))) : W p l e R s m args below meth c H locs cells slots Q (F0 m pc ls (.ref a :: rest)) := c_get C X hW 8 (by decide) ly_8 hk 8 (by decide) (mt_at 1004 (by decide +kernel) (by decide +kernel)) hdg (by rw [cV_I (by decide +kernel)]; exact kk)
theorem gk8_47 (C : cY p R s m args meth c RX8 cc nL nF nC nS nR ret) (X : cX D s) (hW : cW D S H) (hk : kK S a = 9) (hdg : decode cc pc = .ok (.getfield 47, 3)) (kk : W p l e R s m args below meth c H locs cells slots Q (F0 m (pc + 3) ls (.int (kF S a 9) :: rest))) : W p l e R s m args below meth c H locs cells slots Q (F0 m pc ls (.ref a :: rest)) := c_get C X hW 8 (by decide) ly_8 hk 9 (by decide) (mt_at 1009 (by decide +kernel) (by decide +kernel)) hdg (by rw [cV_I (by decide +kernel)]; exact kk)
end
section
variable {p : Program} {l : Launch} {e : Env} {R : Room} {s : State} {m : MethodId} {args : Array Value} {below : List Frame} {meth : Method} {c : Code} {D : cG} {S : cSt} {r : Int32}
noncomputable def fk_8_isBefore_72 (S : cSt) (s0 : Int32) : Option (Int32) :=
ckz s0 (some s0)
set_option maxRecDepth 100000 in
set_option maxHeartbeats 4000000 in
theorem wk_8_isBefore_72 (C : cY p R s m args meth c RX8 cX8_isBefore 2 0 0 0 0 (some .boolean)) (X : cX D s) (hW : cW D S s.heap) : ∀ {s0 : Int32} {ls : Array Slot}, fk_8_isBefore_72 S s0 = some r → lv_has ls 2 [] → W p l e R s m args below meth c s.heap [] 0 0 (MQ below (kQ (some (.int r))) args s 0 0 mNo) (F0 m 72 ls [.int s0]) := by
  intro s0 ls h hl
  unfold fk_8_isBefore_72 at h
  obtain ⟨hzo, h⟩ := ckz_ok h
  cases h
  exact c_retn C (by rcases hzo with h9 | h9 <;> (rw [h9]; rfl)) rfl rfl dX8_isBefore_72
noncomputable def fk_8_isBefore_55 (S : cSt) (s0 : Int32) : Option (Int32) :=
ckz s0 (some s0)
set_option maxRecDepth 100000 in
set_option maxHeartbeats 4000000 in
theorem wk_8_isBefore_55 (C : cY p R s m args meth c RX8 cX8_isBefore 2 0 0 0 0 (some .boolean)) (X : cX D s) (hW : cW D S s.heap) : ∀ {s0 : Int32} {ls : Array Slot}, fk_8_isBefore_55 S s0 = some r → lv_has ls 2 [] → W p l e R s m args below meth c s.heap [] 0 0 (MQ below (kQ (some (.int r))) args s 0 0 mNo) (F0 m 55 ls [.int s0]) := by
  intro s0 ls h hl
  unfold fk_8_isBefore_55 at h
  obtain ⟨hzo, h⟩ := ckz_ok h
  cases h
  exact c_retn C (by rcases hzo with h9 | h9 <;> (rw [h9]; rfl)) rfl rfl dX8_isBefore_55
noncomputable def fk_8_isBefore_27 (S : cSt) (s0 : Int32) : Option (Int32) :=
ckz s0 (some s0)
set_option maxRecDepth 100000 in
set_option maxHeartbeats 4000000 in
theorem wk_8_isBefore_27 (C : cY p R s m args meth c RX8 cX8_isBefore 2 0 0 0 0 (some .boolean)) (X : cX D s) (hW : cW D S s.heap) : ∀ {s0 : Int32} {ls : Array Slot}, fk_8_isBefore_27 S s0 = some r → lv_has ls 2 [] → W p l e R s m args below meth c s.heap [] 0 0 (MQ below (kQ (some (.int r))) args s 0 0 mNo) (F0 m 27 ls [.int s0]) := by
  intro s0 ls h hl
  unfold fk_8_isBefore_27 at h
  obtain ⟨hzo, h⟩ := ckz_ok h
  cases h
  exact c_retn C (by rcases hzo with h9 | h9 <;> (rw [h9]; rfl)) rfl rfl dX8_isBefore_27
noncomputable def fk_8_isBefore (S : cSt) (v0 : Nat) (v1 : Nat) : Option (Int32) :=
ckk S v0 9 (
ckk S v1 9 (
if (kF S v0 8) = (kF S v1 8) then (
ckk S v0 9 (
ckk S v1 9 (
if (kF S v0 9) = (kF S v1 9) then (
ckk S v0 9 (
ckk S v1 9 (
if (kF S v1 6) ≤ (kF S v0 6) then (
fk_8_isBefore_72 S (0 : Int32))
else (
fk_8_isBefore_72 S (1 : Int32)))))
else (
ckk S v0 9 (
ckk S v1 9 (
if (kF S v1 9) ≤ (kF S v0 9) then (
fk_8_isBefore_55 S (0 : Int32))
else (
fk_8_isBefore_55 S (1 : Int32))))))))
else (
ckk S v0 9 (
ckk S v1 9 (
if (kF S v1 8) ≤ (kF S v0 8) then (
fk_8_isBefore_27 S (0 : Int32))
else (
fk_8_isBefore_27 S (1 : Int32)))))))
set_option maxRecDepth 100000 in
set_option maxHeartbeats 4000000 in
theorem tk_8_isBefore (l : Launch) {D : cG} {S : cSt} {v0 : Nat} {v1 : Nat} {r : Int32}  (h : fk_8_isBefore S v0 v1 = some r) : Met l yX8_isBefore (Cond.code yX8_isBefore cX8_isBefore 2 (some .boolean) :: lw_g) { frames := 0, cells := 0, slots := 0, locals := 0 } (kPi [.ref v0, .ref v1] D S) (kQ (some (.int r))) 0 0 (mNo) := by
  refine Met.ofW (cc := cX8_isBefore) (maxL := 2) (ret := (some .boolean)) (by decide) rfl ?_
  intro p e s m args below meth c s₁ B hml hv
  obtain ⟨rfl, hW, X⟩ := hv
  have C : cY p (headSpec (Cond.code yX8_isBefore cX8_isBefore 2 (some .boolean) :: lw_g) { frames := 0, cells := 0, slots := 0, locals := 0 }).room s m _ meth c RX8 cX8_isBefore 2 0 0 0 0 (some .boolean) := ⟨B.exec, B.bytes, hml, findClass_of_methodNamed B.named, fun w hw => atoms_spec (ws := Cond.code yX8_isBefore cX8_isBefore 2 (some .boolean) :: lw_g) B.pre w (List.mem_cons_of_mem _ hw), ⟨Nat.le_refl _, Nat.le_refl _, Nat.le_refl _, Nat.le_refl _⟩, B.returns, B.notSynchronized⟩
  have hl := lv_entry ([.ref v0, .ref v1]) (n := 2) (Nat.le_of_ble_eq_true rfl)
  rw [lg_entry_eq]
  generalize (lg_sl ([.ref v0, .ref v1]) ++ List.replicate (2 - (lg_sl ([.ref v0, .ref v1])).length) Slot.unset).toArray = ls at hl ⊢
  have hl : lv_has ls 2 [(0, .ref v0), (1, .ref v1)] := hl
  unfold fk_8_isBefore at h
  refine lv_aload_n C.1 C.2.1 dX8_isBefore_0 rfl (lv_at hl 0 rfl) ?_
  obtain ⟨hk, h⟩ := ckk_ok h
  refine gk8_44 C X hW hk dX8_isBefore_1 ?_
  refine lv_aload_n C.1 C.2.1 dX8_isBefore_4 rfl (lv_at hl 1 rfl) ?_
  obtain ⟨hk, h⟩ := ckk_ok h
  refine gk8_44 C X hW hk dX8_isBefore_5 ?_
  refine lv_icmp_eq (tgt := 28) C.1 C.2.1 dX8_isBefore_8 (by decide) (fun c1 => ?_) (fun c1 => ?_)
  · have h := if_t h c1
    refine lv_aload_n C.1 C.2.1 dX8_isBefore_28 rfl (lv_at hl 0 rfl) ?_
    obtain ⟨hk, h⟩ := ckk_ok h
    refine gk8_47 C X hW hk dX8_isBefore_29 ?_
    refine lv_aload_n C.1 C.2.1 dX8_isBefore_32 rfl (lv_at hl 1 rfl) ?_
    obtain ⟨hk, h⟩ := ckk_ok h
    refine gk8_47 C X hW hk dX8_isBefore_33 ?_
    refine lv_icmp_eq (tgt := 56) C.1 C.2.1 dX8_isBefore_36 (by decide) (fun c2 => ?_) (fun c2 => ?_)
    · have h := if_t h c2
      refine lv_aload_n C.1 C.2.1 dX8_isBefore_56 rfl (lv_at hl 0 rfl) ?_
      obtain ⟨hk, h⟩ := ckk_ok h
      refine gk8_38 C X hW hk dX8_isBefore_57 ?_
      refine lv_aload_n C.1 C.2.1 dX8_isBefore_60 rfl (lv_at hl 1 rfl) ?_
      obtain ⟨hk, h⟩ := ckk_ok h
      refine gk8_38 C X hW hk dX8_isBefore_61 ?_
      refine lv_icmp_ge (tgt := 71) C.1 C.2.1 dX8_isBefore_64 (by decide) (fun c3 => ?_) (fun c3 => ?_)
      · have h := if_t h c3
        refine lv_iconst (v := 0) C.1 C.2.1 dX8_isBefore_71 (by decide) ?_
        exact wk_8_isBefore_72 C X hW h (lv_sub hl [] rfl)
      · have h := if_f h c3
        refine lv_iconst (v := 1) C.1 C.2.1 dX8_isBefore_67 (by decide) ?_
        refine lv_goto (tgt := 72) C.1 C.2.1 dX8_isBefore_68 (by decide) ?_
        exact wk_8_isBefore_72 C X hW h (lv_sub hl [] rfl)
    · have h := if_f h c2
      refine lv_aload_n C.1 C.2.1 dX8_isBefore_39 rfl (lv_at hl 0 rfl) ?_
      obtain ⟨hk, h⟩ := ckk_ok h
      refine gk8_47 C X hW hk dX8_isBefore_40 ?_
      refine lv_aload_n C.1 C.2.1 dX8_isBefore_43 rfl (lv_at hl 1 rfl) ?_
      obtain ⟨hk, h⟩ := ckk_ok h
      refine gk8_47 C X hW hk dX8_isBefore_44 ?_
      refine lv_icmp_ge (tgt := 54) C.1 C.2.1 dX8_isBefore_47 (by decide) (fun c4 => ?_) (fun c4 => ?_)
      · have h := if_t h c4
        refine lv_iconst (v := 0) C.1 C.2.1 dX8_isBefore_54 (by decide) ?_
        exact wk_8_isBefore_55 C X hW h (lv_sub hl [] rfl)
      · have h := if_f h c4
        refine lv_iconst (v := 1) C.1 C.2.1 dX8_isBefore_50 (by decide) ?_
        refine lv_goto (tgt := 55) C.1 C.2.1 dX8_isBefore_51 (by decide) ?_
        exact wk_8_isBefore_55 C X hW h (lv_sub hl [] rfl)
  · have h := if_f h c1
    refine lv_aload_n C.1 C.2.1 dX8_isBefore_11 rfl (lv_at hl 0 rfl) ?_
    obtain ⟨hk, h⟩ := ckk_ok h
    refine gk8_44 C X hW hk dX8_isBefore_12 ?_
    refine lv_aload_n C.1 C.2.1 dX8_isBefore_15 rfl (lv_at hl 1 rfl) ?_
    obtain ⟨hk, h⟩ := ckk_ok h
    refine gk8_44 C X hW hk dX8_isBefore_16 ?_
    refine lv_icmp_ge (tgt := 26) C.1 C.2.1 dX8_isBefore_19 (by decide) (fun c5 => ?_) (fun c5 => ?_)
    · have h := if_t h c5
      refine lv_iconst (v := 0) C.1 C.2.1 dX8_isBefore_26 (by decide) ?_
      exact wk_8_isBefore_27 C X hW h (lv_sub hl [] rfl)
    · have h := if_f h c5
      refine lv_iconst (v := 1) C.1 C.2.1 dX8_isBefore_22 (by decide) ?_
      refine lv_goto (tgt := 27) C.1 C.2.1 dX8_isBefore_23 (by decide) ?_
      exact wk_8_isBefore_27 C X hW h (lv_sub hl [] rfl)
end
theorem dX4_link_0 : decode cX4_link 0 = .ok (.aconst_null, 1) := by decide +kernel
theorem dX4_link_1 : decode cX4_link 1 = .ok (.astore_n 2, 1) := by decide +kernel
theorem dX4_link_2 : decode cX4_link 2 = .ok (.aload_n 0, 1) := by decide +kernel
theorem dX4_link_3 : decode cX4_link 3 = .ok (.getfield 33, 3) := by decide +kernel
theorem dX4_link_6 : decode cX4_link 6 = .ok (.aload_n 1, 1) := by decide +kernel
theorem dX4_link_7 : decode cX4_link 7 = .ok (.getfield 55, 3) := by decide +kernel
theorem dX4_link_10 : decode cX4_link 10 = .ok (.aaload, 1) := by decide +kernel
theorem dX4_link_11 : decode cX4_link 11 = .ok (.astore_n 3, 1) := by decide +kernel
theorem dX4_link_12 : decode cX4_link 12 = .ok (.aload_n 3, 1) := by decide +kernel
theorem dX4_link_13 : decode cX4_link 13 = .ok (.ifnull 26, 3) := by decide +kernel
theorem dX4_link_16 : decode cX4_link 16 = .ok (.aload_n 1, 1) := by decide +kernel
theorem dX4_link_17 : decode cX4_link 17 = .ok (.aload_n 3, 1) := by decide +kernel
theorem dX4_link_18 : decode cX4_link 18 = .ok (.invokevirtual 78, 3) := by decide +kernel
theorem dX4_link_21 : decode cX4_link 21 = .ok (.ifCond .eq 18, 3) := by decide +kernel
theorem dX4_link_24 : decode cX4_link 24 = .ok (.aload_n 3, 1) := by decide +kernel
theorem dX4_link_25 : decode cX4_link 25 = .ok (.astore_n 2, 1) := by decide +kernel
theorem dX4_link_26 : decode cX4_link 26 = .ok (.aload_n 0, 1) := by decide +kernel
theorem dX4_link_27 : decode cX4_link 27 = .ok (.getfield 23, 3) := by decide +kernel
theorem dX4_link_30 : decode cX4_link 30 = .ok (.aload_n 3, 1) := by decide +kernel
theorem dX4_link_31 : decode cX4_link 31 = .ok (.getfield 44, 3) := by decide +kernel
theorem dX4_link_34 : decode cX4_link 34 = .ok (.aaload, 1) := by decide +kernel
theorem dX4_link_35 : decode cX4_link 35 = .ok (.astore_n 3, 1) := by decide +kernel
theorem dX4_link_36 : decode cX4_link 36 = .ok (.goto (-24), 3) := by decide +kernel
theorem dX4_link_39 : decode cX4_link 39 = .ok (.aload_n 0, 1) := by decide +kernel
theorem dX4_link_40 : decode cX4_link 40 = .ok (.getfield 23, 3) := by decide +kernel
theorem dX4_link_43 : decode cX4_link 43 = .ok (.aload_n 1, 1) := by decide +kernel
theorem dX4_link_44 : decode cX4_link 44 = .ok (.getfield 44, 3) := by decide +kernel
theorem dX4_link_47 : decode cX4_link 47 = .ok (.aload_n 3, 1) := by decide +kernel
theorem dX4_link_48 : decode cX4_link 48 = .ok (.aastore, 1) := by decide +kernel
theorem dX4_link_49 : decode cX4_link 49 = .ok (.aload_n 0, 1) := by decide +kernel
theorem dX4_link_50 : decode cX4_link 50 = .ok (.getfield 27, 3) := by decide +kernel
theorem dX4_link_53 : decode cX4_link 53 = .ok (.aload_n 1, 1) := by decide +kernel
theorem dX4_link_54 : decode cX4_link 54 = .ok (.getfield 44, 3) := by decide +kernel
theorem dX4_link_57 : decode cX4_link 57 = .ok (.aload_n 2, 1) := by decide +kernel
theorem dX4_link_58 : decode cX4_link 58 = .ok (.aastore, 1) := by decide +kernel
theorem dX4_link_59 : decode cX4_link 59 = .ok (.aload_n 3, 1) := by decide +kernel
theorem dX4_link_60 : decode cX4_link 60 = .ok (.ifnonnull 16, 3) := by decide +kernel
theorem dX4_link_63 : decode cX4_link 63 = .ok (.aload_n 0, 1) := by decide +kernel
theorem dX4_link_64 : decode cX4_link 64 = .ok (.getfield 30, 3) := by decide +kernel
theorem dX4_link_67 : decode cX4_link 67 = .ok (.aload_n 1, 1) := by decide +kernel
theorem dX4_link_68 : decode cX4_link 68 = .ok (.getfield 55, 3) := by decide +kernel
theorem dX4_link_71 : decode cX4_link 71 = .ok (.aload_n 1, 1) := by decide +kernel
theorem dX4_link_72 : decode cX4_link 72 = .ok (.aastore, 1) := by decide +kernel
theorem dX4_link_73 : decode cX4_link 73 = .ok (.goto 13, 3) := by decide +kernel
theorem dX4_link_76 : decode cX4_link 76 = .ok (.aload_n 0, 1) := by decide +kernel
theorem dX4_link_77 : decode cX4_link 77 = .ok (.getfield 27, 3) := by decide +kernel
theorem dX4_link_80 : decode cX4_link 80 = .ok (.aload_n 3, 1) := by decide +kernel
theorem dX4_link_81 : decode cX4_link 81 = .ok (.getfield 44, 3) := by decide +kernel
theorem dX4_link_84 : decode cX4_link 84 = .ok (.aload_n 1, 1) := by decide +kernel
theorem dX4_link_85 : decode cX4_link 85 = .ok (.aastore, 1) := by decide +kernel
theorem dX4_link_86 : decode cX4_link 86 = .ok (.aload_n 2, 1) := by decide +kernel
theorem dX4_link_87 : decode cX4_link 87 = .ok (.ifnonnull 16, 3) := by decide +kernel
theorem dX4_link_90 : decode cX4_link 90 = .ok (.aload_n 0, 1) := by decide +kernel
theorem dX4_link_91 : decode cX4_link 91 = .ok (.getfield 33, 3) := by decide +kernel
theorem dX4_link_94 : decode cX4_link 94 = .ok (.aload_n 1, 1) := by decide +kernel
theorem dX4_link_95 : decode cX4_link 95 = .ok (.getfield 55, 3) := by decide +kernel
theorem dX4_link_98 : decode cX4_link 98 = .ok (.aload_n 1, 1) := by decide +kernel
theorem dX4_link_99 : decode cX4_link 99 = .ok (.aastore, 1) := by decide +kernel
theorem dX4_link_100 : decode cX4_link 100 = .ok (.goto 13, 3) := by decide +kernel
theorem dX4_link_103 : decode cX4_link 103 = .ok (.aload_n 0, 1) := by decide +kernel
theorem dX4_link_104 : decode cX4_link 104 = .ok (.getfield 23, 3) := by decide +kernel
theorem dX4_link_107 : decode cX4_link 107 = .ok (.aload_n 2, 1) := by decide +kernel
theorem dX4_link_108 : decode cX4_link 108 = .ok (.getfield 44, 3) := by decide +kernel
theorem dX4_link_111 : decode cX4_link 111 = .ok (.aload_n 1, 1) := by decide +kernel
theorem dX4_link_112 : decode cX4_link 112 = .ok (.aastore, 1) := by decide +kernel
theorem dX4_link_113 : decode cX4_link 113 = .ok (.return_, 1) := by decide +kernel
theorem kd_4_link : Cond.code yX4_link cX4_link 4 none ∈ lw_g := mt_at 1147 (by decide +kernel) rfl
theorem ki_4_link : Cond.instanceMethod yX4_link ∈ lw_g := mt_at 1146 (by decide +kernel) rfl
theorem kl_4_link : Cond.selects (kRn 4) yX4_link yX4_link ∈ lw_g := mt_sel 18 (by decide +kernel) rfl
theorem cw4_78 : cCw RX4 78 yX8_isBefore cX8_isBefore 2 (some .boolean) 1 := ⟨kd_8_isBefore, mt_at 1148 (by decide +kernel) rfl, mt_at 29 (by decide +kernel) rfl, by decide +kernel⟩
section
variable {p : Program} {l : Launch} {e : Env} {R : Room} {s : State} {m : MethodId} {args : Array Value} {below : List Frame} {meth : Method} {c : Code} {H : Heap} {locs : List Loc} {cells slots : Nat} {Q : State → Prop}
variable {D : cG} {S S0 : cSt} {cc : ByteArray} {nL : Nat} {pc : Nat} {ls : Array Slot} {rest : List Value} {H0 : Heap} {nF nR nC nS : Nat} {ret : Option FieldType} {a : Nat}
theorem gk4_23 (C : cY p R s m args meth c RX4 cc nL nF nC nS nR ret) (X : cX D s) (hW : cW D S H) (hk : kK S a = 5) {x : Nat} (hx : kR S a 3 = some x) (hdg : decode cc pc = .ok (.getfield 23, 3)) (kk : W p l e R s m args below meth c H locs cells slots Q (F0 m (pc + 3) ls (.ref x :: rest))) : W p l e R s m args below meth c H locs cells slots Q (F0 m pc ls (.ref a :: rest)) := c_get C X hW 4 (by decide) ly_4 hk 3 (by decide) (mt_at 233 (by decide +kernel) (by decide +kernel)) hdg (by rw [cV_R (by decide +kernel) hx]; exact kk)
theorem gk4_27 (C : cY p R s m args meth c RX4 cc nL nF nC nS nR ret) (X : cX D s) (hW : cW D S H) (hk : kK S a = 5) {x : Nat} (hx : kR S a 4 = some x) (hdg : decode cc pc = .ok (.getfield 27, 3)) (kk : W p l e R s m args below meth c H locs cells slots Q (F0 m (pc + 3) ls (.ref x :: rest))) : W p l e R s m args below meth c H locs cells slots Q (F0 m pc ls (.ref a :: rest)) := c_get C X hW 4 (by decide) ly_4 hk 4 (by decide) (mt_at 235 (by decide +kernel) (by decide +kernel)) hdg (by rw [cV_R (by decide +kernel) hx]; exact kk)
theorem gk4_30 (C : cY p R s m args meth c RX4 cc nL nF nC nS nR ret) (X : cX D s) (hW : cW D S H) (hk : kK S a = 5) {x : Nat} (hx : kR S a 5 = some x) (hdg : decode cc pc = .ok (.getfield 30, 3)) (kk : W p l e R s m args below meth c H locs cells slots Q (F0 m (pc + 3) ls (.ref x :: rest))) : W p l e R s m args below meth c H locs cells slots Q (F0 m pc ls (.ref a :: rest)) := c_get C X hW 4 (by decide) ly_4 hk 5 (by decide) (mt_at 238 (by decide +kernel) (by decide +kernel)) hdg (by rw [cV_R (by decide +kernel) hx]; exact kk)
theorem gk4_33 (C : cY p R s m args meth c RX4 cc nL nF nC nS nR ret) (X : cX D s) (hW : cW D S H) (hk : kK S a = 5) {x : Nat} (hx : kR S a 6 = some x) (hdg : decode cc pc = .ok (.getfield 33, 3)) (kk : W p l e R s m args below meth c H locs cells slots Q (F0 m (pc + 3) ls (.ref x :: rest))) : W p l e R s m args below meth c H locs cells slots Q (F0 m pc ls (.ref a :: rest)) := c_get C X hW 4 (by decide) ly_4 hk 6 (by decide) (mt_at 241 (by decide +kernel) (by decide +kernel)) hdg (by rw [cV_R (by decide +kernel) hx]; exact kk)
theorem gk4_55 (C : cY p R s m args meth c RX4 cc nL nF nC nS nR ret) (X : cX D s) (hW : cW D S H) (hk : kK S a = 9) (hdg : decode cc pc = .ok (.getfield 55, 3)) (kk : W p l e R s m args below meth c H locs cells slots Q (F0 m (pc + 3) ls (.int (kF S a 13) :: rest))) : W p l e R s m args below meth c H locs cells slots Q (F0 m pc ls (.ref a :: rest)) := c_get C X hW 8 (by decide) ly_8 hk 13 (by decide) (mt_at 1031 (by decide +kernel) (by decide +kernel)) hdg (by rw [cV_I (by decide +kernel)]; exact kk)
end
section
variable {p : Program} {l : Launch} {e : Env} {R : Room} {s : State} {m : MethodId} {args : Array Value} {below : List Frame} {meth : Method} {c : Code} {D : cG} {S0 S9 : cSt}
noncomputable def fk_4_link_113 (S : cSt) : Option (cSt) :=
some S
set_option maxRecDepth 100000 in
set_option maxHeartbeats 4000000 in
theorem wk_4_link_113 (C : cY p R s m args meth c RX4 cX4_link 4 1 0 0 21 none) (X : cX D s) : ∀ {S : cSt} {H : Heap} {locs : List Loc} {ls : Array Slot}, fk_4_link_113 S = some S9 → cJ D S0 s.heap S H locs → lv_has ls 4 [] → W p l e R s m args below meth c H locs 0 0 (MQ below (kW none D S0 S9) args s 0 0 (cA S0)) (F0 m 113 ls []) := by
  intro S H locs ls h hJ hl
  unfold fk_4_link_113 at h
  cases h
  exact c_retvW C hJ dX4_link_113
noncomputable def fk_4_link_86 (S : cSt) (v0 : Nat) (v1 : Nat) (v2 : Option Nat) : Option (cSt) :=
cs v2 (
ckk S v0 5 (bd (kR S v0 6) fun a2 =>
ckk S v1 9 (
ckk S a2 30 (ck (kF S v1 13) (kL S a2) (ckq S (some v1) 9 (lt (cWo S a2 (Int32.toNatClampNeg (kF S v1 13)) (some v1)) fun S3 =>
fk_4_link_113 S3)))))) (fun a1 =>
ckk S v0 5 (bd (kR S v0 3) fun a4 =>
ckk S a1 9 (
ckk S a4 30 (ck (kF S a1 12) (kL S a4) (ckq S (some v1) 9 (lt (cWo S a4 (Int32.toNatClampNeg (kF S a1 12)) (some v1)) fun S5 =>
fk_4_link_113 S5))))))
set_option maxRecDepth 100000 in
set_option maxHeartbeats 4000000 in
theorem wk_4_link_86 (C : cY p R s m args meth c RX4 cX4_link 4 1 0 0 21 none) (X : cX D s) : ∀ {S : cSt} {v0 : Nat} {v1 : Nat} {v2 : Option Nat} {H : Heap} {locs : List Loc} {ls : Array Slot}, fk_4_link_86 S v0 v1 v2 = some S9 → cJ D S0 s.heap S H locs → lv_has ls 4 [(0, .ref v0), (1, .ref v1), (2, va_rf v2)] → W p l e R s m args below meth c H locs 0 0 (MQ below (kW none D S0 S9) args s 0 0 (cA S0)) (F0 m 86 ls []) := by
  intro S v0 v1 v2 H locs ls h hJ hl
  unfold fk_4_link_86 at h
  refine lv_aload_nq (o := v2) C.1 C.2.1 dX4_link_86 rfl (lv_at hl 2 rfl) ?_
  rcases v2 with _ | a1
  · replace h := cs_n h
    refine lv_ifnonnullN C.1 C.2.1 dX4_link_87 ?_
    refine lv_aload_n C.1 C.2.1 dX4_link_90 rfl (lv_at hl 0 rfl) ?_
    obtain ⟨hk, h⟩ := ckk_ok h
    obtain ⟨a2, h_a2, h⟩ := bd_ok h
    refine gk4_33 C X hJ.1 hk h_a2 dX4_link_91 ?_
    refine lv_aload_n C.1 C.2.1 dX4_link_94 rfl (lv_at hl 1 rfl) ?_
    obtain ⟨hk, h⟩ := ckk_ok h
    refine gk4_55 C X hJ.1 hk dX4_link_95 ?_
    refine lv_aload_n C.1 C.2.1 dX4_link_98 rfl (lv_at hl 1 rfl) ?_
    obtain ⟨hk, h⟩ := ckk_ok h
    obtain ⟨hin2, h⟩ := ck_ok h
    obtain ⟨hkv, h⟩ := ckq_ok h
    refine c_aastq (o := (some v1)) C X 30 8 (by decide) (by decide) X.2.2.2.2.1 hJ hk hkv hin2 dX4_link_99 (fun H locs hJ => ?_)
    refine lt_ok h (fun S3 e_S3 h => ?_)
    rw [e_S3] at hJ
    refine lv_goto (tgt := 113) C.1 C.2.1 dX4_link_100 (by decide) ?_
    exact wk_4_link_113 C X h hJ (lv_sub hl [] rfl)
  · replace h := cs_s h
    refine lv_ifnonnull (tgt := 103) C.1 C.2.1 dX4_link_87 (by decide) ?_
    refine lv_aload_n C.1 C.2.1 dX4_link_103 rfl (lv_at hl 0 rfl) ?_
    obtain ⟨hk, h⟩ := ckk_ok h
    obtain ⟨a4, h_a4, h⟩ := bd_ok h
    refine gk4_23 C X hJ.1 hk h_a4 dX4_link_104 ?_
    refine lv_aload_n C.1 C.2.1 dX4_link_107 rfl (lv_at hl 2 rfl) ?_
    obtain ⟨hk, h⟩ := ckk_ok h
    refine gk4_44 C X hJ.1 hk dX4_link_108 ?_
    refine lv_aload_n C.1 C.2.1 dX4_link_111 rfl (lv_at hl 1 rfl) ?_
    obtain ⟨hk, h⟩ := ckk_ok h
    obtain ⟨hin2, h⟩ := ck_ok h
    obtain ⟨hkv, h⟩ := ckq_ok h
    refine c_aastq (o := (some v1)) C X 30 8 (by decide) (by decide) X.2.2.2.2.1 hJ hk hkv hin2 dX4_link_112 (fun H locs hJ => ?_)
    refine lt_ok h (fun S5 e_S5 h => ?_)
    rw [e_S5] at hJ
    exact wk_4_link_113 C X h hJ (lv_sub hl [] rfl)
noncomputable def fk_4_link_39 (S : cSt) (v0 : Nat) (v1 : Nat) (v2 : Option Nat) (v3 : Option Nat) : Option (cSt) :=
ckk S v0 5 (bd (kR S v0 3) fun a1 =>
ckk S v1 9 (
ckk S a1 30 (ck (kF S v1 12) (kL S a1) (ckq S v3 9 (lt (cWo S a1 (Int32.toNatClampNeg (kF S v1 12)) v3) fun S2 =>
ckk S2 v0 5 (bd (kR S2 v0 4) fun a3 =>
ckk S2 v1 9 (
ckk S2 a3 30 (ck (kF S2 v1 12) (kL S2 a3) (ckq S2 v2 9 (lt (cWo S2 a3 (Int32.toNatClampNeg (kF S2 v1 12)) v2) fun S4 =>
cs v3 (
ckk S4 v0 5 (bd (kR S4 v0 5) fun a6 =>
ckk S4 v1 9 (
ckk S4 a6 30 (ck (kF S4 v1 13) (kL S4 a6) (ckq S4 (some v1) 9 (lt (cWo S4 a6 (Int32.toNatClampNeg (kF S4 v1 13)) (some v1)) fun S7 =>
fk_4_link_86 S7 v0 v1 v2)))))) (fun a5 =>
ckk S4 v0 5 (bd (kR S4 v0 4) fun a8 =>
ckk S4 a5 9 (
ckk S4 a8 30 (ck (kF S4 a5 12) (kL S4 a8) (ckq S4 (some v1) 9 (lt (cWo S4 a8 (Int32.toNatClampNeg (kF S4 a5 12)) (some v1)) fun S10 =>
fk_4_link_86 S10 v0 v1 v2))))))))))))))))
set_option maxRecDepth 100000 in
set_option maxHeartbeats 4000000 in
theorem wk_4_link_39 (C : cY p R s m args meth c RX4 cX4_link 4 1 0 0 21 none) (X : cX D s) : ∀ {S : cSt} {v0 : Nat} {v1 : Nat} {v2 : Option Nat} {v3 : Option Nat} {H : Heap} {locs : List Loc} {ls : Array Slot}, fk_4_link_39 S v0 v1 v2 v3 = some S9 → cJ D S0 s.heap S H locs → lv_has ls 4 [(0, .ref v0), (1, .ref v1), (2, va_rf v2), (3, va_rf v3)] → W p l e R s m args below meth c H locs 0 0 (MQ below (kW none D S0 S9) args s 0 0 (cA S0)) (F0 m 39 ls []) := by
  intro S v0 v1 v2 v3 H locs ls h hJ hl
  unfold fk_4_link_39 at h
  refine lv_aload_n C.1 C.2.1 dX4_link_39 rfl (lv_at hl 0 rfl) ?_
  obtain ⟨hk, h⟩ := ckk_ok h
  obtain ⟨a1, h_a1, h⟩ := bd_ok h
  refine gk4_23 C X hJ.1 hk h_a1 dX4_link_40 ?_
  refine lv_aload_n C.1 C.2.1 dX4_link_43 rfl (lv_at hl 1 rfl) ?_
  obtain ⟨hk, h⟩ := ckk_ok h
  refine gk4_44 C X hJ.1 hk dX4_link_44 ?_
  refine lv_aload_nq (o := v3) C.1 C.2.1 dX4_link_47 rfl (lv_at hl 3 rfl) ?_
  obtain ⟨hk, h⟩ := ckk_ok h
  obtain ⟨hin2, h⟩ := ck_ok h
  obtain ⟨hkv, h⟩ := ckq_ok h
  refine c_aastq (o := v3) C X 30 8 (by decide) (by decide) X.2.2.2.2.1 hJ hk hkv hin2 dX4_link_48 (fun H locs hJ => ?_)
  refine lt_ok h (fun S2 e_S2 h => ?_)
  rw [e_S2] at hJ
  refine lv_aload_n C.1 C.2.1 dX4_link_49 rfl (lv_at hl 0 rfl) ?_
  obtain ⟨hk, h⟩ := ckk_ok h
  obtain ⟨a3, h_a3, h⟩ := bd_ok h
  refine gk4_27 C X hJ.1 hk h_a3 dX4_link_50 ?_
  refine lv_aload_n C.1 C.2.1 dX4_link_53 rfl (lv_at hl 1 rfl) ?_
  obtain ⟨hk, h⟩ := ckk_ok h
  refine gk4_44 C X hJ.1 hk dX4_link_54 ?_
  refine lv_aload_nq (o := v2) C.1 C.2.1 dX4_link_57 rfl (lv_at hl 2 rfl) ?_
  obtain ⟨hk, h⟩ := ckk_ok h
  obtain ⟨hin2, h⟩ := ck_ok h
  obtain ⟨hkv, h⟩ := ckq_ok h
  refine c_aastq (o := v2) C X 30 8 (by decide) (by decide) X.2.2.2.2.1 hJ hk hkv hin2 dX4_link_58 (fun H locs hJ => ?_)
  refine lt_ok h (fun S4 e_S4 h => ?_)
  rw [e_S4] at hJ
  refine lv_aload_nq (o := v3) C.1 C.2.1 dX4_link_59 rfl (lv_at hl 3 rfl) ?_
  rcases v3 with _ | a5
  · replace h := cs_n h
    refine lv_ifnonnullN C.1 C.2.1 dX4_link_60 ?_
    refine lv_aload_n C.1 C.2.1 dX4_link_63 rfl (lv_at hl 0 rfl) ?_
    obtain ⟨hk, h⟩ := ckk_ok h
    obtain ⟨a6, h_a6, h⟩ := bd_ok h
    refine gk4_30 C X hJ.1 hk h_a6 dX4_link_64 ?_
    refine lv_aload_n C.1 C.2.1 dX4_link_67 rfl (lv_at hl 1 rfl) ?_
    obtain ⟨hk, h⟩ := ckk_ok h
    refine gk4_55 C X hJ.1 hk dX4_link_68 ?_
    refine lv_aload_n C.1 C.2.1 dX4_link_71 rfl (lv_at hl 1 rfl) ?_
    obtain ⟨hk, h⟩ := ckk_ok h
    obtain ⟨hin2, h⟩ := ck_ok h
    obtain ⟨hkv, h⟩ := ckq_ok h
    refine c_aastq (o := (some v1)) C X 30 8 (by decide) (by decide) X.2.2.2.2.1 hJ hk hkv hin2 dX4_link_72 (fun H locs hJ => ?_)
    refine lt_ok h (fun S7 e_S7 h => ?_)
    rw [e_S7] at hJ
    refine lv_goto (tgt := 86) C.1 C.2.1 dX4_link_73 (by decide) ?_
    exact wk_4_link_86 C X h hJ (lv_sub hl [0, 1, 2] rfl)
  · replace h := cs_s h
    refine lv_ifnonnull (tgt := 76) C.1 C.2.1 dX4_link_60 (by decide) ?_
    refine lv_aload_n C.1 C.2.1 dX4_link_76 rfl (lv_at hl 0 rfl) ?_
    obtain ⟨hk, h⟩ := ckk_ok h
    obtain ⟨a8, h_a8, h⟩ := bd_ok h
    refine gk4_27 C X hJ.1 hk h_a8 dX4_link_77 ?_
    refine lv_aload_n C.1 C.2.1 dX4_link_80 rfl (lv_at hl 3 rfl) ?_
    obtain ⟨hk, h⟩ := ckk_ok h
    refine gk4_44 C X hJ.1 hk dX4_link_81 ?_
    refine lv_aload_n C.1 C.2.1 dX4_link_84 rfl (lv_at hl 1 rfl) ?_
    obtain ⟨hk, h⟩ := ckk_ok h
    obtain ⟨hin2, h⟩ := ck_ok h
    obtain ⟨hkv, h⟩ := ckq_ok h
    refine c_aastq (o := (some v1)) C X 30 8 (by decide) (by decide) X.2.2.2.2.1 hJ hk hkv hin2 dX4_link_85 (fun H locs hJ => ?_)
    refine lt_ok h (fun S10 e_S10 h => ?_)
    rw [e_S10] at hJ
    exact wk_4_link_86 C X h hJ (lv_sub hl [0, 1, 2] rfl)
noncomputable def fk_4_link_12 : Nat → cSt → Nat → Nat → Option Nat → Option Nat → Option (cSt)
  | 0, _, _, _, _, _ => none
  | n + 1, S, v0, v1, v2, v3 =>
    cs v3 (
    fk_4_link_39 S v0 v1 v2 none) (fun a1 =>
    ckk S v1 9 (bd (fk_8_isBefore S v1 a1) fun r2 =>
    if r2 = 0 then (
    fk_4_link_39 S v0 v1 v2 (some a1))
    else (
    ckk S v0 5 (bd (kR S v0 3) fun a4 =>
    ckk S a1 9 (
    ckk S a4 30 (ck (kF S a1 12) (kL S a4) (lt (kO S a4 (Int32.toNatClampNeg (kF S a1 12))) fun o5 =>
    fk_4_link_12 n S v0 v1 (some a1) o5)))))))
set_option maxRecDepth 100000 in
set_option maxHeartbeats 4000000 in
theorem wk_4_link_12 (C : cY p R s m args meth c RX4 cX4_link 4 1 0 0 21 none) (X : cX D s) : ∀ (n : Nat), ∀ {S : cSt} {v0 : Nat} {v1 : Nat} {v2 : Option Nat} {v3 : Option Nat} {H : Heap} {locs : List Loc} {ls : Array Slot}, fk_4_link_12 n S v0 v1 v2 v3 = some S9 → cJ D S0 s.heap S H locs → lv_has ls 4 [(0, .ref v0), (1, .ref v1), (2, va_rf v2), (3, va_rf v3)] → W p l e R s m args below meth c H locs 0 0 (MQ below (kW none D S0 S9) args s 0 0 (cA S0)) (F0 m 12 ls []) := by
  intro n
  induction n with
  | zero =>
    intro S v0 v1 v2 v3 H locs ls h hJ hl
    exact absurd (show (none : Option (cSt)) = _ from h) (fun q => by cases q)
  | succ n ih =>
    intro S v0 v1 v2 v3 H locs ls h hJ hl
    rw [fk_4_link_12] at h
    refine lv_aload_nq (o := v3) C.1 C.2.1 dX4_link_12 rfl (lv_at hl 3 rfl) ?_
    rcases v3 with _ | a1
    · replace h := cs_n h
      refine lv_ifnullN (tgt := 39) C.1 C.2.1 dX4_link_13 (by decide) ?_
      exact wk_4_link_39 C X h hJ (lv_sub hl [0, 1, 2, 3] rfl)
    · replace h := cs_s h
      refine lv_ifnull C.1 C.2.1 dX4_link_13 ?_
      refine lv_aload_n C.1 C.2.1 dX4_link_16 rfl (lv_at hl 1 rfl) ?_
      refine lv_aload_n C.1 C.2.1 dX4_link_17 rfl (lv_at hl 3 rfl) ?_
      obtain ⟨hk, h⟩ := ckk_ok h
      obtain ⟨r2, h_r2, h⟩ := bd_ok h
      refine c_callR (rest := []) C X hJ.1 hl.1 8 (by decide) hk [.ref a1] (tk_8_isBefore l h_r2) cw4_78 ki_8_isBefore kl_8_isBefore rfl ⟨by decide, by decide⟩ ⟨(by decide), (by decide)⟩ rfl (Nat.le_of_ble_eq_true rfl) dX4_link_18 ?_
      refine W.eq (g2 := F0 m 21 ls [.int r2]) rfl ?_
      refine lv_if_eq (tgt := 39) C.1 C.2.1 dX4_link_21 (by decide) (fun c3 => ?_) (fun c3 => ?_)
      · have h := if_t h c3
        exact wk_4_link_39 C X h hJ (lv_sub hl [0, 1, 2, 3] rfl)
      · have h := if_f h c3
        refine lv_aload_n C.1 C.2.1 dX4_link_24 rfl (lv_at hl 3 rfl) ?_
        refine lv_astore_n (lv' := [(2, .ref a1), (0, .ref v0), (1, .ref v1), (3, .ref a1)]) C.1 C.2.1 dX4_link_25 rfl hl (by decide) rfl (fun ls hl => ?_)
        refine lv_aload_n C.1 C.2.1 dX4_link_26 rfl (lv_at hl 1 rfl) ?_
        obtain ⟨hk, h⟩ := ckk_ok h
        obtain ⟨a4, h_a4, h⟩ := bd_ok h
        refine gk4_23 C X hJ.1 hk h_a4 dX4_link_27 ?_
        refine lv_aload_n C.1 C.2.1 dX4_link_30 rfl (lv_at hl 3 rfl) ?_
        obtain ⟨hk, h⟩ := ckk_ok h
        refine gk4_44 C X hJ.1 hk dX4_link_31 ?_
        obtain ⟨hk, h⟩ := ckk_ok h
        obtain ⟨hin2, h⟩ := ck_ok h
        refine c_aald C 30 (by decide) X.2.2.2.2.1 hJ.1 hk hin2 dX4_link_34 ?_
        refine lt_ok h (fun o5 e_o5 h => ?_)
        refine lv_nmq e_o5 ?_
        refine lv_astore_nq (o := o5) (lv' := [(3, va_rf o5), (2, .ref a1), (0, .ref v0), (1, .ref v1)]) C.1 C.2.1 dX4_link_35 rfl hl (by decide) rfl (fun ls hl => ?_)
        refine lv_goto (tgt := 12) C.1 C.2.1 dX4_link_36 (by decide) ?_
        exact ih h hJ (lv_sub hl [2, 3, 1, 0] rfl)
noncomputable def fk_4_link (S : cSt) (v0 : Nat) (v1 : Nat) : Option (cSt) :=
ckk S v0 5 (bd (kR S v0 6) fun a1 =>
ckk S v1 9 (
ckk S a1 30 (ck (kF S v1 13) (kL S a1) (lt (kO S a1 (Int32.toNatClampNeg (kF S v1 13))) fun o2 =>
fk_4_link_12 mFU S v0 v1 none o2))))
set_option maxRecDepth 100000 in
set_option maxHeartbeats 4000000 in
theorem tk_4_link (l : Launch) {D : cG} {S : cSt} {v0 : Nat} {v1 : Nat} {S9 : cSt} (h : fk_4_link S v0 v1 = some S9) : Met l yX4_link (Cond.code yX4_link cX4_link 4 none :: lw_g) { frames := 1, cells := 0, slots := 0, locals := 21 } (kPi [.ref v0, .ref v1] D S) (kW none D S S9) 0 0 (cA S) := by
  refine Met.ofW (cc := cX4_link) (maxL := 4) (ret := none) (by decide) rfl ?_
  intro p e s m args below meth c s₁ B hml hv
  obtain ⟨rfl, hW, X⟩ := hv
  have C : cY p (headSpec (Cond.code yX4_link cX4_link 4 none :: lw_g) { frames := 1, cells := 0, slots := 0, locals := 21 }).room s m _ meth c RX4 cX4_link 4 1 0 0 21 none := ⟨B.exec, B.bytes, hml, findClass_of_methodNamed B.named, fun w hw => atoms_spec (ws := Cond.code yX4_link cX4_link 4 none :: lw_g) B.pre w (List.mem_cons_of_mem _ hw), ⟨Nat.le_refl _, Nat.le_refl _, Nat.le_refl _, Nat.le_refl _⟩, B.returns, B.notSynchronized⟩
  have hl := lv_entry ([.ref v0, .ref v1]) (n := 4) (Nat.le_of_ble_eq_true rfl)
  rw [lg_entry_eq]
  generalize (lg_sl ([.ref v0, .ref v1]) ++ List.replicate (4 - (lg_sl ([.ref v0, .ref v1])).length) Slot.unset).toArray = ls at hl ⊢
  have hl : lv_has ls 4 [(0, .ref v0), (1, .ref v1)] := hl
  have hJ : cJ D S s.heap S s.heap [] := cJ.rf hW
  unfold fk_4_link at h
  refine lv_null C.1 C.2.1 dX4_link_0 ?_
  refine lv_astore_nq (o := none) (lv' := [(2, va_rf none), (0, .ref v0), (1, .ref v1)]) C.1 C.2.1 dX4_link_1 rfl hl (by decide) rfl (fun ls hl => ?_)
  refine lv_aload_n C.1 C.2.1 dX4_link_2 rfl (lv_at hl 1 rfl) ?_
  obtain ⟨hk, h⟩ := ckk_ok h
  obtain ⟨a1, h_a1, h⟩ := bd_ok h
  refine gk4_33 C X hJ.1 hk h_a1 dX4_link_3 ?_
  refine lv_aload_n C.1 C.2.1 dX4_link_6 rfl (lv_at hl 2 rfl) ?_
  obtain ⟨hk, h⟩ := ckk_ok h
  refine gk4_55 C X hJ.1 hk dX4_link_7 ?_
  obtain ⟨hk, h⟩ := ckk_ok h
  obtain ⟨hin2, h⟩ := ck_ok h
  refine c_aald C 30 (by decide) X.2.2.2.2.1 hJ.1 hk hin2 dX4_link_10 ?_
  refine lt_ok h (fun o2 e_o2 h => ?_)
  refine lv_nmq e_o2 ?_
  refine lv_astore_nq (o := o2) (lv' := [(3, va_rf o2), (2, va_rf none), (0, .ref v0), (1, .ref v1)]) C.1 C.2.1 dX4_link_11 rfl hl (by decide) (by simp [List.filter, kcat]) (fun ls hl => ?_)
  exact wk_4_link_12 C X mFU h hJ (lv_sub hl [2, 3, 1, 0] rfl)
end
