-- made by wip/whole/gen12.py: 2_checkOf, 107_fill_031fb, 2_write, 2_copyFrom, 2_byteNow, 2_twist, 3_init, 3_byteOf, 3_put, 3_takeTape, 100_coder_7d493, 100_length_8abf5, 101_canEncode_9a6ad, 101_indexOfChar_4cfef, 101_indexOf_4cfef
theorem dX2_checkOf_0 : decode cX2_checkOf 0 = .ok (.ldc 122, 2) := by decide +kernel
theorem dX2_checkOf_2 : decode cX2_checkOf 2 = .ok (.istore_n 1, 1) := by decide +kernel
theorem dX2_checkOf_3 : decode cX2_checkOf 3 = .ok (.iconst 0, 1) := by decide +kernel
theorem dX2_checkOf_4 : decode cX2_checkOf 4 = .ok (.istore_n 2, 1) := by decide +kernel
theorem dX2_checkOf_5 : decode cX2_checkOf 5 = .ok (.iload_n 2, 1) := by decide +kernel
theorem dX2_checkOf_6 : decode cX2_checkOf 6 = .ok (.aload_n 0, 1) := by decide +kernel
theorem dX2_checkOf_7 : decode cX2_checkOf 7 = .ok (.getfield 50, 3) := by decide +kernel
theorem dX2_checkOf_10 : decode cX2_checkOf 10 = .ok (.if_icmp .ge 54, 3) := by decide +kernel
theorem dX2_checkOf_13 : decode cX2_checkOf 13 = .ok (.iload_n 1, 1) := by decide +kernel
theorem dX2_checkOf_14 : decode cX2_checkOf 14 = .ok (.aload_n 0, 1) := by decide +kernel
theorem dX2_checkOf_15 : decode cX2_checkOf 15 = .ok (.getfield 24, 3) := by decide +kernel
theorem dX2_checkOf_18 : decode cX2_checkOf 18 = .ok (.iload_n 2, 1) := by decide +kernel
theorem dX2_checkOf_19 : decode cX2_checkOf 19 = .ok (.baload, 1) := by decide +kernel
theorem dX2_checkOf_20 : decode cX2_checkOf 20 = .ok (.sipush 255, 3) := by decide +kernel
theorem dX2_checkOf_23 : decode cX2_checkOf 23 = .ok (.iand, 1) := by decide +kernel
theorem dX2_checkOf_24 : decode cX2_checkOf 24 = .ok (.bipush 8, 2) := by decide +kernel
theorem dX2_checkOf_26 : decode cX2_checkOf 26 = .ok (.ishl, 1) := by decide +kernel
theorem dX2_checkOf_27 : decode cX2_checkOf 27 = .ok (.ixor, 1) := by decide +kernel
theorem dX2_checkOf_28 : decode cX2_checkOf 28 = .ok (.istore_n 1, 1) := by decide +kernel
theorem dX2_checkOf_29 : decode cX2_checkOf 29 = .ok (.iconst 0, 1) := by decide +kernel
theorem dX2_checkOf_30 : decode cX2_checkOf 30 = .ok (.istore_n 3, 1) := by decide +kernel
theorem dX2_checkOf_31 : decode cX2_checkOf 31 = .ok (.iload_n 3, 1) := by decide +kernel
theorem dX2_checkOf_32 : decode cX2_checkOf 32 = .ok (.bipush 8, 2) := by decide +kernel
theorem dX2_checkOf_34 : decode cX2_checkOf 34 = .ok (.if_icmp .ge 24, 3) := by decide +kernel
theorem dX2_checkOf_37 : decode cX2_checkOf 37 = .ok (.iload_n 1, 1) := by decide +kernel
theorem dX2_checkOf_38 : decode cX2_checkOf 38 = .ok (.iconst 1, 1) := by decide +kernel
theorem dX2_checkOf_39 : decode cX2_checkOf 39 = .ok (.ishl, 1) := by decide +kernel
theorem dX2_checkOf_40 : decode cX2_checkOf 40 = .ok (.istore_n 1, 1) := by decide +kernel
theorem dX2_checkOf_41 : decode cX2_checkOf 41 = .ok (.iload_n 1, 1) := by decide +kernel
theorem dX2_checkOf_42 : decode cX2_checkOf 42 = .ok (.ldc 122, 2) := by decide +kernel
theorem dX2_checkOf_44 : decode cX2_checkOf 44 = .ok (.if_icmp .le 8, 3) := by decide +kernel
theorem dX2_checkOf_47 : decode cX2_checkOf 47 = .ok (.iload_n 1, 1) := by decide +kernel
theorem dX2_checkOf_48 : decode cX2_checkOf 48 = .ok (.ldc 123, 2) := by decide +kernel
theorem dX2_checkOf_50 : decode cX2_checkOf 50 = .ok (.ixor, 1) := by decide +kernel
theorem dX2_checkOf_51 : decode cX2_checkOf 51 = .ok (.istore_n 1, 1) := by decide +kernel
theorem dX2_checkOf_52 : decode cX2_checkOf 52 = .ok (.iinc 3 1, 3) := by decide +kernel
theorem dX2_checkOf_55 : decode cX2_checkOf 55 = .ok (.goto (-24), 3) := by decide +kernel
theorem dX2_checkOf_58 : decode cX2_checkOf 58 = .ok (.iinc 2 1, 3) := by decide +kernel
theorem dX2_checkOf_61 : decode cX2_checkOf 61 = .ok (.goto (-56), 3) := by decide +kernel
theorem dX2_checkOf_64 : decode cX2_checkOf 64 = .ok (.iload_n 1, 1) := by decide +kernel
theorem dX2_checkOf_65 : decode cX2_checkOf 65 = .ok (.ireturn, 1) := by decide +kernel
theorem kd_2_checkOf : Cond.code yX2_checkOf cX2_checkOf 4 (some .int) ∈ lw_g := mt_at 1405 (by decide +kernel) rfl
theorem ki_2_checkOf : Cond.instanceMethod yX2_checkOf ∈ lw_g := mt_at 1404 (by decide +kernel) rfl
theorem kl_2_checkOf : Cond.selects (kRn 2) yX2_checkOf yX2_checkOf ∈ lw_g := mt_sel 36 (by decide +kernel) rfl
theorem kc2_122 : Cond.constant RX2 122 (65535) ∈ lw_g := mt_at 1406 (by decide +kernel) rfl
theorem kc2_123 : Cond.constant RX2 123 (69665) ∈ lw_g := mt_at 1407 (by decide +kernel) rfl
section
variable {p : Program} {l : Launch} {e : Env} {R : Room} {s : State} {m : MethodId} {args : Array Value} {below : List Frame} {meth : Method} {c : Code} {D : cG} {S : cSt} {r : Int32}
noncomputable def fk_2_checkOf_52 (g_5 : Nat → Int32 → Int32 → Option (Int32)) (g_31 : Nat → Int32 → Int32 → Int32 → Option (Int32)) (S : cSt) (v0 : Nat) (v1 : Int32) (v2 : Int32) (v3 : Int32) : Option (Int32) :=
lt (v3 + (1 : Int32)) fun x1 =>
g_31 v0 v1 v2 x1
set_option maxRecDepth 100000 in
set_option maxHeartbeats 4000000 in
theorem wk_2_checkOf_52 (C : cY p R s m args meth c RX2 cX2_checkOf 4 0 0 0 0 (some .int)) (X : cX D s) (hW : cW D S s.heap) {g_5 : Nat → Int32 → Int32 → Option (Int32)} {g_31 : Nat → Int32 → Int32 → Int32 → Option (Int32)} (hg_5 : ∀ {v0 : Nat} {v1 : Int32} {v2 : Int32} {ls : Array Slot}, g_5 v0 v1 v2 = some r → lv_has ls 4 [(0, .ref v0), (1, .int v1), (2, .int v2)] → W p l e R s m args below meth c s.heap [] 0 0 (MQ below (kQ (some (.int r))) args s 0 0 mNo) (F0 m 5 ls [])) (hg_31 : ∀ {v0 : Nat} {v1 : Int32} {v2 : Int32} {v3 : Int32} {ls : Array Slot}, g_31 v0 v1 v2 v3 = some r → lv_has ls 4 [(0, .ref v0), (1, .int v1), (2, .int v2), (3, .int v3)] → W p l e R s m args below meth c s.heap [] 0 0 (MQ below (kQ (some (.int r))) args s 0 0 mNo) (F0 m 31 ls [])) : ∀ {v0 : Nat} {v1 : Int32} {v2 : Int32} {v3 : Int32} {ls : Array Slot}, fk_2_checkOf_52 g_5 g_31 S v0 v1 v2 v3 = some r → lv_has ls 4 [(0, .ref v0), (1, .int v1), (2, .int v2), (3, .int v3)] → W p l e R s m args below meth c s.heap [] 0 0 (MQ below (kQ (some (.int r))) args s 0 0 mNo) (F0 m 52 ls []) := by
  intro v0 v1 v2 v3 ls h hl
  unfold fk_2_checkOf_52 at h
  refine lt_ok h (fun x1 e_x1 h => ?_)
  refine lv_iinc (v := x1) (lv' := [(3, .int x1), (0, .ref v0), (1, .int v1), (2, .int v2)]) C.1 C.2.1 dX2_checkOf_52 hl (k := 3) rfl (by rw [← e_x1]; rfl) (by decide) rfl (fun ls hl => ?_)
  refine lv_goto (tgt := 31) C.1 C.2.1 dX2_checkOf_55 (by decide) ?_
  exact hg_31 h (lv_sub hl [1, 2, 3, 0] rfl)
noncomputable def fk_2_checkOf_31 (g_5 : Nat → Int32 → Int32 → Option (Int32)) (S : cSt) : Nat → Nat → Int32 → Int32 → Int32 → Option (Int32)
  | 0, _, _, _, _ => none
  | n + 1, v0, v1, v2, v3 =>
    if (8 : Int32) ≤ v3 then (
    lt (v2 + (1 : Int32)) fun x2 =>
    g_5 v0 v1 x2)
    else (
    lt (v1 <<< ((1 : Int32) &&& 31)) fun x3 =>
    if x3 ≤ (65535 : Int32) then (
    fk_2_checkOf_52 g_5 (fk_2_checkOf_31 g_5 S n) S v0 x3 v2 v3)
    else (
    lt (x3 ^^^ (69665 : Int32)) fun x5 =>
    fk_2_checkOf_52 g_5 (fk_2_checkOf_31 g_5 S n) S v0 x5 v2 v3))
set_option maxRecDepth 100000 in
set_option maxHeartbeats 4000000 in
theorem wk_2_checkOf_31 (C : cY p R s m args meth c RX2 cX2_checkOf 4 0 0 0 0 (some .int)) (X : cX D s) (hW : cW D S s.heap) {g_5 : Nat → Int32 → Int32 → Option (Int32)} (hg_5 : ∀ {v0 : Nat} {v1 : Int32} {v2 : Int32} {ls : Array Slot}, g_5 v0 v1 v2 = some r → lv_has ls 4 [(0, .ref v0), (1, .int v1), (2, .int v2)] → W p l e R s m args below meth c s.heap [] 0 0 (MQ below (kQ (some (.int r))) args s 0 0 mNo) (F0 m 5 ls [])) : ∀ (n : Nat), ∀ {v0 : Nat} {v1 : Int32} {v2 : Int32} {v3 : Int32} {ls : Array Slot}, fk_2_checkOf_31 g_5 S n v0 v1 v2 v3 = some r → lv_has ls 4 [(0, .ref v0), (1, .int v1), (2, .int v2), (3, .int v3)] → W p l e R s m args below meth c s.heap [] 0 0 (MQ below (kQ (some (.int r))) args s 0 0 mNo) (F0 m 31 ls []) := by
  intro n
  induction n with
  | zero =>
    intro v0 v1 v2 v3 ls h hl
    exact absurd (show (none : Option (Int32)) = _ from h) (fun q => by cases q)
  | succ n ih =>
    intro v0 v1 v2 v3 ls h hl
    rw [fk_2_checkOf_31] at h
    refine lv_iload_n C.1 C.2.1 dX2_checkOf_31 rfl (lv_at hl 3 rfl) ?_
    refine lv_bipush (v := 8) C.1 C.2.1 dX2_checkOf_32 (by decide) ?_
    refine lv_icmp_ge (tgt := 58) C.1 C.2.1 dX2_checkOf_34 (by decide) (fun c1 => ?_) (fun c1 => ?_)
    · have h := if_t h c1
      refine lt_ok h (fun x2 e_x2 h => ?_)
      refine lv_iinc (v := x2) (lv' := [(2, .int x2), (0, .ref v0), (1, .int v1), (3, .int v3)]) C.1 C.2.1 dX2_checkOf_58 hl (k := 2) rfl (by rw [← e_x2]; rfl) (by decide) rfl (fun ls hl => ?_)
      refine lv_goto (tgt := 5) C.1 C.2.1 dX2_checkOf_61 (by decide) ?_
      exact hg_5 h (lv_sub hl [1, 2, 0] rfl)
    · have h := if_f h c1
      refine lv_iload_n C.1 C.2.1 dX2_checkOf_37 rfl (lv_at hl 1 rfl) ?_
      refine lv_iconst (v := 1) C.1 C.2.1 dX2_checkOf_38 (by decide) ?_
      refine lv_ishl C.1 C.2.1 dX2_checkOf_39 ?_
      refine lt_ok h (fun x3 e_x3 h => ?_)
      refine lv_nm e_x3 ?_
      refine lv_istore_n (lv' := [(1, .int x3), (0, .ref v0), (2, .int v2), (3, .int v3)]) C.1 C.2.1 dX2_checkOf_40 rfl hl (by decide) rfl (fun ls hl => ?_)
      refine lv_iload_n C.1 C.2.1 dX2_checkOf_41 rfl (lv_at hl 0 rfl) ?_
      refine lv_ldc (own := RX2) (v := 65535) C.1 C.2.1 C.2.2.2.1 (C.2.2.2.2.1 _ kc2_122) dX2_checkOf_42 ?_
      refine lv_icmp_le (tgt := 52) C.1 C.2.1 dX2_checkOf_44 (by decide) (fun c4 => ?_) (fun c4 => ?_)
      · have h := if_t h c4
        exact wk_2_checkOf_52 C X hW hg_5 ih h (lv_sub hl [1, 0, 2, 3] rfl)
      · have h := if_f h c4
        refine lv_iload_n C.1 C.2.1 dX2_checkOf_47 rfl (lv_at hl 0 rfl) ?_
        refine lv_ldc (own := RX2) (v := 69665) C.1 C.2.1 C.2.2.2.1 (C.2.2.2.2.1 _ kc2_123) dX2_checkOf_48 ?_
        refine lv_ixor C.1 C.2.1 dX2_checkOf_50 ?_
        refine lt_ok h (fun x5 e_x5 h => ?_)
        refine lv_nm e_x5 ?_
        refine lv_istore_n (lv' := [(1, .int x5), (0, .ref v0), (2, .int v2), (3, .int v3)]) C.1 C.2.1 dX2_checkOf_51 rfl hl (by decide) rfl (fun ls hl => ?_)
        exact wk_2_checkOf_52 C X hW hg_5 ih h (lv_sub hl [1, 0, 2, 3] rfl)
noncomputable def fk_2_checkOf_5 (S : cSt) : Nat → Nat → Int32 → Int32 → Option (Int32)
  | 0, _, _, _ => none
  | n + 1, v0, v1, v2 =>
    ckk S v0 3 (
    if (kF S v0 7) ≤ v2 then (
    some v1)
    else (
    ckk S v0 3 (bd (kR S v0 9) fun a2 =>
    ckk S a2 21 (ck v2 (kL S a2) (
    lt (v1 ^^^ (((kI S a2 (Int32.toNatClampNeg v2)) &&& (255 : Int32)) <<< ((8 : Int32) &&& 31))) fun x3 =>
    fk_2_checkOf_31 (fk_2_checkOf_5 S n) S mFU v0 x3 v2 (0 : Int32))))))
set_option maxRecDepth 100000 in
set_option maxHeartbeats 4000000 in
theorem wk_2_checkOf_5 (C : cY p R s m args meth c RX2 cX2_checkOf 4 0 0 0 0 (some .int)) (X : cX D s) (hW : cW D S s.heap) : ∀ (n : Nat), ∀ {v0 : Nat} {v1 : Int32} {v2 : Int32} {ls : Array Slot}, fk_2_checkOf_5 S n v0 v1 v2 = some r → lv_has ls 4 [(0, .ref v0), (1, .int v1), (2, .int v2)] → W p l e R s m args below meth c s.heap [] 0 0 (MQ below (kQ (some (.int r))) args s 0 0 mNo) (F0 m 5 ls []) := by
  intro n
  induction n with
  | zero =>
    intro v0 v1 v2 ls h hl
    exact absurd (show (none : Option (Int32)) = _ from h) (fun q => by cases q)
  | succ n ih =>
    intro v0 v1 v2 ls h hl
    rw [fk_2_checkOf_5] at h
    refine lv_iload_n C.1 C.2.1 dX2_checkOf_5 rfl (lv_at hl 2 rfl) ?_
    refine lv_aload_n C.1 C.2.1 dX2_checkOf_6 rfl (lv_at hl 0 rfl) ?_
    obtain ⟨hk, h⟩ := ckk_ok h
    refine gk2_50 C X hW hk dX2_checkOf_7 ?_
    refine lv_icmp_ge (tgt := 64) C.1 C.2.1 dX2_checkOf_10 (by decide) (fun c1 => ?_) (fun c1 => ?_)
    · have h := if_t h c1
      refine lv_iload_n C.1 C.2.1 dX2_checkOf_64 rfl (lv_at hl 1 rfl) ?_
      cases h
      exact c_reti C rfl rfl dX2_checkOf_65
    · have h := if_f h c1
      refine lv_iload_n C.1 C.2.1 dX2_checkOf_13 rfl (lv_at hl 1 rfl) ?_
      refine lv_aload_n C.1 C.2.1 dX2_checkOf_14 rfl (lv_at hl 0 rfl) ?_
      obtain ⟨hk, h⟩ := ckk_ok h
      obtain ⟨a2, h_a2, h⟩ := bd_ok h
      refine gk2_24 C X hW hk h_a2 dX2_checkOf_15 ?_
      refine lv_iload_n C.1 C.2.1 dX2_checkOf_18 rfl (lv_at hl 2 rfl) ?_
      obtain ⟨hk, h⟩ := ckk_ok h
      obtain ⟨hin2, h⟩ := ck_ok h
      refine c_bald C X hW hk hin2 dX2_checkOf_19 ?_
      refine lv_sipush (v := 255) C.1 C.2.1 dX2_checkOf_20 (by decide) ?_
      refine lv_iand C.1 C.2.1 dX2_checkOf_23 ?_
      refine lv_bipush (v := 8) C.1 C.2.1 dX2_checkOf_24 (by decide) ?_
      refine lv_ishl C.1 C.2.1 dX2_checkOf_26 ?_
      refine lv_ixor C.1 C.2.1 dX2_checkOf_27 ?_
      refine lt_ok h (fun x3 e_x3 h => ?_)
      refine lv_nm e_x3 ?_
      refine lv_istore_n (lv' := [(1, .int x3), (0, .ref v0), (2, .int v2)]) C.1 C.2.1 dX2_checkOf_28 rfl hl (by decide) rfl (fun ls hl => ?_)
      refine lv_iconst (v := 0) C.1 C.2.1 dX2_checkOf_29 (by decide) ?_
      refine lv_istore_n (lv' := [(3, .int (0 : Int32)), (1, .int x3), (0, .ref v0), (2, .int v2)]) C.1 C.2.1 dX2_checkOf_30 rfl hl (by decide) rfl (fun ls hl => ?_)
      exact wk_2_checkOf_31 C X hW ih mFU h (lv_sub hl [2, 1, 3, 0] rfl)
noncomputable def fk_2_checkOf (S : cSt) (v0 : Nat) : Option (Int32) :=
fk_2_checkOf_5 S mFU v0 (65535 : Int32) (0 : Int32)
set_option maxRecDepth 100000 in
set_option maxHeartbeats 4000000 in
theorem tk_2_checkOf (l : Launch) {D : cG} {S : cSt} {v0 : Nat} {r : Int32}  (h : fk_2_checkOf S v0 = some r) : Met l yX2_checkOf (Cond.code yX2_checkOf cX2_checkOf 4 (some .int) :: lw_g) { frames := 0, cells := 0, slots := 0, locals := 0 } (kPi [.ref v0] D S) (kQ (some (.int r))) 0 0 (mNo) := by
  refine Met.ofW (cc := cX2_checkOf) (maxL := 4) (ret := (some .int)) (by decide) rfl ?_
  intro p e s m args below meth c s₁ B hml hv
  obtain ⟨rfl, hW, X⟩ := hv
  have C : cY p (headSpec (Cond.code yX2_checkOf cX2_checkOf 4 (some .int) :: lw_g) { frames := 0, cells := 0, slots := 0, locals := 0 }).room s m _ meth c RX2 cX2_checkOf 4 0 0 0 0 (some .int) := ⟨B.exec, B.bytes, hml, findClass_of_methodNamed B.named, fun w hw => atoms_spec (ws := Cond.code yX2_checkOf cX2_checkOf 4 (some .int) :: lw_g) B.pre w (List.mem_cons_of_mem _ hw), ⟨Nat.le_refl _, Nat.le_refl _, Nat.le_refl _, Nat.le_refl _⟩, B.returns, B.notSynchronized⟩
  have hl := lv_entry ([.ref v0]) (n := 4) (Nat.le_of_ble_eq_true rfl)
  rw [lg_entry_eq]
  generalize (lg_sl ([.ref v0]) ++ List.replicate (4 - (lg_sl ([.ref v0])).length) Slot.unset).toArray = ls at hl ⊢
  have hl : lv_has ls 4 [(0, .ref v0)] := hl
  unfold fk_2_checkOf at h
  refine lv_ldc (own := RX2) (v := 65535) C.1 C.2.1 C.2.2.2.1 (C.2.2.2.2.1 _ kc2_122) dX2_checkOf_0 ?_
  refine lv_istore_n (lv' := [(1, .int (65535 : Int32)), (0, .ref v0)]) C.1 C.2.1 dX2_checkOf_2 rfl hl (by decide) rfl (fun ls hl => ?_)
  refine lv_iconst (v := 0) C.1 C.2.1 dX2_checkOf_3 (by decide) ?_
  refine lv_istore_n (lv' := [(2, .int (0 : Int32)), (1, .int (65535 : Int32)), (0, .ref v0)]) C.1 C.2.1 dX2_checkOf_4 rfl hl (by decide) rfl (fun ls hl => ?_)
  exact wk_2_checkOf_5 C X hW mFU h (lv_sub hl [2, 1, 0] rfl)
end
theorem dJ7_fill_031fb_0 : decode cJ7_fill_031fb 0 = .ok (.iconst 0, 1) := by decide +kernel
theorem dJ7_fill_031fb_1 : decode cJ7_fill_031fb 1 = .ok (.istore_n 2, 1) := by decide +kernel
theorem dJ7_fill_031fb_2 : decode cJ7_fill_031fb 2 = .ok (.aload_n 0, 1) := by decide +kernel
theorem dJ7_fill_031fb_3 : decode cJ7_fill_031fb 3 = .ok (.arraylength, 1) := by decide +kernel
theorem dJ7_fill_031fb_4 : decode cJ7_fill_031fb 4 = .ok (.istore_n 3, 1) := by decide +kernel
theorem dJ7_fill_031fb_5 : decode cJ7_fill_031fb 5 = .ok (.iload_n 2, 1) := by decide +kernel
theorem dJ7_fill_031fb_6 : decode cJ7_fill_031fb 6 = .ok (.iload_n 3, 1) := by decide +kernel
theorem dJ7_fill_031fb_7 : decode cJ7_fill_031fb 7 = .ok (.if_icmp .ge 13, 3) := by decide +kernel
theorem dJ7_fill_031fb_10 : decode cJ7_fill_031fb 10 = .ok (.aload_n 0, 1) := by decide +kernel
theorem dJ7_fill_031fb_11 : decode cJ7_fill_031fb 11 = .ok (.iload_n 2, 1) := by decide +kernel
theorem dJ7_fill_031fb_12 : decode cJ7_fill_031fb 12 = .ok (.iload_n 1, 1) := by decide +kernel
theorem dJ7_fill_031fb_13 : decode cJ7_fill_031fb 13 = .ok (.bastore, 1) := by decide +kernel
theorem dJ7_fill_031fb_14 : decode cJ7_fill_031fb 14 = .ok (.iinc 2 1, 3) := by decide +kernel
theorem dJ7_fill_031fb_17 : decode cJ7_fill_031fb 17 = .ok (.goto (-12), 3) := by decide +kernel
theorem dJ7_fill_031fb_20 : decode cJ7_fill_031fb 20 = .ok (.return_, 1) := by decide +kernel
theorem kd_107_fill_031fb : Cond.code yJ7_fill_031fb cJ7_fill_031fb 4 none ∈ lw_g := mt_at 1410 (by decide +kernel) rfl
theorem ks_107_fill_031fb : Cond.static yJ7_fill_031fb ∈ lw_g := mt_at 1409 (by decide +kernel) rfl
section
variable {p : Program} {l : Launch} {e : Env} {R : Room} {s : State} {m : MethodId} {args : Array Value} {below : List Frame} {meth : Method} {c : Code} {D : cG} {S0 S9 : cSt}
noncomputable def fk_107_fill_031fb_5 : Nat → cSt → Nat → Int32 → Int32 → Int32 → Option (cSt)
  | 0, _, _, _, _, _ => none
  | n + 1, S, v0, v1, v2, v3 =>
    if v3 ≤ v2 then (
    some S)
    else (
    ckk S v0 21 (ck v2 (kL S v0) (ckp (vp_nar .byte v1 = v1) (lt (cWi S v0 (Int32.toNatClampNeg v2) v1) fun S2 =>
    lt (v2 + (1 : Int32)) fun x3 =>
    fk_107_fill_031fb_5 n S2 v0 v1 x3 v3))))
set_option maxRecDepth 100000 in
set_option maxHeartbeats 4000000 in
theorem wk_107_fill_031fb_5 (C : cY p R s m args meth c RJ7 cJ7_fill_031fb 4 0 0 0 0 none) (X : cX D s) : ∀ (n : Nat), ∀ {S : cSt} {v0 : Nat} {v1 : Int32} {v2 : Int32} {v3 : Int32} {H : Heap} {locs : List Loc} {ls : Array Slot}, fk_107_fill_031fb_5 n S v0 v1 v2 v3 = some S9 → cJ D S0 s.heap S H locs → lv_has ls 4 [(0, .ref v0), (1, .int v1), (2, .int v2), (3, .int v3)] → W p l e R s m args below meth c H locs 0 0 (MQ below (kW none D S0 S9) args s 0 0 (cA S0)) (F0 m 5 ls []) := by
  intro n
  induction n with
  | zero =>
    intro S v0 v1 v2 v3 H locs ls h hJ hl
    exact absurd (show (none : Option (cSt)) = _ from h) (fun q => by cases q)
  | succ n ih =>
    intro S v0 v1 v2 v3 H locs ls h hJ hl
    rw [fk_107_fill_031fb_5] at h
    refine lv_iload_n C.1 C.2.1 dJ7_fill_031fb_5 rfl (lv_at hl 2 rfl) ?_
    refine lv_iload_n C.1 C.2.1 dJ7_fill_031fb_6 rfl (lv_at hl 3 rfl) ?_
    refine lv_icmp_ge (tgt := 20) C.1 C.2.1 dJ7_fill_031fb_7 (by decide) (fun c1 => ?_) (fun c1 => ?_)
    · have h := if_t h c1
      cases h
      exact c_retvW C hJ dJ7_fill_031fb_20
    · have h := if_f h c1
      refine lv_aload_n C.1 C.2.1 dJ7_fill_031fb_10 rfl (lv_at hl 0 rfl) ?_
      refine lv_iload_n C.1 C.2.1 dJ7_fill_031fb_11 rfl (lv_at hl 2 rfl) ?_
      refine lv_iload_n C.1 C.2.1 dJ7_fill_031fb_12 rfl (lv_at hl 1 rfl) ?_
      obtain ⟨hk, h⟩ := ckk_ok h
      obtain ⟨hin2, h⟩ := ck_ok h
      obtain ⟨hnr, h⟩ := ckp_ok h
      refine c_bast C X hJ hk hnr hin2 dJ7_fill_031fb_13 (fun H locs hJ => ?_)
      refine lt_ok h (fun S2 e_S2 h => ?_)
      rw [e_S2] at hJ
      refine lt_ok h (fun x3 e_x3 h => ?_)
      refine lv_iinc (v := x3) (lv' := [(2, .int x3), (0, .ref v0), (1, .int v1), (3, .int v3)]) C.1 C.2.1 dJ7_fill_031fb_14 hl (k := 2) rfl (by rw [← e_x3]; rfl) (by decide) rfl (fun ls hl => ?_)
      refine lv_goto (tgt := 5) C.1 C.2.1 dJ7_fill_031fb_17 (by decide) ?_
      exact ih h hJ (lv_sub hl [1, 2, 0, 3] rfl)
noncomputable def fk_107_fill_031fb (S : cSt) (v0 : Nat) (v1 : Int32) : Option (cSt) :=
ckk S v0 21 (
lt (Int32.ofNat (kL S v0)) fun x1 =>
fk_107_fill_031fb_5 mFU S v0 v1 (0 : Int32) x1)
set_option maxRecDepth 100000 in
set_option maxHeartbeats 4000000 in
theorem tk_107_fill_031fb (l : Launch) {D : cG} {S : cSt} {v0 : Nat} {v1 : Int32} {S9 : cSt} (h : fk_107_fill_031fb S v0 v1 = some S9) : Met l yJ7_fill_031fb (Cond.code yJ7_fill_031fb cJ7_fill_031fb 4 none :: lw_g) { frames := 0, cells := 0, slots := 0, locals := 0 } (kPi [.ref v0, .int v1] D S) (kW none D S S9) 0 0 (cA S) := by
  refine Met.ofW (cc := cJ7_fill_031fb) (maxL := 4) (ret := none) (by decide) rfl ?_
  intro p e s m args below meth c s₁ B hml hv
  obtain ⟨rfl, hW, X⟩ := hv
  have C : cY p (headSpec (Cond.code yJ7_fill_031fb cJ7_fill_031fb 4 none :: lw_g) { frames := 0, cells := 0, slots := 0, locals := 0 }).room s m _ meth c RJ7 cJ7_fill_031fb 4 0 0 0 0 none := ⟨B.exec, B.bytes, hml, findClass_of_methodNamed B.named, fun w hw => atoms_spec (ws := Cond.code yJ7_fill_031fb cJ7_fill_031fb 4 none :: lw_g) B.pre w (List.mem_cons_of_mem _ hw), ⟨Nat.le_refl _, Nat.le_refl _, Nat.le_refl _, Nat.le_refl _⟩, B.returns, B.notSynchronized⟩
  have hl := lv_entry ([.ref v0, .int v1]) (n := 4) (Nat.le_of_ble_eq_true rfl)
  rw [lg_entry_eq]
  generalize (lg_sl ([.ref v0, .int v1]) ++ List.replicate (4 - (lg_sl ([.ref v0, .int v1])).length) Slot.unset).toArray = ls at hl ⊢
  have hl : lv_has ls 4 [(0, .ref v0), (1, .int v1)] := hl
  have hJ : cJ D S s.heap S s.heap [] := cJ.rf hW
  unfold fk_107_fill_031fb at h
  refine lv_iconst (v := 0) C.1 C.2.1 dJ7_fill_031fb_0 (by decide) ?_
  refine lv_istore_n (lv' := [(2, .int (0 : Int32)), (0, .ref v0), (1, .int v1)]) C.1 C.2.1 dJ7_fill_031fb_1 rfl hl (by decide) rfl (fun ls hl => ?_)
  refine lv_aload_n C.1 C.2.1 dJ7_fill_031fb_2 rfl (lv_at hl 1 rfl) ?_
  obtain ⟨hk, h⟩ := ckk_ok h
  refine c_leni C 21 (by decide) (by decide) X.2.2.1 hJ.1 hk dJ7_fill_031fb_3 ?_
  refine lt_ok h (fun x1 e_x1 h => ?_)
  refine lv_nm e_x1 ?_
  refine lv_istore_n (lv' := [(3, .int x1), (2, .int (0 : Int32)), (0, .ref v0), (1, .int v1)]) C.1 C.2.1 dJ7_fill_031fb_4 rfl hl (by decide) rfl (fun ls hl => ?_)
  exact wk_107_fill_031fb_5 C X mFU h hJ (lv_sub hl [2, 3, 1, 0] rfl)
end
theorem dX2_write_0 : decode cX2_write 0 = .ok (.aload_n 0, 1) := by decide +kernel
theorem dX2_write_1 : decode cX2_write 1 = .ok (.getfield 50, 3) := by decide +kernel
theorem dX2_write_4 : decode cX2_write 4 = .ok (.ifCond .le 4, 3) := by decide +kernel
theorem dX2_write_7 : decode cX2_write 7 = .ok (.return_, 1) := by decide +kernel
theorem dX2_write_8 : decode cX2_write 8 = .ok (.aload_n 0, 1) := by decide +kernel
theorem dX2_write_9 : decode cX2_write 9 = .ok (.getfield 24, 3) := by decide +kernel
theorem dX2_write_12 : decode cX2_write 12 = .ok (.arraylength, 1) := by decide +kernel
theorem dX2_write_13 : decode cX2_write 13 = .ok (.ifCond .ne 21, 3) := by decide +kernel
theorem dX2_write_16 : decode cX2_write 16 = .ok (.aload_n 0, 1) := by decide +kernel
theorem dX2_write_17 : decode cX2_write 17 = .ok (.sipush 560, 3) := by decide +kernel
theorem dX2_write_20 : decode cX2_write 20 = .ok (.newarray .byte, 2) := by decide +kernel
theorem dX2_write_22 : decode cX2_write 22 = .ok (.putfield 24, 3) := by decide +kernel
theorem dX2_write_25 : decode cX2_write 25 = .ok (.aload_n 0, 1) := by decide +kernel
theorem dX2_write_26 : decode cX2_write 26 = .ok (.sipush 560, 3) := by decide +kernel
theorem dX2_write_29 : decode cX2_write 29 = .ok (.newarray .byte, 2) := by decide +kernel
theorem dX2_write_31 : decode cX2_write 31 = .ok (.putfield 28, 3) := by decide +kernel
theorem dX2_write_34 : decode cX2_write 34 = .ok (.aload_n 0, 1) := by decide +kernel
theorem dX2_write_35 : decode cX2_write 35 = .ok (.aload_n 0, 1) := by decide +kernel
theorem dX2_write_36 : decode cX2_write 36 = .ok (.getfield 37, 3) := by decide +kernel
theorem dX2_write_39 : decode cX2_write 39 = .ok (.iconst 4, 1) := by decide +kernel
theorem dX2_write_40 : decode cX2_write 40 = .ok (.aload_n 0, 1) := by decide +kernel
theorem dX2_write_41 : decode cX2_write 41 = .ok (.getfield 40, 3) := by decide +kernel
theorem dX2_write_44 : decode cX2_write 44 = .ok (.imul, 1) := by decide +kernel
theorem dX2_write_45 : decode cX2_write 45 = .ok (.iadd, 1) := by decide +kernel
theorem dX2_write_46 : decode cX2_write 46 = .ok (.aload_n 0, 1) := by decide +kernel
theorem dX2_write_47 : decode cX2_write 47 = .ok (.getfield 43, 3) := by decide +kernel
theorem dX2_write_50 : decode cX2_write 50 = .ok (.ifCond .eq 8, 3) := by decide +kernel
theorem dX2_write_53 : decode cX2_write 53 = .ok (.bipush 16, 2) := by decide +kernel
theorem dX2_write_55 : decode cX2_write 55 = .ok (.goto 4, 3) := by decide +kernel
theorem dX2_write_58 : decode cX2_write 58 = .ok (.iconst 0, 1) := by decide +kernel
theorem dX2_write_59 : decode cX2_write 59 = .ok (.iadd, 1) := by decide +kernel
theorem dX2_write_60 : decode cX2_write 60 = .ok (.invokevirtual 69, 3) := by decide +kernel
theorem dX2_write_63 : decode cX2_write 63 = .ok (.aload_n 0, 1) := by decide +kernel
theorem dX2_write_64 : decode cX2_write 64 = .ok (.aload_n 0, 1) := by decide +kernel
theorem dX2_write_65 : decode cX2_write 65 = .ok (.getfield 9, 3) := by decide +kernel
theorem dX2_write_68 : decode cX2_write 68 = .ok (.iconst 0, 1) := by decide +kernel
theorem dX2_write_69 : decode cX2_write 69 = .ok (.iconst 4, 1) := by decide +kernel
theorem dX2_write_70 : decode cX2_write 70 = .ok (.invokevirtual 73, 3) := by decide +kernel
theorem dX2_write_73 : decode cX2_write 73 = .ok (.iconst 0, 1) := by decide +kernel
theorem dX2_write_74 : decode cX2_write 74 = .ok (.istore_n 1, 1) := by decide +kernel
theorem dX2_write_75 : decode cX2_write 75 = .ok (.iload_n 1, 1) := by decide +kernel
theorem dX2_write_76 : decode cX2_write 76 = .ok (.iconst 4, 1) := by decide +kernel
theorem dX2_write_77 : decode cX2_write 77 = .ok (.if_icmp .ge 36, 3) := by decide +kernel
theorem dX2_write_80 : decode cX2_write 80 = .ok (.aload_n 0, 1) := by decide +kernel
theorem dX2_write_81 : decode cX2_write 81 = .ok (.aload_n 0, 1) := by decide +kernel
theorem dX2_write_82 : decode cX2_write 82 = .ok (.getfield 15, 3) := by decide +kernel
theorem dX2_write_85 : decode cX2_write 85 = .ok (.iconst 4, 1) := by decide +kernel
theorem dX2_write_86 : decode cX2_write 86 = .ok (.iload_n 1, 1) := by decide +kernel
theorem dX2_write_87 : decode cX2_write 87 = .ok (.imul, 1) := by decide +kernel
theorem dX2_write_88 : decode cX2_write 88 = .ok (.aload_n 0, 1) := by decide +kernel
theorem dX2_write_89 : decode cX2_write 89 = .ok (.getfield 15, 3) := by decide +kernel
theorem dX2_write_92 : decode cX2_write 92 = .ok (.iconst 4, 1) := by decide +kernel
theorem dX2_write_93 : decode cX2_write 93 = .ok (.iload_n 1, 1) := by decide +kernel
theorem dX2_write_94 : decode cX2_write 94 = .ok (.imul, 1) := by decide +kernel
theorem dX2_write_95 : decode cX2_write 95 = .ok (.iaload, 1) := by decide +kernel
theorem dX2_write_96 : decode cX2_write 96 = .ok (.ifCond .ne 7, 3) := by decide +kernel
theorem dX2_write_99 : decode cX2_write 99 = .ok (.iconst 1, 1) := by decide +kernel
theorem dX2_write_100 : decode cX2_write 100 = .ok (.goto 4, 3) := by decide +kernel
theorem dX2_write_103 : decode cX2_write 103 = .ok (.iconst 4, 1) := by decide +kernel
theorem dX2_write_104 : decode cX2_write 104 = .ok (.invokevirtual 73, 3) := by decide +kernel
theorem dX2_write_107 : decode cX2_write 107 = .ok (.iinc 1 1, 3) := by decide +kernel
theorem dX2_write_110 : decode cX2_write 110 = .ok (.goto (-35), 3) := by decide +kernel
theorem dX2_write_113 : decode cX2_write 113 = .ok (.aload_n 0, 1) := by decide +kernel
theorem dX2_write_114 : decode cX2_write 114 = .ok (.aload_n 0, 1) := by decide +kernel
theorem dX2_write_115 : decode cX2_write 115 = .ok (.getfield 47, 3) := by decide +kernel
theorem dX2_write_118 : decode cX2_write 118 = .ok (.invokevirtual 77, 3) := by decide +kernel
theorem dX2_write_121 : decode cX2_write 121 = .ok (.iconst 0, 1) := by decide +kernel
theorem dX2_write_122 : decode cX2_write 122 = .ok (.istore_n 1, 1) := by decide +kernel
theorem dX2_write_123 : decode cX2_write 123 = .ok (.iload_n 1, 1) := by decide +kernel
theorem dX2_write_124 : decode cX2_write 124 = .ok (.aload_n 0, 1) := by decide +kernel
theorem dX2_write_125 : decode cX2_write 125 = .ok (.getfield 47, 3) := by decide +kernel
theorem dX2_write_128 : decode cX2_write 128 = .ok (.if_icmp .ge 19, 3) := by decide +kernel
theorem dX2_write_131 : decode cX2_write 131 = .ok (.aload_n 0, 1) := by decide +kernel
theorem dX2_write_132 : decode cX2_write 132 = .ok (.aload_n 0, 1) := by decide +kernel
theorem dX2_write_133 : decode cX2_write 133 = .ok (.getfield 20, 3) := by decide +kernel
theorem dX2_write_136 : decode cX2_write 136 = .ok (.iload_n 1, 1) := by decide +kernel
theorem dX2_write_137 : decode cX2_write 137 = .ok (.aaload, 1) := by decide +kernel
theorem dX2_write_138 : decode cX2_write 138 = .ok (.invokevirtual 80, 3) := by decide +kernel
theorem dX2_write_141 : decode cX2_write 141 = .ok (.iinc 1 1, 3) := by decide +kernel
theorem dX2_write_144 : decode cX2_write 144 = .ok (.goto (-21), 3) := by decide +kernel
theorem dX2_write_147 : decode cX2_write 147 = .ok (.aload_n 0, 1) := by decide +kernel
theorem dX2_write_148 : decode cX2_write 148 = .ok (.invokevirtual 84, 3) := by decide +kernel
theorem dX2_write_151 : decode cX2_write 151 = .ok (.istore_n 1, 1) := by decide +kernel
theorem dX2_write_152 : decode cX2_write 152 = .ok (.aload_n 0, 1) := by decide +kernel
theorem dX2_write_153 : decode cX2_write 153 = .ok (.iload_n 1, 1) := by decide +kernel
theorem dX2_write_154 : decode cX2_write 154 = .ok (.bipush 8, 2) := by decide +kernel
theorem dX2_write_156 : decode cX2_write 156 = .ok (.ishr, 1) := by decide +kernel
theorem dX2_write_157 : decode cX2_write 157 = .ok (.invokevirtual 69, 3) := by decide +kernel
theorem dX2_write_160 : decode cX2_write 160 = .ok (.aload_n 0, 1) := by decide +kernel
theorem dX2_write_161 : decode cX2_write 161 = .ok (.iload_n 1, 1) := by decide +kernel
theorem dX2_write_162 : decode cX2_write 162 = .ok (.sipush 255, 3) := by decide +kernel
theorem dX2_write_165 : decode cX2_write 165 = .ok (.iand, 1) := by decide +kernel
theorem dX2_write_166 : decode cX2_write 166 = .ok (.invokevirtual 69, 3) := by decide +kernel
theorem dX2_write_169 : decode cX2_write 169 = .ok (.aload_n 0, 1) := by decide +kernel
theorem dX2_write_170 : decode cX2_write 170 = .ok (.getfield 28, 3) := by decide +kernel
theorem dX2_write_173 : decode cX2_write 173 = .ok (.iconst 0, 1) := by decide +kernel
theorem dX2_write_174 : decode cX2_write 174 = .ok (.invokestatic 88, 3) := by decide +kernel
theorem dX2_write_177 : decode cX2_write 177 = .ok (.return_, 1) := by decide +kernel
theorem kd_2_write : Cond.code yX2_write cX2_write 2 none ∈ lw_g := mt_at 1385 (by decide +kernel) rfl
theorem ki_2_write : Cond.instanceMethod yX2_write ∈ lw_g := mt_at 1383 (by decide +kernel) rfl
theorem kl_2_write : Cond.selects (kRn 2) yX2_write yX2_write ∈ lw_g := mt_at 1384 (by decide +kernel) rfl
theorem cw2_80 : cCw RX2 80 yX2_putRow cX2_putRow 2 none 1 := ⟨kd_2_putRow, mt_at 1398 (by decide +kernel) rfl, mt_at 30 (by decide +kernel) rfl, by decide +kernel⟩
theorem cw2_84 : cCw RX2 84 yX2_checkOf cX2_checkOf 4 (some .int) 0 := ⟨kd_2_checkOf, mt_at 1402 (by decide +kernel) rfl, mt_at 30 (by decide +kernel) rfl, by decide +kernel⟩
theorem cw2_88 : cCw RX2 88 yJ7_fill_031fb cJ7_fill_031fb 4 none 2 := ⟨kd_107_fill_031fb, mt_at 1408 (by decide +kernel) rfl, mt_at 24 (by decide +kernel) rfl, by decide +kernel⟩
section
variable {p : Program} {l : Launch} {e : Env} {R : Room} {s : State} {m : MethodId} {args : Array Value} {below : List Frame} {meth : Method} {c : Code} {H : Heap} {locs : List Loc} {cells slots : Nat} {Q : State → Prop}
variable {D : cG} {S S0 : cSt} {cc : ByteArray} {nL : Nat} {pc : Nat} {ls : Array Slot} {rest : List Value} {H0 : Heap} {nF nR nC nS : Nat} {ret : Option FieldType} {a : Nat}
theorem gk2_20 (C : cY p R s m args meth c RX2 cc nL nF nC nS nR ret) (X : cX D s) (hW : cW D S H) (hk : kK S a = 3) {x : Nat} (hx : kR S a 2 = some x) (hdg : decode cc pc = .ok (.getfield 20, 3)) (kk : W p l e R s m args below meth c H locs cells slots Q (F0 m (pc + 3) ls (.ref x :: rest))) : W p l e R s m args below meth c H locs cells slots Q (F0 m pc ls (.ref a :: rest)) := c_get C X hW 2 (by decide) ly_2 hk 2 (by decide) (mt_at 1274 (by decide +kernel) (by decide +kernel)) hdg (by rw [cV_R (by decide +kernel) hx]; exact kk)
theorem gk2_28 (C : cY p R s m args meth c RX2 cc nL nF nC nS nR ret) (X : cX D s) (hW : cW D S H) (hk : kK S a = 3) {x : Nat} (hx : kR S a 10 = some x) (hdg : decode cc pc = .ok (.getfield 28, 3)) (kk : W p l e R s m args below meth c H locs cells slots Q (F0 m (pc + 3) ls (.ref x :: rest))) : W p l e R s m args below meth c H locs cells slots Q (F0 m pc ls (.ref a :: rest)) := c_get C X hW 2 (by decide) ly_2 hk 10 (by decide) (mt_at 1293 (by decide +kernel) (by decide +kernel)) hdg (by rw [cV_R (by decide +kernel) hx]; exact kk)
theorem gk2_40 (C : cY p R s m args meth c RX2 cc nL nF nC nS nR ret) (X : cX D s) (hW : cW D S H) (hk : kK S a = 3) (hdg : decode cc pc = .ok (.getfield 40, 3)) (kk : W p l e R s m args below meth c H locs cells slots Q (F0 m (pc + 3) ls (.int (kF S a 4) :: rest))) : W p l e R s m args below meth c H locs cells slots Q (F0 m pc ls (.ref a :: rest)) := c_get C X hW 2 (by decide) ly_2 hk 4 (by decide) (mt_at 1280 (by decide +kernel) (by decide +kernel)) hdg (by rw [cV_I (by decide +kernel)]; exact kk)
theorem gk2_43 (C : cY p R s m args meth c RX2 cc nL nF nC nS nR ret) (X : cX D s) (hW : cW D S H) (hk : kK S a = 3) (hdg : decode cc pc = .ok (.getfield 43, 3)) (kk : W p l e R s m args below meth c H locs cells slots Q (F0 m (pc + 3) ls (.int (kF S a 5) :: rest))) : W p l e R s m args below meth c H locs cells slots Q (F0 m pc ls (.ref a :: rest)) := c_get C X hW 2 (by decide) ly_2 hk 5 (by decide) (mt_at 1283 (by decide +kernel) (by decide +kernel)) hdg (by rw [cV_I (by decide +kernel)]; exact kk)
theorem gk2_47 (C : cY p R s m args meth c RX2 cc nL nF nC nS nR ret) (X : cX D s) (hW : cW D S H) (hk : kK S a = 3) (hdg : decode cc pc = .ok (.getfield 47, 3)) (kk : W p l e R s m args below meth c H locs cells slots Q (F0 m (pc + 3) ls (.int (kF S a 6) :: rest))) : W p l e R s m args below meth c H locs cells slots Q (F0 m pc ls (.ref a :: rest)) := c_get C X hW 2 (by decide) ly_2 hk 6 (by decide) (mt_at 1285 (by decide +kernel) (by decide +kernel)) hdg (by rw [cV_I (by decide +kernel)]; exact kk)
end
section
variable {p : Program} {l : Launch} {e : Env} {R : Room} {s : State} {m : MethodId} {args : Array Value} {below : List Frame} {meth : Method} {c : Code} {D : cG} {S0 S9 : cSt}
noncomputable def fk_2_write_123 : Nat → cSt → Nat → Int32 → Option (cSt)
  | 0, _, _, _ => none
  | n + 1, S, v0, v1 =>
    ckk S v0 3 (
    if (kF S v0 6) ≤ v1 then (
    ckk S v0 3 (bd (fk_2_checkOf S v0) fun r2 =>
    ckk S v0 3 (bd (fk_2_putByte S v0 (r2 >>> ((8 : Int32) &&& 31))) fun S3 =>
    ckk S3 v0 3 (bd (fk_2_putByte S3 v0 (r2 &&& (255 : Int32))) fun S4 =>
    ckk S4 v0 3 (bd (kR S4 v0 10) fun a5 =>
    bd (fk_107_fill_031fb S4 a5 (0 : Int32)) fun S6 =>
    some S6)))))
    else (
    ckk S v0 3 (bd (kR S v0 2) fun a7 =>
    ckk S a7 30 (ck v1 (kL S a7) (lt (kO S a7 (Int32.toNatClampNeg v1)) fun o8 =>
    bd o8 fun a9 =>
    ckk S v0 3 (bd (fk_2_putRow S v0 a9) fun S10 =>
    lt (v1 + (1 : Int32)) fun x11 =>
    fk_2_write_123 n S10 v0 x11))))))
set_option maxRecDepth 100000 in
set_option maxHeartbeats 4000000 in
theorem wk_2_write_123 (C : cY p R s m args meth c RX2 cX2_write 2 4 2 1120 89 none) (X : cX D s) : ∀ (n : Nat), ∀ {S : cSt} {v0 : Nat} {v1 : Int32} {H : Heap} {locs : List Loc} {ls : Array Slot}, fk_2_write_123 n S v0 v1 = some S9 → cJ D S0 s.heap S H locs → lv_has ls 2 [(0, .ref v0), (1, .int v1)] → W p l e R s m args below meth c H locs 2 1120 (MQ below (kW none D S0 S9) args s 2 1120 (cA S0)) (F0 m 123 ls []) := by
  intro n
  induction n with
  | zero =>
    intro S v0 v1 H locs ls h hJ hl
    exact absurd (show (none : Option (cSt)) = _ from h) (fun q => by cases q)
  | succ n ih =>
    intro S v0 v1 H locs ls h hJ hl
    rw [fk_2_write_123] at h
    refine lv_iload_n C.1 C.2.1 dX2_write_123 rfl (lv_at hl 1 rfl) ?_
    refine lv_aload_n C.1 C.2.1 dX2_write_124 rfl (lv_at hl 0 rfl) ?_
    obtain ⟨hk, h⟩ := ckk_ok h
    refine gk2_47 C X hJ.1 hk dX2_write_125 ?_
    refine lv_icmp_ge (tgt := 147) C.1 C.2.1 dX2_write_128 (by decide) (fun c1 => ?_) (fun c1 => ?_)
    · have h := if_t h c1
      refine lv_aload_n C.1 C.2.1 dX2_write_147 rfl (lv_at hl 0 rfl) ?_
      obtain ⟨hk, h⟩ := ckk_ok h
      obtain ⟨r2, h_r2, h⟩ := bd_ok h
      refine c_callR (rest := []) C X hJ.1 hl.1 2 (by decide) hk [] (tk_2_checkOf l h_r2) cw2_84 ki_2_checkOf kl_2_checkOf rfl ⟨by decide, by decide⟩ ⟨(by decide), (by decide)⟩ rfl (Nat.le_of_ble_eq_true rfl) dX2_write_148 ?_
      refine W.eq (g2 := F0 m 151 ls [.int r2]) rfl ?_
      refine lv_istore_n (lv' := [(1, .int r2), (0, .ref v0)]) C.1 C.2.1 dX2_write_151 rfl hl (by decide) rfl (fun ls hl => ?_)
      refine lv_aload_n C.1 C.2.1 dX2_write_152 rfl (lv_at hl 1 rfl) ?_
      refine lv_iload_n C.1 C.2.1 dX2_write_153 rfl (lv_at hl 0 rfl) ?_
      refine lv_bipush (v := 8) C.1 C.2.1 dX2_write_154 (by decide) ?_
      refine lv_ishr C.1 C.2.1 dX2_write_156 ?_
      obtain ⟨hk, h⟩ := ckk_ok h
      obtain ⟨S3, h_S3, h⟩ := bd_ok h
      refine c_callW (rest := []) C X hJ hl.1 2 (by decide) hk [.int (r2 >>> ((8 : Int32) &&& 31))] (tk_2_putByte l h_S3) cw2_69 ki_2_putByte kl_2_putByte rfl ⟨by decide, by decide⟩ ⟨(by decide), (by decide)⟩ rfl (Nat.le_of_ble_eq_true rfl) dX2_write_157 (fun H locs hJ => ?_)
      refine W.eq (g2 := F0 m 160 ls []) rfl ?_
      refine lv_aload_n C.1 C.2.1 dX2_write_160 rfl (lv_at hl 1 rfl) ?_
      refine lv_iload_n C.1 C.2.1 dX2_write_161 rfl (lv_at hl 0 rfl) ?_
      refine lv_sipush (v := 255) C.1 C.2.1 dX2_write_162 (by decide) ?_
      refine lv_iand C.1 C.2.1 dX2_write_165 ?_
      obtain ⟨hk, h⟩ := ckk_ok h
      obtain ⟨S4, h_S4, h⟩ := bd_ok h
      refine c_callW (rest := []) C X hJ hl.1 2 (by decide) hk [.int (r2 &&& (255 : Int32))] (tk_2_putByte l h_S4) cw2_69 ki_2_putByte kl_2_putByte rfl ⟨by decide, by decide⟩ ⟨(by decide), (by decide)⟩ rfl (Nat.le_of_ble_eq_true rfl) dX2_write_166 (fun H locs hJ => ?_)
      refine W.eq (g2 := F0 m 169 ls []) rfl ?_
      refine lv_aload_n C.1 C.2.1 dX2_write_169 rfl (lv_at hl 1 rfl) ?_
      obtain ⟨hk, h⟩ := ckk_ok h
      obtain ⟨a5, h_a5, h⟩ := bd_ok h
      refine gk2_28 C X hJ.1 hk h_a5 dX2_write_170 ?_
      refine lv_iconst (v := 0) C.1 C.2.1 dX2_write_173 (by decide) ?_
      obtain ⟨S6, h_S6, h⟩ := bd_ok h
      refine c_callSW (rest := []) C X hJ hl.1 [.ref a5, .int (0 : Int32)] (tk_107_fill_031fb l h_S6) cw2_88 ks_107_fill_031fb rfl ⟨by decide, by decide⟩ ⟨(by decide), (by decide)⟩ rfl (Nat.le_of_ble_eq_true rfl) dX2_write_174 (fun H locs hJ => ?_)
      refine W.eq (g2 := F0 m 177 ls []) rfl ?_
      cases h
      exact c_retvW C hJ dX2_write_177
    · have h := if_f h c1
      refine lv_aload_n C.1 C.2.1 dX2_write_131 rfl (lv_at hl 0 rfl) ?_
      refine lv_aload_n C.1 C.2.1 dX2_write_132 rfl (lv_at hl 0 rfl) ?_
      obtain ⟨hk, h⟩ := ckk_ok h
      obtain ⟨a7, h_a7, h⟩ := bd_ok h
      refine gk2_20 C X hJ.1 hk h_a7 dX2_write_133 ?_
      refine lv_iload_n C.1 C.2.1 dX2_write_136 rfl (lv_at hl 1 rfl) ?_
      obtain ⟨hk, h⟩ := ckk_ok h
      obtain ⟨hin2, h⟩ := ck_ok h
      refine c_aald C 30 (by decide) X.2.2.2.2.1 hJ.1 hk hin2 dX2_write_137 ?_
      refine lt_ok h (fun o8 e_o8 h => ?_)
      refine lv_nmq e_o8 ?_
      obtain ⟨a9, e_a9, h⟩ := bd_ok h
      revert h; subst e_a9; intro h
      obtain ⟨hk, h⟩ := ckk_ok h
      obtain ⟨S10, h_S10, h⟩ := bd_ok h
      refine c_callW (rest := []) C X hJ hl.1 2 (by decide) hk [.ref a9] (tk_2_putRow l h_S10) cw2_80 ki_2_putRow kl_2_putRow rfl ⟨by decide, by decide⟩ ⟨(by decide), (by decide)⟩ rfl (Nat.le_of_ble_eq_true rfl) dX2_write_138 (fun H locs hJ => ?_)
      refine W.eq (g2 := F0 m 141 ls []) rfl ?_
      refine lt_ok h (fun x11 e_x11 h => ?_)
      refine lv_iinc (v := x11) (lv' := [(1, .int x11), (0, .ref v0)]) C.1 C.2.1 dX2_write_141 hl (k := 1) rfl (by rw [← e_x11]; rfl) (by decide) rfl (fun ls hl => ?_)
      refine lv_goto (tgt := 123) C.1 C.2.1 dX2_write_144 (by decide) ?_
      exact ih h hJ (lv_sub hl [1, 0] rfl)
noncomputable def fk_2_write_104 (g_75 : cSt → Nat → Int32 → Option (cSt)) (S : cSt) (v0 : Nat) (v1 : Int32) (s0 : Nat) (s1 : Nat) (s2 : Int32) (s3 : Int32) : Option (cSt) :=
ckk S s0 3 (bd (fk_2_putNumbers S s0 s1 s2 s3) fun S1 =>
lt (v1 + (1 : Int32)) fun x2 =>
g_75 S1 v0 x2)
set_option maxRecDepth 100000 in
set_option maxHeartbeats 4000000 in
theorem wk_2_write_104 (C : cY p R s m args meth c RX2 cX2_write 2 4 2 1120 89 none) (X : cX D s) {g_75 : cSt → Nat → Int32 → Option (cSt)} (hg_75 : ∀ {S : cSt} {v0 : Nat} {v1 : Int32} {H : Heap} {locs : List Loc} {ls : Array Slot}, g_75 S v0 v1 = some S9 → cJ D S0 s.heap S H locs → lv_has ls 2 [(0, .ref v0), (1, .int v1)] → W p l e R s m args below meth c H locs 2 1120 (MQ below (kW none D S0 S9) args s 2 1120 (cA S0)) (F0 m 75 ls [])) : ∀ {S : cSt} {v0 : Nat} {v1 : Int32} {s0 : Nat} {s1 : Nat} {s2 : Int32} {s3 : Int32} {H : Heap} {locs : List Loc} {ls : Array Slot}, fk_2_write_104 g_75 S v0 v1 s0 s1 s2 s3 = some S9 → cJ D S0 s.heap S H locs → lv_has ls 2 [(0, .ref v0), (1, .int v1)] → W p l e R s m args below meth c H locs 2 1120 (MQ below (kW none D S0 S9) args s 2 1120 (cA S0)) (F0 m 104 ls [.int s3, .int s2, .ref s1, .ref s0]) := by
  intro S v0 v1 s0 s1 s2 s3 H locs ls h hJ hl
  unfold fk_2_write_104 at h
  obtain ⟨hk, h⟩ := ckk_ok h
  obtain ⟨S1, h_S1, h⟩ := bd_ok h
  refine c_callW (rest := []) C X hJ hl.1 2 (by decide) hk [.ref s1, .int s2, .int s3] (tk_2_putNumbers l h_S1) cw2_73 ki_2_putNumbers kl_2_putNumbers rfl ⟨by decide, by decide⟩ ⟨(by decide), (by decide)⟩ rfl (Nat.le_of_ble_eq_true rfl) dX2_write_104 (fun H locs hJ => ?_)
  refine W.eq (g2 := F0 m 107 ls []) rfl ?_
  refine lt_ok h (fun x2 e_x2 h => ?_)
  refine lv_iinc (v := x2) (lv' := [(1, .int x2), (0, .ref v0)]) C.1 C.2.1 dX2_write_107 hl (k := 1) rfl (by rw [← e_x2]; rfl) (by decide) rfl (fun ls hl => ?_)
  refine lv_goto (tgt := 75) C.1 C.2.1 dX2_write_110 (by decide) ?_
  exact hg_75 h hJ (lv_sub hl [1, 0] rfl)
noncomputable def fk_2_write_75 : Nat → cSt → Nat → Int32 → Option (cSt)
  | 0, _, _, _ => none
  | n + 1, S, v0, v1 =>
    if (4 : Int32) ≤ v1 then (
    ckk S v0 3 (
    ckk S v0 3 (bd (fk_2_putNumber S v0 (kF S v0 6)) fun S2 =>
    fk_2_write_123 mFU S2 v0 (0 : Int32))))
    else (
    ckk S v0 3 (bd (kR S v0 1) fun a3 =>
    ckk S v0 3 (bd (kR S v0 1) fun a4 =>
    ckk S a4 20 (ck ((4 : Int32) * v1) (kL S a4) (
    if (kI S a4 (Int32.toNatClampNeg ((4 : Int32) * v1))) = 0 then (
    fk_2_write_104 (fk_2_write_75 n) S v0 v1 v0 a3 ((4 : Int32) * v1) (1 : Int32))
    else (
    fk_2_write_104 (fk_2_write_75 n) S v0 v1 v0 a3 ((4 : Int32) * v1) (4 : Int32)))))))
set_option maxRecDepth 100000 in
set_option maxHeartbeats 4000000 in
theorem wk_2_write_75 (C : cY p R s m args meth c RX2 cX2_write 2 4 2 1120 89 none) (X : cX D s) : ∀ (n : Nat), ∀ {S : cSt} {v0 : Nat} {v1 : Int32} {H : Heap} {locs : List Loc} {ls : Array Slot}, fk_2_write_75 n S v0 v1 = some S9 → cJ D S0 s.heap S H locs → lv_has ls 2 [(0, .ref v0), (1, .int v1)] → W p l e R s m args below meth c H locs 2 1120 (MQ below (kW none D S0 S9) args s 2 1120 (cA S0)) (F0 m 75 ls []) := by
  intro n
  induction n with
  | zero =>
    intro S v0 v1 H locs ls h hJ hl
    exact absurd (show (none : Option (cSt)) = _ from h) (fun q => by cases q)
  | succ n ih =>
    intro S v0 v1 H locs ls h hJ hl
    rw [fk_2_write_75] at h
    refine lv_iload_n C.1 C.2.1 dX2_write_75 rfl (lv_at hl 1 rfl) ?_
    refine lv_iconst (v := 4) C.1 C.2.1 dX2_write_76 (by decide) ?_
    refine lv_icmp_ge (tgt := 113) C.1 C.2.1 dX2_write_77 (by decide) (fun c1 => ?_) (fun c1 => ?_)
    · have h := if_t h c1
      refine lv_aload_n C.1 C.2.1 dX2_write_113 rfl (lv_at hl 0 rfl) ?_
      refine lv_aload_n C.1 C.2.1 dX2_write_114 rfl (lv_at hl 0 rfl) ?_
      obtain ⟨hk, h⟩ := ckk_ok h
      refine gk2_47 C X hJ.1 hk dX2_write_115 ?_
      obtain ⟨hk, h⟩ := ckk_ok h
      obtain ⟨S2, h_S2, h⟩ := bd_ok h
      refine c_callW (rest := []) C X hJ hl.1 2 (by decide) hk [.int (kF S v0 6)] (tk_2_putNumber l h_S2) cw2_77 ki_2_putNumber kl_2_putNumber rfl ⟨by decide, by decide⟩ ⟨(by decide), (by decide)⟩ rfl (Nat.le_of_ble_eq_true rfl) dX2_write_118 (fun H locs hJ => ?_)
      refine W.eq (g2 := F0 m 121 ls []) rfl ?_
      refine lv_iconst (v := 0) C.1 C.2.1 dX2_write_121 (by decide) ?_
      refine lv_istore_n (lv' := [(1, .int (0 : Int32)), (0, .ref v0)]) C.1 C.2.1 dX2_write_122 rfl hl (by decide) rfl (fun ls hl => ?_)
      exact wk_2_write_123 C X mFU h hJ (lv_sub hl [1, 0] rfl)
    · have h := if_f h c1
      refine lv_aload_n C.1 C.2.1 dX2_write_80 rfl (lv_at hl 0 rfl) ?_
      refine lv_aload_n C.1 C.2.1 dX2_write_81 rfl (lv_at hl 0 rfl) ?_
      obtain ⟨hk, h⟩ := ckk_ok h
      obtain ⟨a3, h_a3, h⟩ := bd_ok h
      refine gk2_15 C X hJ.1 hk h_a3 dX2_write_82 ?_
      refine lv_iconst (v := 4) C.1 C.2.1 dX2_write_85 (by decide) ?_
      refine lv_iload_n C.1 C.2.1 dX2_write_86 rfl (lv_at hl 1 rfl) ?_
      refine lv_imul C.1 C.2.1 dX2_write_87 ?_
      refine lv_aload_n C.1 C.2.1 dX2_write_88 rfl (lv_at hl 0 rfl) ?_
      obtain ⟨hk, h⟩ := ckk_ok h
      obtain ⟨a4, h_a4, h⟩ := bd_ok h
      refine gk2_15 C X hJ.1 hk h_a4 dX2_write_89 ?_
      refine lv_iconst (v := 4) C.1 C.2.1 dX2_write_92 (by decide) ?_
      refine lv_iload_n C.1 C.2.1 dX2_write_93 rfl (lv_at hl 1 rfl) ?_
      refine lv_imul C.1 C.2.1 dX2_write_94 ?_
      obtain ⟨hk, h⟩ := ckk_ok h
      obtain ⟨hin2, h⟩ := ck_ok h
      refine c_iald C X hJ.1 hk hin2 dX2_write_95 ?_
      refine lv_if_ne (tgt := 103) C.1 C.2.1 dX2_write_96 (by decide) (fun c5 => ?_) (fun c5 => ?_)
      · have h := if_f h c5
        refine lv_iconst (v := 4) C.1 C.2.1 dX2_write_103 (by decide) ?_
        exact wk_2_write_104 C X ih h hJ (lv_sub hl [0, 1] rfl)
      · have h := if_t h c5
        refine lv_iconst (v := 1) C.1 C.2.1 dX2_write_99 (by decide) ?_
        refine lv_goto (tgt := 104) C.1 C.2.1 dX2_write_100 (by decide) ?_
        exact wk_2_write_104 C X ih h hJ (lv_sub hl [0, 1] rfl)
noncomputable def fk_2_write_59 (S : cSt) (v0 : Nat) (s0 : Nat) (s1 : Int32) (s2 : Int32) : Option (cSt) :=
ckk S s0 3 (bd (fk_2_putByte S s0 (s1 + s2)) fun S1 =>
ckk S1 v0 3 (bd (kR S1 v0 0) fun a2 =>
ckk S1 v0 3 (bd (fk_2_putNumbers S1 v0 a2 (0 : Int32) (4 : Int32)) fun S3 =>
fk_2_write_75 mFU S3 v0 (0 : Int32))))
set_option maxRecDepth 100000 in
set_option maxHeartbeats 4000000 in
theorem wk_2_write_59 (C : cY p R s m args meth c RX2 cX2_write 2 4 2 1120 89 none) (X : cX D s) : ∀ {S : cSt} {v0 : Nat} {s0 : Nat} {s1 : Int32} {s2 : Int32} {H : Heap} {locs : List Loc} {ls : Array Slot}, fk_2_write_59 S v0 s0 s1 s2 = some S9 → cJ D S0 s.heap S H locs → lv_has ls 2 [(0, .ref v0)] → W p l e R s m args below meth c H locs 2 1120 (MQ below (kW none D S0 S9) args s 2 1120 (cA S0)) (F0 m 59 ls [.int s2, .int s1, .ref s0]) := by
  intro S v0 s0 s1 s2 H locs ls h hJ hl
  unfold fk_2_write_59 at h
  refine lv_iadd C.1 C.2.1 dX2_write_59 ?_
  obtain ⟨hk, h⟩ := ckk_ok h
  obtain ⟨S1, h_S1, h⟩ := bd_ok h
  refine c_callW (rest := []) C X hJ hl.1 2 (by decide) hk [.int (s1 + s2)] (tk_2_putByte l h_S1) cw2_69 ki_2_putByte kl_2_putByte rfl ⟨by decide, by decide⟩ ⟨(by decide), (by decide)⟩ rfl (Nat.le_of_ble_eq_true rfl) dX2_write_60 (fun H locs hJ => ?_)
  refine W.eq (g2 := F0 m 63 ls []) rfl ?_
  refine lv_aload_n C.1 C.2.1 dX2_write_63 rfl (lv_at hl 0 rfl) ?_
  refine lv_aload_n C.1 C.2.1 dX2_write_64 rfl (lv_at hl 0 rfl) ?_
  obtain ⟨hk, h⟩ := ckk_ok h
  obtain ⟨a2, h_a2, h⟩ := bd_ok h
  refine gk2_9 C X hJ.1 hk h_a2 dX2_write_65 ?_
  refine lv_iconst (v := 0) C.1 C.2.1 dX2_write_68 (by decide) ?_
  refine lv_iconst (v := 4) C.1 C.2.1 dX2_write_69 (by decide) ?_
  obtain ⟨hk, h⟩ := ckk_ok h
  obtain ⟨S3, h_S3, h⟩ := bd_ok h
  refine c_callW (rest := []) C X hJ hl.1 2 (by decide) hk [.ref a2, .int (0 : Int32), .int (4 : Int32)] (tk_2_putNumbers l h_S3) cw2_73 ki_2_putNumbers kl_2_putNumbers rfl ⟨by decide, by decide⟩ ⟨(by decide), (by decide)⟩ rfl (Nat.le_of_ble_eq_true rfl) dX2_write_70 (fun H locs hJ => ?_)
  refine W.eq (g2 := F0 m 73 ls []) rfl ?_
  refine lv_iconst (v := 0) C.1 C.2.1 dX2_write_73 (by decide) ?_
  refine lv_istore_n (lv' := [(1, .int (0 : Int32)), (0, .ref v0)]) C.1 C.2.1 dX2_write_74 rfl hl (by decide) rfl (fun ls hl => ?_)
  exact wk_2_write_75 C X mFU h hJ (lv_sub hl [1, 0] rfl)
noncomputable def fk_2_write_34 (S : cSt) (v0 : Nat) : Option (cSt) :=
ckk S v0 3 (
ckk S v0 3 (
ckk S v0 3 (
if (kF S v0 5) = 0 then (
fk_2_write_59 S v0 v0 ((kF S v0 3) + ((4 : Int32) * (kF S v0 4))) (0 : Int32))
else (
fk_2_write_59 S v0 v0 ((kF S v0 3) + ((4 : Int32) * (kF S v0 4))) (16 : Int32)))))
set_option maxRecDepth 100000 in
set_option maxHeartbeats 4000000 in
theorem wk_2_write_34 (C : cY p R s m args meth c RX2 cX2_write 2 4 2 1120 89 none) (X : cX D s) : ∀ {S : cSt} {v0 : Nat} {H : Heap} {locs : List Loc} {ls : Array Slot}, fk_2_write_34 S v0 = some S9 → cJ D S0 s.heap S H locs → lv_has ls 2 [(0, .ref v0)] → W p l e R s m args below meth c H locs 2 1120 (MQ below (kW none D S0 S9) args s 2 1120 (cA S0)) (F0 m 34 ls []) := by
  intro S v0 H locs ls h hJ hl
  unfold fk_2_write_34 at h
  refine lv_aload_n C.1 C.2.1 dX2_write_34 rfl (lv_at hl 0 rfl) ?_
  refine lv_aload_n C.1 C.2.1 dX2_write_35 rfl (lv_at hl 0 rfl) ?_
  obtain ⟨hk, h⟩ := ckk_ok h
  refine gk2_37 C X hJ.1 hk dX2_write_36 ?_
  refine lv_iconst (v := 4) C.1 C.2.1 dX2_write_39 (by decide) ?_
  refine lv_aload_n C.1 C.2.1 dX2_write_40 rfl (lv_at hl 0 rfl) ?_
  obtain ⟨hk, h⟩ := ckk_ok h
  refine gk2_40 C X hJ.1 hk dX2_write_41 ?_
  refine lv_imul C.1 C.2.1 dX2_write_44 ?_
  refine lv_iadd C.1 C.2.1 dX2_write_45 ?_
  refine lv_aload_n C.1 C.2.1 dX2_write_46 rfl (lv_at hl 0 rfl) ?_
  obtain ⟨hk, h⟩ := ckk_ok h
  refine gk2_43 C X hJ.1 hk dX2_write_47 ?_
  refine lv_if_eq (tgt := 58) C.1 C.2.1 dX2_write_50 (by decide) (fun c1 => ?_) (fun c1 => ?_)
  · have h := if_t h c1
    refine lv_iconst (v := 0) C.1 C.2.1 dX2_write_58 (by decide) ?_
    exact wk_2_write_59 C X h hJ (lv_sub hl [0] rfl)
  · have h := if_f h c1
    refine lv_bipush (v := 16) C.1 C.2.1 dX2_write_53 (by decide) ?_
    refine lv_goto (tgt := 59) C.1 C.2.1 dX2_write_55 (by decide) ?_
    exact wk_2_write_59 C X h hJ (lv_sub hl [0] rfl)
noncomputable def fk_2_write (S : cSt) (v0 : Nat) : Option (cSt) :=
ckk S v0 3 (
if (kF S v0 7) ≤ 0 then (
ckk S v0 3 (bd (kR S v0 9) fun a2 =>
ckk S a2 21 (
if (Int32.ofNat (kL S a2)) = 0 then (
lt (kZ S) fun a5 => lt (cNw S 21 560) fun S4 =>
ckk S4 v0 3 (lt (cPr S4 v0 9 (some a5)) fun S6 =>
lt (kZ S6) fun a8 => lt (cNw S6 21 560) fun S7 =>
ckk S7 v0 3 (lt (cPr S7 v0 10 (some a8)) fun S10 =>
fk_2_write_34 S10 v0)))
else (
fk_2_write_34 S v0))))
else (
some S))
set_option maxRecDepth 100000 in
set_option maxHeartbeats 4000000 in
theorem tk_2_write (l : Launch) {D : cG} {S : cSt} {v0 : Nat} {S9 : cSt} (h : fk_2_write S v0 = some S9) : Met l yX2_write (Cond.code yX2_write cX2_write 2 none :: lw_g) { frames := 4, cells := 2, slots := 1120, locals := 89 } (kPi [.ref v0] D S) (kW none D S S9) 2 1120 (cA S) := by
  refine Met.ofW (cc := cX2_write) (maxL := 2) (ret := none) (by decide) rfl ?_
  intro p e s m args below meth c s₁ B hml hv
  obtain ⟨rfl, hW, X⟩ := hv
  have C : cY p (headSpec (Cond.code yX2_write cX2_write 2 none :: lw_g) { frames := 4, cells := 2, slots := 1120, locals := 89 }).room s m _ meth c RX2 cX2_write 2 4 2 1120 89 none := ⟨B.exec, B.bytes, hml, findClass_of_methodNamed B.named, fun w hw => atoms_spec (ws := Cond.code yX2_write cX2_write 2 none :: lw_g) B.pre w (List.mem_cons_of_mem _ hw), ⟨Nat.le_refl _, Nat.le_refl _, Nat.le_refl _, Nat.le_refl _⟩, B.returns, B.notSynchronized⟩
  have hl := lv_entry ([.ref v0]) (n := 2) (Nat.le_of_ble_eq_true rfl)
  rw [lg_entry_eq]
  generalize (lg_sl ([.ref v0]) ++ List.replicate (2 - (lg_sl ([.ref v0])).length) Slot.unset).toArray = ls at hl ⊢
  have hl : lv_has ls 2 [(0, .ref v0)] := hl
  have hJ : cJ D S s.heap S s.heap [] := cJ.rf hW
  unfold fk_2_write at h
  refine lv_aload_n C.1 C.2.1 dX2_write_0 rfl (lv_at hl 0 rfl) ?_
  obtain ⟨hk, h⟩ := ckk_ok h
  refine gk2_50 C X hJ.1 hk dX2_write_1 ?_
  refine lv_if_le (tgt := 8) C.1 C.2.1 dX2_write_4 (by decide) (fun c1 => ?_) (fun c1 => ?_)
  · have h := if_t h c1
    refine lv_aload_n C.1 C.2.1 dX2_write_8 rfl (lv_at hl 0 rfl) ?_
    obtain ⟨hk, h⟩ := ckk_ok h
    obtain ⟨a2, h_a2, h⟩ := bd_ok h
    refine gk2_24 C X hJ.1 hk h_a2 dX2_write_9 ?_
    obtain ⟨hk, h⟩ := ckk_ok h
    refine c_leni C 21 (by decide) (by decide) X.2.2.1 hJ.1 hk dX2_write_12 ?_
    refine lv_if_ne (tgt := 34) C.1 C.2.1 dX2_write_13 (by decide) (fun c3 => ?_) (fun c3 => ?_)
    · have h := if_f h c3
      refine W.widen (k := 2) (n := 1120) (by decide) (by decide) ?_
      exact wk_2_write_34 C X h hJ (lv_sub hl [0] rfl)
    · have h := if_t h c3
      refine lv_aload_n C.1 C.2.1 dX2_write_16 rfl (lv_at hl 0 rfl) ?_
      refine lv_sipush (v := 560) C.1 C.2.1 dX2_write_17 (by decide) ?_
      refine c_newa (N := 560) C hJ 21 (by decide) (by decide) X.2.2.1 rfl id rfl ar_21 (by decide) (by decide) (by decide) (by decide) (by decide) dX2_write_20 (fun H hJ => ?_)
      refine lt_ok h (fun a5 e_a5 h => ?_)
      refine lt_ok h (fun S4 e_S4 h => ?_)
      rw [e_S4] at hJ
      rw [e_a5]
      obtain ⟨hk, h⟩ := ckk_ok h
      refine pk2_24 (o := (some a5)) C X hJ hk dX2_write_22 (fun H locs hJ => ?_)
      refine lt_ok h (fun S6 e_S6 h => ?_)
      rw [e_S6] at hJ
      refine lv_aload_n C.1 C.2.1 dX2_write_25 rfl (lv_at hl 0 rfl) ?_
      refine lv_sipush (v := 560) C.1 C.2.1 dX2_write_26 (by decide) ?_
      refine c_newa (N := 560) C hJ 21 (by decide) (by decide) X.2.2.1 rfl id rfl ar_21 (by decide) (by decide) (by decide) (by decide) (by decide) dX2_write_29 (fun H hJ => ?_)
      refine lt_ok h (fun a8 e_a8 h => ?_)
      refine lt_ok h (fun S7 e_S7 h => ?_)
      rw [e_S7] at hJ
      rw [e_a8]
      obtain ⟨hk, h⟩ := ckk_ok h
      refine pk2_28 (o := (some a8)) C X hJ hk dX2_write_31 (fun H locs hJ => ?_)
      refine lt_ok h (fun S10 e_S10 h => ?_)
      rw [e_S10] at hJ
      exact wk_2_write_34 C X h hJ (lv_sub hl [0] rfl)
  · have h := if_f h c1
    cases h
    refine W.widen (k := 2) (n := 1120) (by decide) (by decide) ?_
    exact c_retvW C hJ dX2_write_7
end
theorem dX2_copyFrom_0 : decode cX2_copyFrom 0 = .ok (.aload_n 0, 1) := by decide +kernel
theorem dX2_copyFrom_1 : decode cX2_copyFrom 1 = .ok (.aload_n 1, 1) := by decide +kernel
theorem dX2_copyFrom_2 : decode cX2_copyFrom 2 = .ok (.getfield 37, 3) := by decide +kernel
theorem dX2_copyFrom_5 : decode cX2_copyFrom 5 = .ok (.putfield 37, 3) := by decide +kernel
theorem dX2_copyFrom_8 : decode cX2_copyFrom 8 = .ok (.aload_n 0, 1) := by decide +kernel
theorem dX2_copyFrom_9 : decode cX2_copyFrom 9 = .ok (.aload_n 1, 1) := by decide +kernel
theorem dX2_copyFrom_10 : decode cX2_copyFrom 10 = .ok (.getfield 40, 3) := by decide +kernel
theorem dX2_copyFrom_13 : decode cX2_copyFrom 13 = .ok (.putfield 40, 3) := by decide +kernel
theorem dX2_copyFrom_16 : decode cX2_copyFrom 16 = .ok (.aload_n 0, 1) := by decide +kernel
theorem dX2_copyFrom_17 : decode cX2_copyFrom 17 = .ok (.aload_n 1, 1) := by decide +kernel
theorem dX2_copyFrom_18 : decode cX2_copyFrom 18 = .ok (.getfield 43, 3) := by decide +kernel
theorem dX2_copyFrom_21 : decode cX2_copyFrom 21 = .ok (.putfield 43, 3) := by decide +kernel
theorem dX2_copyFrom_24 : decode cX2_copyFrom 24 = .ok (.aload_n 0, 1) := by decide +kernel
theorem dX2_copyFrom_25 : decode cX2_copyFrom 25 = .ok (.aload_n 1, 1) := by decide +kernel
theorem dX2_copyFrom_26 : decode cX2_copyFrom 26 = .ok (.getfield 47, 3) := by decide +kernel
theorem dX2_copyFrom_29 : decode cX2_copyFrom 29 = .ok (.putfield 47, 3) := by decide +kernel
theorem dX2_copyFrom_32 : decode cX2_copyFrom 32 = .ok (.aload_n 0, 1) := by decide +kernel
theorem dX2_copyFrom_33 : decode cX2_copyFrom 33 = .ok (.iconst 0, 1) := by decide +kernel
theorem dX2_copyFrom_34 : decode cX2_copyFrom 34 = .ok (.putfield 50, 3) := by decide +kernel
theorem dX2_copyFrom_37 : decode cX2_copyFrom 37 = .ok (.aload_n 0, 1) := by decide +kernel
theorem dX2_copyFrom_38 : decode cX2_copyFrom 38 = .ok (.iconst 0, 1) := by decide +kernel
theorem dX2_copyFrom_39 : decode cX2_copyFrom 39 = .ok (.putfield 53, 3) := by decide +kernel
theorem dX2_copyFrom_42 : decode cX2_copyFrom 42 = .ok (.aload_n 1, 1) := by decide +kernel
theorem dX2_copyFrom_43 : decode cX2_copyFrom 43 = .ok (.getfield 9, 3) := by decide +kernel
theorem dX2_copyFrom_46 : decode cX2_copyFrom 46 = .ok (.iconst 0, 1) := by decide +kernel
theorem dX2_copyFrom_47 : decode cX2_copyFrom 47 = .ok (.aload_n 0, 1) := by decide +kernel
theorem dX2_copyFrom_48 : decode cX2_copyFrom 48 = .ok (.getfield 9, 3) := by decide +kernel
theorem dX2_copyFrom_51 : decode cX2_copyFrom 51 = .ok (.iconst 0, 1) := by decide +kernel
theorem dX2_copyFrom_52 : decode cX2_copyFrom 52 = .ok (.iconst 4, 1) := by decide +kernel
theorem dX2_copyFrom_53 : decode cX2_copyFrom 53 = .ok (.invokestatic 59, 3) := by decide +kernel
theorem dX2_copyFrom_56 : decode cX2_copyFrom 56 = .ok (.aload_n 1, 1) := by decide +kernel
theorem dX2_copyFrom_57 : decode cX2_copyFrom 57 = .ok (.getfield 15, 3) := by decide +kernel
theorem dX2_copyFrom_60 : decode cX2_copyFrom 60 = .ok (.iconst 0, 1) := by decide +kernel
theorem dX2_copyFrom_61 : decode cX2_copyFrom 61 = .ok (.aload_n 0, 1) := by decide +kernel
theorem dX2_copyFrom_62 : decode cX2_copyFrom 62 = .ok (.getfield 15, 3) := by decide +kernel
theorem dX2_copyFrom_65 : decode cX2_copyFrom 65 = .ok (.iconst 0, 1) := by decide +kernel
theorem dX2_copyFrom_66 : decode cX2_copyFrom 66 = .ok (.bipush 16, 2) := by decide +kernel
theorem dX2_copyFrom_68 : decode cX2_copyFrom 68 = .ok (.invokestatic 59, 3) := by decide +kernel
theorem dX2_copyFrom_71 : decode cX2_copyFrom 71 = .ok (.iconst 0, 1) := by decide +kernel
theorem dX2_copyFrom_72 : decode cX2_copyFrom 72 = .ok (.istore_n 2, 1) := by decide +kernel
theorem dX2_copyFrom_73 : decode cX2_copyFrom 73 = .ok (.iload_n 2, 1) := by decide +kernel
theorem dX2_copyFrom_74 : decode cX2_copyFrom 74 = .ok (.aload_n 0, 1) := by decide +kernel
theorem dX2_copyFrom_75 : decode cX2_copyFrom 75 = .ok (.getfield 47, 3) := by decide +kernel
theorem dX2_copyFrom_78 : decode cX2_copyFrom 78 = .ok (.if_icmp .ge 21, 3) := by decide +kernel
theorem dX2_copyFrom_81 : decode cX2_copyFrom 81 = .ok (.aload_n 0, 1) := by decide +kernel
theorem dX2_copyFrom_82 : decode cX2_copyFrom 82 = .ok (.getfield 20, 3) := by decide +kernel
theorem dX2_copyFrom_85 : decode cX2_copyFrom 85 = .ok (.iload_n 2, 1) := by decide +kernel
theorem dX2_copyFrom_86 : decode cX2_copyFrom 86 = .ok (.aload_n 1, 1) := by decide +kernel
theorem dX2_copyFrom_87 : decode cX2_copyFrom 87 = .ok (.getfield 20, 3) := by decide +kernel
theorem dX2_copyFrom_90 : decode cX2_copyFrom 90 = .ok (.iload_n 2, 1) := by decide +kernel
theorem dX2_copyFrom_91 : decode cX2_copyFrom 91 = .ok (.aaload, 1) := by decide +kernel
theorem dX2_copyFrom_92 : decode cX2_copyFrom 92 = .ok (.aastore, 1) := by decide +kernel
theorem dX2_copyFrom_93 : decode cX2_copyFrom 93 = .ok (.iinc 2 1, 3) := by decide +kernel
theorem dX2_copyFrom_96 : decode cX2_copyFrom 96 = .ok (.goto (-23), 3) := by decide +kernel
theorem dX2_copyFrom_99 : decode cX2_copyFrom 99 = .ok (.aload_n 1, 1) := by decide +kernel
theorem dX2_copyFrom_100 : decode cX2_copyFrom 100 = .ok (.getfield 53, 3) := by decide +kernel
theorem dX2_copyFrom_103 : decode cX2_copyFrom 103 = .ok (.ifCond .le 32, 3) := by decide +kernel
theorem dX2_copyFrom_106 : decode cX2_copyFrom 106 = .ok (.aload_n 0, 1) := by decide +kernel
theorem dX2_copyFrom_107 : decode cX2_copyFrom 107 = .ok (.invokevirtual 66, 3) := by decide +kernel
theorem dX2_copyFrom_110 : decode cX2_copyFrom 110 = .ok (.aload_n 1, 1) := by decide +kernel
theorem dX2_copyFrom_111 : decode cX2_copyFrom 111 = .ok (.getfield 28, 3) := by decide +kernel
theorem dX2_copyFrom_114 : decode cX2_copyFrom 114 = .ok (.iconst 0, 1) := by decide +kernel
theorem dX2_copyFrom_115 : decode cX2_copyFrom 115 = .ok (.aload_n 0, 1) := by decide +kernel
theorem dX2_copyFrom_116 : decode cX2_copyFrom 116 = .ok (.getfield 28, 3) := by decide +kernel
theorem dX2_copyFrom_119 : decode cX2_copyFrom 119 = .ok (.iconst 0, 1) := by decide +kernel
theorem dX2_copyFrom_120 : decode cX2_copyFrom 120 = .ok (.aload_n 0, 1) := by decide +kernel
theorem dX2_copyFrom_121 : decode cX2_copyFrom 121 = .ok (.getfield 50, 3) := by decide +kernel
theorem dX2_copyFrom_124 : decode cX2_copyFrom 124 = .ok (.invokestatic 59, 3) := by decide +kernel
theorem dX2_copyFrom_127 : decode cX2_copyFrom 127 = .ok (.aload_n 0, 1) := by decide +kernel
theorem dX2_copyFrom_128 : decode cX2_copyFrom 128 = .ok (.aload_n 1, 1) := by decide +kernel
theorem dX2_copyFrom_129 : decode cX2_copyFrom 129 = .ok (.getfield 53, 3) := by decide +kernel
theorem dX2_copyFrom_132 : decode cX2_copyFrom 132 = .ok (.putfield 53, 3) := by decide +kernel
theorem dX2_copyFrom_135 : decode cX2_copyFrom 135 = .ok (.return_, 1) := by decide +kernel
theorem kd_2_copyFrom : Cond.code yX2_copyFrom cX2_copyFrom 3 none ∈ lw_g := mt_at 1381 (by decide +kernel) rfl
theorem ki_2_copyFrom : Cond.instanceMethod yX2_copyFrom ∈ lw_g := mt_at 1379 (by decide +kernel) rfl
theorem kl_2_copyFrom : Cond.selects (kRn 2) yX2_copyFrom yX2_copyFrom ∈ lw_g := mt_at 1380 (by decide +kernel) rfl
theorem cw2_66 : cCw RX2 66 yX2_write cX2_write 2 none 0 := ⟨kd_2_write, mt_at 1382 (by decide +kernel) rfl, mt_at 30 (by decide +kernel) rfl, by decide +kernel⟩
section
variable {p : Program} {l : Launch} {e : Env} {R : Room} {s : State} {m : MethodId} {args : Array Value} {below : List Frame} {meth : Method} {c : Code} {H : Heap} {locs : List Loc} {cells slots : Nat} {Q : State → Prop}
variable {D : cG} {S S0 : cSt} {cc : ByteArray} {nL : Nat} {pc : Nat} {ls : Array Slot} {rest : List Value} {H0 : Heap} {nF nR nC nS : Nat} {ret : Option FieldType} {a : Nat}
theorem gk2_53 (C : cY p R s m args meth c RX2 cc nL nF nC nS nR ret) (X : cX D s) (hW : cW D S H) (hk : kK S a = 3) (hdg : decode cc pc = .ok (.getfield 53, 3)) (kk : W p l e R s m args below meth c H locs cells slots Q (F0 m (pc + 3) ls (.int (kF S a 8) :: rest))) : W p l e R s m args below meth c H locs cells slots Q (F0 m pc ls (.ref a :: rest)) := c_get C X hW 2 (by decide) ly_2 hk 8 (by decide) (mt_at 1290 (by decide +kernel) (by decide +kernel)) hdg (by rw [cV_I (by decide +kernel)]; exact kk)
end
section
variable {p : Program} {l : Launch} {e : Env} {R : Room} {s : State} {m : MethodId} {args : Array Value} {below : List Frame} {meth : Method} {c : Code} {D : cG} {S0 S9 : cSt}
noncomputable def fk_2_copyFrom_135 (S : cSt) : Option (cSt) :=
some S
set_option maxRecDepth 100000 in
set_option maxHeartbeats 4000000 in
theorem wk_2_copyFrom_135 (C : cY p R s m args meth c RX2 cX2_copyFrom 3 5 2 1120 110 none) (X : cX D s) : ∀ {S : cSt} {H : Heap} {locs : List Loc} {ls : Array Slot}, fk_2_copyFrom_135 S = some S9 → cJ D S0 s.heap S H locs → lv_has ls 3 [] → W p l e R s m args below meth c H locs 2 1120 (MQ below (kW none D S0 S9) args s 2 1120 (cA S0)) (F0 m 135 ls []) := by
  intro S H locs ls h hJ hl
  unfold fk_2_copyFrom_135 at h
  cases h
  exact c_retvW C hJ dX2_copyFrom_135
noncomputable def fk_2_copyFrom_73 : Nat → cSt → Nat → Nat → Int32 → Option (cSt)
  | 0, _, _, _, _ => none
  | n + 1, S, v0, v1, v2 =>
    ckk S v0 3 (
    if (kF S v0 6) ≤ v2 then (
    ckk S v1 3 (
    if (kF S v1 8) ≤ 0 then (
    fk_2_copyFrom_135 S)
    else (
    ckk S v0 3 (bd (fk_2_write S v0) fun S3 =>
    ckk S3 v1 3 (bd (kR S3 v1 10) fun a4 =>
    ckk S3 v0 3 (bd (kR S3 v0 10) fun a5 =>
    ckk S3 v0 3 (
    ckk S3 a4 21 (ckk S3 a5 21 (ckp ((¬ (0 : Int32) < 0 ∧ ¬ (0 : Int32) < 0 ∧ ¬ (kF S3 v0 7) < 0) ∧ (Int32.toNatClampNeg (0 : Int32)) + (Int32.toNatClampNeg (kF S3 v0 7)) ≤ kL S3 a4 ∧ (Int32.toNatClampNeg (0 : Int32)) + (Int32.toNatClampNeg (kF S3 v0 7)) ≤ kL S3 a5) (ckp (∀ i, i < (Int32.toNatClampNeg (kF S3 v0 7)) → fits .byte (.int (kI S3 a4 ((Int32.toNatClampNeg (0 : Int32)) + i))) = true) (lt (cCp S3 a4 (Int32.toNatClampNeg (0 : Int32)) a5 (Int32.toNatClampNeg (0 : Int32)) (Int32.toNatClampNeg (kF S3 v0 7))) fun S6 =>
    ckk S6 v1 3 (
    ckk S6 v0 3 (lt (cPi S6 v0 8 (kF S6 v1 8)) fun S7 =>
    fk_2_copyFrom_135 S7)))))))))))))
    else (
    ckk S v0 3 (bd (kR S v0 2) fun a8 =>
    ckk S v1 3 (bd (kR S v1 2) fun a9 =>
    ckk S a9 30 (ck v2 (kL S a9) (lt (kO S a9 (Int32.toNatClampNeg v2)) fun o10 =>
    ckk S a8 30 (ck v2 (kL S a8) (ckq S o10 9 (lt (cWo S a8 (Int32.toNatClampNeg v2) o10) fun S11 =>
    lt (v2 + (1 : Int32)) fun x12 =>
    fk_2_copyFrom_73 n S11 v0 v1 x12)))))))))
set_option maxRecDepth 100000 in
set_option maxHeartbeats 4000000 in
theorem wk_2_copyFrom_73 (C : cY p R s m args meth c RX2 cX2_copyFrom 3 5 2 1120 110 none) (X : cX D s) : ∀ (n : Nat), ∀ {S : cSt} {v0 : Nat} {v1 : Nat} {v2 : Int32} {H : Heap} {locs : List Loc} {ls : Array Slot}, fk_2_copyFrom_73 n S v0 v1 v2 = some S9 → cJ D S0 s.heap S H locs → lv_has ls 3 [(0, .ref v0), (1, .ref v1), (2, .int v2)] → W p l e R s m args below meth c H locs 0 0 (MQ below (kW none D S0 S9) args s 2 1120 (cA S0)) (F0 m 73 ls []) := by
  intro n
  induction n with
  | zero =>
    intro S v0 v1 v2 H locs ls h hJ hl
    exact absurd (show (none : Option (cSt)) = _ from h) (fun q => by cases q)
  | succ n ih =>
    intro S v0 v1 v2 H locs ls h hJ hl
    rw [fk_2_copyFrom_73] at h
    refine lv_iload_n C.1 C.2.1 dX2_copyFrom_73 rfl (lv_at hl 2 rfl) ?_
    refine lv_aload_n C.1 C.2.1 dX2_copyFrom_74 rfl (lv_at hl 0 rfl) ?_
    obtain ⟨hk, h⟩ := ckk_ok h
    refine gk2_47 C X hJ.1 hk dX2_copyFrom_75 ?_
    refine lv_icmp_ge (tgt := 99) C.1 C.2.1 dX2_copyFrom_78 (by decide) (fun c1 => ?_) (fun c1 => ?_)
    · have h := if_t h c1
      refine lv_aload_n C.1 C.2.1 dX2_copyFrom_99 rfl (lv_at hl 1 rfl) ?_
      obtain ⟨hk, h⟩ := ckk_ok h
      refine gk2_53 C X hJ.1 hk dX2_copyFrom_100 ?_
      refine lv_if_le (tgt := 135) C.1 C.2.1 dX2_copyFrom_103 (by decide) (fun c2 => ?_) (fun c2 => ?_)
      · have h := if_t h c2
        refine W.widen (k := 2) (n := 1120) (by decide) (by decide) ?_
        exact wk_2_copyFrom_135 C X h hJ (lv_sub hl [] rfl)
      · have h := if_f h c2
        refine lv_aload_n C.1 C.2.1 dX2_copyFrom_106 rfl (lv_at hl 0 rfl) ?_
        obtain ⟨hk, h⟩ := ckk_ok h
        obtain ⟨S3, h_S3, h⟩ := bd_ok h
        refine c_callW (rest := []) C X hJ hl.1 2 (by decide) hk [] (tk_2_write l h_S3) cw2_66 ki_2_write kl_2_write rfl ⟨by decide, by decide⟩ ⟨(by decide), (by decide)⟩ rfl (Nat.le_of_ble_eq_true rfl) dX2_copyFrom_107 (fun H locs hJ => ?_)
        refine W.eq (g2 := F0 m 110 ls []) rfl ?_
        refine lv_aload_n C.1 C.2.1 dX2_copyFrom_110 rfl (lv_at hl 1 rfl) ?_
        obtain ⟨hk, h⟩ := ckk_ok h
        obtain ⟨a4, h_a4, h⟩ := bd_ok h
        refine gk2_28 C X hJ.1 hk h_a4 dX2_copyFrom_111 ?_
        refine lv_iconst (v := 0) C.1 C.2.1 dX2_copyFrom_114 (by decide) ?_
        refine lv_aload_n C.1 C.2.1 dX2_copyFrom_115 rfl (lv_at hl 0 rfl) ?_
        obtain ⟨hk, h⟩ := ckk_ok h
        obtain ⟨a5, h_a5, h⟩ := bd_ok h
        refine gk2_28 C X hJ.1 hk h_a5 dX2_copyFrom_116 ?_
        refine lv_iconst (v := 0) C.1 C.2.1 dX2_copyFrom_119 (by decide) ?_
        refine lv_aload_n C.1 C.2.1 dX2_copyFrom_120 rfl (lv_at hl 0 rfl) ?_
        obtain ⟨hk, h⟩ := ckk_ok h
        refine gk2_50 C X hJ.1 hk dX2_copyFrom_121 ?_
        obtain ⟨hk0, h⟩ := ckk_ok h
        obtain ⟨hk1, h⟩ := ckk_ok h
        obtain ⟨hcp, h⟩ := ckp_ok h
        obtain ⟨hft, h⟩ := ckp_ok h
        refine c_copy (rest := []) C hl.1 mm2_59 ac_n ac_s ac_i 21 (by decide) (by decide) X.2.2.1 rfl hJ hk0 hk1 hcp hft (by decide) (Nat.le_of_ble_eq_true rfl) dX2_copyFrom_124 (fun H locs hJ => ?_)
        refine lt_ok h (fun S6 e_S6 h => ?_)
        rw [e_S6] at hJ
        refine lv_aload_n C.1 C.2.1 dX2_copyFrom_127 rfl (lv_at hl 0 rfl) ?_
        refine lv_aload_n C.1 C.2.1 dX2_copyFrom_128 rfl (lv_at hl 1 rfl) ?_
        obtain ⟨hk, h⟩ := ckk_ok h
        refine gk2_53 C X hJ.1 hk dX2_copyFrom_129 ?_
        obtain ⟨hk, h⟩ := ckk_ok h
        refine pk2_53 C X hJ hk dX2_copyFrom_132 (fun H locs hJ => ?_)
        refine lt_ok h (fun S7 e_S7 h => ?_)
        rw [e_S7] at hJ
        exact wk_2_copyFrom_135 C X h hJ (lv_sub hl [] rfl)
    · have h := if_f h c1
      refine lv_aload_n C.1 C.2.1 dX2_copyFrom_81 rfl (lv_at hl 0 rfl) ?_
      obtain ⟨hk, h⟩ := ckk_ok h
      obtain ⟨a8, h_a8, h⟩ := bd_ok h
      refine gk2_20 C X hJ.1 hk h_a8 dX2_copyFrom_82 ?_
      refine lv_iload_n C.1 C.2.1 dX2_copyFrom_85 rfl (lv_at hl 2 rfl) ?_
      refine lv_aload_n C.1 C.2.1 dX2_copyFrom_86 rfl (lv_at hl 1 rfl) ?_
      obtain ⟨hk, h⟩ := ckk_ok h
      obtain ⟨a9, h_a9, h⟩ := bd_ok h
      refine gk2_20 C X hJ.1 hk h_a9 dX2_copyFrom_87 ?_
      refine lv_iload_n C.1 C.2.1 dX2_copyFrom_90 rfl (lv_at hl 2 rfl) ?_
      obtain ⟨hk, h⟩ := ckk_ok h
      obtain ⟨hin2, h⟩ := ck_ok h
      refine c_aald C 30 (by decide) X.2.2.2.2.1 hJ.1 hk hin2 dX2_copyFrom_91 ?_
      refine lt_ok h (fun o10 e_o10 h => ?_)
      refine lv_nmq e_o10 ?_
      obtain ⟨hk, h⟩ := ckk_ok h
      obtain ⟨hin2, h⟩ := ck_ok h
      obtain ⟨hkv, h⟩ := ckq_ok h
      refine c_aastq (o := o10) C X 30 8 (by decide) (by decide) X.2.2.2.2.1 hJ hk hkv hin2 dX2_copyFrom_92 (fun H locs hJ => ?_)
      refine lt_ok h (fun S11 e_S11 h => ?_)
      rw [e_S11] at hJ
      refine lt_ok h (fun x12 e_x12 h => ?_)
      refine lv_iinc (v := x12) (lv' := [(2, .int x12), (0, .ref v0), (1, .ref v1)]) C.1 C.2.1 dX2_copyFrom_93 hl (k := 2) rfl (by rw [← e_x12]; rfl) (by decide) rfl (fun ls hl => ?_)
      refine lv_goto (tgt := 73) C.1 C.2.1 dX2_copyFrom_96 (by decide) ?_
      exact ih h hJ (lv_sub hl [1, 2, 0] rfl)
noncomputable def fk_2_copyFrom (S : cSt) (v0 : Nat) (v1 : Nat) : Option (cSt) :=
ckk S v1 3 (
ckk S v0 3 (lt (cPi S v0 3 (kF S v1 3)) fun S1 =>
ckk S1 v1 3 (
ckk S1 v0 3 (lt (cPi S1 v0 4 (kF S1 v1 4)) fun S2 =>
ckk S2 v1 3 (
ckk S2 v0 3 (ckz (kF S2 v1 5) (lt (cPi S2 v0 5 (kF S2 v1 5)) fun S3 =>
ckk S3 v1 3 (
ckk S3 v0 3 (lt (cPi S3 v0 6 (kF S3 v1 6)) fun S4 =>
ckk S4 v0 3 (lt (cPi S4 v0 7 (0 : Int32)) fun S5 =>
ckk S5 v0 3 (lt (cPi S5 v0 8 (0 : Int32)) fun S6 =>
ckk S6 v1 3 (bd (kR S6 v1 0) fun a7 =>
ckk S6 v0 3 (bd (kR S6 v0 0) fun a8 =>
ckk S6 a7 20 (ckk S6 a8 20 (ckp ((¬ (0 : Int32) < 0 ∧ ¬ (0 : Int32) < 0 ∧ ¬ (4 : Int32) < 0) ∧ (Int32.toNatClampNeg (0 : Int32)) + (Int32.toNatClampNeg (4 : Int32)) ≤ kL S6 a7 ∧ (Int32.toNatClampNeg (0 : Int32)) + (Int32.toNatClampNeg (4 : Int32)) ≤ kL S6 a8) (lt (cCp S6 a7 (Int32.toNatClampNeg (0 : Int32)) a8 (Int32.toNatClampNeg (0 : Int32)) (Int32.toNatClampNeg (4 : Int32))) fun S10 =>
ckk S10 v1 3 (bd (kR S10 v1 1) fun a11 =>
ckk S10 v0 3 (bd (kR S10 v0 1) fun a12 =>
ckk S10 a11 20 (ckk S10 a12 20 (ckp ((¬ (0 : Int32) < 0 ∧ ¬ (0 : Int32) < 0 ∧ ¬ (16 : Int32) < 0) ∧ (Int32.toNatClampNeg (0 : Int32)) + (Int32.toNatClampNeg (16 : Int32)) ≤ kL S10 a11 ∧ (Int32.toNatClampNeg (0 : Int32)) + (Int32.toNatClampNeg (16 : Int32)) ≤ kL S10 a12) (lt (cCp S10 a11 (Int32.toNatClampNeg (0 : Int32)) a12 (Int32.toNatClampNeg (0 : Int32)) (Int32.toNatClampNeg (16 : Int32))) fun S13 =>
fk_2_copyFrom_73 mFU S13 v0 v1 (0 : Int32))))))))))))))))))))))
set_option maxRecDepth 100000 in
set_option maxHeartbeats 4000000 in
theorem tk_2_copyFrom (l : Launch) {D : cG} {S : cSt} {v0 : Nat} {v1 : Nat} {S9 : cSt} (h : fk_2_copyFrom S v0 v1 = some S9) : Met l yX2_copyFrom (Cond.code yX2_copyFrom cX2_copyFrom 3 none :: lw_g) { frames := 5, cells := 2, slots := 1120, locals := 110 } (kPi [.ref v0, .ref v1] D S) (kW none D S S9) 2 1120 (cA S) := by
  refine Met.ofW (cc := cX2_copyFrom) (maxL := 3) (ret := none) (by decide) rfl ?_
  intro p e s m args below meth c s₁ B hml hv
  obtain ⟨rfl, hW, X⟩ := hv
  have C : cY p (headSpec (Cond.code yX2_copyFrom cX2_copyFrom 3 none :: lw_g) { frames := 5, cells := 2, slots := 1120, locals := 110 }).room s m _ meth c RX2 cX2_copyFrom 3 5 2 1120 110 none := ⟨B.exec, B.bytes, hml, findClass_of_methodNamed B.named, fun w hw => atoms_spec (ws := Cond.code yX2_copyFrom cX2_copyFrom 3 none :: lw_g) B.pre w (List.mem_cons_of_mem _ hw), ⟨Nat.le_refl _, Nat.le_refl _, Nat.le_refl _, Nat.le_refl _⟩, B.returns, B.notSynchronized⟩
  have hl := lv_entry ([.ref v0, .ref v1]) (n := 3) (Nat.le_of_ble_eq_true rfl)
  rw [lg_entry_eq]
  generalize (lg_sl ([.ref v0, .ref v1]) ++ List.replicate (3 - (lg_sl ([.ref v0, .ref v1])).length) Slot.unset).toArray = ls at hl ⊢
  have hl : lv_has ls 3 [(0, .ref v0), (1, .ref v1)] := hl
  have hJ : cJ D S s.heap S s.heap [] := cJ.rf hW
  unfold fk_2_copyFrom at h
  refine lv_aload_n C.1 C.2.1 dX2_copyFrom_0 rfl (lv_at hl 0 rfl) ?_
  refine lv_aload_n C.1 C.2.1 dX2_copyFrom_1 rfl (lv_at hl 1 rfl) ?_
  obtain ⟨hk, h⟩ := ckk_ok h
  refine gk2_37 C X hJ.1 hk dX2_copyFrom_2 ?_
  obtain ⟨hk, h⟩ := ckk_ok h
  refine pk2_37 C X hJ hk dX2_copyFrom_5 (fun H locs hJ => ?_)
  refine lt_ok h (fun S1 e_S1 h => ?_)
  rw [e_S1] at hJ
  refine lv_aload_n C.1 C.2.1 dX2_copyFrom_8 rfl (lv_at hl 0 rfl) ?_
  refine lv_aload_n C.1 C.2.1 dX2_copyFrom_9 rfl (lv_at hl 1 rfl) ?_
  obtain ⟨hk, h⟩ := ckk_ok h
  refine gk2_40 C X hJ.1 hk dX2_copyFrom_10 ?_
  obtain ⟨hk, h⟩ := ckk_ok h
  refine pk2_40 C X hJ hk dX2_copyFrom_13 (fun H locs hJ => ?_)
  refine lt_ok h (fun S2 e_S2 h => ?_)
  rw [e_S2] at hJ
  refine lv_aload_n C.1 C.2.1 dX2_copyFrom_16 rfl (lv_at hl 0 rfl) ?_
  refine lv_aload_n C.1 C.2.1 dX2_copyFrom_17 rfl (lv_at hl 1 rfl) ?_
  obtain ⟨hk, h⟩ := ckk_ok h
  refine gk2_43 C X hJ.1 hk dX2_copyFrom_18 ?_
  obtain ⟨hk, h⟩ := ckk_ok h
  obtain ⟨hzo, h⟩ := ckz_ok h
  refine pk2_43 C X hJ hk hzo dX2_copyFrom_21 (fun H locs hJ => ?_)
  refine lt_ok h (fun S3 e_S3 h => ?_)
  rw [e_S3] at hJ
  refine lv_aload_n C.1 C.2.1 dX2_copyFrom_24 rfl (lv_at hl 0 rfl) ?_
  refine lv_aload_n C.1 C.2.1 dX2_copyFrom_25 rfl (lv_at hl 1 rfl) ?_
  obtain ⟨hk, h⟩ := ckk_ok h
  refine gk2_47 C X hJ.1 hk dX2_copyFrom_26 ?_
  obtain ⟨hk, h⟩ := ckk_ok h
  refine pk2_47 C X hJ hk dX2_copyFrom_29 (fun H locs hJ => ?_)
  refine lt_ok h (fun S4 e_S4 h => ?_)
  rw [e_S4] at hJ
  refine lv_aload_n C.1 C.2.1 dX2_copyFrom_32 rfl (lv_at hl 0 rfl) ?_
  refine lv_iconst (v := 0) C.1 C.2.1 dX2_copyFrom_33 (by decide) ?_
  obtain ⟨hk, h⟩ := ckk_ok h
  refine pk2_50 C X hJ hk dX2_copyFrom_34 (fun H locs hJ => ?_)
  refine lt_ok h (fun S5 e_S5 h => ?_)
  rw [e_S5] at hJ
  refine lv_aload_n C.1 C.2.1 dX2_copyFrom_37 rfl (lv_at hl 0 rfl) ?_
  refine lv_iconst (v := 0) C.1 C.2.1 dX2_copyFrom_38 (by decide) ?_
  obtain ⟨hk, h⟩ := ckk_ok h
  refine pk2_53 C X hJ hk dX2_copyFrom_39 (fun H locs hJ => ?_)
  refine lt_ok h (fun S6 e_S6 h => ?_)
  rw [e_S6] at hJ
  refine lv_aload_n C.1 C.2.1 dX2_copyFrom_42 rfl (lv_at hl 1 rfl) ?_
  obtain ⟨hk, h⟩ := ckk_ok h
  obtain ⟨a7, h_a7, h⟩ := bd_ok h
  refine gk2_9 C X hJ.1 hk h_a7 dX2_copyFrom_43 ?_
  refine lv_iconst (v := 0) C.1 C.2.1 dX2_copyFrom_46 (by decide) ?_
  refine lv_aload_n C.1 C.2.1 dX2_copyFrom_47 rfl (lv_at hl 0 rfl) ?_
  obtain ⟨hk, h⟩ := ckk_ok h
  obtain ⟨a8, h_a8, h⟩ := bd_ok h
  refine gk2_9 C X hJ.1 hk h_a8 dX2_copyFrom_48 ?_
  refine lv_iconst (v := 0) C.1 C.2.1 dX2_copyFrom_51 (by decide) ?_
  refine lv_iconst (v := 4) C.1 C.2.1 dX2_copyFrom_52 (by decide) ?_
  obtain ⟨hk0, h⟩ := ckk_ok h
  obtain ⟨hk1, h⟩ := ckk_ok h
  obtain ⟨hcp, h⟩ := ckp_ok h
  refine c_copy (rest := []) C hl.1 mm2_59 ac_n ac_s ac_i 20 (by decide) (by decide) X.2.1 rfl hJ hk0 hk1 hcp (fun _ _ => rfl) (by decide) (Nat.le_of_ble_eq_true rfl) dX2_copyFrom_53 (fun H locs hJ => ?_)
  refine lt_ok h (fun S10 e_S10 h => ?_)
  rw [e_S10] at hJ
  refine lv_aload_n C.1 C.2.1 dX2_copyFrom_56 rfl (lv_at hl 1 rfl) ?_
  obtain ⟨hk, h⟩ := ckk_ok h
  obtain ⟨a11, h_a11, h⟩ := bd_ok h
  refine gk2_15 C X hJ.1 hk h_a11 dX2_copyFrom_57 ?_
  refine lv_iconst (v := 0) C.1 C.2.1 dX2_copyFrom_60 (by decide) ?_
  refine lv_aload_n C.1 C.2.1 dX2_copyFrom_61 rfl (lv_at hl 0 rfl) ?_
  obtain ⟨hk, h⟩ := ckk_ok h
  obtain ⟨a12, h_a12, h⟩ := bd_ok h
  refine gk2_15 C X hJ.1 hk h_a12 dX2_copyFrom_62 ?_
  refine lv_iconst (v := 0) C.1 C.2.1 dX2_copyFrom_65 (by decide) ?_
  refine lv_bipush (v := 16) C.1 C.2.1 dX2_copyFrom_66 (by decide) ?_
  obtain ⟨hk0, h⟩ := ckk_ok h
  obtain ⟨hk1, h⟩ := ckk_ok h
  obtain ⟨hcp, h⟩ := ckp_ok h
  refine c_copy (rest := []) C hl.1 mm2_59 ac_n ac_s ac_i 20 (by decide) (by decide) X.2.1 rfl hJ hk0 hk1 hcp (fun _ _ => rfl) (by decide) (Nat.le_of_ble_eq_true rfl) dX2_copyFrom_68 (fun H locs hJ => ?_)
  refine lt_ok h (fun S13 e_S13 h => ?_)
  rw [e_S13] at hJ
  refine lv_iconst (v := 0) C.1 C.2.1 dX2_copyFrom_71 (by decide) ?_
  refine lv_istore_n (lv' := [(2, .int (0 : Int32)), (0, .ref v0), (1, .ref v1)]) C.1 C.2.1 dX2_copyFrom_72 rfl hl (by decide) rfl (fun ls hl => ?_)
  exact wk_2_copyFrom_73 C X mFU h hJ (lv_sub hl [1, 2, 0] rfl)
end
theorem dX2_byteNow_0 : decode cX2_byteNow 0 = .ok (.aload_n 0, 1) := by decide +kernel
theorem dX2_byteNow_1 : decode cX2_byteNow 1 = .ok (.getfield 24, 3) := by decide +kernel
theorem dX2_byteNow_4 : decode cX2_byteNow 4 = .ok (.iload_n 1, 1) := by decide +kernel
theorem dX2_byteNow_5 : decode cX2_byteNow 5 = .ok (.baload, 1) := by decide +kernel
theorem dX2_byteNow_6 : decode cX2_byteNow 6 = .ok (.aload_n 0, 1) := by decide +kernel
theorem dX2_byteNow_7 : decode cX2_byteNow 7 = .ok (.getfield 28, 3) := by decide +kernel
theorem dX2_byteNow_10 : decode cX2_byteNow 10 = .ok (.iload_n 1, 1) := by decide +kernel
theorem dX2_byteNow_11 : decode cX2_byteNow 11 = .ok (.baload, 1) := by decide +kernel
theorem dX2_byteNow_12 : decode cX2_byteNow 12 = .ok (.ixor, 1) := by decide +kernel
theorem dX2_byteNow_13 : decode cX2_byteNow 13 = .ok (.sipush 255, 3) := by decide +kernel
theorem dX2_byteNow_16 : decode cX2_byteNow 16 = .ok (.iand, 1) := by decide +kernel
theorem dX2_byteNow_17 : decode cX2_byteNow 17 = .ok (.ireturn, 1) := by decide +kernel
theorem kd_2_byteNow : Cond.code yX2_byteNow cX2_byteNow 2 (some .int) ∈ lw_g := mt_at 1419 (by decide +kernel) rfl
theorem ki_2_byteNow : Cond.instanceMethod yX2_byteNow ∈ lw_g := mt_at 1417 (by decide +kernel) rfl
theorem kl_2_byteNow : Cond.selects (kRn 2) yX2_byteNow yX2_byteNow ∈ lw_g := mt_at 1418 (by decide +kernel) rfl
section
variable {p : Program} {l : Launch} {e : Env} {R : Room} {s : State} {m : MethodId} {args : Array Value} {below : List Frame} {meth : Method} {c : Code} {D : cG} {S : cSt} {r : Int32}
noncomputable def fk_2_byteNow (S : cSt) (v0 : Nat) (v1 : Int32) : Option (Int32) :=
ckk S v0 3 (bd (kR S v0 9) fun a1 =>
ckk S a1 21 (ck v1 (kL S a1) (
ckk S v0 3 (bd (kR S v0 10) fun a2 =>
ckk S a2 21 (ck v1 (kL S a2) (
some (((kI S a1 (Int32.toNatClampNeg v1)) ^^^ (kI S a2 (Int32.toNatClampNeg v1))) &&& (255 : Int32))))))))
set_option maxRecDepth 100000 in
set_option maxHeartbeats 4000000 in
theorem tk_2_byteNow (l : Launch) {D : cG} {S : cSt} {v0 : Nat} {v1 : Int32} {r : Int32}  (h : fk_2_byteNow S v0 v1 = some r) : Met l yX2_byteNow (Cond.code yX2_byteNow cX2_byteNow 2 (some .int) :: lw_g) { frames := 0, cells := 0, slots := 0, locals := 0 } (kPi [.ref v0, .int v1] D S) (kQ (some (.int r))) 0 0 (mNo) := by
  refine Met.ofW (cc := cX2_byteNow) (maxL := 2) (ret := (some .int)) (by decide) rfl ?_
  intro p e s m args below meth c s₁ B hml hv
  obtain ⟨rfl, hW, X⟩ := hv
  have C : cY p (headSpec (Cond.code yX2_byteNow cX2_byteNow 2 (some .int) :: lw_g) { frames := 0, cells := 0, slots := 0, locals := 0 }).room s m _ meth c RX2 cX2_byteNow 2 0 0 0 0 (some .int) := ⟨B.exec, B.bytes, hml, findClass_of_methodNamed B.named, fun w hw => atoms_spec (ws := Cond.code yX2_byteNow cX2_byteNow 2 (some .int) :: lw_g) B.pre w (List.mem_cons_of_mem _ hw), ⟨Nat.le_refl _, Nat.le_refl _, Nat.le_refl _, Nat.le_refl _⟩, B.returns, B.notSynchronized⟩
  have hl := lv_entry ([.ref v0, .int v1]) (n := 2) (Nat.le_of_ble_eq_true rfl)
  rw [lg_entry_eq]
  generalize (lg_sl ([.ref v0, .int v1]) ++ List.replicate (2 - (lg_sl ([.ref v0, .int v1])).length) Slot.unset).toArray = ls at hl ⊢
  have hl : lv_has ls 2 [(0, .ref v0), (1, .int v1)] := hl
  unfold fk_2_byteNow at h
  refine lv_aload_n C.1 C.2.1 dX2_byteNow_0 rfl (lv_at hl 0 rfl) ?_
  obtain ⟨hk, h⟩ := ckk_ok h
  obtain ⟨a1, h_a1, h⟩ := bd_ok h
  refine gk2_24 C X hW hk h_a1 dX2_byteNow_1 ?_
  refine lv_iload_n C.1 C.2.1 dX2_byteNow_4 rfl (lv_at hl 1 rfl) ?_
  obtain ⟨hk, h⟩ := ckk_ok h
  obtain ⟨hin2, h⟩ := ck_ok h
  refine c_bald C X hW hk hin2 dX2_byteNow_5 ?_
  refine lv_aload_n C.1 C.2.1 dX2_byteNow_6 rfl (lv_at hl 0 rfl) ?_
  obtain ⟨hk, h⟩ := ckk_ok h
  obtain ⟨a2, h_a2, h⟩ := bd_ok h
  refine gk2_28 C X hW hk h_a2 dX2_byteNow_7 ?_
  refine lv_iload_n C.1 C.2.1 dX2_byteNow_10 rfl (lv_at hl 1 rfl) ?_
  obtain ⟨hk, h⟩ := ckk_ok h
  obtain ⟨hin2, h⟩ := ck_ok h
  refine c_bald C X hW hk hin2 dX2_byteNow_11 ?_
  refine lv_ixor C.1 C.2.1 dX2_byteNow_12 ?_
  refine lv_sipush (v := 255) C.1 C.2.1 dX2_byteNow_13 (by decide) ?_
  refine lv_iand C.1 C.2.1 dX2_byteNow_16 ?_
  cases h
  exact c_reti C rfl rfl dX2_byteNow_17
end
theorem dX2_twist_0 : decode cX2_twist 0 = .ok (.aload_n 0, 1) := by decide +kernel
theorem dX2_twist_1 : decode cX2_twist 1 = .ok (.getfield 28, 3) := by decide +kernel
theorem dX2_twist_4 : decode cX2_twist 4 = .ok (.iload_n 1, 1) := by decide +kernel
theorem dX2_twist_5 : decode cX2_twist 5 = .ok (.baload, 1) := by decide +kernel
theorem dX2_twist_6 : decode cX2_twist 6 = .ok (.ifCond .ne 7, 3) := by decide +kernel
theorem dX2_twist_9 : decode cX2_twist 9 = .ok (.iconst 0, 1) := by decide +kernel
theorem dX2_twist_10 : decode cX2_twist 10 = .ok (.goto 4, 3) := by decide +kernel
theorem dX2_twist_13 : decode cX2_twist 13 = .ok (.iconst 1, 1) := by decide +kernel
theorem dX2_twist_14 : decode cX2_twist 14 = .ok (.istore_n 3, 1) := by decide +kernel
theorem dX2_twist_15 : decode cX2_twist 15 = .ok (.aload_n 0, 1) := by decide +kernel
theorem dX2_twist_16 : decode cX2_twist 16 = .ok (.getfield 28, 3) := by decide +kernel
theorem dX2_twist_19 : decode cX2_twist 19 = .ok (.iload_n 1, 1) := by decide +kernel
theorem dX2_twist_20 : decode cX2_twist 20 = .ok (.dup2, 1) := by decide +kernel
theorem dX2_twist_21 : decode cX2_twist 21 = .ok (.baload, 1) := by decide +kernel
theorem dX2_twist_22 : decode cX2_twist 22 = .ok (.iload_n 2, 1) := by decide +kernel
theorem dX2_twist_23 : decode cX2_twist 23 = .ok (.i2b, 1) := by decide +kernel
theorem dX2_twist_24 : decode cX2_twist 24 = .ok (.ixor, 1) := by decide +kernel
theorem dX2_twist_25 : decode cX2_twist 25 = .ok (.i2b, 1) := by decide +kernel
theorem dX2_twist_26 : decode cX2_twist 26 = .ok (.bastore, 1) := by decide +kernel
theorem dX2_twist_27 : decode cX2_twist 27 = .ok (.aload_n 0, 1) := by decide +kernel
theorem dX2_twist_28 : decode cX2_twist 28 = .ok (.dup, 1) := by decide +kernel
theorem dX2_twist_29 : decode cX2_twist 29 = .ok (.getfield 53, 3) := by decide +kernel
theorem dX2_twist_32 : decode cX2_twist 32 = .ok (.aload_n 0, 1) := by decide +kernel
theorem dX2_twist_33 : decode cX2_twist 33 = .ok (.getfield 28, 3) := by decide +kernel
theorem dX2_twist_36 : decode cX2_twist 36 = .ok (.iload_n 1, 1) := by decide +kernel
theorem dX2_twist_37 : decode cX2_twist 37 = .ok (.baload, 1) := by decide +kernel
theorem dX2_twist_38 : decode cX2_twist 38 = .ok (.ifCond .ne 7, 3) := by decide +kernel
theorem dX2_twist_41 : decode cX2_twist 41 = .ok (.iconst 0, 1) := by decide +kernel
theorem dX2_twist_42 : decode cX2_twist 42 = .ok (.goto 4, 3) := by decide +kernel
theorem dX2_twist_45 : decode cX2_twist 45 = .ok (.iconst 1, 1) := by decide +kernel
theorem dX2_twist_46 : decode cX2_twist 46 = .ok (.iload_n 3, 1) := by decide +kernel
theorem dX2_twist_47 : decode cX2_twist 47 = .ok (.isub, 1) := by decide +kernel
theorem dX2_twist_48 : decode cX2_twist 48 = .ok (.iadd, 1) := by decide +kernel
theorem dX2_twist_49 : decode cX2_twist 49 = .ok (.putfield 53, 3) := by decide +kernel
theorem dX2_twist_52 : decode cX2_twist 52 = .ok (.return_, 1) := by decide +kernel
theorem kd_2_twist : Cond.code yX2_twist cX2_twist 4 none ∈ lw_g := mt_at 1427 (by decide +kernel) rfl
theorem ki_2_twist : Cond.instanceMethod yX2_twist ∈ lw_g := mt_at 1425 (by decide +kernel) rfl
theorem kl_2_twist : Cond.selects (kRn 2) yX2_twist yX2_twist ∈ lw_g := mt_at 1426 (by decide +kernel) rfl
section
variable {p : Program} {l : Launch} {e : Env} {R : Room} {s : State} {m : MethodId} {args : Array Value} {below : List Frame} {meth : Method} {c : Code} {D : cG} {S0 S9 : cSt}
noncomputable def fk_2_twist_46 (S : cSt) (v3 : Int32) (s0 : Nat) (s1 : Int32) (s2 : Int32) : Option (cSt) :=
ckk S s0 3 (lt (cPi S s0 8 (s1 + (s2 - v3))) fun S1 =>
some S1)
set_option maxRecDepth 100000 in
set_option maxHeartbeats 4000000 in
theorem wk_2_twist_46 (C : cY p R s m args meth c RX2 cX2_twist 4 0 0 0 0 none) (X : cX D s) : ∀ {S : cSt} {v3 : Int32} {s0 : Nat} {s1 : Int32} {s2 : Int32} {H : Heap} {locs : List Loc} {ls : Array Slot}, fk_2_twist_46 S v3 s0 s1 s2 = some S9 → cJ D S0 s.heap S H locs → lv_has ls 4 [(3, .int v3)] → W p l e R s m args below meth c H locs 0 0 (MQ below (kW none D S0 S9) args s 0 0 (cA S0)) (F0 m 46 ls [.int s2, .int s1, .ref s0]) := by
  intro S v3 s0 s1 s2 H locs ls h hJ hl
  unfold fk_2_twist_46 at h
  refine lv_iload_n C.1 C.2.1 dX2_twist_46 rfl (lv_at hl 0 rfl) ?_
  refine lv_isub C.1 C.2.1 dX2_twist_47 ?_
  refine lv_iadd C.1 C.2.1 dX2_twist_48 ?_
  obtain ⟨hk, h⟩ := ckk_ok h
  refine pk2_53 C X hJ hk dX2_twist_49 (fun H locs hJ => ?_)
  refine lt_ok h (fun S1 e_S1 h => ?_)
  rw [e_S1] at hJ
  cases h
  exact c_retvW C hJ dX2_twist_52
noncomputable def fk_2_twist_14 (S : cSt) (v0 : Nat) (v1 : Int32) (v2 : Int32) (s0 : Int32) : Option (cSt) :=
ckk S v0 3 (bd (kR S v0 10) fun a1 =>
ckk S a1 21 (ck v1 (kL S a1) (
ckk S a1 21 (ck v1 (kL S a1) (ckp (vp_nar .byte (((kI S a1 (Int32.toNatClampNeg v1)) ^^^ (v2.toInt8.toInt32)).toInt8.toInt32) = (((kI S a1 (Int32.toNatClampNeg v1)) ^^^ (v2.toInt8.toInt32)).toInt8.toInt32)) (lt (cWi S a1 (Int32.toNatClampNeg v1) (((kI S a1 (Int32.toNatClampNeg v1)) ^^^ (v2.toInt8.toInt32)).toInt8.toInt32)) fun S2 =>
ckk S2 v0 3 (
ckk S2 v0 3 (bd (kR S2 v0 10) fun a3 =>
ckk S2 a3 21 (ck v1 (kL S2 a3) (
if (kI S2 a3 (Int32.toNatClampNeg v1)) = 0 then (
fk_2_twist_46 S2 s0 v0 (kF S2 v0 8) (0 : Int32))
else (
fk_2_twist_46 S2 s0 v0 (kF S2 v0 8) (1 : Int32))))))))))))
set_option maxRecDepth 100000 in
set_option maxHeartbeats 4000000 in
theorem wk_2_twist_14 (C : cY p R s m args meth c RX2 cX2_twist 4 0 0 0 0 none) (X : cX D s) : ∀ {S : cSt} {v0 : Nat} {v1 : Int32} {v2 : Int32} {s0 : Int32} {H : Heap} {locs : List Loc} {ls : Array Slot}, fk_2_twist_14 S v0 v1 v2 s0 = some S9 → cJ D S0 s.heap S H locs → lv_has ls 4 [(0, .ref v0), (1, .int v1), (2, .int v2)] → W p l e R s m args below meth c H locs 0 0 (MQ below (kW none D S0 S9) args s 0 0 (cA S0)) (F0 m 14 ls [.int s0]) := by
  intro S v0 v1 v2 s0 H locs ls h hJ hl
  unfold fk_2_twist_14 at h
  refine lv_istore_n (lv' := [(3, .int s0), (0, .ref v0), (1, .int v1), (2, .int v2)]) C.1 C.2.1 dX2_twist_14 rfl hl (by decide) rfl (fun ls hl => ?_)
  refine lv_aload_n C.1 C.2.1 dX2_twist_15 rfl (lv_at hl 1 rfl) ?_
  obtain ⟨hk, h⟩ := ckk_ok h
  obtain ⟨a1, h_a1, h⟩ := bd_ok h
  refine gk2_28 C X hJ.1 hk h_a1 dX2_twist_16 ?_
  refine lv_iload_n C.1 C.2.1 dX2_twist_19 rfl (lv_at hl 2 rfl) ?_
  refine lv_dup2_11 C.1 C.2.1 dX2_twist_20 rfl rfl ?_
  obtain ⟨hk, h⟩ := ckk_ok h
  obtain ⟨hin2, h⟩ := ck_ok h
  refine c_bald C X hJ.1 hk hin2 dX2_twist_21 ?_
  refine lv_iload_n C.1 C.2.1 dX2_twist_22 rfl (lv_at hl 3 rfl) ?_
  refine lv_i2b (v := v2.toInt8.toInt32) C.1 C.2.1 dX2_twist_23 rfl ?_
  refine lv_ixor C.1 C.2.1 dX2_twist_24 ?_
  refine lv_i2b (v := ((kI S a1 (Int32.toNatClampNeg v1)) ^^^ (v2.toInt8.toInt32)).toInt8.toInt32) C.1 C.2.1 dX2_twist_25 rfl ?_
  obtain ⟨hk, h⟩ := ckk_ok h
  obtain ⟨hin2, h⟩ := ck_ok h
  obtain ⟨hnr, h⟩ := ckp_ok h
  refine c_bast C X hJ hk hnr hin2 dX2_twist_26 (fun H locs hJ => ?_)
  refine lt_ok h (fun S2 e_S2 h => ?_)
  rw [e_S2] at hJ
  refine lv_aload_n C.1 C.2.1 dX2_twist_27 rfl (lv_at hl 1 rfl) ?_
  refine lv_dup C.1 C.2.1 dX2_twist_28 rfl ?_
  obtain ⟨hk, h⟩ := ckk_ok h
  refine gk2_53 C X hJ.1 hk dX2_twist_29 ?_
  refine lv_aload_n C.1 C.2.1 dX2_twist_32 rfl (lv_at hl 1 rfl) ?_
  obtain ⟨hk, h⟩ := ckk_ok h
  obtain ⟨a3, h_a3, h⟩ := bd_ok h
  refine gk2_28 C X hJ.1 hk h_a3 dX2_twist_33 ?_
  refine lv_iload_n C.1 C.2.1 dX2_twist_36 rfl (lv_at hl 2 rfl) ?_
  obtain ⟨hk, h⟩ := ckk_ok h
  obtain ⟨hin2, h⟩ := ck_ok h
  refine c_bald C X hJ.1 hk hin2 dX2_twist_37 ?_
  refine lv_if_ne (tgt := 45) C.1 C.2.1 dX2_twist_38 (by decide) (fun c4 => ?_) (fun c4 => ?_)
  · have h := if_f h c4
    refine lv_iconst (v := 1) C.1 C.2.1 dX2_twist_45 (by decide) ?_
    exact wk_2_twist_46 C X h hJ (lv_sub hl [0] rfl)
  · have h := if_t h c4
    refine lv_iconst (v := 0) C.1 C.2.1 dX2_twist_41 (by decide) ?_
    refine lv_goto (tgt := 46) C.1 C.2.1 dX2_twist_42 (by decide) ?_
    exact wk_2_twist_46 C X h hJ (lv_sub hl [0] rfl)
noncomputable def fk_2_twist (S : cSt) (v0 : Nat) (v1 : Int32) (v2 : Int32) : Option (cSt) :=
ckk S v0 3 (bd (kR S v0 10) fun a1 =>
ckk S a1 21 (ck v1 (kL S a1) (
if (kI S a1 (Int32.toNatClampNeg v1)) = 0 then (
fk_2_twist_14 S v0 v1 v2 (0 : Int32))
else (
fk_2_twist_14 S v0 v1 v2 (1 : Int32)))))
set_option maxRecDepth 100000 in
set_option maxHeartbeats 4000000 in
theorem tk_2_twist (l : Launch) {D : cG} {S : cSt} {v0 : Nat} {v1 : Int32} {v2 : Int32} {S9 : cSt} (h : fk_2_twist S v0 v1 v2 = some S9) : Met l yX2_twist (Cond.code yX2_twist cX2_twist 4 none :: lw_g) { frames := 0, cells := 0, slots := 0, locals := 0 } (kPi [.ref v0, .int v1, .int v2] D S) (kW none D S S9) 0 0 (cA S) := by
  refine Met.ofW (cc := cX2_twist) (maxL := 4) (ret := none) (by decide) rfl ?_
  intro p e s m args below meth c s₁ B hml hv
  obtain ⟨rfl, hW, X⟩ := hv
  have C : cY p (headSpec (Cond.code yX2_twist cX2_twist 4 none :: lw_g) { frames := 0, cells := 0, slots := 0, locals := 0 }).room s m _ meth c RX2 cX2_twist 4 0 0 0 0 none := ⟨B.exec, B.bytes, hml, findClass_of_methodNamed B.named, fun w hw => atoms_spec (ws := Cond.code yX2_twist cX2_twist 4 none :: lw_g) B.pre w (List.mem_cons_of_mem _ hw), ⟨Nat.le_refl _, Nat.le_refl _, Nat.le_refl _, Nat.le_refl _⟩, B.returns, B.notSynchronized⟩
  have hl := lv_entry ([.ref v0, .int v1, .int v2]) (n := 4) (Nat.le_of_ble_eq_true rfl)
  rw [lg_entry_eq]
  generalize (lg_sl ([.ref v0, .int v1, .int v2]) ++ List.replicate (4 - (lg_sl ([.ref v0, .int v1, .int v2])).length) Slot.unset).toArray = ls at hl ⊢
  have hl : lv_has ls 4 [(0, .ref v0), (1, .int v1), (2, .int v2)] := hl
  have hJ : cJ D S s.heap S s.heap [] := cJ.rf hW
  unfold fk_2_twist at h
  refine lv_aload_n C.1 C.2.1 dX2_twist_0 rfl (lv_at hl 0 rfl) ?_
  obtain ⟨hk, h⟩ := ckk_ok h
  obtain ⟨a1, h_a1, h⟩ := bd_ok h
  refine gk2_28 C X hJ.1 hk h_a1 dX2_twist_1 ?_
  refine lv_iload_n C.1 C.2.1 dX2_twist_4 rfl (lv_at hl 1 rfl) ?_
  obtain ⟨hk, h⟩ := ckk_ok h
  obtain ⟨hin2, h⟩ := ck_ok h
  refine c_bald C X hJ.1 hk hin2 dX2_twist_5 ?_
  refine lv_if_ne (tgt := 13) C.1 C.2.1 dX2_twist_6 (by decide) (fun c2 => ?_) (fun c2 => ?_)
  · have h := if_f h c2
    refine lv_iconst (v := 1) C.1 C.2.1 dX2_twist_13 (by decide) ?_
    exact wk_2_twist_14 C X h hJ (lv_sub hl [0, 1, 2] rfl)
  · have h := if_t h c2
    refine lv_iconst (v := 0) C.1 C.2.1 dX2_twist_9 (by decide) ?_
    refine lv_goto (tgt := 14) C.1 C.2.1 dX2_twist_10 (by decide) ?_
    exact wk_2_twist_14 C X h hJ (lv_sub hl [0, 1, 2] rfl)
end
theorem dX3_init_0 : decode cX3_init 0 = .ok (.aload_n 0, 1) := by decide +kernel
theorem dX3_init_1 : decode cX3_init 1 = .ok (.invokespecial 3, 3) := by decide +kernel
theorem dX3_init_4 : decode cX3_init 4 = .ok (.aload_n 0, 1) := by decide +kernel
theorem dX3_init_5 : decode cX3_init 5 = .ok (.bipush 40, 2) := by decide +kernel
theorem dX3_init_7 : decode cX3_init 7 = .ok (.newarray .char, 2) := by decide +kernel
theorem dX3_init_9 : decode cX3_init 9 = .ok (.putfield 9, 3) := by decide +kernel
theorem dX3_init_12 : decode cX3_init 12 = .ok (.aload_n 0, 1) := by decide +kernel
theorem dX3_init_13 : decode cX3_init 13 = .ok (.iconst 0, 1) := by decide +kernel
theorem dX3_init_14 : decode cX3_init 14 = .ok (.putfield 15, 3) := by decide +kernel
theorem dX3_init_17 : decode cX3_init 17 = .ok (.aload_n 0, 1) := by decide +kernel
theorem dX3_init_18 : decode cX3_init 18 = .ok (.iconst 0, 1) := by decide +kernel
theorem dX3_init_19 : decode cX3_init 19 = .ok (.putfield 19, 3) := by decide +kernel
theorem dX3_init_22 : decode cX3_init 22 = .ok (.aload_n 0, 1) := by decide +kernel
theorem dX3_init_23 : decode cX3_init 23 = .ok (.iconst (-1), 1) := by decide +kernel
theorem dX3_init_24 : decode cX3_init 24 = .ok (.putfield 22, 3) := by decide +kernel
theorem dX3_init_27 : decode cX3_init 27 = .ok (.aload_n 0, 1) := by decide +kernel
theorem dX3_init_28 : decode cX3_init 28 = .ok (.bipush 48, 2) := by decide +kernel
theorem dX3_init_30 : decode cX3_init 30 = .ok (.newarray .char, 2) := by decide +kernel
theorem dX3_init_32 : decode cX3_init 32 = .ok (.putfield 25, 3) := by decide +kernel
theorem dX3_init_35 : decode cX3_init 35 = .ok (.aload_n 0, 1) := by decide +kernel
theorem dX3_init_36 : decode cX3_init 36 = .ok (.bipush 8, 2) := by decide +kernel
theorem dX3_init_38 : decode cX3_init 38 = .ok (.newarray .int, 2) := by decide +kernel
theorem dX3_init_40 : decode cX3_init 40 = .ok (.putfield 28, 3) := by decide +kernel
theorem dX3_init_43 : decode cX3_init 43 = .ok (.return_, 1) := by decide +kernel
theorem kd_3_init : Cond.code yX3_init cX3_init 1 none ∈ lw_g := mt_at 44 (by decide +kernel) rfl
theorem ki_3_init : Cond.instanceMethod yX3_init ∈ lw_g := mt_at 43 (by decide +kernel) rfl
theorem oi3 : Cond.methodLink RX3 3 objectInit ∈ lw_g := mt_at 45 (by decide +kernel) rfl
section
variable {p : Program} {l : Launch} {e : Env} {R : Room} {s : State} {m : MethodId} {args : Array Value} {below : List Frame} {meth : Method} {c : Code} {H : Heap} {locs : List Loc} {cells slots : Nat} {Q : State → Prop}
variable {D : cG} {S S0 : cSt} {cc : ByteArray} {nL : Nat} {pc : Nat} {ls : Array Slot} {rest : List Value} {H0 : Heap} {nF nR nC nS : Nat} {ret : Option FieldType} {a : Nat}
theorem pk3_9 {o : Option Nat} (C : cY p R s m args meth c RX3 cc nL nF nC nS nR ret) (hin : meth.name = "<init>") (X : cX D s) (hJ : cJ D S0 H0 S H locs) (hk : kK S a = 4) (hdg : decode cc pc = .ok (.putfield 9, 3)) (kk : ∀ (H1 : Heap) (locs1 : List Loc), cJ D S0 H0 (cPr S a 0 o) H1 locs1 → W p l e R s m args below meth c H1 locs1 cells slots Q (F0 m (pc + 3) ls (rest))) : W p l e R s m args below meth c H locs cells slots Q (F0 m pc ls (va_rf o :: .ref a :: rest)) := c_putF (S1 := (cPr S a 0 o)) C X hJ 3 (by decide) ly_3 hk 0 (by decide) (by decide +kernel) hin rfl nar_ra fit_ra (by decide) rfl rfl (fun j _ => c_vR (by decide +kernel)) c_oPr (mt_at 46 (by decide +kernel) (by decide +kernel)) hdg kk
theorem pk3_15 {x : Int32} (C : cY p R s m args meth c RX3 cc nL nF nC nS nR ret) (X : cX D s) (hJ : cJ D S0 H0 S H locs) (hk : kK S a = 4) (hdg : decode cc pc = .ok (.putfield 15, 3)) (kk : ∀ (H1 : Heap) (locs1 : List Loc), cJ D S0 H0 (cPi S a 1 x) H1 locs1 → W p l e R s m args below meth c H1 locs1 cells slots Q (F0 m (pc + 3) ls (rest))) : W p l e R s m args below meth c H locs cells slots Q (F0 m pc ls (.int x :: .ref a :: rest)) := c_put (S1 := (cPi S a 1 x)) C X hJ 3 (by decide) ly_3 hk 1 (by decide) (by decide +kernel)  rfl rfl (by decide) rfl rfl (fun j _ => c_vI (by decide +kernel)) c_oPi (mt_at 48 (by decide +kernel) (by decide +kernel)) hdg kk
theorem pk3_19 {x : Int32} (C : cY p R s m args meth c RX3 cc nL nF nC nS nR ret) (X : cX D s) (hJ : cJ D S0 H0 S H locs) (hk : kK S a = 4) (hdg : decode cc pc = .ok (.putfield 19, 3)) (kk : ∀ (H1 : Heap) (locs1 : List Loc), cJ D S0 H0 (cPi S a 2 x) H1 locs1 → W p l e R s m args below meth c H1 locs1 cells slots Q (F0 m (pc + 3) ls (rest))) : W p l e R s m args below meth c H locs cells slots Q (F0 m pc ls (.int x :: .ref a :: rest)) := c_put (S1 := (cPi S a 2 x)) C X hJ 3 (by decide) ly_3 hk 2 (by decide) (by decide +kernel)  rfl rfl (by decide) rfl rfl (fun j _ => c_vI (by decide +kernel)) c_oPi (mt_at 50 (by decide +kernel) (by decide +kernel)) hdg kk
theorem pk3_22 {x : Int32} (C : cY p R s m args meth c RX3 cc nL nF nC nS nR ret) (X : cX D s) (hJ : cJ D S0 H0 S H locs) (hk : kK S a = 4) (hdg : decode cc pc = .ok (.putfield 22, 3)) (kk : ∀ (H1 : Heap) (locs1 : List Loc), cJ D S0 H0 (cPi S a 3 x) H1 locs1 → W p l e R s m args below meth c H1 locs1 cells slots Q (F0 m (pc + 3) ls (rest))) : W p l e R s m args below meth c H locs cells slots Q (F0 m pc ls (.int x :: .ref a :: rest)) := c_put (S1 := (cPi S a 3 x)) C X hJ 3 (by decide) ly_3 hk 3 (by decide) (by decide +kernel)  rfl rfl (by decide) rfl rfl (fun j _ => c_vI (by decide +kernel)) c_oPi (mt_at 52 (by decide +kernel) (by decide +kernel)) hdg kk
theorem pk3_25 {o : Option Nat} (C : cY p R s m args meth c RX3 cc nL nF nC nS nR ret) (hin : meth.name = "<init>") (X : cX D s) (hJ : cJ D S0 H0 S H locs) (hk : kK S a = 4) (hdg : decode cc pc = .ok (.putfield 25, 3)) (kk : ∀ (H1 : Heap) (locs1 : List Loc), cJ D S0 H0 (cPr S a 4 o) H1 locs1 → W p l e R s m args below meth c H1 locs1 cells slots Q (F0 m (pc + 3) ls (rest))) : W p l e R s m args below meth c H locs cells slots Q (F0 m pc ls (va_rf o :: .ref a :: rest)) := c_putF (S1 := (cPr S a 4 o)) C X hJ 3 (by decide) ly_3 hk 4 (by decide) (by decide +kernel) hin rfl nar_ra fit_ra (by decide) rfl rfl (fun j _ => c_vR (by decide +kernel)) c_oPr (mt_at 54 (by decide +kernel) (by decide +kernel)) hdg kk
theorem pk3_28 {o : Option Nat} (C : cY p R s m args meth c RX3 cc nL nF nC nS nR ret) (hin : meth.name = "<init>") (X : cX D s) (hJ : cJ D S0 H0 S H locs) (hk : kK S a = 4) (hdg : decode cc pc = .ok (.putfield 28, 3)) (kk : ∀ (H1 : Heap) (locs1 : List Loc), cJ D S0 H0 (cPr S a 5 o) H1 locs1 → W p l e R s m args below meth c H1 locs1 cells slots Q (F0 m (pc + 3) ls (rest))) : W p l e R s m args below meth c H locs cells slots Q (F0 m pc ls (va_rf o :: .ref a :: rest)) := c_putF (S1 := (cPr S a 5 o)) C X hJ 3 (by decide) ly_3 hk 5 (by decide) (by decide +kernel) hin rfl nar_ra fit_ra (by decide) rfl rfl (fun j _ => c_vR (by decide +kernel)) c_oPr (mt_at 55 (by decide +kernel) (by decide +kernel)) hdg kk
end
section
variable {p : Program} {l : Launch} {e : Env} {R : Room} {s : State} {m : MethodId} {args : Array Value} {below : List Frame} {meth : Method} {c : Code} {D : cG} {S0 S9 : cSt}
noncomputable def fk_3_init (S : cSt) (v0 : Nat) : Option (cSt) :=
lt (kZ S) fun a2 => lt (cNw S 22 40) fun S1 =>
ckk S1 v0 4 (lt (cPr S1 v0 0 (some a2)) fun S3 =>
ckk S3 v0 4 (lt (cPi S3 v0 1 (0 : Int32)) fun S4 =>
ckk S4 v0 4 (lt (cPi S4 v0 2 (0 : Int32)) fun S5 =>
ckk S5 v0 4 (lt (cPi S5 v0 3 (-1 : Int32)) fun S6 =>
lt (kZ S6) fun a8 => lt (cNw S6 22 48) fun S7 =>
ckk S7 v0 4 (lt (cPr S7 v0 4 (some a8)) fun S10 =>
lt (kZ S10) fun a12 => lt (cNw S10 20 8) fun S11 =>
ckk S11 v0 4 (lt (cPr S11 v0 5 (some a12)) fun S13 =>
some S13))))))
set_option maxRecDepth 100000 in
set_option maxHeartbeats 4000000 in
theorem tk_3_init (l : Launch) {D : cG} {S : cSt} {v0 : Nat} {S9 : cSt} (h : fk_3_init S v0 = some S9) : Met l yX3_init (Cond.code yX3_init cX3_init 1 none :: lw_g) { frames := 2, cells := 3, slots := 96, locals := 60 } (kPi [.ref v0] D S) (kW none D S S9) 3 96 (cA S) := by
  refine Met.ofW (cc := cX3_init) (maxL := 1) (ret := none) (by decide) rfl ?_
  intro p e s m args below meth c s₁ B hml hv
  obtain ⟨rfl, hW, X⟩ := hv
  have C : cY p (headSpec (Cond.code yX3_init cX3_init 1 none :: lw_g) { frames := 2, cells := 3, slots := 96, locals := 60 }).room s m _ meth c RX3 cX3_init 1 2 3 96 60 none := ⟨B.exec, B.bytes, hml, findClass_of_methodNamed B.named, fun w hw => atoms_spec (ws := Cond.code yX3_init cX3_init 1 none :: lw_g) B.pre w (List.mem_cons_of_mem _ hw), ⟨Nat.le_refl _, Nat.le_refl _, Nat.le_refl _, Nat.le_refl _⟩, B.returns, B.notSynchronized⟩
  have hin : meth.name = "<init>" := (name_of_methodNamed B.named B.method).1
  have hl := lv_entry ([.ref v0]) (n := 1) (Nat.le_of_ble_eq_true rfl)
  rw [lg_entry_eq]
  generalize (lg_sl ([.ref v0]) ++ List.replicate (1 - (lg_sl ([.ref v0])).length) Slot.unset).toArray = ls at hl ⊢
  have hl : lv_has ls 1 [(0, .ref v0)] := hl
  have hJ : cJ D S s.heap S s.heap [] := cJ.rf hW
  unfold fk_3_init at h
  refine lv_aload_n C.1 C.2.1 dX3_init_0 rfl (lv_at hl 0 rfl) ?_
  refine W.objInit C.1 C.2.1 C.2.2.2.1 (C.2.2.2.2.1 _ oi3) (C.2.2.2.2.1 _ oi_i) (C.2.2.2.2.1 _ oi_c) rfl (by rw [C.2.2.1]; exact hl.1) rfl dX3_init_1 (Nat.le_trans (by decide) C.2.2.2.2.2.1.1) (Nat.le_trans (Nat.le_of_ble_eq_true rfl) C.2.2.2.2.2.1.2.2.2) ?_
  refine W.eq (g2 := F0 m 4 ls []) rfl ?_
  refine lv_aload_n C.1 C.2.1 dX3_init_4 rfl (lv_at hl 0 rfl) ?_
  refine lv_bipush (v := 40) C.1 C.2.1 dX3_init_5 (by decide) ?_
  refine c_newa (N := 40) C hJ 22 (by decide) (by decide) X.2.2.2.1 rfl id rfl ar_22 (by decide) (by decide) (by decide) (by decide) (by decide) dX3_init_7 (fun H hJ => ?_)
  refine lt_ok h (fun a2 e_a2 h => ?_)
  refine lt_ok h (fun S1 e_S1 h => ?_)
  rw [e_S1] at hJ
  rw [e_a2]
  obtain ⟨hk, h⟩ := ckk_ok h
  refine pk3_9 (o := (some a2)) C hin X hJ hk dX3_init_9 (fun H locs hJ => ?_)
  refine lt_ok h (fun S3 e_S3 h => ?_)
  rw [e_S3] at hJ
  refine lv_aload_n C.1 C.2.1 dX3_init_12 rfl (lv_at hl 0 rfl) ?_
  refine lv_iconst (v := 0) C.1 C.2.1 dX3_init_13 (by decide) ?_
  obtain ⟨hk, h⟩ := ckk_ok h
  refine pk3_15 C X hJ hk dX3_init_14 (fun H locs hJ => ?_)
  refine lt_ok h (fun S4 e_S4 h => ?_)
  rw [e_S4] at hJ
  refine lv_aload_n C.1 C.2.1 dX3_init_17 rfl (lv_at hl 0 rfl) ?_
  refine lv_iconst (v := 0) C.1 C.2.1 dX3_init_18 (by decide) ?_
  obtain ⟨hk, h⟩ := ckk_ok h
  refine pk3_19 C X hJ hk dX3_init_19 (fun H locs hJ => ?_)
  refine lt_ok h (fun S5 e_S5 h => ?_)
  rw [e_S5] at hJ
  refine lv_aload_n C.1 C.2.1 dX3_init_22 rfl (lv_at hl 0 rfl) ?_
  refine lv_iconst (v := -1) C.1 C.2.1 dX3_init_23 (by decide) ?_
  obtain ⟨hk, h⟩ := ckk_ok h
  refine pk3_22 C X hJ hk dX3_init_24 (fun H locs hJ => ?_)
  refine lt_ok h (fun S6 e_S6 h => ?_)
  rw [e_S6] at hJ
  refine lv_aload_n C.1 C.2.1 dX3_init_27 rfl (lv_at hl 0 rfl) ?_
  refine lv_bipush (v := 48) C.1 C.2.1 dX3_init_28 (by decide) ?_
  refine c_newa (N := 48) C hJ 22 (by decide) (by decide) X.2.2.2.1 rfl id rfl ar_22 (by decide) (by decide) (by decide) (by decide) (by decide) dX3_init_30 (fun H hJ => ?_)
  refine lt_ok h (fun a8 e_a8 h => ?_)
  refine lt_ok h (fun S7 e_S7 h => ?_)
  rw [e_S7] at hJ
  rw [e_a8]
  obtain ⟨hk, h⟩ := ckk_ok h
  refine pk3_25 (o := (some a8)) C hin X hJ hk dX3_init_32 (fun H locs hJ => ?_)
  refine lt_ok h (fun S10 e_S10 h => ?_)
  rw [e_S10] at hJ
  refine lv_aload_n C.1 C.2.1 dX3_init_35 rfl (lv_at hl 0 rfl) ?_
  refine lv_bipush (v := 8) C.1 C.2.1 dX3_init_36 (by decide) ?_
  refine c_newa (N := 8) C hJ 20 (by decide) (by decide) X.2.1 rfl id rfl ar_20 (by decide) (by decide) (by decide) (by decide) (by decide) dX3_init_38 (fun H hJ => ?_)
  refine lt_ok h (fun a12 e_a12 h => ?_)
  refine lt_ok h (fun S11 e_S11 h => ?_)
  rw [e_S11] at hJ
  rw [e_a12]
  obtain ⟨hk, h⟩ := ckk_ok h
  refine pk3_28 (o := (some a12)) C hin X hJ hk dX3_init_40 (fun H locs hJ => ?_)
  refine lt_ok h (fun S13 e_S13 h => ?_)
  rw [e_S13] at hJ
  cases h
  exact c_retvW C hJ dX3_init_43
end
theorem dX3_byteOf_0 : decode cX3_byteOf 0 = .ok (.lload_n 0, 1) := by decide +kernel
theorem dX3_byteOf_1 : decode cX3_byteOf 1 = .ok (.bipush 8, 2) := by decide +kernel
theorem dX3_byteOf_3 : decode cX3_byteOf 3 = .ok (.iload_n 2, 1) := by decide +kernel
theorem dX3_byteOf_4 : decode cX3_byteOf 4 = .ok (.imul, 1) := by decide +kernel
theorem dX3_byteOf_5 : decode cX3_byteOf 5 = .ok (.lushr, 1) := by decide +kernel
theorem dX3_byteOf_6 : decode cX3_byteOf 6 = .ok (.l2i, 1) := by decide +kernel
theorem dX3_byteOf_7 : decode cX3_byteOf 7 = .ok (.sipush 255, 3) := by decide +kernel
theorem dX3_byteOf_10 : decode cX3_byteOf 10 = .ok (.iand, 1) := by decide +kernel
theorem dX3_byteOf_11 : decode cX3_byteOf 11 = .ok (.ireturn, 1) := by decide +kernel
theorem kd_3_byteOf : Cond.code yX3_byteOf cX3_byteOf 3 (some .int) ∈ lw_g := mt_at 412 (by decide +kernel) rfl
theorem ks_3_byteOf : Cond.static yX3_byteOf ∈ lw_g := mt_at 411 (by decide +kernel) rfl
section
variable {p : Program} {l : Launch} {e : Env} {R : Room} {s : State} {m : MethodId} {args : Array Value} {below : List Frame} {meth : Method} {c : Code} {D : cG} {r : Int32}
noncomputable def fk_3_byteOf (v0 : Int64) (v2 : Int32) : Option (Int32) :=
some ((Int64.toInt32 ((Int64.toUInt64 v0 >>> (Int64.toUInt64 (Int32.toInt64 ((8 : Int32) * v2)) &&& Int64.toUInt64 63)).toInt64)) &&& (255 : Int32))
set_option maxRecDepth 100000 in
set_option maxHeartbeats 4000000 in
theorem tk_3_byteOf (l : Launch) {v0 : Int64} {v2 : Int32} {r : Int32}  (h : fk_3_byteOf v0 v2 = some r) : Met l yX3_byteOf (Cond.code yX3_byteOf cX3_byteOf 3 (some .int) :: lw_g) { frames := 0, cells := 0, slots := 0, locals := 0 } (mPs [.long v0, .int v2]) (kQ (some (.int r))) 0 0 (mNo) := by
  refine Met.ofW (cc := cX3_byteOf) (maxL := 3) (ret := (some .int)) (by decide) rfl ?_
  intro p e s m args below meth c s₁ B hml hv
  obtain rfl := hv
  have C : cY p (headSpec (Cond.code yX3_byteOf cX3_byteOf 3 (some .int) :: lw_g) { frames := 0, cells := 0, slots := 0, locals := 0 }).room s m _ meth c RX3 cX3_byteOf 3 0 0 0 0 (some .int) := ⟨B.exec, B.bytes, hml, findClass_of_methodNamed B.named, fun w hw => atoms_spec (ws := Cond.code yX3_byteOf cX3_byteOf 3 (some .int) :: lw_g) B.pre w (List.mem_cons_of_mem _ hw), ⟨Nat.le_refl _, Nat.le_refl _, Nat.le_refl _, Nat.le_refl _⟩, B.returns, B.notSynchronized⟩
  have hl := lv_entry ([.long v0, .int v2]) (n := 3) (Nat.le_of_ble_eq_true rfl)
  rw [lg_entry_eq]
  generalize (lg_sl ([.long v0, .int v2]) ++ List.replicate (3 - (lg_sl ([.long v0, .int v2])).length) Slot.unset).toArray = ls at hl ⊢
  have hl : lv_has ls 3 [(0, .long v0), (2, .int v2)] := hl
  unfold fk_3_byteOf at h
  refine lv_lload_n C.1 C.2.1 dX3_byteOf_0 rfl (lv_at hl 0 rfl) ?_
  refine lv_bipush (v := 8) C.1 C.2.1 dX3_byteOf_1 (by decide) ?_
  refine lv_iload_n C.1 C.2.1 dX3_byteOf_3 rfl (lv_at hl 1 rfl) ?_
  refine lv_imul C.1 C.2.1 dX3_byteOf_4 ?_
  refine lv_lushr (v := (Int64.toUInt64 v0 >>> (Int64.toUInt64 (Int32.toInt64 ((8 : Int32) * v2)) &&& Int64.toUInt64 63)).toInt64) C.1 C.2.1 dX3_byteOf_5 rfl ?_
  refine lv_l2i (v := Int64.toInt32 ((Int64.toUInt64 v0 >>> (Int64.toUInt64 (Int32.toInt64 ((8 : Int32) * v2)) &&& Int64.toUInt64 63)).toInt64)) C.1 C.2.1 dX3_byteOf_6 rfl ?_
  refine lv_sipush (v := 255) C.1 C.2.1 dX3_byteOf_7 (by decide) ?_
  refine lv_iand C.1 C.2.1 dX3_byteOf_10 ?_
  cases h
  exact c_reti C rfl rfl dX3_byteOf_11
end
theorem dX3_put_0 : decode cX3_put 0 = .ok (.iload_n 3, 1) := by decide +kernel
theorem dX3_put_1 : decode cX3_put 1 = .ok (.iconst 1, 1) := by decide +kernel
theorem dX3_put_2 : decode cX3_put 2 = .ok (.if_icmp .lt 20, 3) := by decide +kernel
theorem dX3_put_5 : decode cX3_put 5 = .ok (.iload_n 3, 1) := by decide +kernel
theorem dX3_put_6 : decode cX3_put 6 = .ok (.bipush 8, 2) := by decide +kernel
theorem dX3_put_8 : decode cX3_put 8 = .ok (.if_icmp .gt 14, 3) := by decide +kernel
theorem dX3_put_11 : decode cX3_put 11 = .ok (.aload_n 0, 1) := by decide +kernel
theorem dX3_put_12 : decode cX3_put 12 = .ok (.getfield 15, 3) := by decide +kernel
theorem dX3_put_15 : decode cX3_put 15 = .ok (.iload_n 3, 1) := by decide +kernel
theorem dX3_put_16 : decode cX3_put 16 = .ok (.iadd, 1) := by decide +kernel
theorem dX3_put_17 : decode cX3_put 17 = .ok (.bipush 40, 2) := by decide +kernel
theorem dX3_put_19 : decode cX3_put 19 = .ok (.if_icmp .le 5, 3) := by decide +kernel
theorem dX3_put_22 : decode cX3_put 22 = .ok (.iconst 0, 1) := by decide +kernel
theorem dX3_put_23 : decode cX3_put 23 = .ok (.ireturn, 1) := by decide +kernel
theorem dX3_put_24 : decode cX3_put 24 = .ok (.iconst 0, 1) := by decide +kernel
theorem dX3_put_25 : decode cX3_put 25 = .ok (.istore 4, 2) := by decide +kernel
theorem dX3_put_27 : decode cX3_put 27 = .ok (.iload 4, 2) := by decide +kernel
theorem dX3_put_29 : decode cX3_put 29 = .ok (.iload_n 3, 1) := by decide +kernel
theorem dX3_put_30 : decode cX3_put 30 = .ok (.if_icmp .ge 33, 3) := by decide +kernel
theorem dX3_put_33 : decode cX3_put 33 = .ok (.lload_n 1, 1) := by decide +kernel
theorem dX3_put_34 : decode cX3_put 34 = .ok (.iload 4, 2) := by decide +kernel
theorem dX3_put_36 : decode cX3_put 36 = .ok (.invokestatic 32, 3) := by decide +kernel
theorem dX3_put_39 : decode cX3_put 39 = .ok (.istore 5, 2) := by decide +kernel
theorem dX3_put_41 : decode cX3_put 41 = .ok (.iload 5, 2) := by decide +kernel
theorem dX3_put_43 : decode cX3_put 43 = .ok (.bipush 32, 2) := by decide +kernel
theorem dX3_put_45 : decode cX3_put 45 = .ok (.if_icmp .lt 10, 3) := by decide +kernel
theorem dX3_put_48 : decode cX3_put 48 = .ok (.iload 5, 2) := by decide +kernel
theorem dX3_put_50 : decode cX3_put 50 = .ok (.bipush 126, 2) := by decide +kernel
theorem dX3_put_52 : decode cX3_put 52 = .ok (.if_icmp .le 5, 3) := by decide +kernel
theorem dX3_put_55 : decode cX3_put 55 = .ok (.iconst 0, 1) := by decide +kernel
theorem dX3_put_56 : decode cX3_put 56 = .ok (.ireturn, 1) := by decide +kernel
theorem dX3_put_57 : decode cX3_put 57 = .ok (.iinc 4 1, 3) := by decide +kernel
theorem dX3_put_60 : decode cX3_put 60 = .ok (.goto (-33), 3) := by decide +kernel
theorem dX3_put_63 : decode cX3_put 63 = .ok (.iload_n 3, 1) := by decide +kernel
theorem dX3_put_64 : decode cX3_put 64 = .ok (.iconst 1, 1) := by decide +kernel
theorem dX3_put_65 : decode cX3_put 65 = .ok (.isub, 1) := by decide +kernel
theorem dX3_put_66 : decode cX3_put 66 = .ok (.istore 4, 2) := by decide +kernel
theorem dX3_put_68 : decode cX3_put 68 = .ok (.iload 4, 2) := by decide +kernel
theorem dX3_put_70 : decode cX3_put 70 = .ok (.ifCond .lt 35, 3) := by decide +kernel
theorem dX3_put_73 : decode cX3_put 73 = .ok (.aload_n 0, 1) := by decide +kernel
theorem dX3_put_74 : decode cX3_put 74 = .ok (.getfield 9, 3) := by decide +kernel
theorem dX3_put_77 : decode cX3_put 77 = .ok (.aload_n 0, 1) := by decide +kernel
theorem dX3_put_78 : decode cX3_put 78 = .ok (.getfield 15, 3) := by decide +kernel
theorem dX3_put_81 : decode cX3_put 81 = .ok (.lload_n 1, 1) := by decide +kernel
theorem dX3_put_82 : decode cX3_put 82 = .ok (.iload 4, 2) := by decide +kernel
theorem dX3_put_84 : decode cX3_put 84 = .ok (.invokestatic 32, 3) := by decide +kernel
theorem dX3_put_87 : decode cX3_put 87 = .ok (.i2c, 1) := by decide +kernel
theorem dX3_put_88 : decode cX3_put 88 = .ok (.castore, 1) := by decide +kernel
theorem dX3_put_89 : decode cX3_put 89 = .ok (.aload_n 0, 1) := by decide +kernel
theorem dX3_put_90 : decode cX3_put 90 = .ok (.dup, 1) := by decide +kernel
theorem dX3_put_91 : decode cX3_put 91 = .ok (.getfield 15, 3) := by decide +kernel
theorem dX3_put_94 : decode cX3_put 94 = .ok (.iconst 1, 1) := by decide +kernel
theorem dX3_put_95 : decode cX3_put 95 = .ok (.iadd, 1) := by decide +kernel
theorem dX3_put_96 : decode cX3_put 96 = .ok (.putfield 15, 3) := by decide +kernel
theorem dX3_put_99 : decode cX3_put 99 = .ok (.iinc 4 (-1), 3) := by decide +kernel
theorem dX3_put_102 : decode cX3_put 102 = .ok (.goto (-34), 3) := by decide +kernel
theorem dX3_put_105 : decode cX3_put 105 = .ok (.iconst 1, 1) := by decide +kernel
theorem dX3_put_106 : decode cX3_put 106 = .ok (.ireturn, 1) := by decide +kernel
theorem kd_3_put : Cond.code yX3_put cX3_put 6 (some .boolean) ∈ lw_g := mt_at 409 (by decide +kernel) rfl
theorem ki_3_put : Cond.instanceMethod yX3_put ∈ lw_g := mt_at 407 (by decide +kernel) rfl
theorem kl_3_put : Cond.selects (kRn 3) yX3_put yX3_put ∈ lw_g := mt_at 408 (by decide +kernel) rfl
theorem cw3_32 : cCw RX3 32 yX3_byteOf cX3_byteOf 3 (some .int) 2 := ⟨kd_3_byteOf, mt_at 410 (by decide +kernel) rfl, mt_at 2 (by decide +kernel) rfl, by decide +kernel⟩
section
variable {p : Program} {l : Launch} {e : Env} {R : Room} {s : State} {m : MethodId} {args : Array Value} {below : List Frame} {meth : Method} {c : Code} {H : Heap} {locs : List Loc} {cells slots : Nat} {Q : State → Prop}
variable {D : cG} {S S0 : cSt} {cc : ByteArray} {nL : Nat} {pc : Nat} {ls : Array Slot} {rest : List Value} {H0 : Heap} {nF nR nC nS : Nat} {ret : Option FieldType} {a : Nat}
theorem gk3_9 (C : cY p R s m args meth c RX3 cc nL nF nC nS nR ret) (X : cX D s) (hW : cW D S H) (hk : kK S a = 4) {x : Nat} (hx : kR S a 0 = some x) (hdg : decode cc pc = .ok (.getfield 9, 3)) (kk : W p l e R s m args below meth c H locs cells slots Q (F0 m (pc + 3) ls (.ref x :: rest))) : W p l e R s m args below meth c H locs cells slots Q (F0 m pc ls (.ref a :: rest)) := c_get C X hW 3 (by decide) ly_3 hk 0 (by decide) (mt_at 46 (by decide +kernel) (by decide +kernel)) hdg (by rw [cV_R (by decide +kernel) hx]; exact kk)
theorem gk3_15 (C : cY p R s m args meth c RX3 cc nL nF nC nS nR ret) (X : cX D s) (hW : cW D S H) (hk : kK S a = 4) (hdg : decode cc pc = .ok (.getfield 15, 3)) (kk : W p l e R s m args below meth c H locs cells slots Q (F0 m (pc + 3) ls (.int (kF S a 1) :: rest))) : W p l e R s m args below meth c H locs cells slots Q (F0 m pc ls (.ref a :: rest)) := c_get C X hW 3 (by decide) ly_3 hk 1 (by decide) (mt_at 48 (by decide +kernel) (by decide +kernel)) hdg (by rw [cV_I (by decide +kernel)]; exact kk)
end
section
variable {p : Program} {l : Launch} {e : Env} {R : Room} {s : State} {m : MethodId} {args : Array Value} {below : List Frame} {meth : Method} {c : Code} {D : cG} {S0 S9 : cSt} {r : Int32}
noncomputable def fk_3_put_22 (S : cSt) : Option (Int32 × cSt) :=
ckz (0 : Int32) (some ((0 : Int32), S))
set_option maxRecDepth 100000 in
set_option maxHeartbeats 4000000 in
theorem wk_3_put_22 (C : cY p R s m args meth c RX3 cX3_put 6 1 0 0 22 (some .boolean)) (X : cX D s) : ∀ {S : cSt} {H : Heap} {locs : List Loc} {ls : Array Slot}, fk_3_put_22 S = some (r, S9) → cJ D S0 s.heap S H locs → lv_has ls 6 [] → W p l e R s m args below meth c H locs 0 0 (MQ below (kW (some (.int r)) D S0 S9) args s 0 0 (cA S0)) (F0 m 22 ls []) := by
  intro S H locs ls h hJ hl
  unfold fk_3_put_22 at h
  refine lv_iconst (v := 0) C.1 C.2.1 dX3_put_22 (by decide) ?_
  obtain ⟨hzo, h⟩ := ckz_ok h
  cases h
  exact c_retnW C (by rcases hzo with h9 | h9 <;> (rw [h9]; rfl)) hJ dX3_put_23
noncomputable def fk_3_put_68 : Nat → cSt → Nat → Int64 → Int32 → Option (Int32 × cSt)
  | 0, _, _, _, _ => none
  | n + 1, S, v0, v1, v4 =>
    if v4 < 0 then (
    ckz (1 : Int32) (some ((1 : Int32), S)))
    else (
    ckk S v0 4 (bd (kR S v0 0) fun a2 =>
    ckk S v0 4 (
    bd (fk_3_byteOf v1 v4) fun r3 =>
    ckk S a2 22 (ck (kF S v0 1) (kL S a2) (ckp (vp_nar .char ((Int32.toUInt32 r3 % 65536).toInt32) = ((Int32.toUInt32 r3 % 65536).toInt32)) (lt (cWi S a2 (Int32.toNatClampNeg (kF S v0 1)) ((Int32.toUInt32 r3 % 65536).toInt32)) fun S4 =>
    ckk S4 v0 4 (
    ckk S4 v0 4 (lt (cPi S4 v0 1 ((kF S4 v0 1) + (1 : Int32))) fun S5 =>
    lt (v4 + (-1 : Int32)) fun x6 =>
    fk_3_put_68 n S5 v0 v1 x6))))))))
set_option maxRecDepth 100000 in
set_option maxHeartbeats 4000000 in
theorem wk_3_put_68 (C : cY p R s m args meth c RX3 cX3_put 6 1 0 0 22 (some .boolean)) (X : cX D s) : ∀ (n : Nat), ∀ {S : cSt} {v0 : Nat} {v1 : Int64} {v4 : Int32} {H : Heap} {locs : List Loc} {ls : Array Slot}, fk_3_put_68 n S v0 v1 v4 = some (r, S9) → cJ D S0 s.heap S H locs → lv_has ls 6 [(0, .ref v0), (1, .long v1), (4, .int v4)] → W p l e R s m args below meth c H locs 0 0 (MQ below (kW (some (.int r)) D S0 S9) args s 0 0 (cA S0)) (F0 m 68 ls []) := by
  intro n
  induction n with
  | zero =>
    intro S v0 v1 v4 H locs ls h hJ hl
    exact absurd (show (none : Option (Int32 × cSt)) = _ from h) (fun q => by cases q)
  | succ n ih =>
    intro S v0 v1 v4 H locs ls h hJ hl
    rw [fk_3_put_68] at h
    refine lv_iload C.1 C.2.1 dX3_put_68 (lv_at hl 2 rfl) ?_
    refine lv_if_lt (tgt := 105) C.1 C.2.1 dX3_put_70 (by decide) (fun c1 => ?_) (fun c1 => ?_)
    · have h := if_t h c1
      refine lv_iconst (v := 1) C.1 C.2.1 dX3_put_105 (by decide) ?_
      obtain ⟨hzo, h⟩ := ckz_ok h
      cases h
      exact c_retnW C (by rcases hzo with h9 | h9 <;> (rw [h9]; rfl)) hJ dX3_put_106
    · have h := if_f h c1
      refine lv_aload_n C.1 C.2.1 dX3_put_73 rfl (lv_at hl 0 rfl) ?_
      obtain ⟨hk, h⟩ := ckk_ok h
      obtain ⟨a2, h_a2, h⟩ := bd_ok h
      refine gk3_9 C X hJ.1 hk h_a2 dX3_put_74 ?_
      refine lv_aload_n C.1 C.2.1 dX3_put_77 rfl (lv_at hl 0 rfl) ?_
      obtain ⟨hk, h⟩ := ckk_ok h
      refine gk3_15 C X hJ.1 hk dX3_put_78 ?_
      refine lv_lload_n C.1 C.2.1 dX3_put_81 rfl (lv_at hl 1 rfl) ?_
      refine lv_iload C.1 C.2.1 dX3_put_82 (lv_at hl 2 rfl) ?_
      obtain ⟨r3, h_r3, h⟩ := bd_ok h
      refine c_callS (rest := [.int (kF S v0 1), .ref a2]) C hl.1 [.long v1, .int v4] (tk_3_byteOf l h_r3) cw3_32 ks_3_byteOf rfl ⟨by decide, by decide⟩ ⟨(by decide), (by decide)⟩ rfl (Nat.le_of_ble_eq_true rfl) dX3_put_84 ?_
      refine W.eq (g2 := F0 m 87 ls [.int r3, .int (kF S v0 1), .ref a2]) rfl ?_
      refine lv_i2c (v := (Int32.toUInt32 r3 % 65536).toInt32) C.1 C.2.1 dX3_put_87 rfl ?_
      obtain ⟨hk, h⟩ := ckk_ok h
      obtain ⟨hin2, h⟩ := ck_ok h
      obtain ⟨hnr, h⟩ := ckp_ok h
      refine c_cast C X hJ hk hnr hin2 dX3_put_88 (fun H locs hJ => ?_)
      refine lt_ok h (fun S4 e_S4 h => ?_)
      rw [e_S4] at hJ
      refine lv_aload_n C.1 C.2.1 dX3_put_89 rfl (lv_at hl 0 rfl) ?_
      refine lv_dup C.1 C.2.1 dX3_put_90 rfl ?_
      obtain ⟨hk, h⟩ := ckk_ok h
      refine gk3_15 C X hJ.1 hk dX3_put_91 ?_
      refine lv_iconst (v := 1) C.1 C.2.1 dX3_put_94 (by decide) ?_
      refine lv_iadd C.1 C.2.1 dX3_put_95 ?_
      obtain ⟨hk, h⟩ := ckk_ok h
      refine pk3_15 C X hJ hk dX3_put_96 (fun H locs hJ => ?_)
      refine lt_ok h (fun S5 e_S5 h => ?_)
      rw [e_S5] at hJ
      refine lt_ok h (fun x6 e_x6 h => ?_)
      refine lv_iinc (v := x6) (lv' := [(4, .int x6), (0, .ref v0), (1, .long v1)]) C.1 C.2.1 dX3_put_99 hl (k := 2) rfl (by rw [← e_x6]; rfl) (by decide) rfl (fun ls hl => ?_)
      refine lv_goto (tgt := 68) C.1 C.2.1 dX3_put_102 (by decide) ?_
      exact ih h hJ (lv_sub hl [1, 2, 0] rfl)
noncomputable def fk_3_put_55 (S : cSt) : Option (Int32 × cSt) :=
ckz (0 : Int32) (some ((0 : Int32), S))
set_option maxRecDepth 100000 in
set_option maxHeartbeats 4000000 in
theorem wk_3_put_55 (C : cY p R s m args meth c RX3 cX3_put 6 1 0 0 22 (some .boolean)) (X : cX D s) : ∀ {S : cSt} {H : Heap} {locs : List Loc} {ls : Array Slot}, fk_3_put_55 S = some (r, S9) → cJ D S0 s.heap S H locs → lv_has ls 6 [] → W p l e R s m args below meth c H locs 0 0 (MQ below (kW (some (.int r)) D S0 S9) args s 0 0 (cA S0)) (F0 m 55 ls []) := by
  intro S H locs ls h hJ hl
  unfold fk_3_put_55 at h
  refine lv_iconst (v := 0) C.1 C.2.1 dX3_put_55 (by decide) ?_
  obtain ⟨hzo, h⟩ := ckz_ok h
  cases h
  exact c_retnW C (by rcases hzo with h9 | h9 <;> (rw [h9]; rfl)) hJ dX3_put_56
noncomputable def fk_3_put_27 : Nat → cSt → Nat → Int64 → Int32 → Int32 → Option (Int32 × cSt)
  | 0, _, _, _, _, _ => none
  | n + 1, S, v0, v1, v3, v4 =>
    if v3 ≤ v4 then (
    lt (v3 - (1 : Int32)) fun x2 =>
    fk_3_put_68 mFU S v0 v1 x2)
    else (
    bd (fk_3_byteOf v1 v4) fun r3 =>
    if r3 < (32 : Int32) then (
    fk_3_put_55 S)
    else (
    if r3 ≤ (126 : Int32) then (
    lt (v4 + (1 : Int32)) fun x6 =>
    fk_3_put_27 n S v0 v1 v3 x6)
    else (
    fk_3_put_55 S)))
set_option maxRecDepth 100000 in
set_option maxHeartbeats 4000000 in
theorem wk_3_put_27 (C : cY p R s m args meth c RX3 cX3_put 6 1 0 0 22 (some .boolean)) (X : cX D s) : ∀ (n : Nat), ∀ {S : cSt} {v0 : Nat} {v1 : Int64} {v3 : Int32} {v4 : Int32} {H : Heap} {locs : List Loc} {ls : Array Slot}, fk_3_put_27 n S v0 v1 v3 v4 = some (r, S9) → cJ D S0 s.heap S H locs → lv_has ls 6 [(0, .ref v0), (1, .long v1), (3, .int v3), (4, .int v4)] → W p l e R s m args below meth c H locs 0 0 (MQ below (kW (some (.int r)) D S0 S9) args s 0 0 (cA S0)) (F0 m 27 ls []) := by
  intro n
  induction n with
  | zero =>
    intro S v0 v1 v3 v4 H locs ls h hJ hl
    exact absurd (show (none : Option (Int32 × cSt)) = _ from h) (fun q => by cases q)
  | succ n ih =>
    intro S v0 v1 v3 v4 H locs ls h hJ hl
    rw [fk_3_put_27] at h
    refine lv_iload C.1 C.2.1 dX3_put_27 (lv_at hl 3 rfl) ?_
    refine lv_iload_n C.1 C.2.1 dX3_put_29 rfl (lv_at hl 2 rfl) ?_
    refine lv_icmp_ge (tgt := 63) C.1 C.2.1 dX3_put_30 (by decide) (fun c1 => ?_) (fun c1 => ?_)
    · have h := if_t h c1
      refine lv_iload_n C.1 C.2.1 dX3_put_63 rfl (lv_at hl 2 rfl) ?_
      refine lv_iconst (v := 1) C.1 C.2.1 dX3_put_64 (by decide) ?_
      refine lv_isub C.1 C.2.1 dX3_put_65 ?_
      refine lt_ok h (fun x2 e_x2 h => ?_)
      refine lv_nm e_x2 ?_
      refine lv_istore (lv' := [(4, .int x2), (0, .ref v0), (1, .long v1), (3, .int v3)]) C.1 C.2.1 dX3_put_66 hl (by decide) rfl (fun ls hl => ?_)
      exact wk_3_put_68 C X mFU h hJ (lv_sub hl [1, 2, 0] rfl)
    · have h := if_f h c1
      refine lv_lload_n C.1 C.2.1 dX3_put_33 rfl (lv_at hl 1 rfl) ?_
      refine lv_iload C.1 C.2.1 dX3_put_34 (lv_at hl 3 rfl) ?_
      obtain ⟨r3, h_r3, h⟩ := bd_ok h
      refine c_callS (rest := []) C hl.1 [.long v1, .int v4] (tk_3_byteOf l h_r3) cw3_32 ks_3_byteOf rfl ⟨by decide, by decide⟩ ⟨(by decide), (by decide)⟩ rfl (Nat.le_of_ble_eq_true rfl) dX3_put_36 ?_
      refine W.eq (g2 := F0 m 39 ls [.int r3]) rfl ?_
      refine lv_istore (lv' := [(5, .int r3), (0, .ref v0), (1, .long v1), (3, .int v3), (4, .int v4)]) C.1 C.2.1 dX3_put_39 hl (by decide) rfl (fun ls hl => ?_)
      refine lv_iload C.1 C.2.1 dX3_put_41 (lv_at hl 0 rfl) ?_
      refine lv_bipush (v := 32) C.1 C.2.1 dX3_put_43 (by decide) ?_
      refine lv_icmp_lt (tgt := 55) C.1 C.2.1 dX3_put_45 (by decide) (fun c4 => ?_) (fun c4 => ?_)
      · have h := if_t h c4
        exact wk_3_put_55 C X h hJ (lv_sub hl [] rfl)
      · have h := if_f h c4
        refine lv_iload C.1 C.2.1 dX3_put_48 (lv_at hl 0 rfl) ?_
        refine lv_bipush (v := 126) C.1 C.2.1 dX3_put_50 (by decide) ?_
        refine lv_icmp_le (tgt := 57) C.1 C.2.1 dX3_put_52 (by decide) (fun c5 => ?_) (fun c5 => ?_)
        · have h := if_t h c5
          refine lt_ok h (fun x6 e_x6 h => ?_)
          refine lv_iinc (v := x6) (lv' := [(4, .int x6), (5, .int r3), (0, .ref v0), (1, .long v1), (3, .int v3)]) C.1 C.2.1 dX3_put_57 hl (k := 4) rfl (by rw [← e_x6]; rfl) (by decide) rfl (fun ls hl => ?_)
          refine lv_goto (tgt := 27) C.1 C.2.1 dX3_put_60 (by decide) ?_
          exact ih h hJ (lv_sub hl [2, 3, 4, 0] rfl)
        · have h := if_f h c5
          exact wk_3_put_55 C X h hJ (lv_sub hl [] rfl)
noncomputable def fk_3_put (S : cSt) (v0 : Nat) (v1 : Int64) (v3 : Int32) : Option (Int32 × cSt) :=
if v3 < (1 : Int32) then (
fk_3_put_22 S)
else (
if (8 : Int32) < v3 then (
fk_3_put_22 S)
else (
ckk S v0 4 (
if ((kF S v0 1) + v3) ≤ (40 : Int32) then (
fk_3_put_27 mFU S v0 v1 v3 (0 : Int32))
else (
fk_3_put_22 S))))
set_option maxRecDepth 100000 in
set_option maxHeartbeats 4000000 in
theorem tk_3_put (l : Launch) {D : cG} {S : cSt} {v0 : Nat} {v1 : Int64} {v3 : Int32} {r : Int32} {S9 : cSt} (h : fk_3_put S v0 v1 v3 = some (r, S9)) : Met l yX3_put (Cond.code yX3_put cX3_put 6 (some .boolean) :: lw_g) { frames := 1, cells := 0, slots := 0, locals := 22 } (kPi [.ref v0, .long v1, .int v3] D S) (kW (some (.int r)) D S S9) 0 0 (cA S) := by
  refine Met.ofW (cc := cX3_put) (maxL := 6) (ret := (some .boolean)) (by decide) rfl ?_
  intro p e s m args below meth c s₁ B hml hv
  obtain ⟨rfl, hW, X⟩ := hv
  have C : cY p (headSpec (Cond.code yX3_put cX3_put 6 (some .boolean) :: lw_g) { frames := 1, cells := 0, slots := 0, locals := 22 }).room s m _ meth c RX3 cX3_put 6 1 0 0 22 (some .boolean) := ⟨B.exec, B.bytes, hml, findClass_of_methodNamed B.named, fun w hw => atoms_spec (ws := Cond.code yX3_put cX3_put 6 (some .boolean) :: lw_g) B.pre w (List.mem_cons_of_mem _ hw), ⟨Nat.le_refl _, Nat.le_refl _, Nat.le_refl _, Nat.le_refl _⟩, B.returns, B.notSynchronized⟩
  have hl := lv_entry ([.ref v0, .long v1, .int v3]) (n := 6) (Nat.le_of_ble_eq_true rfl)
  rw [lg_entry_eq]
  generalize (lg_sl ([.ref v0, .long v1, .int v3]) ++ List.replicate (6 - (lg_sl ([.ref v0, .long v1, .int v3])).length) Slot.unset).toArray = ls at hl ⊢
  have hl : lv_has ls 6 [(0, .ref v0), (1, .long v1), (3, .int v3)] := hl
  have hJ : cJ D S s.heap S s.heap [] := cJ.rf hW
  unfold fk_3_put at h
  refine lv_iload_n C.1 C.2.1 dX3_put_0 rfl (lv_at hl 2 rfl) ?_
  refine lv_iconst (v := 1) C.1 C.2.1 dX3_put_1 (by decide) ?_
  refine lv_icmp_lt (tgt := 22) C.1 C.2.1 dX3_put_2 (by decide) (fun c1 => ?_) (fun c1 => ?_)
  · have h := if_t h c1
    exact wk_3_put_22 C X h hJ (lv_sub hl [] rfl)
  · have h := if_f h c1
    refine lv_iload_n C.1 C.2.1 dX3_put_5 rfl (lv_at hl 2 rfl) ?_
    refine lv_bipush (v := 8) C.1 C.2.1 dX3_put_6 (by decide) ?_
    refine lv_icmp_gt (tgt := 22) C.1 C.2.1 dX3_put_8 (by decide) (fun c2 => ?_) (fun c2 => ?_)
    · have h := if_t h c2
      exact wk_3_put_22 C X h hJ (lv_sub hl [] rfl)
    · have h := if_f h c2
      refine lv_aload_n C.1 C.2.1 dX3_put_11 rfl (lv_at hl 0 rfl) ?_
      obtain ⟨hk, h⟩ := ckk_ok h
      refine gk3_15 C X hJ.1 hk dX3_put_12 ?_
      refine lv_iload_n C.1 C.2.1 dX3_put_15 rfl (lv_at hl 2 rfl) ?_
      refine lv_iadd C.1 C.2.1 dX3_put_16 ?_
      refine lv_bipush (v := 40) C.1 C.2.1 dX3_put_17 (by decide) ?_
      refine lv_icmp_le (tgt := 24) C.1 C.2.1 dX3_put_19 (by decide) (fun c3 => ?_) (fun c3 => ?_)
      · have h := if_t h c3
        refine lv_iconst (v := 0) C.1 C.2.1 dX3_put_24 (by decide) ?_
        refine lv_istore (lv' := [(4, .int (0 : Int32)), (0, .ref v0), (1, .long v1), (3, .int v3)]) C.1 C.2.1 dX3_put_25 hl (by decide) rfl (fun ls hl => ?_)
        exact wk_3_put_27 C X mFU h hJ (lv_sub hl [1, 2, 3, 0] rfl)
      · have h := if_f h c3
        exact wk_3_put_22 C X h hJ (lv_sub hl [] rfl)
end
theorem dX3_takeTape_0 : decode cX3_takeTape 0 = .ok (.aload_n 0, 1) := by decide +kernel
theorem dX3_takeTape_1 : decode cX3_takeTape 1 = .ok (.getfield 15, 3) := by decide +kernel
theorem dX3_takeTape_4 : decode cX3_takeTape 4 = .ok (.istore_n 1, 1) := by decide +kernel
theorem dX3_takeTape_5 : decode cX3_takeTape 5 = .ok (.aload_n 0, 1) := by decide +kernel
theorem dX3_takeTape_6 : decode cX3_takeTape 6 = .ok (.iconst 0, 1) := by decide +kernel
theorem dX3_takeTape_7 : decode cX3_takeTape 7 = .ok (.putfield 15, 3) := by decide +kernel
theorem dX3_takeTape_10 : decode cX3_takeTape 10 = .ok (.iload_n 1, 1) := by decide +kernel
theorem dX3_takeTape_11 : decode cX3_takeTape 11 = .ok (.ireturn, 1) := by decide +kernel
theorem kd_3_takeTape : Cond.code yX3_takeTape cX3_takeTape 2 (some .int) ∈ lw_g := mt_at 1179 (by decide +kernel) rfl
theorem ki_3_takeTape : Cond.instanceMethod yX3_takeTape ∈ lw_g := mt_at 1177 (by decide +kernel) rfl
theorem kl_3_takeTape : Cond.selects (kRn 3) yX3_takeTape yX3_takeTape ∈ lw_g := mt_at 1178 (by decide +kernel) rfl
section
variable {p : Program} {l : Launch} {e : Env} {R : Room} {s : State} {m : MethodId} {args : Array Value} {below : List Frame} {meth : Method} {c : Code} {D : cG} {S0 S9 : cSt} {r : Int32}
noncomputable def fk_3_takeTape (S : cSt) (v0 : Nat) : Option (Int32 × cSt) :=
ckk S v0 4 (
lt (kF S v0 1) fun x1 =>
ckk S v0 4 (lt (cPi S v0 1 (0 : Int32)) fun S2 =>
some (x1, S2)))
set_option maxRecDepth 100000 in
set_option maxHeartbeats 4000000 in
theorem tk_3_takeTape (l : Launch) {D : cG} {S : cSt} {v0 : Nat} {r : Int32} {S9 : cSt} (h : fk_3_takeTape S v0 = some (r, S9)) : Met l yX3_takeTape (Cond.code yX3_takeTape cX3_takeTape 2 (some .int) :: lw_g) { frames := 0, cells := 0, slots := 0, locals := 0 } (kPi [.ref v0] D S) (kW (some (.int r)) D S S9) 0 0 (cA S) := by
  refine Met.ofW (cc := cX3_takeTape) (maxL := 2) (ret := (some .int)) (by decide) rfl ?_
  intro p e s m args below meth c s₁ B hml hv
  obtain ⟨rfl, hW, X⟩ := hv
  have C : cY p (headSpec (Cond.code yX3_takeTape cX3_takeTape 2 (some .int) :: lw_g) { frames := 0, cells := 0, slots := 0, locals := 0 }).room s m _ meth c RX3 cX3_takeTape 2 0 0 0 0 (some .int) := ⟨B.exec, B.bytes, hml, findClass_of_methodNamed B.named, fun w hw => atoms_spec (ws := Cond.code yX3_takeTape cX3_takeTape 2 (some .int) :: lw_g) B.pre w (List.mem_cons_of_mem _ hw), ⟨Nat.le_refl _, Nat.le_refl _, Nat.le_refl _, Nat.le_refl _⟩, B.returns, B.notSynchronized⟩
  have hl := lv_entry ([.ref v0]) (n := 2) (Nat.le_of_ble_eq_true rfl)
  rw [lg_entry_eq]
  generalize (lg_sl ([.ref v0]) ++ List.replicate (2 - (lg_sl ([.ref v0])).length) Slot.unset).toArray = ls at hl ⊢
  have hl : lv_has ls 2 [(0, .ref v0)] := hl
  have hJ : cJ D S s.heap S s.heap [] := cJ.rf hW
  unfold fk_3_takeTape at h
  refine lv_aload_n C.1 C.2.1 dX3_takeTape_0 rfl (lv_at hl 0 rfl) ?_
  obtain ⟨hk, h⟩ := ckk_ok h
  refine gk3_15 C X hJ.1 hk dX3_takeTape_1 ?_
  refine lt_ok h (fun x1 e_x1 h => ?_)
  refine lv_nm e_x1 ?_
  refine lv_istore_n (lv' := [(1, .int x1), (0, .ref v0)]) C.1 C.2.1 dX3_takeTape_4 rfl hl (by decide) rfl (fun ls hl => ?_)
  refine lv_aload_n C.1 C.2.1 dX3_takeTape_5 rfl (lv_at hl 1 rfl) ?_
  refine lv_iconst (v := 0) C.1 C.2.1 dX3_takeTape_6 (by decide) ?_
  obtain ⟨hk, h⟩ := ckk_ok h
  refine pk3_15 C X hJ hk dX3_takeTape_7 (fun H locs hJ => ?_)
  refine lt_ok h (fun S2 e_S2 h => ?_)
  rw [e_S2] at hJ
  refine lv_iload_n C.1 C.2.1 dX3_takeTape_10 rfl (lv_at hl 0 rfl) ?_
  cases h
  exact c_retiW C hJ dX3_takeTape_11
end
theorem dJ0_coder_7d493_0 : decode cJ0_coder_7d493 0 = .ok (.getstatic 38, 3) := by decide +kernel
theorem dJ0_coder_7d493_3 : decode cJ0_coder_7d493 3 = .ok (.ifCond .eq 10, 3) := by decide +kernel
theorem dJ0_coder_7d493_6 : decode cJ0_coder_7d493 6 = .ok (.aload_n 0, 1) := by decide +kernel
theorem dJ0_coder_7d493_7 : decode cJ0_coder_7d493 7 = .ok (.getfield 15, 3) := by decide +kernel
theorem dJ0_coder_7d493_10 : decode cJ0_coder_7d493 10 = .ok (.goto 4, 3) := by decide +kernel
theorem dJ0_coder_7d493_13 : decode cJ0_coder_7d493 13 = .ok (.iconst 1, 1) := by decide +kernel
theorem dJ0_coder_7d493_14 : decode cJ0_coder_7d493 14 = .ok (.ireturn, 1) := by decide +kernel
theorem kd_100_coder_7d493 : Cond.code yJ0_coder_7d493 cJ0_coder_7d493 1 (some .byte) ∈ lw_g := mt_at 835 (by decide +kernel) rfl
theorem ki_100_coder_7d493 : Cond.instanceMethod yJ0_coder_7d493 ∈ lw_g := mt_at 833 (by decide +kernel) rfl
theorem kl_100_coder_7d493 : Cond.selects (kRn 12) yJ0_coder_7d493 yJ0_coder_7d493 ∈ lw_g := mt_at 834 (by decide +kernel) rfl
section
variable {p : Program} {l : Launch} {e : Env} {R : Room} {s : State} {m : MethodId} {args : Array Value} {below : List Frame} {meth : Method} {c : Code} {D : cG} {S : cSt} {r : Int32}
noncomputable def fk_100_coder_7d493_14 (S : cSt) (s0 : Int32) : Option (Int32) :=
ckp (vp_nar .byte s0 = s0) (some s0)
set_option maxRecDepth 100000 in
set_option maxHeartbeats 4000000 in
theorem wk_100_coder_7d493_14 (C : cY p R s m args meth c RJ0 cJ0_coder_7d493 1 0 0 0 0 (some .byte)) (X : cX D s) (hW : cW D S s.heap) : ∀ {s0 : Int32} {ls : Array Slot}, fk_100_coder_7d493_14 S s0 = some r → lv_has ls 1 [] → W p l e R s m args below meth c s.heap [] 0 0 (MQ below (kQ (some (.int r))) args s 0 0 mNo) (F0 m 14 ls [.int s0]) := by
  intro s0 ls h hl
  unfold fk_100_coder_7d493_14 at h
  obtain ⟨hnr, h⟩ := ckp_ok h
  cases h
  exact c_retn C (congrArg Value.int hnr) rfl rfl dJ0_coder_7d493_14
noncomputable def fk_100_coder_7d493 (S : cSt) (v0 : Nat) : Option (Int32) :=
if (1 : Int32) = 0 then (
fk_100_coder_7d493_14 S (1 : Int32))
else (
ckk S v0 13 (
fk_100_coder_7d493_14 S (kF S v0 1)))
set_option maxRecDepth 100000 in
set_option maxHeartbeats 4000000 in
theorem tk_100_coder_7d493 (l : Launch) {D : cG} {S : cSt} {v0 : Nat} {r : Int32}  (h : fk_100_coder_7d493 S v0 = some r) : Met l yJ0_coder_7d493 (Cond.code yJ0_coder_7d493 cJ0_coder_7d493 1 (some .byte) :: lw_g) { frames := 0, cells := 0, slots := 0, locals := 0 } (kPi [.ref v0] D S) (kQ (some (.int r))) 0 0 (mNo) := by
  refine Met.ofW (cc := cJ0_coder_7d493) (maxL := 1) (ret := (some .byte)) (by decide) rfl ?_
  intro p e s m args below meth c s₁ B hml hv
  obtain ⟨rfl, hW, X⟩ := hv
  have C : cY p (headSpec (Cond.code yJ0_coder_7d493 cJ0_coder_7d493 1 (some .byte) :: lw_g) { frames := 0, cells := 0, slots := 0, locals := 0 }).room s m _ meth c RJ0 cJ0_coder_7d493 1 0 0 0 0 (some .byte) := ⟨B.exec, B.bytes, hml, findClass_of_methodNamed B.named, fun w hw => atoms_spec (ws := Cond.code yJ0_coder_7d493 cJ0_coder_7d493 1 (some .byte) :: lw_g) B.pre w (List.mem_cons_of_mem _ hw), ⟨Nat.le_refl _, Nat.le_refl _, Nat.le_refl _, Nat.le_refl _⟩, B.returns, B.notSynchronized⟩
  have hl := lv_entry ([.ref v0]) (n := 1) (Nat.le_of_ble_eq_true rfl)
  rw [lg_entry_eq]
  generalize (lg_sl ([.ref v0]) ++ List.replicate (1 - (lg_sl ([.ref v0])).length) Slot.unset).toArray = ls at hl ⊢
  have hl : lv_has ls 1 [(0, .ref v0)] := hl
  unfold fk_100_coder_7d493 at h
  refine c_gets C X.2.2.2.2.2.2.2.2.2.2.1 hW sg100_38 dJ0_coder_7d493_0 (fun y1 h_y1 => ?_)
  subst h_y1
  refine lv_if_eq (tgt := 13) C.1 C.2.1 dJ0_coder_7d493_3 (by decide) (fun c2 => ?_) (fun c2 => ?_)
  · have h := if_t h c2
    refine lv_iconst (v := 1) C.1 C.2.1 dJ0_coder_7d493_13 (by decide) ?_
    exact wk_100_coder_7d493_14 C X hW h (lv_sub hl [] rfl)
  · have h := if_f h c2
    refine lv_aload_n C.1 C.2.1 dJ0_coder_7d493_6 rfl (lv_at hl 0 rfl) ?_
    obtain ⟨hk, h⟩ := ckk_ok h
    refine gk100_15 C X hW hk dJ0_coder_7d493_7 ?_
    refine lv_goto (tgt := 14) C.1 C.2.1 dJ0_coder_7d493_10 (by decide) ?_
    exact wk_100_coder_7d493_14 C X hW h (lv_sub hl [] rfl)
end
theorem dJ0_length_8abf5_0 : decode cJ0_length_8abf5 0 = .ok (.aload_n 0, 1) := by decide +kernel
theorem dJ0_length_8abf5_1 : decode cJ0_length_8abf5 1 = .ok (.getfield 9, 3) := by decide +kernel
theorem dJ0_length_8abf5_4 : decode cJ0_length_8abf5 4 = .ok (.arraylength, 1) := by decide +kernel
theorem dJ0_length_8abf5_5 : decode cJ0_length_8abf5 5 = .ok (.aload_n 0, 1) := by decide +kernel
theorem dJ0_length_8abf5_6 : decode cJ0_length_8abf5 6 = .ok (.invokevirtual 335, 3) := by decide +kernel
theorem dJ0_length_8abf5_9 : decode cJ0_length_8abf5 9 = .ok (.ishr, 1) := by decide +kernel
theorem dJ0_length_8abf5_10 : decode cJ0_length_8abf5 10 = .ok (.ireturn, 1) := by decide +kernel
theorem kd_100_length_8abf5 : Cond.code yJ0_length_8abf5 cJ0_length_8abf5 1 (some .int) ∈ lw_g := mt_at 831 (by decide +kernel) rfl
theorem ki_100_length_8abf5 : Cond.instanceMethod yJ0_length_8abf5 ∈ lw_g := mt_at 829 (by decide +kernel) rfl
theorem kl_100_length_8abf5 : Cond.selects (kRn 12) yJ0_length_8abf5 yJ0_length_8abf5 ∈ lw_g := mt_at 830 (by decide +kernel) rfl
theorem cw100_335 : cCw RJ0 335 yJ0_coder_7d493 cJ0_coder_7d493 1 (some .byte) 0 := ⟨kd_100_coder_7d493, mt_at 832 (by decide +kernel) rfl, mt_at 13 (by decide +kernel) rfl, by decide +kernel⟩
section
variable {p : Program} {l : Launch} {e : Env} {R : Room} {s : State} {m : MethodId} {args : Array Value} {below : List Frame} {meth : Method} {c : Code} {D : cG} {S : cSt} {r : Int32}
noncomputable def fk_100_length_8abf5 (S : cSt) (v0 : Nat) : Option (Int32) :=
ckk S v0 13 (bd (kR S v0 0) fun a1 =>
ckk S a1 23 (
ckk S v0 13 (bd (fk_100_coder_7d493 S v0) fun r2 =>
some ((Int32.ofNat (kL S a1)) >>> (r2 &&& 31)))))
set_option maxRecDepth 100000 in
set_option maxHeartbeats 4000000 in
theorem tk_100_length_8abf5 (l : Launch) {D : cG} {S : cSt} {v0 : Nat} {r : Int32}  (h : fk_100_length_8abf5 S v0 = some r) : Met l yJ0_length_8abf5 (Cond.code yJ0_length_8abf5 cJ0_length_8abf5 1 (some .int) :: lw_g) { frames := 1, cells := 0, slots := 0, locals := 20 } (kPi [.ref v0] D S) (kQ (some (.int r))) 0 0 (mNo) := by
  refine Met.ofW (cc := cJ0_length_8abf5) (maxL := 1) (ret := (some .int)) (by decide) rfl ?_
  intro p e s m args below meth c s₁ B hml hv
  obtain ⟨rfl, hW, X⟩ := hv
  have C : cY p (headSpec (Cond.code yJ0_length_8abf5 cJ0_length_8abf5 1 (some .int) :: lw_g) { frames := 1, cells := 0, slots := 0, locals := 20 }).room s m _ meth c RJ0 cJ0_length_8abf5 1 1 0 0 20 (some .int) := ⟨B.exec, B.bytes, hml, findClass_of_methodNamed B.named, fun w hw => atoms_spec (ws := Cond.code yJ0_length_8abf5 cJ0_length_8abf5 1 (some .int) :: lw_g) B.pre w (List.mem_cons_of_mem _ hw), ⟨Nat.le_refl _, Nat.le_refl _, Nat.le_refl _, Nat.le_refl _⟩, B.returns, B.notSynchronized⟩
  have hl := lv_entry ([.ref v0]) (n := 1) (Nat.le_of_ble_eq_true rfl)
  rw [lg_entry_eq]
  generalize (lg_sl ([.ref v0]) ++ List.replicate (1 - (lg_sl ([.ref v0])).length) Slot.unset).toArray = ls at hl ⊢
  have hl : lv_has ls 1 [(0, .ref v0)] := hl
  unfold fk_100_length_8abf5 at h
  refine lv_aload_n C.1 C.2.1 dJ0_length_8abf5_0 rfl (lv_at hl 0 rfl) ?_
  obtain ⟨hk, h⟩ := ckk_ok h
  obtain ⟨a1, h_a1, h⟩ := bd_ok h
  refine gk100_9 C X hW hk h_a1 dJ0_length_8abf5_1 ?_
  obtain ⟨hk, h⟩ := ckk_ok h
  refine c_lens C X hW hk dJ0_length_8abf5_4 ?_
  refine lv_aload_n C.1 C.2.1 dJ0_length_8abf5_5 rfl (lv_at hl 0 rfl) ?_
  obtain ⟨hk, h⟩ := ckk_ok h
  obtain ⟨r2, h_r2, h⟩ := bd_ok h
  refine c_callR (rest := [.int (Int32.ofNat (kL S a1))]) C X hW hl.1 12 (by decide) hk [] (tk_100_coder_7d493 l h_r2) cw100_335 ki_100_coder_7d493 kl_100_coder_7d493 rfl ⟨by decide, by decide⟩ ⟨(by decide), (by decide)⟩ rfl (Nat.le_of_ble_eq_true rfl) dJ0_length_8abf5_6 ?_
  refine W.eq (g2 := F0 m 9 ls [.int r2, .int (Int32.ofNat (kL S a1))]) rfl ?_
  refine lv_ishr C.1 C.2.1 dJ0_length_8abf5_9 ?_
  cases h
  exact c_reti C rfl rfl dJ0_length_8abf5_10
end
theorem dJ1_canEncode_9a6ad_0 : decode cJ1_canEncode_9a6ad 0 = .ok (.iload_n 0, 1) := by decide +kernel
theorem dJ1_canEncode_9a6ad_1 : decode cJ1_canEncode_9a6ad 1 = .ok (.ifCond .lt 14, 3) := by decide +kernel
theorem dJ1_canEncode_9a6ad_4 : decode cJ1_canEncode_9a6ad 4 = .ok (.iload_n 0, 1) := by decide +kernel
theorem dJ1_canEncode_9a6ad_5 : decode cJ1_canEncode_9a6ad 5 = .ok (.sipush 255, 3) := by decide +kernel
theorem dJ1_canEncode_9a6ad_8 : decode cJ1_canEncode_9a6ad 8 = .ok (.if_icmp .gt 7, 3) := by decide +kernel
theorem dJ1_canEncode_9a6ad_11 : decode cJ1_canEncode_9a6ad 11 = .ok (.iconst 1, 1) := by decide +kernel
theorem dJ1_canEncode_9a6ad_12 : decode cJ1_canEncode_9a6ad 12 = .ok (.goto 4, 3) := by decide +kernel
theorem dJ1_canEncode_9a6ad_15 : decode cJ1_canEncode_9a6ad 15 = .ok (.iconst 0, 1) := by decide +kernel
theorem dJ1_canEncode_9a6ad_16 : decode cJ1_canEncode_9a6ad 16 = .ok (.ireturn, 1) := by decide +kernel
theorem kd_101_canEncode_9a6ad : Cond.code yJ1_canEncode_9a6ad cJ1_canEncode_9a6ad 1 (some .boolean) ∈ lw_g := mt_at 1586 (by decide +kernel) rfl
theorem ks_101_canEncode_9a6ad : Cond.static yJ1_canEncode_9a6ad ∈ lw_g := mt_at 1585 (by decide +kernel) rfl
section
variable {p : Program} {l : Launch} {e : Env} {R : Room} {s : State} {m : MethodId} {args : Array Value} {below : List Frame} {meth : Method} {c : Code} {D : cG} {r : Int32}
noncomputable def fk_101_canEncode_9a6ad_16 (s0 : Int32) : Option (Int32) :=
ckz s0 (some s0)
set_option maxRecDepth 100000 in
set_option maxHeartbeats 4000000 in
theorem wk_101_canEncode_9a6ad_16 (C : cY p R s m args meth c RJ1 cJ1_canEncode_9a6ad 1 0 0 0 0 (some .boolean)) : ∀ {s0 : Int32} {ls : Array Slot}, fk_101_canEncode_9a6ad_16 s0 = some r → lv_has ls 1 [] → W p l e R s m args below meth c s.heap [] 0 0 (MQ below (kQ (some (.int r))) args s 0 0 mNo) (F0 m 16 ls [.int s0]) := by
  intro s0 ls h hl
  unfold fk_101_canEncode_9a6ad_16 at h
  obtain ⟨hzo, h⟩ := ckz_ok h
  cases h
  exact c_retn C (by rcases hzo with h9 | h9 <;> (rw [h9]; rfl)) rfl rfl dJ1_canEncode_9a6ad_16
noncomputable def fk_101_canEncode_9a6ad_15 : Option (Int32) :=
fk_101_canEncode_9a6ad_16 (0 : Int32)
set_option maxRecDepth 100000 in
set_option maxHeartbeats 4000000 in
theorem wk_101_canEncode_9a6ad_15 (C : cY p R s m args meth c RJ1 cJ1_canEncode_9a6ad 1 0 0 0 0 (some .boolean)) : ∀ {ls : Array Slot}, fk_101_canEncode_9a6ad_15 = some r → lv_has ls 1 [] → W p l e R s m args below meth c s.heap [] 0 0 (MQ below (kQ (some (.int r))) args s 0 0 mNo) (F0 m 15 ls []) := by
  intro ls h hl
  unfold fk_101_canEncode_9a6ad_15 at h
  refine lv_iconst (v := 0) C.1 C.2.1 dJ1_canEncode_9a6ad_15 (by decide) ?_
  exact wk_101_canEncode_9a6ad_16 C h (lv_sub hl [] rfl)
noncomputable def fk_101_canEncode_9a6ad (v0 : Int32) : Option (Int32) :=
if v0 < 0 then (
fk_101_canEncode_9a6ad_15)
else (
if (255 : Int32) < v0 then (
fk_101_canEncode_9a6ad_15)
else (
fk_101_canEncode_9a6ad_16 (1 : Int32)))
set_option maxRecDepth 100000 in
set_option maxHeartbeats 4000000 in
theorem tk_101_canEncode_9a6ad (l : Launch) {v0 : Int32} {r : Int32}  (h : fk_101_canEncode_9a6ad v0 = some r) : Met l yJ1_canEncode_9a6ad (Cond.code yJ1_canEncode_9a6ad cJ1_canEncode_9a6ad 1 (some .boolean) :: lw_g) { frames := 0, cells := 0, slots := 0, locals := 0 } (mPs [.int v0]) (kQ (some (.int r))) 0 0 (mNo) := by
  refine Met.ofW (cc := cJ1_canEncode_9a6ad) (maxL := 1) (ret := (some .boolean)) (by decide) rfl ?_
  intro p e s m args below meth c s₁ B hml hv
  obtain rfl := hv
  have C : cY p (headSpec (Cond.code yJ1_canEncode_9a6ad cJ1_canEncode_9a6ad 1 (some .boolean) :: lw_g) { frames := 0, cells := 0, slots := 0, locals := 0 }).room s m _ meth c RJ1 cJ1_canEncode_9a6ad 1 0 0 0 0 (some .boolean) := ⟨B.exec, B.bytes, hml, findClass_of_methodNamed B.named, fun w hw => atoms_spec (ws := Cond.code yJ1_canEncode_9a6ad cJ1_canEncode_9a6ad 1 (some .boolean) :: lw_g) B.pre w (List.mem_cons_of_mem _ hw), ⟨Nat.le_refl _, Nat.le_refl _, Nat.le_refl _, Nat.le_refl _⟩, B.returns, B.notSynchronized⟩
  have hl := lv_entry ([.int v0]) (n := 1) (Nat.le_of_ble_eq_true rfl)
  rw [lg_entry_eq]
  generalize (lg_sl ([.int v0]) ++ List.replicate (1 - (lg_sl ([.int v0])).length) Slot.unset).toArray = ls at hl ⊢
  have hl : lv_has ls 1 [(0, .int v0)] := hl
  unfold fk_101_canEncode_9a6ad at h
  refine lv_iload_n C.1 C.2.1 dJ1_canEncode_9a6ad_0 rfl (lv_at hl 0 rfl) ?_
  refine lv_if_lt (tgt := 15) C.1 C.2.1 dJ1_canEncode_9a6ad_1 (by decide) (fun c1 => ?_) (fun c1 => ?_)
  · have h := if_t h c1
    exact wk_101_canEncode_9a6ad_15 C h (lv_sub hl [] rfl)
  · have h := if_f h c1
    refine lv_iload_n C.1 C.2.1 dJ1_canEncode_9a6ad_4 rfl (lv_at hl 0 rfl) ?_
    refine lv_sipush (v := 255) C.1 C.2.1 dJ1_canEncode_9a6ad_5 (by decide) ?_
    refine lv_icmp_gt (tgt := 15) C.1 C.2.1 dJ1_canEncode_9a6ad_8 (by decide) (fun c2 => ?_) (fun c2 => ?_)
    · have h := if_t h c2
      exact wk_101_canEncode_9a6ad_15 C h (lv_sub hl [] rfl)
    · have h := if_f h c2
      refine lv_iconst (v := 1) C.1 C.2.1 dJ1_canEncode_9a6ad_11 (by decide) ?_
      refine lv_goto (tgt := 16) C.1 C.2.1 dJ1_canEncode_9a6ad_12 (by decide) ?_
      exact wk_101_canEncode_9a6ad_16 C h (lv_sub hl [] rfl)
end
theorem dJ1_indexOfChar_4cfef_0 : decode cJ1_indexOfChar_4cfef 0 = .ok (.iload_n 1, 1) := by decide +kernel
theorem dJ1_indexOfChar_4cfef_1 : decode cJ1_indexOfChar_4cfef 1 = .ok (.i2b, 1) := by decide +kernel
theorem dJ1_indexOfChar_4cfef_2 : decode cJ1_indexOfChar_4cfef 2 = .ok (.istore 4, 2) := by decide +kernel
theorem dJ1_indexOfChar_4cfef_4 : decode cJ1_indexOfChar_4cfef 4 = .ok (.iload_n 2, 1) := by decide +kernel
theorem dJ1_indexOfChar_4cfef_5 : decode cJ1_indexOfChar_4cfef 5 = .ok (.istore 5, 2) := by decide +kernel
theorem dJ1_indexOfChar_4cfef_7 : decode cJ1_indexOfChar_4cfef 7 = .ok (.iload 5, 2) := by decide +kernel
theorem dJ1_indexOfChar_4cfef_9 : decode cJ1_indexOfChar_4cfef 9 = .ok (.iload_n 3, 1) := by decide +kernel
theorem dJ1_indexOfChar_4cfef_10 : decode cJ1_indexOfChar_4cfef 10 = .ok (.if_icmp .ge 21, 3) := by decide +kernel
theorem dJ1_indexOfChar_4cfef_13 : decode cJ1_indexOfChar_4cfef 13 = .ok (.aload_n 0, 1) := by decide +kernel
theorem dJ1_indexOfChar_4cfef_14 : decode cJ1_indexOfChar_4cfef 14 = .ok (.iload 5, 2) := by decide +kernel
theorem dJ1_indexOfChar_4cfef_16 : decode cJ1_indexOfChar_4cfef 16 = .ok (.baload, 1) := by decide +kernel
theorem dJ1_indexOfChar_4cfef_17 : decode cJ1_indexOfChar_4cfef 17 = .ok (.iload 4, 2) := by decide +kernel
theorem dJ1_indexOfChar_4cfef_19 : decode cJ1_indexOfChar_4cfef 19 = .ok (.if_icmp .ne 6, 3) := by decide +kernel
theorem dJ1_indexOfChar_4cfef_22 : decode cJ1_indexOfChar_4cfef 22 = .ok (.iload 5, 2) := by decide +kernel
theorem dJ1_indexOfChar_4cfef_24 : decode cJ1_indexOfChar_4cfef 24 = .ok (.ireturn, 1) := by decide +kernel
theorem dJ1_indexOfChar_4cfef_25 : decode cJ1_indexOfChar_4cfef 25 = .ok (.iinc 5 1, 3) := by decide +kernel
theorem dJ1_indexOfChar_4cfef_28 : decode cJ1_indexOfChar_4cfef 28 = .ok (.goto (-21), 3) := by decide +kernel
theorem dJ1_indexOfChar_4cfef_31 : decode cJ1_indexOfChar_4cfef 31 = .ok (.iconst (-1), 1) := by decide +kernel
theorem dJ1_indexOfChar_4cfef_32 : decode cJ1_indexOfChar_4cfef 32 = .ok (.ireturn, 1) := by decide +kernel
theorem kd_101_indexOfChar_4cfef : Cond.code yJ1_indexOfChar_4cfef cJ1_indexOfChar_4cfef 6 (some .int) ∈ lw_g := mt_at 1591 (by decide +kernel) rfl
theorem ks_101_indexOfChar_4cfef : Cond.static yJ1_indexOfChar_4cfef ∈ lw_g := mt_at 1590 (by decide +kernel) rfl
section
variable {p : Program} {l : Launch} {e : Env} {R : Room} {s : State} {m : MethodId} {args : Array Value} {below : List Frame} {meth : Method} {c : Code} {D : cG} {S : cSt} {r : Int32}
noncomputable def fk_101_indexOfChar_4cfef_7 (S : cSt) : Nat → Nat → Int32 → Int32 → Int32 → Option (Int32)
  | 0, _, _, _, _ => none
  | n + 1, v0, v3, v4, v5 =>
    if v3 ≤ v5 then (
    some (-1 : Int32))
    else (
    ckk S v0 23 (ck v5 (kL S v0) (
    if (kI S v0 (Int32.toNatClampNeg v5)) = v4 then (
    some v5)
    else (
    lt (v5 + (1 : Int32)) fun x3 =>
    fk_101_indexOfChar_4cfef_7 S n v0 v3 v4 x3))))
set_option maxRecDepth 100000 in
set_option maxHeartbeats 4000000 in
theorem wk_101_indexOfChar_4cfef_7 (C : cY p R s m args meth c RJ1 cJ1_indexOfChar_4cfef 6 0 0 0 0 (some .int)) (X : cX D s) (hW : cW D S s.heap) : ∀ (n : Nat), ∀ {v0 : Nat} {v3 : Int32} {v4 : Int32} {v5 : Int32} {ls : Array Slot}, fk_101_indexOfChar_4cfef_7 S n v0 v3 v4 v5 = some r → lv_has ls 6 [(0, .ref v0), (3, .int v3), (4, .int v4), (5, .int v5)] → W p l e R s m args below meth c s.heap [] 0 0 (MQ below (kQ (some (.int r))) args s 0 0 mNo) (F0 m 7 ls []) := by
  intro n
  induction n with
  | zero =>
    intro v0 v3 v4 v5 ls h hl
    exact absurd (show (none : Option (Int32)) = _ from h) (fun q => by cases q)
  | succ n ih =>
    intro v0 v3 v4 v5 ls h hl
    rw [fk_101_indexOfChar_4cfef_7] at h
    refine lv_iload C.1 C.2.1 dJ1_indexOfChar_4cfef_7 (lv_at hl 3 rfl) ?_
    refine lv_iload_n C.1 C.2.1 dJ1_indexOfChar_4cfef_9 rfl (lv_at hl 1 rfl) ?_
    refine lv_icmp_ge (tgt := 31) C.1 C.2.1 dJ1_indexOfChar_4cfef_10 (by decide) (fun c1 => ?_) (fun c1 => ?_)
    · have h := if_t h c1
      refine lv_iconst (v := -1) C.1 C.2.1 dJ1_indexOfChar_4cfef_31 (by decide) ?_
      cases h
      exact c_reti C rfl rfl dJ1_indexOfChar_4cfef_32
    · have h := if_f h c1
      refine lv_aload_n C.1 C.2.1 dJ1_indexOfChar_4cfef_13 rfl (lv_at hl 0 rfl) ?_
      refine lv_iload C.1 C.2.1 dJ1_indexOfChar_4cfef_14 (lv_at hl 3 rfl) ?_
      obtain ⟨hk, h⟩ := ckk_ok h
      obtain ⟨hin2, h⟩ := ck_ok h
      refine c_sald C X hW hk hin2 dJ1_indexOfChar_4cfef_16 ?_
      refine lv_iload C.1 C.2.1 dJ1_indexOfChar_4cfef_17 (lv_at hl 2 rfl) ?_
      refine lv_icmp_ne (tgt := 25) C.1 C.2.1 dJ1_indexOfChar_4cfef_19 (by decide) (fun c2 => ?_) (fun c2 => ?_)
      · have h := if_f h c2
        refine lt_ok h (fun x3 e_x3 h => ?_)
        refine lv_iinc (v := x3) (lv' := [(5, .int x3), (0, .ref v0), (3, .int v3), (4, .int v4)]) C.1 C.2.1 dJ1_indexOfChar_4cfef_25 hl (k := 3) rfl (by rw [← e_x3]; rfl) (by decide) rfl (fun ls hl => ?_)
        refine lv_goto (tgt := 7) C.1 C.2.1 dJ1_indexOfChar_4cfef_28 (by decide) ?_
        exact ih h (lv_sub hl [1, 2, 3, 0] rfl)
      · have h := if_t h c2
        refine lv_iload C.1 C.2.1 dJ1_indexOfChar_4cfef_22 (lv_at hl 3 rfl) ?_
        cases h
        exact c_reti C rfl rfl dJ1_indexOfChar_4cfef_24
noncomputable def fk_101_indexOfChar_4cfef (S : cSt) (v0 : Nat) (v1 : Int32) (v2 : Int32) (v3 : Int32) : Option (Int32) :=
lt (v1.toInt8.toInt32) fun x1 =>
fk_101_indexOfChar_4cfef_7 S mFU v0 v3 x1 v2
set_option maxRecDepth 100000 in
set_option maxHeartbeats 4000000 in
theorem tk_101_indexOfChar_4cfef (l : Launch) {D : cG} {S : cSt} {v0 : Nat} {v1 : Int32} {v2 : Int32} {v3 : Int32} {r : Int32}  (h : fk_101_indexOfChar_4cfef S v0 v1 v2 v3 = some r) : Met l yJ1_indexOfChar_4cfef (Cond.code yJ1_indexOfChar_4cfef cJ1_indexOfChar_4cfef 6 (some .int) :: lw_g) { frames := 0, cells := 0, slots := 0, locals := 0 } (kPi [.ref v0, .int v1, .int v2, .int v3] D S) (kQ (some (.int r))) 0 0 (mNo) := by
  refine Met.ofW (cc := cJ1_indexOfChar_4cfef) (maxL := 6) (ret := (some .int)) (by decide) rfl ?_
  intro p e s m args below meth c s₁ B hml hv
  obtain ⟨rfl, hW, X⟩ := hv
  have C : cY p (headSpec (Cond.code yJ1_indexOfChar_4cfef cJ1_indexOfChar_4cfef 6 (some .int) :: lw_g) { frames := 0, cells := 0, slots := 0, locals := 0 }).room s m _ meth c RJ1 cJ1_indexOfChar_4cfef 6 0 0 0 0 (some .int) := ⟨B.exec, B.bytes, hml, findClass_of_methodNamed B.named, fun w hw => atoms_spec (ws := Cond.code yJ1_indexOfChar_4cfef cJ1_indexOfChar_4cfef 6 (some .int) :: lw_g) B.pre w (List.mem_cons_of_mem _ hw), ⟨Nat.le_refl _, Nat.le_refl _, Nat.le_refl _, Nat.le_refl _⟩, B.returns, B.notSynchronized⟩
  have hl := lv_entry ([.ref v0, .int v1, .int v2, .int v3]) (n := 6) (Nat.le_of_ble_eq_true rfl)
  rw [lg_entry_eq]
  generalize (lg_sl ([.ref v0, .int v1, .int v2, .int v3]) ++ List.replicate (6 - (lg_sl ([.ref v0, .int v1, .int v2, .int v3])).length) Slot.unset).toArray = ls at hl ⊢
  have hl : lv_has ls 6 [(0, .ref v0), (1, .int v1), (2, .int v2), (3, .int v3)] := hl
  unfold fk_101_indexOfChar_4cfef at h
  refine lv_iload_n C.1 C.2.1 dJ1_indexOfChar_4cfef_0 rfl (lv_at hl 1 rfl) ?_
  refine lv_i2b (v := v1.toInt8.toInt32) C.1 C.2.1 dJ1_indexOfChar_4cfef_1 rfl ?_
  refine lt_ok h (fun x1 e_x1 h => ?_)
  refine lv_nm e_x1 ?_
  refine lv_istore (lv' := [(4, .int x1), (0, .ref v0), (1, .int v1), (2, .int v2), (3, .int v3)]) C.1 C.2.1 dJ1_indexOfChar_4cfef_2 hl (by decide) rfl (fun ls hl => ?_)
  refine lv_iload_n C.1 C.2.1 dJ1_indexOfChar_4cfef_4 rfl (lv_at hl 3 rfl) ?_
  refine lv_istore (lv' := [(5, .int v2), (4, .int x1), (0, .ref v0), (1, .int v1), (2, .int v2), (3, .int v3)]) C.1 C.2.1 dJ1_indexOfChar_4cfef_5 hl (by decide) rfl (fun ls hl => ?_)
  exact wk_101_indexOfChar_4cfef_7 C X hW mFU h (lv_sub hl [2, 5, 1, 0] rfl)
end
theorem dJ1_indexOf_4cfef_0 : decode cJ1_indexOf_4cfef 0 = .ok (.iload_n 1, 1) := by decide +kernel
theorem dJ1_indexOf_4cfef_1 : decode cJ1_indexOf_4cfef 1 = .ok (.invokestatic 88, 3) := by decide +kernel
theorem dJ1_indexOf_4cfef_4 : decode cJ1_indexOf_4cfef 4 = .ok (.ifCond .ne 5, 3) := by decide +kernel
theorem dJ1_indexOf_4cfef_7 : decode cJ1_indexOf_4cfef 7 = .ok (.iconst (-1), 1) := by decide +kernel
theorem dJ1_indexOf_4cfef_8 : decode cJ1_indexOf_4cfef 8 = .ok (.ireturn, 1) := by decide +kernel
theorem dJ1_indexOf_4cfef_9 : decode cJ1_indexOf_4cfef 9 = .ok (.iload_n 2, 1) := by decide +kernel
theorem dJ1_indexOf_4cfef_10 : decode cJ1_indexOf_4cfef 10 = .ok (.iconst 0, 1) := by decide +kernel
theorem dJ1_indexOf_4cfef_11 : decode cJ1_indexOf_4cfef 11 = .ok (.invokestatic 92, 3) := by decide +kernel
theorem dJ1_indexOf_4cfef_14 : decode cJ1_indexOf_4cfef 14 = .ok (.istore_n 2, 1) := by decide +kernel
theorem dJ1_indexOf_4cfef_15 : decode cJ1_indexOf_4cfef 15 = .ok (.iload_n 3, 1) := by decide +kernel
theorem dJ1_indexOf_4cfef_16 : decode cJ1_indexOf_4cfef 16 = .ok (.aload_n 0, 1) := by decide +kernel
theorem dJ1_indexOf_4cfef_17 : decode cJ1_indexOf_4cfef 17 = .ok (.arraylength, 1) := by decide +kernel
theorem dJ1_indexOf_4cfef_18 : decode cJ1_indexOf_4cfef 18 = .ok (.invokestatic 38, 3) := by decide +kernel
theorem dJ1_indexOf_4cfef_21 : decode cJ1_indexOf_4cfef 21 = .ok (.istore_n 3, 1) := by decide +kernel
theorem dJ1_indexOf_4cfef_22 : decode cJ1_indexOf_4cfef 22 = .ok (.iload_n 2, 1) := by decide +kernel
theorem dJ1_indexOf_4cfef_23 : decode cJ1_indexOf_4cfef 23 = .ok (.iload_n 3, 1) := by decide +kernel
theorem dJ1_indexOf_4cfef_24 : decode cJ1_indexOf_4cfef 24 = .ok (.if_icmp .lt 5, 3) := by decide +kernel
theorem dJ1_indexOf_4cfef_27 : decode cJ1_indexOf_4cfef 27 = .ok (.iconst (-1), 1) := by decide +kernel
theorem dJ1_indexOf_4cfef_28 : decode cJ1_indexOf_4cfef 28 = .ok (.ireturn, 1) := by decide +kernel
theorem dJ1_indexOf_4cfef_29 : decode cJ1_indexOf_4cfef 29 = .ok (.aload_n 0, 1) := by decide +kernel
theorem dJ1_indexOf_4cfef_30 : decode cJ1_indexOf_4cfef 30 = .ok (.iload_n 1, 1) := by decide +kernel
theorem dJ1_indexOf_4cfef_31 : decode cJ1_indexOf_4cfef 31 = .ok (.iload_n 2, 1) := by decide +kernel
theorem dJ1_indexOf_4cfef_32 : decode cJ1_indexOf_4cfef 32 = .ok (.iload_n 3, 1) := by decide +kernel
theorem dJ1_indexOf_4cfef_33 : decode cJ1_indexOf_4cfef 33 = .ok (.invokestatic 95, 3) := by decide +kernel
theorem dJ1_indexOf_4cfef_36 : decode cJ1_indexOf_4cfef 36 = .ok (.ireturn, 1) := by decide +kernel
theorem kd_101_indexOf_4cfef : Cond.code yJ1_indexOf_4cfef cJ1_indexOf_4cfef 4 (some .int) ∈ lw_g := mt_at 1583 (by decide +kernel) rfl
theorem ks_101_indexOf_4cfef : Cond.static yJ1_indexOf_4cfef ∈ lw_g := mt_at 1582 (by decide +kernel) rfl
theorem mm101_38 : Cond.methodLink RJ1 38 Lib.Math.min.name ∈ lw_g := mt_at 1588 (by decide +kernel) rfl
theorem mm101_92 : Cond.methodLink RJ1 92 Lib.Math.max.name ∈ lw_g := mt_at 1587 (by decide +kernel) rfl
theorem cw101_88 : cCw RJ1 88 yJ1_canEncode_9a6ad cJ1_canEncode_9a6ad 1 (some .boolean) 1 := ⟨kd_101_canEncode_9a6ad, mt_at 1584 (by decide +kernel) rfl, mt_at 14 (by decide +kernel) rfl, by decide +kernel⟩
theorem cw101_95 : cCw RJ1 95 yJ1_indexOfChar_4cfef cJ1_indexOfChar_4cfef 6 (some .int) 4 := ⟨kd_101_indexOfChar_4cfef, mt_at 1589 (by decide +kernel) rfl, mt_at 14 (by decide +kernel) rfl, by decide +kernel⟩
section
variable {p : Program} {l : Launch} {e : Env} {R : Room} {s : State} {m : MethodId} {args : Array Value} {below : List Frame} {meth : Method} {c : Code} {D : cG} {S : cSt} {r : Int32}
noncomputable def fk_101_indexOf_4cfef (S : cSt) (v0 : Nat) (v1 : Int32) (v2 : Int32) (v3 : Int32) : Option (Int32) :=
bd (fk_101_canEncode_9a6ad v1) fun r1 =>
if r1 = 0 then (
some (-1 : Int32))
else (
lt (if v2 < (0 : Int32) then (0 : Int32) else v2) fun x3 =>
ckk S v0 23 (
lt (if (Int32.ofNat (kL S v0)) < v3 then (Int32.ofNat (kL S v0)) else v3) fun x4 =>
if x3 < x4 then (
bd (fk_101_indexOfChar_4cfef S v0 v1 x3 x4) fun r6 =>
some r6)
else (
some (-1 : Int32))))
set_option maxRecDepth 100000 in
set_option maxHeartbeats 4000000 in
theorem tk_101_indexOf_4cfef (l : Launch) {D : cG} {S : cSt} {v0 : Nat} {v1 : Int32} {v2 : Int32} {v3 : Int32} {r : Int32}  (h : fk_101_indexOf_4cfef S v0 v1 v2 v3 = some r) : Met l yJ1_indexOf_4cfef (Cond.code yJ1_indexOf_4cfef cJ1_indexOf_4cfef 4 (some .int) :: lw_g) { frames := 2, cells := 0, slots := 0, locals := 60 } (kPi [.ref v0, .int v1, .int v2, .int v3] D S) (kQ (some (.int r))) 0 0 (mNo) := by
  refine Met.ofW (cc := cJ1_indexOf_4cfef) (maxL := 4) (ret := (some .int)) (by decide) rfl ?_
  intro p e s m args below meth c s₁ B hml hv
  obtain ⟨rfl, hW, X⟩ := hv
  have C : cY p (headSpec (Cond.code yJ1_indexOf_4cfef cJ1_indexOf_4cfef 4 (some .int) :: lw_g) { frames := 2, cells := 0, slots := 0, locals := 60 }).room s m _ meth c RJ1 cJ1_indexOf_4cfef 4 2 0 0 60 (some .int) := ⟨B.exec, B.bytes, hml, findClass_of_methodNamed B.named, fun w hw => atoms_spec (ws := Cond.code yJ1_indexOf_4cfef cJ1_indexOf_4cfef 4 (some .int) :: lw_g) B.pre w (List.mem_cons_of_mem _ hw), ⟨Nat.le_refl _, Nat.le_refl _, Nat.le_refl _, Nat.le_refl _⟩, B.returns, B.notSynchronized⟩
  have hl := lv_entry ([.ref v0, .int v1, .int v2, .int v3]) (n := 4) (Nat.le_of_ble_eq_true rfl)
  rw [lg_entry_eq]
  generalize (lg_sl ([.ref v0, .int v1, .int v2, .int v3]) ++ List.replicate (4 - (lg_sl ([.ref v0, .int v1, .int v2, .int v3])).length) Slot.unset).toArray = ls at hl ⊢
  have hl : lv_has ls 4 [(0, .ref v0), (1, .int v1), (2, .int v2), (3, .int v3)] := hl
  unfold fk_101_indexOf_4cfef at h
  refine lv_iload_n C.1 C.2.1 dJ1_indexOf_4cfef_0 rfl (lv_at hl 1 rfl) ?_
  obtain ⟨r1, h_r1, h⟩ := bd_ok h
  refine c_callS (rest := []) C hl.1 [.int v1] (tk_101_canEncode_9a6ad l h_r1) cw101_88 ks_101_canEncode_9a6ad rfl ⟨by decide, by decide⟩ ⟨(by decide), (by decide)⟩ rfl (Nat.le_of_ble_eq_true rfl) dJ1_indexOf_4cfef_1 ?_
  refine W.eq (g2 := F0 m 4 ls [.int r1]) rfl ?_
  refine lv_if_ne (tgt := 9) C.1 C.2.1 dJ1_indexOf_4cfef_4 (by decide) (fun c2 => ?_) (fun c2 => ?_)
  · have h := if_f h c2
    refine lv_iload_n C.1 C.2.1 dJ1_indexOf_4cfef_9 rfl (lv_at hl 2 rfl) ?_
    refine lv_iconst (v := 0) C.1 C.2.1 dJ1_indexOf_4cfef_10 (by decide) ?_
    refine va_mmax (rest := []) C.1 C.2.1 (C.2.2.1.trans hl.1.symm) (own := RJ1) C.2.2.2.1 (C.2.2.2.2.1 _ mm101_92) (C.2.2.2.2.1 _ mmax_s) (C.2.2.2.2.1 _ ma_i) (C.2.2.2.2.1 _ mmax_c) (Nat.le_trans (by decide) C.2.2.2.2.2.1.1) (Nat.le_trans (Nat.le_of_ble_eq_true rfl) C.2.2.2.2.2.1.2.2.2) (Nat.le_trans (by decide) C.2.2.2.2.2.1.2.1) (Nat.le_trans (by decide) C.2.2.2.2.2.1.2.2.1) dJ1_indexOf_4cfef_11 ?_
    refine lt_ok h (fun x3 e_x3 h => ?_)
    refine lv_nm e_x3 ?_
    refine lv_istore_n (lv' := [(2, .int x3), (0, .ref v0), (1, .int v1), (3, .int v3)]) C.1 C.2.1 dJ1_indexOf_4cfef_14 rfl hl (by decide) rfl (fun ls hl => ?_)
    refine lv_iload_n C.1 C.2.1 dJ1_indexOf_4cfef_15 rfl (lv_at hl 3 rfl) ?_
    refine lv_aload_n C.1 C.2.1 dJ1_indexOf_4cfef_16 rfl (lv_at hl 1 rfl) ?_
    obtain ⟨hk, h⟩ := ckk_ok h
    refine c_lens C X hW hk dJ1_indexOf_4cfef_17 ?_
    refine va_mmin (rest := []) C.1 C.2.1 (C.2.2.1.trans hl.1.symm) (own := RJ1) C.2.2.2.1 (C.2.2.2.2.1 _ mm101_38) (C.2.2.2.2.1 _ mmin_s) (C.2.2.2.2.1 _ ma_i) (C.2.2.2.2.1 _ mmin_c) (Nat.le_trans (by decide) C.2.2.2.2.2.1.1) (Nat.le_trans (Nat.le_of_ble_eq_true rfl) C.2.2.2.2.2.1.2.2.2) (Nat.le_trans (by decide) C.2.2.2.2.2.1.2.1) (Nat.le_trans (by decide) C.2.2.2.2.2.1.2.2.1) dJ1_indexOf_4cfef_18 ?_
    refine lt_ok h (fun x4 e_x4 h => ?_)
    refine lv_nm e_x4 ?_
    refine lv_istore_n (lv' := [(3, .int x4), (2, .int x3), (0, .ref v0), (1, .int v1)]) C.1 C.2.1 dJ1_indexOf_4cfef_21 rfl hl (by decide) rfl (fun ls hl => ?_)
    refine lv_iload_n C.1 C.2.1 dJ1_indexOf_4cfef_22 rfl (lv_at hl 1 rfl) ?_
    refine lv_iload_n C.1 C.2.1 dJ1_indexOf_4cfef_23 rfl (lv_at hl 0 rfl) ?_
    refine lv_icmp_lt (tgt := 29) C.1 C.2.1 dJ1_indexOf_4cfef_24 (by decide) (fun c5 => ?_) (fun c5 => ?_)
    · have h := if_t h c5
      refine lv_aload_n C.1 C.2.1 dJ1_indexOf_4cfef_29 rfl (lv_at hl 2 rfl) ?_
      refine lv_iload_n C.1 C.2.1 dJ1_indexOf_4cfef_30 rfl (lv_at hl 3 rfl) ?_
      refine lv_iload_n C.1 C.2.1 dJ1_indexOf_4cfef_31 rfl (lv_at hl 1 rfl) ?_
      refine lv_iload_n C.1 C.2.1 dJ1_indexOf_4cfef_32 rfl (lv_at hl 0 rfl) ?_
      obtain ⟨r6, h_r6, h⟩ := bd_ok h
      refine c_callSR (rest := []) C X hW hl.1 [.ref v0, .int v1, .int x3, .int x4] (tk_101_indexOfChar_4cfef l h_r6) cw101_95 ks_101_indexOfChar_4cfef rfl ⟨by decide, by decide⟩ ⟨(by decide), (by decide)⟩ rfl (Nat.le_of_ble_eq_true rfl) dJ1_indexOf_4cfef_33 ?_
      refine W.eq (g2 := F0 m 36 ls [.int r6]) rfl ?_
      cases h
      exact c_reti C rfl rfl dJ1_indexOf_4cfef_36
    · have h := if_f h c5
      refine lv_iconst (v := -1) C.1 C.2.1 dJ1_indexOf_4cfef_27 (by decide) ?_
      cases h
      exact c_reti C rfl rfl dJ1_indexOf_4cfef_28
  · have h := if_t h c2
    refine lv_iconst (v := -1) C.1 C.2.1 dJ1_indexOf_4cfef_7 (by decide) ?_
    cases h
    exact c_reti C rfl rfl dJ1_indexOf_4cfef_8
end
