-- part 120: the class writes a frame
theorem i8_255 (v : Int32) : (v &&& 255).toInt8 = v.toInt8 := by
  rw [Int32.toInt8_and, show (255 : Int32).toInt8 = -1 from by decide, Int8.and_neg_one]
theorem u8_255 (v : Int32) : v.toInt8.toInt32 &&& 255 = v &&& 255 := by
  apply Int32.toBitVec_inj.mp
  rw [Int32.toBitVec_and, Int32.toBitVec_and, Int8.toBitVec_toInt32, Int32.toBitVec_toInt8]
  apply BitVec.eq_of_getLsbD_eq
  intro i hi
  have b : ∀ i : Fin 32, (255 : Int32).toBitVec.getLsbD i.1 = decide (i.1 < 8) := by decide
  rw [BitVec.getLsbD_and, BitVec.getLsbD_and, b ⟨i, hi⟩]
  by_cases c : i < 8
  · rw [BitVec.getLsbD_signExtend, BitVec.getLsbD_signExtend]
    simp [c, hi]
  · rw [decide_eq_false c]; simp
theorem shl8 (v : Int32) : v <<< ((8 : Int32) &&& 31) = 256 * v := by
  apply Int32.toBitVec_inj.mp
  rw [Int32.toBitVec_shiftLeft, Int32.toBitVec_mul]
  have e1 : ((8 : Int32) &&& 31).toBitVec.smod 32#32 = 8#32 := by decide
  have f1 : v.toBitVec <<< (((8 : Int32) &&& 31).toBitVec.smod 32#32) = v.toBitVec <<< 8#32 := by rw [e1]
  refine f1.trans ?_
  apply BitVec.eq_of_toNat_eq
  rw [BitVec.shiftLeft_eq', BitVec.toNat_shiftLeft, BitVec.toNat_mul, Nat.shiftLeft_eq, show (8#32).toNat = 8 from rfl, show (256 : Int32).toBitVec.toNat = 256 from by decide, Nat.mul_comm]
theorem shl1 (v : Int32) : v <<< ((1 : Int32) &&& 31) = 2 * v := by
  apply Int32.toBitVec_inj.mp
  rw [Int32.toBitVec_shiftLeft, Int32.toBitVec_mul]
  have e1 : ((1 : Int32) &&& 31).toBitVec.smod 32#32 = 1#32 := by decide
  have f1 : v.toBitVec <<< (((1 : Int32) &&& 31).toBitVec.smod 32#32) = v.toBitVec <<< 1#32 := by rw [e1]
  refine f1.trans ?_
  apply BitVec.eq_of_toNat_eq
  rw [BitVec.shiftLeft_eq', BitVec.toNat_shiftLeft, BitVec.toNat_mul, Nat.shiftLeft_eq, show (1#32).toNat = 1 from rfl, show (2 : Int32).toBitVec.toNat = 2 from by decide, Nat.mul_comm]
theorem and255 (v : Int32) : (v &&& 255) &&& 255 = v &&& 255 := by
  rw [Int32.and_assoc]; rfl
theorem nar8 (v : Int32) : vp_nar .byte (v.toInt8.toInt32) = v.toInt8.toInt32 := by
  show (v.toInt8.toInt32).toInt8.toInt32 = v.toInt8.toInt32
  rw [Int8.toInt8_toInt32]
/-- what the class has written up to now into the cell wa of the frame f -/
def pB (S0 S : cSt) (f wa : Nat) (X : List Int32) : Prop := cEq (fun a => a = f ∨ a = wa) S0 S ∧ kR S f = kR S0 f ∧ (∀ k, k ≠ 7 → kF S f k = kF S0 f k) ∧ kF S f 7 = Int32.ofNat X.length ∧ (∀ i (h : i < X.length), kI S wa i = X[i].toInt8.toInt32) ∧ ∀ x ∈ X, x &&& 255 = x
def pF (S0 : cSt) (f wa : Nat) : Prop := kK S0 f = 3 ∧ kR S0 f 9 = some wa ∧ kK S0 wa = 21 ∧ kL S0 wa = 560 ∧ f ≠ wa
section W
variable {S0 S : cSt} {M : mSt} {f wa : Nat} {X : List Int32} {sl ch : Nat → Int32}
theorem k_putByte (h0 : pF S0 f wa) (h : pB S0 S f wa X) (hl : X.length < 560) (v : Int32) : ∃ S', fk_2_putByte S f v = some S' ∧ pB S0 S' f wa (X ++ [v &&& 255]) := by
  obtain ⟨f1, f2, f3, f4, f5⟩ := h0
  obtain ⟨e, hR, hF, h7, hI, hb⟩ := h
  have k3 : kK S f = 3 := by rw [e.1]; exact f1
  have k9 : kR S f 9 = some wa := by rw [hR]; exact f2
  have kw : kK S wa = 21 := by rw [e.1]; exact f3
  have lw : kL S wa = 560 := by rw [e.2.1]; exact f4
  unfold fk_2_putByte fk_2_putByte_31
  rw [ckk_y k3, h7, if_neg (jK 560 560 rfl hl (by decide)), ckk_y k3, k9, bd_s, ckk_y k3, ckk_y kw, lw, ck_n hl (by omega), ckp_y (nar8 v), lt_d, jI_cl (by omega)]
  have k3' : kK (cWi S wa X.length (v.toInt8.toInt32)) f = 3 := k3
  have h7' : kF (cWi S wa X.length (v.toInt8.toInt32)) f 7 = Int32.ofNat X.length := h7
  rw [ckk_y k3', ckk_y k3', h7', lt_d]
  refine ⟨_, rfl, cEq_trans (cEq_trans e (by rw [cWi_sI]; exact cEq_sI _ (Or.inr rfl))) (cEq_cPi _ (Or.inl rfl)), hR, fun k hk => ?_, ?_, fun i hi => ?_, fun x hx => ?_⟩
  · rw [kF_cPo _ _ (fun q => hk q.2)]; exact hF k hk
  · rw [kF_cPi, List.length_append, List.length_singleton]; exact jI_add _ 1
  · show kI (cWi S wa X.length (v.toInt8.toInt32)) wa i = _
    rw [kI_cWi]
    rw [List.length_append, List.length_singleton] at hi
    by_cases c : i = X.length
    · subst c
      rw [upd_s, List.getElem_append_right (Nat.le_refl _)]
      simp only [Nat.sub_self, List.getElem_cons_zero]
      rw [i8_255]
    · rw [upd_o _ _ c, hI i (by omega), List.getElem_append_left (by omega)]
  · rcases List.mem_append.mp hx with hx | hx
    · exact hb x hx
    · rw [List.mem_singleton.mp hx]; exact and255 v
theorem k_put11 (h0 : pF S0 f wa) : ∀ (n c fu q : Nat) (z : Int64) (v : Int32) (S : cSt) (X : List Int32), c + n = 4 → n < fu → n < q → zR z v → z.toInt < 16 * 128 ^ n → pB S0 S f wa X → X.length + (n + 1) ≤ 560 → ∃ S', fk_2_putNumber_11 fu S f v (Int32.ofNat c) = some S' ∧ pB S0 S' f wa (X ++ nbL q z) := by
  intro n
  induction n with
  | zero =>
    intro c fu q z v S X hc hf hq hz hlt h hl
    obtain ⟨fu, rfl⟩ : ∃ q, fu = q + 1 := ⟨fu - 1, by omega⟩
    obtain ⟨q, rfl⟩ : ∃ x, q = x + 1 := ⟨q - 1, by omega⟩
    have e4 : c = 4 := by omega
    subst e4
    obtain ⟨S', s1, s2⟩ := k_putByte h0 h (by omega) v
    have hg : lg_cmp z 127 ≤ 0 := lg_le (by have : z.toInt < 16 := by simpa using hlt
                                            omega)
    have k3 : kK S f = 3 := by rw [h.1.1]; exact h0.1
    rw [fk_2_putNumber_11, if_pos (show (4 : Int32) ≤ Int32.ofNat 4 by decide)]
    unfold fk_2_putNumber_46
    rw [ckk_y k3, s1, bd_s, nbL, if_pos hg, zR_32 hz]
    exact ⟨S', rfl, s2⟩
  | succ n ih =>
    intro c fu q z v S X hc hf hq hz hlt h hl
    obtain ⟨fu, rfl⟩ : ∃ q, fu = q + 1 := ⟨fu - 1, by omega⟩
    obtain ⟨q, rfl⟩ : ∃ x, q = x + 1 := ⟨q - 1, by omega⟩
    have k3 : kK S f = 3 := by rw [h.1.1]; exact h0.1
    have es : (Int32.toUInt32 v >>> (Int32.toUInt32 (7 : Int32) &&& Int32.toUInt32 31)).toInt32 = shr7 v := rfl
    rw [fk_2_putNumber_11, if_neg (jK 4 4 rfl (by omega) (by decide)), es, nbL]
    by_cases c1 : shr7 v = 0
    · obtain ⟨S', s1, s2⟩ := k_putByte h0 h (by omega) v
      unfold fk_2_putNumber_46
      rw [if_pos c1, ckk_y k3, s1, bd_s, if_pos ((zR_lg hz).mpr c1), zR_32 hz]
      exact ⟨S', rfl, s2⟩
    · obtain ⟨S', s1, s2⟩ := k_putByte h0 h (by omega) ((v &&& (127 : Int32)) ||| (128 : Int32))
      have e : (z >>> (Int32.toInt64 7 &&& 63)).toInt = z.toInt / 128 := sh7 z
      obtain ⟨S2, t1, t2⟩ := ih (c + 1) fu q _ _ S' _ (by omega) (by omega) (by omega) (zR_sh hz) (by rw [e]; rw [Int.pow_succ] at hlt; omega) s2 (by rw [List.length_append, List.length_singleton]; omega)
      rw [if_neg c1, ckk_y k3, s1, bd_s, lt_d, lt_d, show Int32.ofNat c + 1 = Int32.ofNat (c + 1) from jI_add _ 1, t1, if_neg (fun q => c1 ((zR_lg hz).mp q)), Int64.toInt32_and, zR_32 hz, show (127 : Int64).toInt32 = 127 from by decide]
      rw [List.append_assoc] at t2
      exact ⟨S2, rfl, t2⟩
theorem k_putNumber (h0 : pF S0 f wa) (h : pB S0 S f wa X) (hl : X.length + 5 ≤ 560) (v : Int32) : ∃ S', fk_2_putNumber S f v = some S' ∧ pB S0 S' f wa (X ++ numL v) := by
  have hz := num_z v
  have p5 : (16 : Int) * 128 ^ 4 = 4294967296 := by decide
  obtain ⟨S', s1, s2⟩ := k_put11 h0 4 0 mFU 10 _ _ S X rfl (by decide) (by decide) (zz v) (by rw [p5]; exact hz.2) h (by omega)
  unfold fk_2_putNumber
  rw [lt_d]
  exact ⟨S', s1, s2⟩
theorem k_putNumbers (h0 : pF S0 f wa) {b a c N : Nat} (hb : b ≠ f ∧ b ≠ wa) (kb : kK S0 b = 20) (lb : kL S0 b = N) (hN : N < 1000) (hac : a + c ≤ N) (hl : X.length + 5 * c ≤ 560) (h : pB S0 S f wa X) : ∃ S', fk_2_putNumbers S f b (Int32.ofNat a) (Int32.ofNat c) = some S' ∧ pB S0 S' f wa (X ++ (List.range c).flatMap (fun q => numL (kI S0 b (a + q)))) := by
  have loop : ∀ (j i fu : Nat) (T : cSt), i + j = c → j < fu → pB S0 T f wa (X ++ (List.range i).flatMap (fun q => numL (kI S0 b (a + q)))) → ∃ S', fk_2_putNumbers_3 fu T f b (Int32.ofNat a) (Int32.ofNat c) (Int32.ofNat (a + i)) = some S' ∧ pB S0 S' f wa (X ++ (List.range c).flatMap (fun q => numL (kI S0 b (a + q)))) := by
    intro j
    induction j with
    | zero =>
      intro i fu T hi hf hT
      obtain ⟨fu, rfl⟩ : ∃ q, fu = q + 1 := ⟨fu - 1, by omega⟩
      have e : i = c := by omega
      subst e
      rw [fk_2_putNumbers_3, jI_add, if_pos (Int32.le_refl _)]
      exact ⟨T, rfl, hT⟩
    | succ j ih =>
      intro i fu T hi hf hT
      obtain ⟨fu, rfl⟩ : ∃ q, fu = q + 1 := ⟨fu - 1, by omega⟩
      have hfl := fm_le (f := fun q => numL (kI S0 b (a + q))) (b := 5) (List.range i) (fun x _ => num_len _)
      rw [List.length_range] at hfl
      obtain ⟨U, u1, u2⟩ := k_putNumber h0 hT (by rw [List.length_append]; omega) (kI S0 b (a + i))
      have k3 : kK T f = 3 := by rw [hT.1.1]; exact h0.1
      have zb := hT.1.2.2.2.2 b (by omega)
      rw [fk_2_putNumbers_3, jI_add, if_neg (fun q => absurd ((jI_le (by omega) (by omega)).mp q) (by omega)), ckk_y (by rw [hT.1.1]; exact kb), hT.1.2.1, lb, ck_n (by omega) (by omega), ckk_y k3, jI_cl (by omega), zb.2.2.1, u1, bd_s, lt_d, show Int32.ofNat (a + i) + 1 = Int32.ofNat (a + (i + 1)) from jI_add _ 1]
      refine ih (i + 1) fu U (by omega) (by omega) ?_
      rw [rgS, ← List.append_assoc]; exact u2
  unfold fk_2_putNumbers
  exact loop c 0 mFU S (by omega) (Nat.lt_of_le_of_lt (show c ≤ 1000 by omega) (by decide)) (by rw [List.range_zero, List.flatMap_nil, List.append_nil]; exact h)
theorem k_putRow (h0 : pF S0 f wa) {r a : Nat} (ha : a ≠ f ∧ a ≠ wa ∧ a ≠ f + 1 ∧ a ≠ wa + 1) (hr : cRow M sl ch S0 r a) (hl : X.length + 56 ≤ 560) (h : pB S0 S f wa X) : ∃ S', fk_2_putRow S f a = some S' ∧ pB S0 S' f wa (X ++ rowL M r) := by
  have n1 := num_len (Int32.ofNat (rM r))
  have n2 := num_len (M.2 10 r)
  have n3 := num_len (M.2 11 r)
  have n4 := num_len (M.2 12 r)
  have n5 := num_len (M.2 13 r)
  have n6 := num_len (M.2 14 r)
  have n7 := num_len (M.2 15 r)
  obtain ⟨k9, ⟨r0, r2, r3, r4, r5, r8, r9⟩, ⟨r6, r7, r11, r12⟩, -, -, va, va1, va2, va3, va4, va5⟩ := hr
  have kk : ∀ {T : cSt} {Y : List Int32}, pB S0 T f wa Y → kK T a = 9 ∧ kK T f = 3 ∧ kF T a = kF S0 a ∧ kR T a = kR S0 a := fun hT => ⟨by rw [hT.1.1]; exact k9, by rw [hT.1.1]; exact h0.1, (hT.1.2.2.2.2 a (by omega)).1, (hT.1.2.2.2.2 a (by omega)).2.1⟩
  obtain ⟨B1, b1, p1⟩ := k_putByte h0 h (by omega) ((32 : Int32) * Int32.ofNat (rN r) + M.2 9 r)
  obtain ⟨B2, b2, p2⟩ := k_putNumber h0 p1 (by simp only [List.length_append, List.length_singleton]; omega) (Int32.ofNat (rM r))
  obtain ⟨B3, b3, p3⟩ := k_putNumber h0 p2 (by simp only [List.length_append, List.length_singleton]; omega) (M.2 10 r)
  obtain ⟨B4, b4, p4⟩ := k_putNumber h0 p3 (by simp only [List.length_append, List.length_singleton]; omega) (M.2 11 r)
  obtain ⟨B5, b5, p5⟩ := k_putNumber h0 p4 (by simp only [List.length_append, List.length_singleton]; omega) (M.2 12 r)
  obtain ⟨B6, b6, p6⟩ := k_putNumber h0 p5 (by simp only [List.length_append, List.length_singleton]; omega) (M.2 13 r)
  obtain ⟨B7, b7, p7⟩ := k_putNumber h0 p6 (by simp only [List.length_append, List.length_singleton]; omega) (M.2 14 r)
  obtain ⟨B8, b8, p8⟩ := k_putNumber h0 p7 (by simp only [List.length_append, List.length_singleton]; omega) (M.2 15 r)
  obtain ⟨B9, b9, p9⟩ := k_putNumbers (b := va) (a := 0) (c := 4) h0 (by omega) va3 va4 (by decide) (by decide) (by simp only [List.length_append, List.length_singleton]; omega) p8
  have b9' : fk_2_putNumbers B8 f va (0 : Int32) (4 : Int32) = some B9 := b9
  unfold fk_2_putRow
  rw [ckk_y (kk h).1, ckk_y (kk h).1, ckk_y (kk h).2.1, (kk h).2.2.1, r6, r0, b1, bd_s, ckk_y (kk p1).1, ckk_y (kk p1).2.1, (kk p1).2.2.1, r7, b2, bd_s, ckk_y (kk p2).1, ckk_y (kk p2).2.1, (kk p2).2.2.1, r2, b3, bd_s, ckk_y (kk p3).1, ckk_y (kk p3).2.1, (kk p3).2.2.1, r3, b4, bd_s, ckk_y (kk p4).1, ckk_y (kk p4).2.1, (kk p4).2.2.1, r4, b5, bd_s, ckk_y (kk p5).1, ckk_y (kk p5).2.1, (kk p5).2.2.1, r5, b6, bd_s, ckk_y (kk p6).1, ckk_y (kk p6).2.1, (kk p6).2.2.1, r8, b7, bd_s, ckk_y (kk p7).1, ckk_y (kk p7).2.1, (kk p7).2.2.1, r9, b8, bd_s, ckk_y (kk p8).1, (kk p8).2.2.2, va2, bd_s, ckk_y (kk p8).2.1, b9', bd_s]
  refine ⟨B9, rfl, ?_⟩
  have hv : (List.range 4).flatMap (fun q => numL (kI S0 va (0 + q))) = (List.range 4).flatMap (fun q => numL (M.2 16 (4 * r + q))) := by
    refine flatMap_cg (fun q hq => ?_)
    rw [Nat.zero_add, va5 q (List.mem_range.mp hq)]
  rw [hv] at p9
  unfold rowL
  simp only [List.append_assoc] at p9 ⊢
  exact p9
theorem k_crc8 {g : Nat → Int32 → Int32 → Option Int32} (v4 : Int32) (S : cSt) (f : Nat) : ∀ (j i fu : Nat) (c : Int32), i + j = 8 → j < fu → fk_2_checkOf_31 g S fu f c v4 (Int32.ofNat i) = g f (rpt j c) (v4 + 1) := by
  intro j
  induction j with
  | zero =>
    intro i fu c hi hf
    obtain ⟨fu, rfl⟩ : ∃ q, fu = q + 1 := ⟨fu - 1, by omega⟩
    have e : i = 8 := by omega
    subst e
    rw [fk_2_checkOf_31, if_pos (show (8 : Int32) ≤ Int32.ofNat 8 by decide), lt_d]; rfl
  | succ j ih =>
    intro i fu c hi hf
    obtain ⟨fu, rfl⟩ : ∃ q, fu = q + 1 := ⟨fu - 1, by omega⟩
    have rep : ∀ (j : Nat) (c : Int32), rpt (j + 1) c = rpt j (crc1 c) := fun _ _ => rfl
    rw [fk_2_checkOf_31, if_neg (jK 8 8 rfl (by omega) (by decide)), lt_d, shl1]
    unfold fk_2_checkOf_52
    rw [lt_d, show Int32.ofNat i + 1 = Int32.ofNat (i + 1) from jI_add _ 1, rep]
    by_cases c1 : (2 : Int32) * c ≤ 65535
    · rw [if_pos c1, ih (i + 1) fu _ (by omega) (by omega)]
      unfold crc1; rw [if_pos c1]
    · rw [if_neg c1, lt_d, lt_d, ih (i + 1) fu _ (by omega) (by omega)]
      unfold crc1; rw [if_neg c1]
theorem k_crc (h0 : pF S0 f wa) (h : pB S0 S f wa X) (hX : X.length ≤ 560) : fk_2_checkOf S f = some (crcL X) := by
  have k3 : kK S f = 3 := by rw [h.1.1]; exact h0.1
  have k9 : kR S f 9 = some wa := by rw [h.2.1]; exact h0.2.1
  have kw : kK S wa = 21 := by rw [h.1.1]; exact h0.2.2.1
  have lw : kL S wa = 560 := by rw [h.1.2.1]; exact h0.2.2.2.1
  have loop : ∀ (j i fu : Nat) (c : Int32), i + j = X.length → j < fu → fk_2_checkOf_5 S fu f c (Int32.ofNat i) = some ((X.drop i).foldl crc8 c) := by
    intro j
    induction j with
    | zero =>
      intro i fu c hi hf
      obtain ⟨fu, rfl⟩ : ∃ q, fu = q + 1 := ⟨fu - 1, by omega⟩
      rw [fk_2_checkOf_5, ckk_y k3, h.2.2.2.1, if_pos ((jI_le (by omega) (by omega)).mpr (by omega)), List.drop_of_length_le (by omega), List.foldl_nil]
    | succ j ih =>
      intro i fu c hi hf
      obtain ⟨fu, rfl⟩ : ∃ q, fu = q + 1 := ⟨fu - 1, by omega⟩
      have hi' : i < X.length := by omega
      have hb := h.2.2.2.2.2 _ (List.getElem_mem hi')
      rw [fk_2_checkOf_5, ckk_y k3, h.2.2.2.1, if_neg (fun q => absurd ((jI_le (by omega) (by omega)).mp q) (by omega)), ckk_y k3, k9, bd_s, ckk_y kw, lw, ck_n (by omega) (by omega), jI_cl (by omega), h.2.2.2.2.1 i hi', u8_255, hb, shl8, lt_d, show (0 : Int32) = Int32.ofNat 0 from rfl, k_crc8 _ _ _ 8 0 mFU _ rfl (by decide), ← crc8_r, show Int32.ofNat i + 1 = Int32.ofNat (i + 1) from jI_add _ 1, ih (i + 1) fu _ (by omega) (by omega), List.drop_eq_getElem_cons hi', List.foldl_cons]
  unfold fk_2_checkOf
  have := loop X.length 0 mFU 65535 (Nat.zero_add _) (by have : (1000 : Nat) < mFU := by decide
                                                         omega)
  rw [List.drop_zero] at this
  exact this
theorem k_fill0 {T : cSt} {b N : Nat} (hk : kK T b = 21) (hl : kL T b = N) (hN : N ≤ 1000) : ∃ g, fk_107_fill_031fb T b 0 = some (sI T b g) ∧ ∀ i, i < N → g i = 0 := by
  have loop : ∀ (j i fu : Nat) (g : Nat → Int32), i + j = N → j < fu → (∀ q, q < i → g q = 0) → ∃ g', fk_107_fill_031fb_5 fu (sI T b g) b 0 (Int32.ofNat i) (Int32.ofNat N) = some (sI T b g') ∧ ∀ i, i < N → g' i = 0 := by
    intro j
    induction j with
    | zero =>
      intro i fu g hi hf hg
      obtain ⟨fu, rfl⟩ : ∃ q, fu = q + 1 := ⟨fu - 1, by omega⟩
      have e : i = N := by omega
      subst e
      rw [fk_107_fill_031fb_5, if_pos (Int32.le_refl _)]
      exact ⟨g, rfl, hg⟩
    | succ j ih =>
      intro i fu g hi hf hg
      obtain ⟨fu, rfl⟩ : ∃ q, fu = q + 1 := ⟨fu - 1, by omega⟩
      have hk' : kK (sI T b g) b = 21 := hk
      have hl' : kL (sI T b g) b = N := hl
      rw [fk_107_fill_031fb_5, if_neg (fun q => absurd ((jI_le (by omega) (by omega)).mp q) (by omega)), ckk_y hk', hl', ck_n (by omega) (by omega), ckp_y (by decide), lt_d, jI_cl (by omega), cWi_sI, kI_sI, sI_sI, lt_d, show Int32.ofNat i + 1 = Int32.ofNat (i + 1) from jI_add _ 1]
      refine ih (i + 1) fu _ (by omega) (by omega) (fun q hq => ?_)
      by_cases c : q = i
      · subst c; exact upd_s _ _ _
      · rw [upd_o _ _ c]; exact hg q (by omega)
  unfold fk_107_fill_031fb
  rw [ckk_y hk, lt_d, hl]
  have e : sI T b (kI T b) = T := sI_id T b
  obtain ⟨g', g1, g2⟩ := loop N 0 mFU (kI T b) (Nat.zero_add _) (Nat.lt_of_le_of_lt hN (by decide)) (fun q hq => absurd hq (by omega))
  rw [e] at g1
  exact ⟨g', g1, g2⟩
end W
