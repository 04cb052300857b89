-- part 118: numbers in octets, in both
/-- a 64-bit number and a 32-bit one, the same without a sign -/
def zR (z : Int64) (v : Int32) : Prop := ∃ U : Nat, U < 4294967296 ∧ z.toInt = (U : Int) ∧ v.toBitVec.toNat = U
theorem zR_32 {z : Int64} {v : Int32} (h : zR z v) : z.toInt32 = v := by
  obtain ⟨U, h1, h2, h3⟩ := h
  apply Int32.toBitVec_inj.mp
  rw [Int64.toBitVec_toInt32, BitVec.signExtend_eq_setWidth_of_le _ (by decide)]
  apply BitVec.eq_of_toNat_eq
  rw [BitVec.toNat_setWidth, h3]
  have : z.toBitVec.toNat = U := by
    have h4 : z.toBitVec.toInt = (U : Int) := h2
    rw [BitVec.toInt_eq_toNat_cond] at h4
    split at h4 <;> omega
  rw [this]; exact Nat.mod_eq_of_lt h1
def shr7 (v : Int32) : Int32 := (Int32.toUInt32 v >>> (Int32.toUInt32 7 &&& Int32.toUInt32 31)).toInt32
theorem shr7_n (v : Int32) : (shr7 v).toBitVec.toNat = v.toBitVec.toNat / 128 := by
  unfold shr7
  show (Int32.toUInt32 v >>> (Int32.toUInt32 7 &&& Int32.toUInt32 31)).toBitVec.toNat = _
  rw [UInt32.toBitVec_shiftRight]
  have e : ((Int32.toUInt32 7 &&& Int32.toUInt32 31).toBitVec % 32#32) = 7#32 := by decide
  have e2 : (Int32.toUInt32 v).toBitVec >>> ((Int32.toUInt32 7 &&& Int32.toUInt32 31).toBitVec % 32#32) = (Int32.toUInt32 v).toBitVec >>> 7#32 := by rw [e]
  refine (congrArg BitVec.toNat e2).trans ?_
  show (v.toBitVec >>> 7#32).toNat = _
  rw [BitVec.ushiftRight_eq', BitVec.toNat_ushiftRight, Nat.shiftRight_eq_div_pow]; rfl
theorem shr7_0 (v : Int32) : shr7 v = 0 ↔ v.toBitVec.toNat < 128 := by
  have h := shr7_n v
  constructor
  · intro e
    rw [e] at h
    have : (0 : Int32).toBitVec.toNat = 0 := by decide
    omega
  · intro e
    apply Int32.toBitVec_inj.mp
    apply BitVec.eq_of_toNat_eq
    rw [h]
    have : (0 : Int32).toBitVec.toNat = 0 := by decide
    omega
theorem lg_gt {z : Int64} (h : 127 < z.toInt) : ¬ lg_cmp z 127 ≤ 0 := by
  have h1 : z > 127 := by
    show (127 : Int64) < z
    apply Int64.lt_iff_toInt_lt.mpr
    have e : (127 : Int64).toInt = 127 := by decide
    omega
  unfold lg_cmp
  rw [if_pos h1]; decide
theorem zR_lg {z : Int64} {v : Int32} (h : zR z v) : lg_cmp z 127 ≤ 0 ↔ shr7 v = 0 := by
  obtain ⟨U, h1, h2, h3⟩ := h
  rw [shr7_0, h3]
  constructor
  · intro q
    by_cases c : 127 < z.toInt
    · exact absurd q (lg_gt c)
    · omega
  · intro q
    exact lg_le (by omega)
theorem zR_sh {z : Int64} {v : Int32} (h : zR z v) : zR (z >>> (Int32.toInt64 7 &&& 63)) (shr7 v) := by
  obtain ⟨U, h1, h2, h3⟩ := h
  refine ⟨U / 128, by omega, ?_, by rw [shr7_n, h3]⟩
  rw [sh7, h2]; omega
theorem sar31 (b : BitVec 32) : b.sshiftRight 31 = if b.msb then BitVec.allOnes 32 else 0#32 := by
  apply BitVec.eq_of_getLsbD_eq
  intro i hi
  rw [BitVec.getLsbD_sshiftRight, decide_eq_false (show ¬ 32 ≤ i by omega)]
  have hm : b.getLsbD 31 = b.msb := by rw [BitVec.msb_eq_getLsbD_last]
  have hl : (if 31 + i < 32 then b.getLsbD (31 + i) else b.msb) = b.msb := by
    by_cases c : i = 0
    · subst c; rw [if_pos (by decide)]; exact hm
    · rw [if_neg (by omega)]
  rw [hl]
  cases b.msb
  · simp
  · rw [if_pos rfl, BitVec.getLsbD_allOnes, decide_eq_true hi]; rfl
theorem zz (x : Int32) : zR (if 0 ≤ x then (2 : Int64) * Int32.toInt64 x else ((-2 : Int64) * Int32.toInt64 x) - 1) ((x <<< ((1 : Int32) &&& 31)) ^^^ (x >>> ((31 : Int32) &&& 31))) := by
  have b1 := Int32.toInt_lt x
  have b2 := Int32.le_toInt x
  have hx : ((x <<< ((1 : Int32) &&& 31)) ^^^ (x >>> ((31 : Int32) &&& 31))).toBitVec = (x.toBitVec <<< 1) ^^^ (x.toBitVec.sshiftRight 31) := by
    rw [Int32.toBitVec_xor, Int32.toBitVec_shiftLeft, Int32.toBitVec_shiftRight]
    have e1 : ((1 : Int32) &&& 31).toBitVec.smod 32#32 = 1#32 := by decide
    have e2 : ((31 : Int32) &&& 31).toBitVec.smod 32#32 = 31#32 := by decide
    have f1 : x.toBitVec <<< (((1 : Int32) &&& 31).toBitVec.smod 32#32) = x.toBitVec <<< 1#32 := by rw [e1]
    have f2 : x.toBitVec.sshiftRight' (((31 : Int32) &&& 31).toBitVec.smod 32#32) = x.toBitVec.sshiftRight' 31#32 := by rw [e2]
    refine ((congrArg (fun q => q ^^^ x.toBitVec.sshiftRight' (((31 : Int32) &&& 31).toBitVec.smod 32#32)) f1).trans (congrArg (fun q => x.toBitVec <<< 1#32 ^^^ q) f2)).trans ?_
    rw [BitVec.shiftLeft_eq', BitVec.sshiftRight_eq']; rfl
  have hi : x.toInt = x.toBitVec.toInt := rfl
  have ht := BitVec.toInt_eq_msb_cond x.toBitVec
  have hlt := x.toBitVec.isLt
  have hm := BitVec.msb_eq_decide x.toBitVec
  by_cases c : 0 ≤ x
  · have c' : 0 ≤ x.toInt := Int32.le_iff_toInt_le.mp c
    have e : ((2 : Int64) * Int32.toInt64 x).toInt = 2 * x.toInt := by
      rw [Int64.toInt_mul, Int32.toInt_toInt64, show (2 : Int64).toInt = 2 from by decide]
      exact Int.bmod_eq_of_le (by omega) (by omega)
    have hf : x.toBitVec.msb = false := by
      cases hq : x.toBitVec.msb with
      | false => rfl
      | true => rw [hq] at ht; simp at ht; omega
    rw [hf] at ht
    simp only [Bool.false_eq_true, if_false] at ht
    refine ⟨2 * x.toBitVec.toNat, by omega, ?_, ?_⟩
    · rw [if_pos c, e]; omega
    · rw [hx, sar31, hf]
      simp only [Bool.false_eq_true, if_false]
      rw [BitVec.xor_zero, BitVec.toNat_shiftLeft, Nat.shiftLeft_eq]
      omega
  · have c' : x.toInt < 0 := Int32.lt_iff_toInt_lt.mp (Int32.not_le.mp c)
    have e1 : ((-2 : Int64) * Int32.toInt64 x).toInt = -2 * x.toInt := by
      rw [Int64.toInt_mul, Int32.toInt_toInt64, show (-2 : Int64).toInt = -2 from by decide]
      exact Int.bmod_eq_of_le (by omega) (by omega)
    have e : (((-2 : Int64) * Int32.toInt64 x) - 1).toInt = -2 * x.toInt - 1 := by
      rw [Int64.toInt_sub, e1, show (1 : Int64).toInt = 1 from by decide]
      exact Int.bmod_eq_of_le (by omega) (by omega)
    have hf : x.toBitVec.msb = true := by
      cases hq : x.toBitVec.msb with
      | true => rfl
      | false => rw [hq] at ht; simp at ht; omega
    rw [hf] at ht
    simp only [if_true] at ht
    refine ⟨8589934591 - 2 * x.toBitVec.toNat, by omega, ?_, ?_⟩
    · rw [if_neg c, e]; omega
    · rw [hx, sar31, hf]
      simp only [if_true]
      rw [BitVec.xor_allOnes, BitVec.toNat_not, BitVec.toNat_shiftLeft, Nat.shiftLeft_eq]
      omega
/-- what is written up to now, in the reference -/
def inB (B : mSt) (X : List Int32) : Prop := B.1 74 = Int32.ofNat X.length ∧ ∀ i (h : i < X.length), B.2 75 i = X[i]
def w75 : Nat → Prop := fun k => k = 74 ∨ k = 75
theorem m_addOctet {B : mSt} {X : List Int32} (h : inB B X) (hl : X.length < 640) (v : Int32) : ∃ B', fm_addOctet B v = some B' ∧ inB B' (X ++ [v &&& 255]) ∧ mEx w75 B B' := by
  unfold fm_addOctet
  rw [h.1, ck_n hl (by omega), lt_d, lt_d]
  refine ⟨_, rfl, ⟨?_, fun i hi => ?_⟩, mEx_trans (mEx_wr (Or.inr rfl) _ _) (mEx_pu (Or.inl rfl) _)⟩
  · rw [pu_s, wr_1, h.1, List.length_append, List.length_singleton]; exact jI_add _ 1
  · rw [pu_2, wr_s _ _ (by omega)]
    rw [List.length_append, List.length_singleton] at hi
    by_cases e : i = X.length
    · subst e; rw [upd_s, List.getElem_append_right (Nat.le_refl _)]; simp
    · rw [upd_o _ _ e, h.2 i (by omega), List.getElem_append_left (by omega)]
theorem m_number22 : ∀ (n f fu : Nat) (z : Int64) (B : mSt) (X : List Int32), 0 ≤ z.toInt → z.toInt < 128 ^ (n + 1) → n < f → n < fu → inB B X → X.length + (n + 1) ≤ 640 → ∃ B', fm_number_22 fu B z = some B' ∧ inB B' (X ++ nbL f z) ∧ mEx w75 B B' := by
  intro n
  induction n with
  | zero =>
    intro f fu z B X h0 h1 hf hfu hB hl
    obtain ⟨fu, rfl⟩ : ∃ q, fu = q + 1 := ⟨fu - 1, by omega⟩
    obtain ⟨f, rfl⟩ : ∃ q, f = q + 1 := ⟨f - 1, by omega⟩
    have hz : lg_cmp z 127 ≤ 0 := lg_le (by have : z.toInt < 128 := h1; omega)
    obtain ⟨B', b1, b2, b3⟩ := m_addOctet hB (by omega) (Int64.toInt32 z)
    rw [fm_number_22, if_pos hz, b1, bd_s, nbL, if_pos hz]
    exact ⟨B', rfl, b2, b3⟩
  | succ n ih =>
    intro f fu z B X h0 h1 hf hfu hB hl
    obtain ⟨fu, rfl⟩ : ∃ q, fu = q + 1 := ⟨fu - 1, by omega⟩
    obtain ⟨f, rfl⟩ : ∃ q, f = q + 1 := ⟨f - 1, by omega⟩
    rw [fm_number_22, nbL]
    by_cases hz : lg_cmp z 127 ≤ 0
    · obtain ⟨B', b1, b2, b3⟩ := m_addOctet hB (by omega) (Int64.toInt32 z)
      rw [if_pos hz, b1, bd_s, if_pos hz]
      exact ⟨B', rfl, b2, b3⟩
    · obtain ⟨B', b1, b2, b3⟩ := m_addOctet hB (by omega) ((Int64.toInt32 (z &&& (127 : Int64))) ||| (128 : Int32))
      have e : (z >>> (Int32.toInt64 7 &&& 63)).toInt = z.toInt / 128 := sh7 z
      obtain ⟨C, c1, c2, c3⟩ := ih f fu (z >>> (Int32.toInt64 7 &&& 63)) B' _ (by rw [e]; omega) (by rw [e]; rw [Int.pow_succ] at h1; omega) (by omega) (by omega) b2 (by rw [List.length_append, List.length_singleton]; omega)
      rw [if_neg hz, b1, bd_s, lt_d, if_neg hz]
      refine ⟨C, c1, ?_, mEx_trans b3 c3⟩
      rw [List.append_assoc] at c2; exact c2
theorem num_z (x : Int32) : 0 ≤ (if 0 ≤ x then (2 : Int64) * Int32.toInt64 x else ((-2 : Int64) * Int32.toInt64 x) - 1).toInt ∧ (if 0 ≤ x then (2 : Int64) * Int32.toInt64 x else ((-2 : Int64) * Int32.toInt64 x) - 1).toInt < 4294967296 := by
  obtain ⟨U, h1, h2, -⟩ := zz x
  rw [h2]; omega
theorem m_number {B : mSt} {X : List Int32} (h : inB B X) (hl : X.length + 5 ≤ 640) (v : Int32) : ∃ B', fm_number B v = some B' ∧ inB B' (X ++ numL v) ∧ mEx w75 B B' := by
  have hz := num_z v
  have p5 : (128 : Int) ^ (4 + 1) = 34359738368 := by decide
  obtain ⟨B', b1, b2, b3⟩ := m_number22 4 10 mFU _ B X hz.1 (by rw [p5]; omega) (by decide) (by decide) h (by omega)
  refine ⟨B', ?_, b2, b3⟩
  rw [← b1]
  unfold fm_number fm_number_21
  by_cases c : 0 ≤ v
  · rw [if_pos c, if_pos c]
  · rw [if_neg c, if_neg c]
