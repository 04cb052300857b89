-- part 98: how long a frame is
theorem lg_le {z : Int64} (h : z.toInt ≤ 127) : lg_cmp z 127 ≤ 0 := by
  have h1 : ¬ (z > 127) := fun q => by
    have q' : (127 : Int64) < z := q
    have := Int64.lt_iff_toInt_lt.mp q'
    have e : (127 : Int64).toInt = 127 := by decide
    omega
  unfold lg_cmp
  rw [if_neg h1]
  split <;> decide
theorem sh7 (z : Int64) : (z >>> (Int32.toInt64 7 &&& 63)).toInt = z.toInt / 128 := by
  show (z >>> (Int32.toInt64 7 &&& 63)).toBitVec.toInt = z.toBitVec.toInt / 128
  rw [Int64.toBitVec_shiftRight, BitVec.sshiftRight_eq']
  have e : ((Int32.toInt64 7 &&& 63).toBitVec.smod 64#64).toNat = 7 := by decide
  have : z.toBitVec.sshiftRight ((Int32.toInt64 7 &&& 63).toBitVec.smod 64#64).toNat = z.toBitVec.sshiftRight 7 := by rw [e]
  refine (congrArg BitVec.toInt this).trans ?_
  rw [BitVec.toInt_sshiftRight, Int.shiftRight_eq_div_pow]
  rfl
theorem nb_len : ∀ (n f : Nat) (z : Int64), 0 ≤ z.toInt → z.toInt < 128 ^ (n + 1) → (nbL f z).length ≤ n + 1 := by
  intro n
  induction n with
  | zero =>
    intro f z h0 h1
    cases f with
    | zero => exact Nat.zero_le _
    | succ f =>
      have hz : lg_cmp z 127 ≤ 0 := lg_le (by have : z.toInt < 128 := h1; omega)
      rw [nbL, if_pos hz]; exact Nat.le_refl _
  | succ n ih =>
    intro f z h0 h1
    cases f with
    | zero => exact Nat.zero_le _
    | succ f =>
      rw [nbL]
      by_cases c : lg_cmp z 127 ≤ 0
      · rw [if_pos c]; show 1 ≤ n + 1 + 1; omega
      · rw [if_neg c, List.length_cons]
        have e : (z >>> (Int32.toInt64 7 &&& 63)).toInt = z.toInt / 128 := sh7 z
        have := ih f (z >>> (Int32.toInt64 7 &&& 63)) (by rw [e]; omega) (by rw [e]; rw [Int.pow_succ] at h1; omega)
        omega
theorem num_len (x : Int32) : (numL x).length ≤ 5 := by
  unfold numL
  have b1 := Int32.toInt_lt x
  have b2 := Int32.le_toInt x
  have key : 0 ≤ (if 0 ≤ x then (2 : Int64) * Int32.toInt64 x else ((-2 : Int64) * Int32.toInt64 x) - 1).toInt ∧ (if 0 ≤ x then (2 : Int64) * Int32.toInt64 x else ((-2 : Int64) * Int32.toInt64 x) - 1).toInt < 128 ^ (4 + 1) := by
    have p5 : (128 : Int) ^ (4 + 1) = 34359738368 := by decide
    rw [p5]
    by_cases c : 0 ≤ x
    · have c' : 0 ≤ x.toInt := Int32.le_iff_toInt_le.mp c
      have e : ((2 : Int64) * Int32.toInt64 x).toInt = 2 * x.toInt := by
        rw [Int64.toInt_mul, Int32.toInt_toInt64, show (2 : Int64).toInt = 2 from by decide]
        exact Int.bmod_eq_of_le (by omega) (by omega)
      rw [if_pos c, e]; omega
    · have c' : x.toInt < 0 := Int32.lt_iff_toInt_lt.mp (Int32.not_le.mp c)
      have e1 : ((-2 : Int64) * Int32.toInt64 x).toInt = -2 * x.toInt := by
        rw [Int64.toInt_mul, Int32.toInt_toInt64, show (-2 : Int64).toInt = -2 from by decide]
        exact Int.bmod_eq_of_le (by omega) (by omega)
      have e : (((-2 : Int64) * Int32.toInt64 x) - 1).toInt = -2 * x.toInt - 1 := by
        rw [Int64.toInt_sub, e1, show (1 : Int64).toInt = 1 from by decide]
        exact Int.bmod_eq_of_le (by omega) (by omega)
      rw [if_neg c, e]; omega
  exact nb_len 4 10 _ key.1 key.2
theorem fm_le {f : Nat → List Int32} {b : Nat} : ∀ (L : List Nat), (∀ x ∈ L, (f x).length ≤ b) → (L.flatMap f).length ≤ b * L.length := by
  intro L
  induction L with
  | nil => intro _; exact Nat.zero_le _
  | cons a L ih =>
    intro h
    rw [List.flatMap_cons, List.length_append, List.length_cons, Nat.mul_add, Nat.mul_one]
    have := h a List.mem_cons_self
    have := ih (fun x hx => h x (List.mem_cons_of_mem _ hx))
    omega
theorem row_len (M : mSt) (r : Nat) : (rowL M r).length ≤ 56 := by
  unfold rowL
  have h1 := num_len (Int32.ofNat (rM r))
  have h2 := num_len (M.2 10 r)
  have h3 := num_len (M.2 11 r)
  have h4 := num_len (M.2 12 r)
  have h5 := num_len (M.2 13 r)
  have h6 := num_len (M.2 14 r)
  have h7 := num_len (M.2 15 r)
  have h8 := fm_le (f := fun q => numL (M.2 16 (4 * r + q))) (b := 5) (List.range 4) (fun x _ => num_len _)
  rw [List.length_range] at h8
  simp only [List.length_append, List.length_singleton]
  omega
theorem frL_len (M : mSt) (g : Nat → Int32) {c : Nat} (hc : c ≤ 8) (h3 : g 3 = Int32.ofNat c) : (frL M g).length ≤ 556 := by
  unfold frL bodL
  have h1 := fm_le (f := fun q => numL (g (4 + q))) (b := 5) (List.range 4) (fun x _ => num_len _)
  have h2 := fm_le (f := fun m => numL (g (16 + 4 * m)) ++ if g (16 + 4 * m) = 0 then [] else numL (g (17 + 4 * m)) ++ numL (g (18 + 4 * m)) ++ numL (g (19 + 4 * m))) (b := 20) (List.range 4) (fun m _ => by
    have h1 := num_len (g (16 + 4 * m))
    have h2 := num_len (g (17 + 4 * m))
    have h3 := num_len (g (18 + 4 * m))
    have h4 := num_len (g (19 + 4 * m))
    rw [List.length_append]
    split
    · show _ + 0 ≤ 20; omega
    · rw [List.length_append, List.length_append]; omega)
  have h4 := num_len (g 3)
  have h5 := fm_le (f := fun i => rowL M (g (8 + i)).toNatClampNeg) (b := 56) (List.range (g 3).toNatClampNeg) (fun x _ => row_len _ _)
  rw [List.length_range] at h1 h2 h5
  rw [h3, jI_cl (by omega)] at h5
  rw [h3, jI_cl (by omega)]
  rw [h3] at h4
  simp only [List.length_append, List.length_singleton, List.length_cons, List.length_nil]
  omega
