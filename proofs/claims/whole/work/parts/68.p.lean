-- part 68: the class makes a row: its cells
theorem ckp_y {α : Type} {c : Prop} [Decidable c] {K : Option α} (h : c) : ckp c K = K := if_pos h
/-- a new cell -/
theorem nw_sm (S : cSt) (kd n : Nat) : cSm (fun a => a ≠ kZ S) S (cNw S kd n) := fun a ha => by
  refine ⟨?_, ?_, ?_, ?_, ?_, ?_⟩
  · show va_up S.1 (kZ S) kd a = S.1 a; unfold va_up; rw [if_neg ha]
  · show va_up S.2.2.2.2.2.1 (kZ S) n a = S.2.2.2.2.2.1 a; unfold va_up; rw [if_neg ha]
  · funext j; show upr S.2.1 (kZ S) (fun _ => 0) a j = S.2.1 a j; unfold upr; rw [if_neg ha]
  · funext j; show upr S.2.2.1 (kZ S) (fun _ => none) a j = S.2.2.1 a j; unfold upr; rw [if_neg ha]
  · funext j; show upr S.2.2.2.1 (kZ S) (fun _ => 0) a j = S.2.2.2.1 a j; unfold upr; rw [if_neg ha]
  · funext j; show upr S.2.2.2.2.1 (kZ S) (fun _ => none) a j = S.2.2.2.2.1 a j; unfold upr; rw [if_neg ha]
theorem nw_at (S : cSt) (kd n : Nat) : kK (cNw S kd n) (kZ S) = kd ∧ kL (cNw S kd n) (kZ S) = n ∧ kZ (cNw S kd n) = kZ S + 1 ∧ (∀ i, kT (cNw S kd n) i = kT S i) ∧ (∀ j, kI (cNw S kd n) (kZ S) j = 0) ∧ (∀ j, kO (cNw S kd n) (kZ S) j = none) ∧ (∀ j, kF (cNw S kd n) (kZ S) j = 0) ∧ ∀ j, kR (cNw S kd n) (kZ S) j = none := by
  refine ⟨?_, ?_, rfl, fun _ => rfl, fun j => ?_, fun j => ?_, fun j => ?_, fun j => ?_⟩
  · show va_up S.1 (kZ S) kd (kZ S) = kd; simp [va_up]
  · show va_up S.2.2.2.2.2.1 (kZ S) n (kZ S) = n; simp [va_up]
  · show upr S.2.2.2.1 (kZ S) (fun _ => 0) (kZ S) j = 0; simp [upr]
  · show upr S.2.2.2.2.1 (kZ S) (fun _ => none) (kZ S) j = none; simp [upr]
  · show upr S.2.1 (kZ S) (fun _ => 0) (kZ S) j = 0; simp [upr]
  · show upr S.2.2.1 (kZ S) (fun _ => none) (kZ S) j = none; simp [upr]
/-- a chain's number by sort, slot and part -/
def chV (s sl p : Int32) : Int32 := if s = 0 ∨ s = 13 ∨ s = 14 then -1 else if s = 11 then 384 else if s = 12 then sl * 8 + 6 else if s = 17 ∨ s = 18 then sl * 8 + 7 else sl * 8 + p
theorem k_chainFor {S : cSt} {dr : Nat} (hk : kK S dr = 2) : fk_8_chainFor S dr = some (chV (kF S dr 0) (kF S dr 1) (kF S dr 3)) := by
  unfold fk_8_chainFor fk_8_chainFor_96 fk_8_chainFor_113 fk_8_chainFor_124
  simp only [ckk_y hk]
  generalize kF S dr 0 = s
  by_cases h0 : s = 0
  · subst h0; rfl
  by_cases h1 : s = 1
  · subst h1; rfl
  by_cases h2 : s = 2
  · subst h2; rfl
  by_cases h3 : s = 3
  · subst h3; rfl
  by_cases h4 : s = 4
  · subst h4; rfl
  by_cases h5 : s = 5
  · subst h5; rfl
  by_cases h6 : s = 6
  · subst h6; rfl
  by_cases h7 : s = 7
  · subst h7; rfl
  by_cases h8 : s = 8
  · subst h8; rfl
  by_cases h9 : s = 9
  · subst h9; rfl
  by_cases h10 : s = 10
  · subst h10; rfl
  by_cases h11 : s = 11
  · subst h11; rfl
  by_cases h12 : s = 12
  · subst h12; rfl
  by_cases h13 : s = 13
  · subst h13; rfl
  by_cases h14 : s = 14
  · subst h14; rfl
  by_cases h15 : s = 15
  · subst h15; rfl
  by_cases h16 : s = 16
  · subst h16; rfl
  by_cases h17 : s = 17
  · subst h17; rfl
  by_cases h18 : s = 18
  · subst h18; rfl
  unfold chV
  rw [if_neg (show ¬ (s = 0 ∨ s = 13 ∨ s = 14) from fun q => q.elim h0 (fun q => q.elim h13 h14)), if_neg (show ¬ (s = 17 ∨ s = 18) from fun q => q.elim h17 h18), if_neg h0, if_neg h1, if_neg h2, if_neg h3, if_neg h4, if_neg h5, if_neg h6, if_neg h7, if_neg h8, if_neg h9, if_neg h10, if_neg h11, if_neg h12, if_neg h13, if_neg h14, if_neg h15, if_neg h16, if_neg h17, if_neg h18, if_neg h11, if_neg h12]
theorem fP (S : cSt) (a k : Nat) (x : Int32) : kF (cPi S a k x) a = upd (kF S a) k x := by
  funext j
  by_cases h : j = k
  · subst h; rw [kF_cPi, upd_s]
  · rw [kF_cPo _ _ (fun q => h q.2), upd_o _ _ h]
theorem fPo (S : cSt) {a b : Nat} (k : Nat) (x : Int32) (h : b ≠ a) : kF (cPi S a k x) b = kF S b := by
  funext j
  exact kF_cPo _ _ (fun q => h q.1)
theorem k_rowInit {S : cSt} {a dr va : Nat} (hk : kK S dr = 2) (ha : kK S a = 9) (hne : dr ≠ a) (n num t c : Int32) : ∃ S', fk_8_init S a dr n num t c va = some S' ∧ cEq (fun x => x = a) S S' ∧ (kF S' a 0 = kF S dr 0 ∧ kF S' a 1 = kF S dr 1 ∧ kF S' a 2 = kF S dr 2 ∧ kF S' a 3 = kF S dr 3 ∧ kF S' a 4 = kF S dr 4 ∧ kF S' a 5 = kF S dr 5) ∧ (kF S' a 6 = n ∧ kF S' a 7 = num ∧ kF S' a 8 = t ∧ kF S' a 9 = c ∧ kF S' a 11 = 1000 * n + num ∧ kF S' a 12 = 250 * n + num - 1 ∧ kF S' a 13 = chV (kF S dr 0) (kF S dr 1) (kF S dr 3)) ∧ kR S' a 10 = some va := by
  unfold fk_8_init
  have K2 : ∀ (T : cSt) (k : Nat) (x : Int32), kK T dr = 2 → kK (cPi T a k x) dr = 2 := fun _ _ _ h => h
  have K9 : ∀ (T : cSt) (k : Nat) (x : Int32), kK T a = 9 → kK (cPi T a k x) a = 9 := fun _ _ _ h => h
  have g0 := fun k x => fPo S (a := a) k x hne
  generalize hd0 : kF S dr = d
  rw [ckk_y hk, ckk_y ha, lt_d]
  generalize hS1 : cPi S a 0 (d 0) = S1
  have k1 : kK S1 dr = 2 := by rw [← hS1]; exact hk
  have q1 : kK S1 a = 9 := by rw [← hS1]; exact ha
  have d1 : kF S1 dr = d := by rw [← hS1, fPo _ _ _ hne, hd0]
  have u1 : kF S1 a = upd (kF S a) 0 (d 0) := by rw [← hS1, fP]
  have c1 : cEq (fun x => x = a) S S1 := by rw [← hS1]; exact cEq_cPi _ rfl
  rw [ckk_y k1, ckk_y q1, lt_d, d1]
  generalize hS2 : cPi S1 a 1 (d 1) = S2
  have k2 : kK S2 dr = 2 := by rw [← hS2]; exact k1
  have q2 : kK S2 a = 9 := by rw [← hS2]; exact q1
  have d2 : kF S2 dr = d := by rw [← hS2, fPo _ _ _ hne, d1]
  have u2 : kF S2 a = upd (kF S1 a) 1 (d 1) := by rw [← hS2, fP]
  have c2 : cEq (fun x => x = a) S S2 := cEq_trans c1 (by rw [← hS2]; exact cEq_cPi _ rfl)
  rw [ckk_y k2, ckk_y q2, lt_d, d2]
  generalize hS3 : cPi S2 a 2 (d 2) = S3
  have k3 : kK S3 dr = 2 := by rw [← hS3]; exact k2
  have q3 : kK S3 a = 9 := by rw [← hS3]; exact q2
  have d3 : kF S3 dr = d := by rw [← hS3, fPo _ _ _ hne, d2]
  have u3 : kF S3 a = upd (kF S2 a) 2 (d 2) := by rw [← hS3, fP]
  have c3 : cEq (fun x => x = a) S S3 := cEq_trans c2 (by rw [← hS3]; exact cEq_cPi _ rfl)
  rw [ckk_y k3, ckk_y q3, lt_d, d3]
  generalize hS4 : cPi S3 a 3 (d 3) = S4
  have k4 : kK S4 dr = 2 := by rw [← hS4]; exact k3
  have q4 : kK S4 a = 9 := by rw [← hS4]; exact q3
  have d4 : kF S4 dr = d := by rw [← hS4, fPo _ _ _ hne, d3]
  have u4 : kF S4 a = upd (kF S3 a) 3 (d 3) := by rw [← hS4, fP]
  have c4 : cEq (fun x => x = a) S S4 := cEq_trans c3 (by rw [← hS4]; exact cEq_cPi _ rfl)
  rw [ckk_y k4, ckk_y q4, lt_d, d4]
  generalize hS5 : cPi S4 a 4 (d 4) = S5
  have k5 : kK S5 dr = 2 := by rw [← hS5]; exact k4
  have q5 : kK S5 a = 9 := by rw [← hS5]; exact q4
  have d5 : kF S5 dr = d := by rw [← hS5, fPo _ _ _ hne, d4]
  have u5 : kF S5 a = upd (kF S4 a) 4 (d 4) := by rw [← hS5, fP]
  have c5 : cEq (fun x => x = a) S S5 := cEq_trans c4 (by rw [← hS5]; exact cEq_cPi _ rfl)
  rw [ckk_y k5, ckk_y q5, lt_d, d5]
  generalize hS6 : cPi S5 a 5 (d 5) = S6
  have q6 : kK S6 a = 9 := by rw [← hS6]; exact q5
  have d6 : kF S6 dr = d := by rw [← hS6, fPo _ _ _ hne, d5]
  have u6 : kF S6 a = upd (kF S5 a) 5 (d 5) := by rw [← hS6, fP]
  have c6 : cEq (fun x => x = a) S S6 := cEq_trans c5 (by rw [← hS6]; exact cEq_cPi _ rfl)
  rw [ckk_y q6, lt_d]
  generalize hS7 : cPi S6 a 6 n = S7
  have q7 : kK S7 a = 9 := by rw [← hS7]; exact q6
  have d7 : kF S7 dr = d := by rw [← hS7, fPo _ _ _ hne, d6]
  have u7 : kF S7 a = upd (kF S6 a) 6 n := by rw [← hS7, fP]
  have c7 : cEq (fun x => x = a) S S7 := cEq_trans c6 (by rw [← hS7]; exact cEq_cPi _ rfl)
  rw [ckk_y q7, lt_d]
  generalize hS8 : cPi S7 a 7 num = S8
  have q8 : kK S8 a = 9 := by rw [← hS8]; exact q7
  have d8 : kF S8 dr = d := by rw [← hS8, fPo _ _ _ hne, d7]
  have u8 : kF S8 a = upd (kF S7 a) 7 num := by rw [← hS8, fP]
  have c8 : cEq (fun x => x = a) S S8 := cEq_trans c7 (by rw [← hS8]; exact cEq_cPi _ rfl)
  rw [ckk_y q8, lt_d]
  generalize hS9 : cPi S8 a 8 t = S9
  have q9 : kK S9 a = 9 := by rw [← hS9]; exact q8
  have d9 : kF S9 dr = d := by rw [← hS9, fPo _ _ _ hne, d8]
  have u9 : kF S9 a = upd (kF S8 a) 8 t := by rw [← hS9, fP]
  have c9 : cEq (fun x => x = a) S S9 := cEq_trans c8 (by rw [← hS9]; exact cEq_cPi _ rfl)
  rw [ckk_y q9, lt_d]
  generalize hS10 : cPi S9 a 9 c = S10
  have q10 : kK S10 a = 9 := by rw [← hS10]; exact q9
  have d10 : kF S10 dr = d := by rw [← hS10, fPo _ _ _ hne, d9]
  have u10 : kF S10 a = upd (kF S9 a) 9 c := by rw [← hS10, fP]
  have c10 : cEq (fun x => x = a) S S10 := cEq_trans c9 (by rw [← hS10]; exact cEq_cPi _ rfl)
  rw [ckk_y q10, lt_d]
  generalize hS11 : cPr S10 a 10 (some va) = S11
  have q11 : kK S11 a = 9 := by rw [← hS11]; exact q10
  have d11 : kF S11 dr = d := by rw [← hS11]; exact d10
  have u11 : kF S11 a = kF S10 a := by rw [← hS11]; rfl
  have r11 : kR S11 a 10 = some va := by rw [← hS11]; show up2 S10.2.2.1 a 10 (some va) a 10 = _; simp [up2]
  have c11 : cEq (fun x => x = a) S S11 := cEq_trans c10 (by rw [← hS11]; exact cEq_cPr _ rfl)
  rw [ckk_y q11, lt_d]
  generalize hS12 : cPi S11 a 11 (1000 * n + num) = S12
  have q12 : kK S12 a = 9 := by rw [← hS12]; exact q11
  have d12 : kF S12 dr = d := by rw [← hS12, fPo _ _ _ hne, d11]
  have u12 : kF S12 a = upd (kF S11 a) 11 (1000 * n + num) := by rw [← hS12, fP]
  have r12 : kR S12 a 10 = some va := by rw [← hS12]; exact r11
  have c12 : cEq (fun x => x = a) S S12 := cEq_trans c11 (by rw [← hS12]; exact cEq_cPi _ rfl)
  rw [ckk_y q12, lt_d]
  generalize hS13 : cPi S12 a 12 (250 * n + num - 1) = S13
  have q13 : kK S13 a = 9 := by rw [← hS13]; exact q12
  have d13 : kF S13 dr = d := by rw [← hS13, fPo _ _ _ hne, d12]
  have u13 : kF S13 a = upd (kF S12 a) 12 (250 * n + num - 1) := by rw [← hS13, fP]
  have r13 : kR S13 a 10 = some va := by rw [← hS13]; exact r12
  have c13 : cEq (fun x => x = a) S S13 := cEq_trans c12 (by rw [← hS13]; exact cEq_cPi _ rfl)
  have k13 : kK S13 dr = 2 := by rw [c13.1]; exact hk
  rw [k_chainFor k13, bd_s, ckk_y q13, lt_d, d13]
  refine ⟨_, rfl, cEq_trans c13 (cEq_cPi _ rfl), ?_, ?_, r13⟩
  · rw [fP, u13, u12, u11, u10, u9, u8, u7, u6, u5, u4, u3, u2, u1]
    simp [upd]
  · rw [fP, u13, u12, u11, u10, u9, u8, u7, u6, u5, u4, u3, u2, u1]
    simp [upd]
/-- the vector of a new row -/
theorem k_copyVec {S : cSt} {b n : Nat} (hn : n < 4) (hk : kK S b = 20) (hl : kL S b = 16) (hb : b < kZ S) : ∃ S', fk_107_copyOfRange_feecc S b (Int32.ofNat (4 * n)) (Int32.ofNat (4 * n + 4)) = some (some (kZ S), S') ∧ cSm (fun a => a ≠ kZ S) S S' ∧ kZ S' = kZ S + 1 ∧ (∀ i, kT S' i = kT S i) ∧ kK S' (kZ S) = 20 ∧ kL S' (kZ S) = 4 ∧ ∀ q, q < 4 → kI S' (kZ S) q = kI S b (4 * n + q) := by
  have hbz : b ≠ kZ S := by omega
  obtain ⟨n1, n2, n3, n4, n5, -⟩ := nw_at S 20 4
  obtain ⟨m1, m2, m3, m4, m5, m6⟩ := nw_sm S 20 4 b hbz
  have go : fk_107_copyOfRange_feecc_10 S b (Int32.ofNat (4 * n)) (Int32.ofNat (4 * n + 4)) = some (some (kZ S), cCp (cNw S 20 4) b (4 * n) (kZ S) 0 4) := by
    unfold fk_107_copyOfRange_feecc_10 fk_107_copyOfRangeInt_feecc fk_107_checkLength_df160
    rw [if_pos ((jI_le (by omega) (by omega)).mpr (by omega)), bd_s, lt_d, jI_sub (by omega), show 4 * n + 4 - 4 * n = 4 by omega, jI_cl (by decide), ckp_y ⟨jI_nn (by decide), by decide⟩, lt_d, lt_d, ckk_y (m1.trans hk), ckk_y (m1.trans hk), ckk_y n1, m2, hl, n2]
    have e1 : (if Int32.ofNat 4 < Int32.ofNat 16 - Int32.ofNat (4 * n) then Int32.ofNat 4 else Int32.ofNat 16 - Int32.ofNat (4 * n)) = Int32.ofNat 4 := by
      rw [jI_sub (by omega)]
      by_cases h : 4 < 16 - 4 * n
      · rw [if_pos ((jI_lt (by omega) (by omega)).mpr h)]
      · rw [if_neg (fun q => h ((jI_lt (by omega) (by omega)).mp q))]
        congr 1
        omega
    rw [e1, jI_cl (show 4 * n < 2147483648 by omega), jI_cl (show 4 < 2147483648 by decide), ckp_y ⟨⟨jI_nn (by omega), by decide, jI_nn (by decide)⟩, by omega, by decide⟩]
    rfl
  refine ⟨cCp (cNw S 20 4) b (4 * n) (kZ S) 0 4, ?_, ?_, n3, n4, n1, n2, fun q hq => ?_⟩
  · unfold fk_107_copyOfRange_feecc
    by_cases h0 : Int32.ofNat (4 * n) = 0
    · have hn0 : 4 * n = 0 := (jI_inj (b := 0) (by omega) (by omega)).mp h0
      rw [if_pos h0, ckk_y hk, hl, if_neg (show ¬ Int32.ofNat (4 * n + 4) = Int32.ofNat 16 from fun q => absurd ((jI_inj (by omega) (by omega)).mp q) (by omega)), go]
    · rw [if_neg h0, go]
  · refine cSm_trans (nw_sm S 20 4) (cSm_eq (W := fun a => a = kZ S) (cEq_cCp rfl) (fun a ha => ha))
  · rw [kI_cCp, m5]
    unfold va_cpy
    rw [if_pos ⟨by omega, by omega⟩, show 4 * n + (q - 0) = 4 * n + q by omega]
