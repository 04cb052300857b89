-- part 69: a row made at both
def tot (M : mSt) : Nat := mdN M 0 + mdN M 1 + mdN M 2 + mdN M 3
/-- bounds of times and stamps -/
def tBd (M : mSt) (Bt : Nat) : Prop := (∀ n, n < 4 → (∃ W, W ≤ Bt ∧ M.2 17 n = Int32.ofNat W) ∧ ∃ T C, M.2 18 n = Int32.ofNat T ∧ M.2 19 n = Int32.ofNat C ∧ T ≤ Bt ∧ C ≤ tot M) ∧ ∀ r, mde M r → ∃ t c, M.2 14 r = Int32.ofNat t ∧ M.2 15 r = Int32.ofNat c ∧ t ≤ Bt ∧ c ≤ tot M
/-- the book, the nodes and their rows, in both -/
def core (x0 Bt : Nat) (S : cSt) (M : mSt) (ra : Nat → Nat) (sl : Nat → Int32) (mkO : Nat → Option Nat) (L Wt : Nat → List Nat) : Prop :=
  (rA M mkO sl ∧ slI M mkO ∧ tBd M Bt ∧ Bt < 1000000) ∧ (cBk M ra sl (chF M sl) (mde M) mkO S (x0 + 5) ∧ ∀ n, n < 4 → kI S (x0 + 8) n = M.2 7 n ∧ kI S (x0 + 9) n = M.2 8 n) ∧
  (∀ n, n < 4 → (nM M mkO sl n (L n) ∧ nC S M ra sl x0 n (L n)) ∧ (mWt M n (Wt n) ∧ nW S ra x0 n (Wt n) ∧ wOk M (L n) (Wt n)) ∧ ∀ q, mde M q → rN q = n → q ∈ L n) ∧ (x0 + 133 ≤ kZ S ∧ ∀ r, mde M r → ra r < kZ S)
/-- where making a row writes -/
def wMk (x0 n z : Nat) : Nat → Prop := fun a => inAp (sN x0 n) a ∨ a = x0 + 6 ∨ a = x0 + 7 ∨ a = x0 + 8 ∨ a = x0 + 9 ∨ a = x0 + 19 ∨ z ≤ a
section K
variable {S : cSt} {x0 n : Nat}
theorem k_nextSlot {bk c : Nat} (h1 : kK S bk = 1) (h3 : kR S bk 3 = some (bk + 4)) (h4 : kK S (bk + 4) = 20) (h5 : kL S (bk + 4) = 4) (hn : n < 4) (hc : kI S (bk + 4) n = Int32.ofNat c) : fk_0_nextSlot S bk (Int32.ofNat n) = some (Int32.ofNat (12 * n + c)) := by
  unfold fk_0_nextSlot
  rw [ckk_y h1, h3, bd_s, ckk_y h4, h5, ck_n hn (by omega), jI_cl (by omega), hc, show (12 : Int32) = Int32.ofNat 12 from rfl, jI_mul, jI_add, Nat.mul_comm]
theorem k_timeNow {nd : Nat} (h : kK S nd = 8) : fk_7_timeNow S nd = some (if kF S nd 8 < kF S nd 9 then kF S nd 9 else kF S nd 8) := by
  unfold fk_7_timeNow
  rw [ckk_y h, ckk_y h]
theorem nw_eq {a b : Int32} : (if a < b then b else a) = (if a ≤ b then b else a) := by
  by_cases h : a < b
  · rw [if_pos h, if_pos (Int32.le_of_lt h)]
  · rw [if_neg h]
    by_cases h2 : a ≤ b
    · rw [if_pos h2]
      exact Int32.le_antisymm h2 (Int32.not_lt.mp h)
    · rw [if_neg h2]
/-- the book gets a row -/
theorem k_bookAdd {bk a r j : Nat} (h0 : kK S bk = 1) (h1 : kR S bk 0 = some (bk + 1)) (h2 : kR S bk 1 = some (bk + 2)) (h3 : kR S bk 2 = some (bk + 3)) (h4 : kR S bk 3 = some (bk + 4)) (k1 : kK S (bk + 1) = 30 ∧ kL S (bk + 1) = 1000) (k2 : kK S (bk + 2) = 30 ∧ kL S (bk + 2) = 48) (k3 : kK S (bk + 3) = 20 ∧ kL S (bk + 3) = 4) (k4 : kK S (bk + 4) = 20 ∧ kL S (bk + 4) = 4) (ha : kK S a = 9) (hab : bk + 4 < a) (hr : r < 1000) (f12 : kF S a 12 = Int32.ofNat r) (hn : n < 4) (f6 : kF S a 6 = Int32.ofNat n) (f1 : kF S a 0 = 0 → j < 48 ∧ kF S a 1 = Int32.ofNat j) : ∃ S', fk_0_add S bk a = some S' ∧ cEq (fun x => x = bk + 1 ∨ x = bk + 2 ∨ x = bk + 3 ∨ x = bk + 4) S S' ∧ kO S' (bk + 1) = upo (kO S (bk + 1)) r (some a) ∧ kO S' (bk + 2) = (if kF S a 0 = 0 then upo (kO S (bk + 2)) j (some a) else kO S (bk + 2)) ∧ kI S' (bk + 3) = upd (kI S (bk + 3)) n (kF S a 7) ∧ kI S' (bk + 4) = (if kF S a 0 = 0 then upd (kI S (bk + 4)) n (kI S (bk + 4) n + 1) else kI S (bk + 4)) := by
  unfold fk_0_add fk_0_add_53
  have q9 : ∀ {T : cSt} {K : Option cSt}, kK T a = 9 → ckq T (some a) 9 K = K := fun h => ckk_y h
  rw [ckk_y h0, h1, bd_s, ckk_y ha, ckk_y k1.1, k1.2, f12, ck_n hr (by omega), q9 ha, lt_d, jI_cl (by omega)]
  have A0 : kK (cWo S (bk + 1) r (some a)) bk = 1 := h0
  have A3 : kR (cWo S (bk + 1) r (some a)) bk 2 = some (bk + 3) := h3
  have A9 : kK (cWo S (bk + 1) r (some a)) a = 9 := ha
  have B3 : kK (cWo S (bk + 1) r (some a)) (bk + 3) = 20 := k3.1
  have B4 : kL (cWo S (bk + 1) r (some a)) (bk + 3) = 4 := k3.2
  have F6 : kF (cWo S (bk + 1) r (some a)) a 6 = Int32.ofNat n := f6
  have F7 : kF (cWo S (bk + 1) r (some a)) a 7 = kF S a 7 := rfl
  rw [ckk_y A0, A3, bd_s, ckk_y A9, ckk_y A9, ckk_y B3, B4, F6, ck_n hn (by omega), lt_d, jI_cl (by omega), F7]
  generalize hS4 : cWi (cWo S (bk + 1) r (some a)) (bk + 3) n (kF S a 7) = S4
  have e4 : cEq (fun x => x = bk + 1 ∨ x = bk + 2 ∨ x = bk + 3 ∨ x = bk + 4) S S4 := by
    rw [← hS4]
    exact cEq_trans (cEq_cWo _ (by simp)) (cEq_cWi _ (by simp))
  have o1 : kO S4 (bk + 1) = upo (kO S (bk + 1)) r (some a) := by
    rw [← hS4]; show kO (cWo S (bk + 1) r (some a)) (bk + 1) = _; rw [cWo_sO, kO_sO]
  have o2 : kO S4 (bk + 2) = kO S (bk + 2) := by
    rw [← hS4]; show kO (cWo S (bk + 1) r (some a)) (bk + 2) = _; rw [cWo_sO, kO_sOo _ _ (by omega)]
  have i3 : kI S4 (bk + 3) = upd (kI S (bk + 3)) n (kF S a 7) := by rw [← hS4, kI_cWi]; rfl
  have i4 : kI S4 (bk + 4) = kI S (bk + 4) := by rw [← hS4, cWi_sI, kI_sIo _ _ (by omega)]; rfl
  have b0 : kK S4 bk = 1 := by rw [e4.1]; exact h0
  have b9 : kK S4 a = 9 := by rw [e4.1]; exact ha
  have ea := e4.2.2.2.2 a (by omega)
  have eb := e4.2.2.2.2 bk (by omega)
  rw [ckk_y b9, ea.1]
  by_cases hs : kF S a 0 = 0
  · obtain ⟨hj, f1'⟩ := f1 hs
    have R1 : kR S4 bk 1 = some (bk + 2) := by rw [eb.2.1]; exact h2
    have K2 : kK S4 (bk + 2) = 30 := by rw [e4.1]; exact k2.1
    have L2 : kL S4 (bk + 2) = 48 := by rw [e4.2.1]; exact k2.2
    rw [if_pos hs, ckk_y b0, R1, bd_s, ckk_y b9, ckk_y K2, L2, f1', ck_n hj (by omega), q9 b9, lt_d, jI_cl (by omega)]
    have C0 : kK (cWo S4 (bk + 2) j (some a)) bk = 1 := b0
    have C9 : kK (cWo S4 (bk + 2) j (some a)) a = 9 := b9
    have R3 : kR (cWo S4 (bk + 2) j (some a)) bk 3 = some (bk + 4) := by show kR S4 bk 3 = _; rw [eb.2.1]; exact h4
    have K4 : kK (cWo S4 (bk + 2) j (some a)) (bk + 4) = 20 := by show kK S4 (bk + 4) = _; rw [e4.1]; exact k4.1
    have L4 : kL (cWo S4 (bk + 2) j (some a)) (bk + 4) = 4 := by show kL S4 (bk + 4) = _; rw [e4.2.1]; exact k4.2
    have F6' : kF (cWo S4 (bk + 2) j (some a)) a 6 = Int32.ofNat n := by show kF S4 a 6 = _; rw [ea.1]; exact f6
    rw [ckk_y C0, R3, bd_s, ckk_y C9, ckk_y K4, L4, F6', ck_n hn (by omega), ckk_y K4, ck_n hn (by omega), lt_d, jI_cl (by omega)]
    refine ⟨_, rfl, cEq_trans e4 (cEq_trans (cEq_cWo _ (by simp)) (cEq_cWi _ (by simp))), ?_, ?_, ?_, ?_⟩
    · show kO (cWo S4 (bk + 2) j (some a)) (bk + 1) = _; rw [cWo_sO, kO_sOo _ _ (by omega), o1]
    · show kO (cWo S4 (bk + 2) j (some a)) (bk + 2) = _; rw [cWo_sO, kO_sO, o2, if_pos hs]
    · rw [cWi_sI, kI_sIo _ _ (by omega)]; exact i3
    · rw [kI_cWi, if_pos hs]
      show upd (kI S4 (bk + 4)) n (kI S4 (bk + 4) n + 1) = _
      rw [i4]
  · rw [if_neg hs]
    exact ⟨S4, rfl, e4, o1, by rw [if_neg hs]; exact o2, i3, by rw [if_neg hs]; exact i4⟩
end K
