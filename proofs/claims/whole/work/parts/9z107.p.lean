-- part 107: why a row is refused
section V
variable {S S' : cSt} {M M' A : mSt} {ra : Nat → Nat} {sl : Nat → Int32} {mkO : Nat → Option Nat} {L Wt : Nat → List Nat} {x0 n k Bt : Nat}
theorem k_slotY (hh : hsI x0 S M) (h : core x0 Bt S M ra sl mkO L Wt) (hn : n < 4) {j m : Nat} (hm : mkO j = some m) (hin : m ∈ L n) : fk_11_madeSlot S x0 (Int32.ofNat n) (Int32.ofNat (rNm m)) = some (Int32.ofNat j) := by
  have hA := h.1.1
  rcases k_madeSlot hh h hn (Int32.ofNat (rNm m)) with ⟨j', m', hm', hin', e, q1, -⟩ | ⟨q1, q2⟩
  · have e1 := rNm_inj (hA.2.1.1 j m hm).2.1.1 (hA.2.1.1 j' m' hm').2.1.1 e
    subst e1
    have e2 := hA.2.1.2.1 _ _ _ hm hm'
    subst e2
    exact q1
  · rw [mkN_mk hA hm, decide_eq_true hin] at q2; cases q2
theorem k_refN (hh : hsI x0 S M) (h : core x0 Bt S M ra sl mkO L Wt) (hn : n < 4) {s : Nat} (hs : s < 19) (h0 : s ≠ 0) (h13 : s ≠ 13) (h14 : s ≠ 14) {v3 : Int32} (v4 v5 : Int32) (hno : mkN M (L n) v3 = false) : fk_11_refusalOf S x0 (Int32.ofNat n) (Int32.ofNat s) v3 v4 v5 = some (-1) := by
  unfold fk_11_refusalOf
  rw [k_isNode, bd_s, b2_t (wi3.mpr ⟨n, hn, rfl⟩), if_neg n10, if_neg (jI_nn (by omega)), if_pos (show Int32.ofNat s ≤ 18 from (jI_le (b := 18) (by omega) (by decide)).mpr (by omega)), if_neg (jN 0 0 rfl h0 (by omega) (by decide)), if_neg (jN 13 13 rfl h13 (by omega) (by decide)), if_neg (jN 14 14 rfl h14 (by omega) (by decide)), ckk_y hh.1.1]
  rcases k_madeSlot hh h hn v3 with ⟨j', m', hm', hin', e, q1, q2⟩ | ⟨q1, q2⟩
  · rw [hno] at q2; cases q2
  · rw [q1, bd_s, if_neg (by decide)]
theorem k_refY (hh : hsI x0 S M) (hk : kdI x0 S M) (h : core x0 Bt S M ra sl mkO L Wt) (hn : n < 4) {s : Nat} (hs : s < 19) (h0 : s ≠ 0) (h13 : s ≠ 13) (h14 : s ≠ 14) {j m : Nat} (hm : mkO j = some m) (hin : m ∈ L n) (v4 v5 : Int32) : fk_11_refusalOf S x0 (Int32.ofNat n) (Int32.ofNat s) (Int32.ofNat (rNm m)) v4 v5 = some (if ruS (Int32.ofNat s) ≠ 0 ∧ rlO M (M.2 12 m) v4 ≠ some (ruS (Int32.ofNat s)) then (if rlO M (M.2 12 m) v4 = none then -1 else -2) else if thN M (L n) (Int32.ofNat (rNm m)) = true ∧ (s = 11 → v5 = -1 ∨ thN M (L n) v5 = true) then 0 else -3) := by
  have hj := (h.1.1.2.1.1 j m hm).1
  have p1 : kK S (kT S 0) = 13 := by obtain ⟨-, -, -, -, b0, b1, -, ⟨p1, -⟩, -⟩ := hh; exact p1
  unfold fk_11_refusalOf fk_11_refusalOf_116
  rw [k_isNode, bd_s, b2_t (wi3.mpr ⟨n, hn, rfl⟩), if_neg n10, if_neg (jI_nn (by omega)), if_pos (show Int32.ofNat s ≤ 18 from (jI_le (b := 18) (by omega) (by decide)).mpr (by omega)), if_neg (jN 0 0 rfl h0 (by omega) (by decide)), if_neg (jN 13 13 rfl h13 (by omega) (by decide)), if_neg (jN 14 14 rfl h14 (by omega) (by decide)), ckk_y hh.1.1, k_slotY hh h hn hm hin, bd_s, if_pos (Int32.not_lt.mp (jI_nn (by omega))), lt_d, ckk_y p1, k_charAt hh hs, bd_s, pT0_ru hs, k_refusal117 hh h hn hm hs v5]
  by_cases c : ruS (Int32.ofNat s) = 0
  · rw [if_pos c, if_pos rfl, if_neg (show ¬ (ruS (Int32.ofNat s) ≠ 0 ∧ rlO M (M.2 12 m) v4 ≠ some (ruS (Int32.ofNat s))) from fun q => q.1 c)]
  · have c32 : ¬ ruS (Int32.ofNat s) = 32 := by
      have key : ∀ s : Fin 19, ruS (Int32.ofNat s.1) ≠ 32 := by decide
      exact key ⟨s, hs⟩
    rw [if_neg c, if_neg c32, ckk_y hh.1.1, k_ruleAt hh hk h hm, bd_s]
    cases hr : rlO M (M.2 12 m) v4 with
    | none =>
      rw [show (none : Option Int32).getD 32 = 32 from rfl, if_neg (fun q => c32 q.symm), if_pos rfl, if_pos ⟨c, by simp⟩, if_pos rfl]
    | some x =>
      have hx : x ≠ 32 := by
        obtain ⟨kd, p, -, -, -, -, -, d6, -⟩ := rlO_y hk hr
        exact rl_32 d6
      rw [show (some x).getD 32 = x from rfl]
      by_cases e : x = ruS (Int32.ofNat s)
      · rw [if_pos e, if_neg (show ¬ (ruS (Int32.ofNat s) ≠ 0 ∧ some x ≠ some (ruS (Int32.ofNat s))) from fun q => q.2 (by rw [e]))]
      · rw [if_neg e, if_neg hx, if_pos ⟨c, fun q => e (Option.some.inj q)⟩, if_neg (by simp)]
end V
