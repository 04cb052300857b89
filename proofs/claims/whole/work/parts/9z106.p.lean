-- part 106: which rule a sort of row needs
section V
variable {S S' : cSt} {M M' A : mSt} {x0 n k : Nat}
theorem k_charAt (hh : hsI x0 S M) {s : Nat} (hs : s < 19) : fk_100_charAt_5068e S (kT S 0) (Int32.ofNat s) = some (pT0.getD s 0) := by
  obtain ⟨-, -, -, -, b0, b1, -, ⟨p1, p2, p3, p4, p5, p6⟩, -⟩ := hh
  have key : ∀ s : Fin 19, (Int32.toUInt32 ((pT0.getD s.1 0) &&& (255 : Int32)) % 65536).toInt32 = pT0.getD s.1 0 ∧ vp_nar .char (pT0.getD s.1 0) = pT0.getD s.1 0 := by decide
  obtain ⟨k1, k2⟩ := key ⟨s, hs⟩
  have k1' : (Int32.toUInt32 ((pT0.getD s 0) &&& (255 : Int32)) % 65536).toInt32 = pT0.getD s 0 := k1
  have k2' : vp_nar .char (pT0.getD s 0) = pT0.getD s 0 := k2
  have q : fk_101_charAt_3b067 S b0 (Int32.ofNat s) = some (pT0.getD s 0) := by
    unfold fk_101_charAt_3b067 fk_100_checkIndex_df160 fk_103_checkIndex_8e157
    rw [ckk_y p4, p5]
    have hc : ¬ (Int32.ofNat s < 0) := jI_nn (by omega)
    have hc2 : Int32.ofNat s < Int32.ofNat 19 := (jI_lt (by omega) (by decide)).mpr hs
    rw [if_neg hc, if_pos hc2]
    simp only [ bd_s, ckk_y p4, p5, ck_n hs (show s < 2147483648 by omega), jI_cl (show s < 2147483648 by omega), p6 s hs, k1', ckp_y k2']
  unfold fk_100_charAt_5068e fk_100_isLatin1_aae02 fk_100_isLatin1_aae02_18
  rw [ckk_y p1, if_neg n10, ckk_y p1, if_pos p3, ckz_1, bd_s, if_neg n10, ckk_y p1, p2, bd_s, q, bd_s, ckp_y k2']
theorem pT0_ru {s : Nat} (hs : s < 19) : pT0.getD s 0 = if ruS (Int32.ofNat s) = 0 then 32 else ruS (Int32.ofNat s) := by
  have key : ∀ s : Fin 19, pT0.getD s.1 0 = if ruS (Int32.ofNat s.1) = 0 then 32 else ruS (Int32.ofNat s.1) := by decide
  exact key ⟨s, hs⟩
theorem k_refusal117 {ra : Nat → Nat} {sl : Nat → Int32} {mkO : Nat → Option Nat} {L Wt : Nat → List Nat} {Bt : Nat} (hh : hsI x0 S M) (h : core x0 Bt S M ra sl mkO L Wt) (hn : n < 4) {j m : Nat} (hm : mkO j = some m) {s : Nat} (hs : s < 19) (v5 : Int32) : fk_11_refusalOf_117 S x0 (Int32.ofNat n) (Int32.ofNat s) v5 (Int32.ofNat j) = some (if thN M (L n) (Int32.ofNat (rNm m)) = true ∧ (s = 11 → v5 = -1 ∨ thN M (L n) v5 = true) then 0 else -3) := by
  obtain ⟨⟨hA, hsl, -, -⟩, ⟨hB, -⟩, hN, -⟩ := h
  obtain ⟨⟨hM1, ⟨⟨hy, hv, -⟩, -⟩⟩, -⟩ := hN n hn
  have hc := hM1.1.2.1
  have hj := (hA.2.1.1 j m hm).1
  have hup : (L n).take 1000 = L n := List.take_of_length_le (cl_len hc)
  have hth := lk_there hA hc hm 1000
  rw [hup] at hth
  unfold fk_11_refusalOf_117 fk_11_refusalOf_175 fk_11_refusalOf_176
  rw [k_nd hh hn, bd_s, ckk_y hy.1.1, hy.1.2.2.2.1, bd_s, ckk_y hv.2.1.1.1, k_isThere hB hv.1 hv.2.1 (lOk_cl hc) hj, bd_s, hth]
  cases ht : thN M (L n) (Int32.ofNat (rNm m))
  · rw [if_pos bFn, if_neg (fun q => by cases q.1)]
  · rw [if_neg bTn]
    by_cases e : s = 11
    · subst e
      rw [if_pos (show Int32.ofNat 11 = 11 from rfl)]
      by_cases e5 : v5 = -1
      · rw [if_pos e5, if_pos ⟨rfl, fun _ => Or.inl e5⟩]
      · rw [if_neg e5, ckk_y hh.1.1, hh.1.2.2.1, bd_s, ckk_y hB.1.1, k_slotOf hB (mk_all hA), bd_s, ckk_y hv.2.1.1.1]
        cases hsf : slF mkO v5 with
        | none =>
          have hno : thN M (L n) v5 = false := by
            unfold thN
            have : mkN M (L n) v5 = false := by
              unfold mkN
              cases hr : rOf v5 with
              | none => rfl
              | some r =>
                show decide (r ∈ L n ∧ M.2 9 r = 0) = false
                refine decide_eq_false (fun q => ?_)
                obtain ⟨i, i1, i2⟩ := mk_all hA r (rOf_lt hr) (cl_mem hc q.1) q.2
                exact slF_none hsf i1 i2 (rOf_inv hr)
            rw [this]; rfl
          rw [show rI none = -1 from rfl, k_isThere_n hB hv.2.1 (by decide), bd_s, if_pos rfl, if_neg]
          rintro ⟨-, q⟩
          rcases q rfl with q | q
          · exact e5 q
          · rw [hno] at q; cases q
        | some i =>
          obtain ⟨hi, m', hm', rfl⟩ := slF_some hsf
          have hth' := lk_there hA hc hm' 1000
          rw [hup] at hth'
          rw [show rI (some i) = Int32.ofNat i from rfl, k_isThere hB hv.1 hv.2.1 (lOk_cl hc) hi, bd_s, hth']
          cases ht' : thN M (L n) (Int32.ofNat (rNm m'))
          · rw [if_pos bFn, if_neg]
            rintro ⟨-, q⟩
            rcases q rfl with q | q
            · exact e5 q
            · cases q
          · rw [if_neg bTn, if_pos ⟨rfl, fun _ => Or.inr rfl⟩]
    · rw [if_neg (jN 11 11 rfl e (by omega) (by decide)), if_pos ⟨rfl, fun q => absurd q e⟩]
end V
