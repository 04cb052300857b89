-- part 102: kind
section V
variable {S S' : cSt} {M M' A : mSt} {x0 n k : Nat} {W : Nat → Prop}
theorem lvC_k (eS : cEq W S S') (hW : ∀ a, W a → x0 + 1 ≤ a ∧ a < x0 + 5) : lvC x0 S S' := by
  refine ⟨cSm_eq eS (fun a ha q => ?_), fun a _ => ⟨eS.1 a, eS.2.1 a⟩, (eS.2.2.2.2 _ (fun q => ?_)).2.1, fun j _ => ?_, eS.2.2.2.1, by rw [eS.2.2.1]; exact Nat.le_refl _⟩
  · have := hW a q; unfold kp at ha; omega
  · have := hW _ q; omega
  · rw [(eS.2.2.2.2 (x0 + 126) (fun q => by have := hW _ q; omega)).2.1]
/-- a number of the kinds' own cell, set in both -/
theorem kdI_1 (h : kdI x0 S M) : kdI x0 (cPi S (x0 + 1) 1 0) (pu M 1 0) := by
  obtain ⟨h1, h2, h3, h4, h5, tp, kn, h6, h7, h8, h9, h10, h11⟩ := h
  refine ⟨h1, ⟨by rw [kF_cPi, pu_s], by rw [kF_cPo _ _ (by omega), pu_o _ _ (by decide)]; exact h2.2.1, by rw [kF_cPo _ _ (by omega), pu_o _ _ (by decide)]; exact h2.2.2⟩, h3, h4, h5, 0, kn, by omega, h7, pu_s _ _ _, by rw [pu_o _ _ (by decide)]; exact h9, h10, h11⟩
theorem kdI_3 (h : kdI x0 S M) (F : Int32) : kdI x0 (cPi S (x0 + 1) 3 F) (pu M 3 F) := by
  obtain ⟨h1, h2, h3, h4, h5, tp, kn, h6, h7, h8, h9, h10, h11⟩ := h
  refine ⟨h1, ⟨by rw [kF_cPo _ _ (by omega), pu_o _ _ (by decide)]; exact h2.1, by rw [kF_cPo _ _ (by omega), pu_o _ _ (by decide)]; exact h2.2.1, by rw [kF_cPi, pu_s]⟩, h3, h4, h5, tp, kn, h6, h7, by rw [pu_o _ _ (by decide)]; exact h8, by rw [pu_o _ _ (by decide)]; exact h9, h10, h11⟩
theorem kdI_0 (h : kdI x0 S M) (x : Int32) : kdI x0 S (pu M 0 x) := by
  obtain ⟨h1, h2, h3, h4, h5, tp, kn, h6, h7, h8, h9, h10, h11⟩ := h
  refine ⟨h1, ⟨by rw [pu_o _ _ (by decide)]; exact h2.1, by rw [pu_o _ _ (by decide)]; exact h2.2.1, by rw [pu_o _ _ (by decide)]; exact h2.2.2⟩, h3, h4, h5, tp, kn, h6, h7, by rw [pu_o _ _ (by decide)]; exact h8, by rw [pu_o _ _ (by decide)]; exact h9, h10, h11⟩
/-- the letters, copied -/
theorem m_kindGo {tp kn : Nat} (htp : tp ≤ 6) (hkn : kn < 8) : ∀ (j i fu : Nat) (C : mSt), i + j = tp → j < fu → mEx (fun k => k = 6) M C → M.1 4 = Int32.ofNat kn → (∀ q, C.2 6 q = if 6 * kn ≤ q ∧ q < 6 * kn + i then M.2 2 (q - 6 * kn) else M.2 6 q) → ∃ D, fm_kind_117 fu C (Int32.ofNat tp) (Int32.ofNat i) = some (Int32.ofNat kn, pu D 4 (Int32.ofNat (kn + 1))) ∧ mEx (fun k => k = 6) M D ∧ ∀ q, D.2 6 q = if 6 * kn ≤ q ∧ q < 6 * kn + tp then M.2 2 (q - 6 * kn) else M.2 6 q := by
  intro j
  induction j with
  | zero =>
    intro i fu C hi hfu eC h4 h6
    obtain ⟨fu, rfl⟩ : ∃ q, fu = q + 1 := ⟨fu - 1, by omega⟩
    have e : i = tp := by omega
    subst e
    refine ⟨C, ?_, eC, h6⟩
    have c4 : C.1 4 = Int32.ofNat kn := by rw [(eC 4 (by decide)).1]; exact h4
    rw [fm_kind_117, if_pos (Int32.le_refl _), lt_d, c4, show Int32.ofNat kn + 1 = Int32.ofNat (kn + 1) from jI_add kn 1, pu_s, show (1 : Int32) = Int32.ofNat 1 from rfl, jI_sub (by omega), show kn + 1 - 1 = kn by omega]
  | succ j ih =>
    intro i fu C hi hfu eC h4 h6
    obtain ⟨fu, rfl⟩ : ∃ q, fu = q + 1 := ⟨fu - 1, by omega⟩
    have c4 : C.1 4 = Int32.ofNat kn := by rw [(eC 4 (by decide)).1]; exact h4
    rw [fm_kind_117, if_neg (fun q => absurd ((jI_le (by omega) (by omega)).mp q) (by omega)), ck_n (by omega) (by omega), c4, show (6 : Int32) * Int32.ofNat kn = Int32.ofNat (6 * kn) from jI_mul 6 kn, jI_add, ck_n (by omega) (by omega), lt_d, rd_n _ _ (by omega), (eC 2 (by decide)).2, lt_d, show Int32.ofNat i + 1 = Int32.ofNat (i + 1) from jI_add i 1]
    refine ih (i + 1) fu _ (by omega) (by omega) (mEx_trans eC (mEx_wr1 _ _)) h4 (fun q => ?_)
    rw [wr_s _ _ (by omega)]
    by_cases c : q = 6 * kn + i
    · subst c; rw [upd_s, if_pos (by omega), show 6 * kn + i - 6 * kn = i by omega]
    · rw [upd_o _ _ c, h6 q]
      by_cases c2 : 6 * kn ≤ q ∧ q < 6 * kn + i
      · rw [if_pos c2, if_pos (by omega)]
      · rw [if_neg c2, if_neg (by omega)]
end V
