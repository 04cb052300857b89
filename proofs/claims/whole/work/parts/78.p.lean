-- part 78: frame, node, row
theorem jN (x : Int32) (a : Nat) {c : Nat} (hx : x = Int32.ofNat a) (h : c ≠ a) (hc : c < 2147483648) (ha : a < 2147483648) : ¬ Int32.ofNat c = x := fun q => h ((jI_inj hc ha).mp (q.trans hx))
section R
variable {S S' : cSt} {M M' : mSt} {ra : Nat → Nat} {sl : Nat → Int32} {mkO : Nat → Option Nat} {ro fa : Nat → Nat} {x0 k n : Nat}
theorem k_lAtN {Bt : Nat} (hl : lnI x0 Bt S M ra mkO ro fa) {v : Int32} (hv : ¬ (0 ≤ v ∧ v ≤ M.1 42 - 1)) : fk_5_at S (x0 + 11) v = some none := by
  obtain ⟨⟨h1, h2, h3, h4⟩, ⟨h5, -⟩, nf, w, g1, g2, g3, -⟩ := hl
  unfold fk_5_at fk_5_at_21 fk_5_at_22
  by_cases e : v < 0
  · rw [if_pos e]
  rw [if_neg e, ckk_y h1, h5, g3]
  by_cases e2 : Int32.ofNat w ≤ v
  · rw [if_pos e2]
  · rw [g3] at hv
    exact absurd ((wiE (by omega)).mpr (wiK (by omega) e e2)) hv
theorem k_lAtY {Bt : Nat} (hl : lnI x0 Bt S M ra mkO ro fa) {v : Int32} (hv : 0 ≤ v ∧ v ≤ M.1 42 - 1) : ∃ i, i < 60 ∧ v = Int32.ofNat i ∧ fk_5_at S (x0 + 11) v = some (some (fa i)) ∧ ∃ wa ta nf w, i < w ∧ w ≤ nf ∧ nf ≤ 60 ∧ M.1 42 = Int32.ofNat w ∧ fLy S (fa i) wa ta ∧ fCo S M ra mkO Bt (fa i) (gF M i) ∧ fBy S M (fa i) wa ta (gF M i) := by
  obtain ⟨⟨h1, h2, h3, h4⟩, ⟨h5, -⟩, nf, w, g1, g2, g3, g4, g5, g6, g7⟩ := hl
  rw [g3] at hv
  obtain ⟨i, hi, rfl⟩ := (wiE (by omega)).mp hv
  obtain ⟨-, wa, ta, y2, -, -, -, -, -, -, -, -, -, -, y⟩ := g7 i (by omega)
  refine ⟨i, by omega, rfl, ?_, wa, ta, nf, w, hi, g1, g2, g3, y2, (y hi).1, (y hi).2⟩
  unfold fk_5_at fk_5_at_22
  rw [if_neg (jI_nn (by omega)), ckk_y h1, h5, g3, if_neg (fun q => absurd ((jI_le (by omega) (by omega)).mp q) (by omega)), ckk_y h1, h2, bd_s, ckk_y h3, h4, ck_n (by omega) (by omega), lt_d, jI_cl (by omega), g4 i (by omega)]
theorem c_frame (hk : k + 1 < 900) : lC_frame x0 (Inv x0 k) (Inv x0 (k + 1)) := by
  intro S M v1 v2 h
  have h0 := Inv_0 h (by omega)
  unfold fk_11_frame fm_frame fk_11_frame_17 fk_11_frame_122 fk_11_frame_74 fm_frame_23 fm_frame_76
  rw [lt_d, m_within, bd_s]
  generalize pu M 0 0 = A at h0 ⊢
  have h1 := Inv_1 h0 hk
  obtain ⟨ra, sl, mkO, L, Wt, ro, fa, hc, hh, hkd, hth, htx, hro, hl, hnu⟩ := h0
  obtain ⟨⟨a1, a2, a3, a4, a5, -⟩, -⟩ := hh
  rw [ckk_y a1, a5, bd_s, ckk_y hl.1.1]
  by_cases hv : 0 ≤ v1 ∧ v1 ≤ A.1 42 - 1
  · obtain ⟨i, i1, rfl, i2, wa, ta, nf, w, i3, i4, i5, i6, ⟨⟨y1, y2, y3, y4, y5, y6⟩, ⟨y7, y8, y9, y10, y11, y12⟩, -⟩, ⟨⟨z1, z2, z3, z4⟩, -, zb, z5, z6, z7, c, c1, c2, c3⟩, z9⟩ := k_lAtY hl hv
    rw [i2, bd_s, b2_t hv, if_neg n10]
    show ∃ r M1, (if 0 ≤ v2 then _ else _) = _ ∧ _
    by_cases e : 0 ≤ v2
    · rw [if_pos e, if_pos e, lt_d, show (640 : Int32) * Int32.ofNat i = Int32.ofNat (640 * i) from jI_mul 640 i]
      obtain ⟨c', e'⟩ : ∃ c', v2 = Int32.ofNat c' ∧ c' < 2147483648 := ⟨_, jI_of (Int32.not_lt.mpr e), jI_clt _⟩
      obtain ⟨rfl, hc'⟩ := e'
      have g := fun (q : Nat) (hq : q < 640) => (rd_n A 46 (i := 640 * i + q) (by omega))
      have hx : ∀ q, Int32.ofNat (640 * i) + Int32.ofNat q = Int32.ofNat (640 * i + q) := fun q => jI_add _ _
      by_cases e0 : c' = 0
      · subst e0
        rw [if_pos (show Int32.ofNat 0 = 0 from rfl), if_neg (show ¬ (8 : Int32) ≤ Int32.ofNat 0 by decide), hx, ck_n (by omega) (by omega), g _ (by omega)]
        exact ⟨_, _, by rw [ckk_y y1, z1]; rfl, rfl, h1⟩
      rw [if_neg (jN 0 0 rfl e0 hc' (by decide))]
      by_cases e0 : c' = 1
      · subst e0
        rw [if_pos (show Int32.ofNat 1 = 1 from rfl), if_neg (show ¬ (8 : Int32) ≤ Int32.ofNat 1 by decide), hx, ck_n (by omega) (by omega), g _ (by omega)]
        exact ⟨_, _, by rw [ckk_y y1, z2]; rfl, rfl, h1⟩
      rw [if_neg (jN 1 1 rfl e0 hc' (by decide))]
      by_cases e0 : c' = 2
      · subst e0
        rw [if_pos (show Int32.ofNat 2 = 2 from rfl), if_neg (show ¬ (8 : Int32) ≤ Int32.ofNat 2 by decide), hx, ck_n (by omega) (by omega), g _ (by omega)]
        refine ⟨_, _, ?_, rfl, h1⟩
        rw [ckk_y y1, z3]
        show (if gF A i 2 = 0 then some 0 else some 1) = some (gF A i 2)
        rcases zb with q | q <;> rw [q] <;> rfl
      rw [if_neg (jN 2 2 rfl e0 hc' (by decide))]
      by_cases e0 : c' = 3
      · subst e0
        rw [if_pos (show Int32.ofNat 3 = 3 from rfl), if_neg (show ¬ (8 : Int32) ≤ Int32.ofNat 3 by decide), hx, ck_n (by omega) (by omega), g _ (by omega)]
        exact ⟨_, _, by rw [ckk_y y1, z4]; rfl, rfl, h1⟩
      rw [if_neg (jN 3 3 rfl e0 hc' (by decide))]
      by_cases e8 : 8 ≤ c'
      · have e8' : (8 : Int32) ≤ Int32.ofNat c' := (jI_le (a := 8) (by decide) hc').mpr e8
        rw [if_pos e8', if_pos e8', ckk_y y1, z4, c2, show (8 : Int32) = Int32.ofNat 8 from rfl, jI_sub e8, show (3 : Int32) = Int32.ofNat 3 from rfl, hx, hx, ck_n (by omega) (by omega), g _ (by omega), show A.2 46 (640 * i + 3) = Int32.ofNat c from c2]
        by_cases e9 : c ≤ c' - 8
        · rw [if_pos ((jI_le (by omega) (by omega)).mpr e9), if_pos ((jI_le (by omega) (by omega)).mpr e9)]
          exact ⟨_, _, rfl, rfl, h1⟩
        · obtain ⟨r, r1, r2, r3⟩ := c3 (c' - 8) (by omega)
          rw [show 8 + (c' - 8) = c' by omega] at r2
          rw [if_neg (fun q => e9 ((jI_le (by omega) (by omega)).mp q)), if_neg (fun q => e9 ((jI_le (by omega) (by omega)).mp q)), ck_n (by omega) (by omega), g _ (by omega), show A.2 46 (640 * i + c') = Int32.ofNat r from r2, m_nameOf r1.1, bd_s]
          refine ⟨_, _, ?_, rfl, h1⟩
          obtain ⟨-, k9, -, ⟨-, -, k11, -⟩, -⟩ := hc.2.1.1.2.2.1 r r1.1 r1
          rw [ckk_y y1, y4, bd_s, ckk_y y11, y12, ck_n (by omega) (by omega), lt_d, jI_cl (by omega), r3, bd_s, ckk_y k9, k11]
      · have e8' : ¬ (8 : Int32) ≤ Int32.ofNat c' := fun q => e8 ((jI_le (a := 8) (by decide) hc').mp q)
        rw [if_neg e8', if_neg e8', hx, ck_n (by omega) (by omega), g _ (by omega), ckk_y y1, y2, bd_s, ckk_y y7, y8, show (4 : Int32) = Int32.ofNat 4 from rfl, jI_sub (by omega), ck_n (by omega) (by omega), jI_cl (by omega), (z5 (c' - 4) (by omega)).1, show 4 + (c' - 4) = c' by omega]
        exact ⟨_, _, rfl, rfl, h1⟩
    · rw [if_neg e, if_neg e]
      exact ⟨_, _, rfl, rfl, h1⟩
  · rw [k_lAtN hl hv, bd_s, b2_f hv, if_pos rfl]
    exact ⟨_, _, rfl, rfl, h1⟩
end R
