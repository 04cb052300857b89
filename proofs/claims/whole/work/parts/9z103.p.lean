-- part 103: kind, the call
section V
variable {S S' : cSt} {M M' A : mSt} {x0 n k : Nat} {W : Nat → Prop}
theorem fit_n {c : Nat} (h : c < 128) : fits .char (.int (Int32.ofNat c)) = true := by
  have : ∀ x : Fin 128, fits .char (.int (Int32.ofNat x.1)) = true := by decide
  exact this ⟨c, h⟩
theorem k_enter (h : kdI x0 S M) {tp kn : Nat} (htp : tp ≤ 6) (hkn : kn < 8) (h4 : M.1 4 = Int32.ofNat kn) : fk_3_enter S (x0 + 1) (Int32.ofNat tp) = some (Int32.ofNat kn, cPi (cWi (sI S (x0 + 3) (va_cpy (kI S (x0 + 2)) (kI S (x0 + 3)) 0 (6 * kn) tp)) (x0 + 4) kn (Int32.ofNat tp)) (x0 + 1) 2 (Int32.ofNat (kn + 1))) := by
  obtain ⟨⟨a1, a2, a3, a4, a5, a6, a7, a8, a9, a10⟩, ⟨b1, b2, b3⟩, h3, -⟩ := h
  have e6 : Int32.ofNat kn * 6 = Int32.ofNat (6 * kn) := by rw [show (6 : Int32) = Int32.ofNat 6 from rfl, jI_mul, Nat.mul_comm]
  unfold fk_3_enter
  rw [ckk_y a1, lt_d, b2, h4, ckk_y a1, a2, bd_s, ckk_y a1, a3, bd_s, ckk_y a5, ckk_y a7, e6, jI_cl (by omega), jI_cl (by omega), a6, a8, ckp_y ⟨⟨by decide, jI_nn (by omega), jI_nn (by omega)⟩, by show 0 + tp ≤ 40; omega, by omega⟩, ckp_y (fun i hi => by
    obtain ⟨e1, c, c1, c2⟩ := h3 i (by omega)
    show fits .char (.int (kI S (x0 + 2) (0 + i))) = true
    rw [Nat.zero_add, e1, c2]; exact fit_n c1), lt_d]
  have eC : cCp S (x0 + 2) (Int32.toNatClampNeg 0) (x0 + 3) (6 * kn) tp = sI S (x0 + 3) (va_cpy (kI S (x0 + 2)) (kI S (x0 + 3)) 0 (6 * kn) tp) := rfl
  rw [eC]
  generalize hT : sI S (x0 + 3) (va_cpy (kI S (x0 + 2)) (kI S (x0 + 3)) 0 (6 * kn) tp) = T
  have t1 : kK T (x0 + 1) = 4 := by rw [← hT]; exact a1
  have t2 : kR T (x0 + 1) 5 = some (x0 + 4) := by rw [← hT]; exact a4
  have t3 : kK T (x0 + 4) = 20 := by rw [← hT]; exact a9
  have t4 : kL T (x0 + 4) = 8 := by rw [← hT]; exact a10
  have t5 : kF T (x0 + 1) 2 = Int32.ofNat kn := by rw [← hT]; exact b2.trans h4
  have u1 : kK (cWi T (x0 + 4) kn (Int32.ofNat tp)) (x0 + 1) = 4 := t1
  have u2 : kF (cWi T (x0 + 4) kn (Int32.ofNat tp)) (x0 + 1) 2 = Int32.ofNat kn := t5
  rw [ckk_y t1, t2, bd_s, ckk_y t3, t4, ck_n hkn (by omega), lt_d, jI_cl (by omega), ckk_y u1, ckk_y u1, u2, lt_d, show Int32.ofNat kn + 1 = Int32.ofNat (kn + 1) from jI_add kn 1]
theorem kdI_enter (h : kdI x0 S M) {tp kn : Nat} (ht1 : 1 ≤ tp) (htp : tp ≤ 6) (hkn : kn < 8) (h4 : M.1 4 = Int32.ofNat kn) (hrl : ∀ i, i < tp → isRl (M.2 2 i)) {N : mSt} (n4 : N.1 4 = Int32.ofNat (kn + 1)) (n1 : N.1 1 = M.1 1) (n3 : N.1 3 = M.1 3) (n5 : N.2 5 = upd (M.2 5) kn (Int32.ofNat tp)) (n6 : ∀ q, N.2 6 q = if 6 * kn ≤ q ∧ q < 6 * kn + tp then M.2 2 (q - 6 * kn) else M.2 6 q) (no : ∀ j, j ≠ 5 → j ≠ 6 → N.2 j = M.2 j) : kdI x0 (cPi (cWi (sI S (x0 + 3) (va_cpy (kI S (x0 + 2)) (kI S (x0 + 3)) 0 (6 * kn) tp)) (x0 + 4) kn (Int32.ofNat tp)) (x0 + 1) 2 (Int32.ofNat (kn + 1))) N ∧ ∀ i, M.2 6 i ≠ 0 → N.2 6 i = M.2 6 i := by
  generalize hS : cPi (cWi (sI S (x0 + 3) (va_cpy (kI S (x0 + 2)) (kI S (x0 + 3)) 0 (6 * kn) tp)) (x0 + 4) kn (Int32.ofNat tp)) (x0 + 1) 2 (Int32.ofNat (kn + 1)) = S'
  obtain ⟨h1, h2, h3, h4', h5, tp', kn', h6, h7, h8, h9, h10, h11⟩ := h
  have ek : kn' = kn := by
    rw [h4] at h9; exact ((jI_inj (by omega) (by omega)).mp h9).symm
  subst ek
  have kk : ∀ a, kK S' a = kK S a := fun a => by rw [← hS]; rfl
  have kl : ∀ a, kL S' a = kL S a := fun a => by rw [← hS]; rfl
  have kr : ∀ a, kR S' a = kR S a := fun a => by rw [← hS]; rfl
  have f2 : kF S' (x0 + 1) 2 = Int32.ofNat (kn' + 1) := by rw [← hS]; exact kF_cPi _ _ _ _
  have fo : ∀ j, j ≠ 2 → kF S' (x0 + 1) j = kF S (x0 + 1) j := fun j hj => by rw [← hS, kF_cPo _ _ (by omega)]; rfl
  have i4 : kI S' (x0 + 4) = upd (kI S (x0 + 4)) kn' (Int32.ofNat tp) := by
    rw [← hS]; show kI (cWi _ (x0 + 4) kn' (Int32.ofNat tp)) (x0 + 4) = _; rw [kI_cWi, kI_sIo _ _ (by omega)]
  have i3 : kI S' (x0 + 3) = va_cpy (kI S (x0 + 2)) (kI S (x0 + 3)) 0 (6 * kn') tp := by
    rw [← hS]; show kI (cWi _ (x0 + 4) kn' (Int32.ofNat tp)) (x0 + 3) = _; rw [cWi_sI, kI_sIo _ _ (by omega), kI_sI]
  have i2 : kI S' (x0 + 2) = kI S (x0 + 2) := by
    rw [← hS]; show kI (cWi _ (x0 + 4) kn' (Int32.ofNat tp)) (x0 + 2) = _; rw [cWi_sI, kI_sIo _ _ (by omega), kI_sIo _ _ (by omega)]
  obtain ⟨np0, z1, z2, z3, z4, z5, z6⟩ := h10 kn' hkn
  have z0 : np0 = 0 := z6 (Nat.le_refl _)
  have hz : ∀ q, 6 * kn' ≤ q → q < 6 * kn' + 6 → M.2 6 q = 0 := fun q q1 q2 => by
    have := z4 (q - 6 * kn') (by omega) (by omega)
    rwa [show 6 * kn' + (q - 6 * kn') = q by omega] at this
  refine ⟨⟨by rw [kk, kr, kk, kl, kk, kl, kk, kl]; exact h1, ⟨by rw [fo 1 (by decide), n1]; exact h2.1, by rw [f2, n4], by rw [fo 3 (by decide), n3]; exact h2.2.2⟩, by rw [i2, no 2 (by decide) (by decide)]; exact h3, fun i hi => ?_, fun i hi => ?_, tp', kn' + 1, h6, by omega, by rw [n1]; exact h8, n4, fun i hi => ?_, ?_⟩, fun i hi => ?_⟩
  · rw [i3, n6 i]
    unfold va_cpy
    by_cases c : 6 * kn' ≤ i ∧ i < 6 * kn' + tp
    · rw [if_pos c, if_pos c, Nat.zero_add]; exact h3 _ (by omega)
    · rw [if_neg c, if_neg c]; exact h4' i hi
  · rw [i4, n5]
    by_cases c : i = kn'
    · rw [c, upd_s, upd_s]
    · rw [upd_o _ _ c, upd_o _ _ c]; exact h5 i hi
  · rw [n5]
    by_cases c : i = kn'
    · subst c
      refine ⟨tp, htp, upd_s _ _ _, fun p hp => ?_, fun p hp hp6 => ?_, fun _ => ht1, fun q => by omega⟩
      · rw [n6, if_pos (by omega), show 6 * i + p - 6 * i = p by omega]; exact hrl p hp
      · rw [n6, if_neg (by omega)]; exact hz _ (by omega) (by omega)
    · obtain ⟨np, y1, y2, y3, y4, y5, y6⟩ := h10 i hi
      refine ⟨np, y1, by rw [upd_o _ _ c]; exact y2, fun p hp => ?_, fun p hp hp6 => ?_, fun q => y5 (by omega), fun q => y6 (by omega)⟩
      · rw [n6, if_neg (by omega)]; exact y3 p hp
      · rw [n6, if_neg (by omega)]; exact y4 p hp hp6
  · have hmd : mde N = mde M := by unfold mde mdN; rw [no 7 (by decide) (by decide)]
    rw [hmd, no 9 (by decide) (by decide), no 12 (by decide) (by decide)]
    intro m kd q1 q2 q3 q4
    have := h11 m kd q1 q2 q3 q4
    omega
  · rw [n6]
    by_cases c : 6 * kn' ≤ i ∧ i < 6 * kn' + tp
    · exact absurd (hz i c.1 (by omega)) hi
    · rw [if_neg c]
end V
