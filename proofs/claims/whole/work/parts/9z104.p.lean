-- part 104: kind, the call
section V
variable {S S' : cSt} {M M' A : mSt} {x0 n k : Nat} {W : Nat → Prop}
/-- a kind more, no row -/
theorem Inv_kd {k' : Nat} {N : mSt} (h : Inv x0 k S M) (hkk : k ≤ k') (hk : k' < 900) (no : ∀ j, j ≠ 5 → j ≠ 6 → N.2 j = M.2 j) (n1 : ∀ j, 42 ≤ j → j < 47 → N.1 j = M.1 j) (hg : ∀ i, M.2 6 i ≠ 0 → N.2 6 i = M.2 6 i) (eS : cEq W S S') (hW : ∀ a, W a → x0 + 1 ≤ a ∧ a < x0 + 5) (hkd : kdI x0 S' N) : Inv x0 k' S' N := by
  obtain ⟨ra, sl, mkO, L, Wt, ro, fa, hc, hh, -, ht, hx, hr, hl, hn⟩ := h
  have hN : N = mu56 N.1 M (N.2 5) (N.2 6) := by
    refine Prod.ext rfl (funext fun j => ?_)
    show N.2 j = if j = 6 then N.2 6 else if j = 5 then N.2 5 else M.2 j
    by_cases c : j = 6
    · rw [if_pos c, c]
    · rw [if_neg c]
      by_cases c2 : j = 5
      · rw [if_pos c2, c2]
      · rw [if_neg c2, no j c2 c]
  have hmd : mde N = mde M := by unfold mde mdN; rw [no 7 (by decide) (by decide)]
  have hmn : mdN N = mdN M := by funext q; unfold mdN; rw [no 7 (by decide) (by decide)]
  have eM : lvM M N := ⟨trivial, fun q hq => by rw [hmd]; exact hq, fun q _ => by rw [hmn]; exact Nat.le_refl _, fun q _ => by rw [no 9 (by decide) (by decide), no 10 (by decide) (by decide), no 11 (by decide) (by decide), no 12 (by decide) (by decide), no 13 (by decide) (by decide), no 14 (by decide) (by decide), no 15 (by decide) (by decide), no 16 (by decide) (by decide)]; exact ⟨⟨rfl, rfl, rfl, rfl, rfl, rfl, rfl⟩, fun _ _ => rfl⟩, hg⟩
  have eC := lvC_k eS hW
  have hm : ∀ j m, mkO j = some m → mde M m := fun j m hj => (hc.1.1.2.1.1 j m hj).2.1
  have eR : lvR M ra ra mkO mkO := ⟨fun _ _ => rfl, fun _ _ h => h, hm⟩
  have hco : core x0 (1000 * k') S' M ra sl mkO L Wt := core_o hc (fun k _ _ => rfl) eS (fun a ha => by have := hW a ha; omega) (by omega) (by omega)
  have hco' : core x0 (1000 * k') S' N ra sl mkO L Wt := by rw [hN]; exact core_56 hg hco
  refine ⟨ra, sl, mkO, L, Wt, ro, fa, hco', hsI_g hh eC (n1 45 (by decide) (by decide)), hkd, thI_g ht eC, txI_g hx eC (fun _ _ => rfl), ?_, lnI_g hl eM eR (fun k hk => ⟨n1 k hk.1 hk.2, no k (by omega) (by omega)⟩) eC (cSm_eq eS (fun a ha q => by have := hW a q; omega)) (fun _ _ => rfl) (by omega), nuI_g hn eM eR (by omega) (no 21 (by decide) (by decide)) (no 22 (by decide) (by decide)) (no 31 (by decide) (by decide))⟩
  unfold roI; rw [hmd]; exact hr
theorem c_kind (hk : k + 1 < 900) : lC_kind x0 (Inv x0 k) (Inv x0 (k + 1)) := by
  intro S M h
  have h0 := h
  obtain ⟨ra, sl, mkO, L, Wt, ro, fa, hc, hh, hkd, hth, htx, hro, hl, hnu⟩ := h0
  have hkd' := hkd
  obtain ⟨⟨a1, -⟩, ⟨b1, b2', b3⟩, -, -, -, tp, kn, h6, h7, h8, h9, -⟩ := hkd'
  unfold fk_11_kind fk_3_takeTape fm_kind
  rw [ckk_y hh.1.1, hh.1.2.1, bd_s, ckk_y a1, ckk_y a1, lt_d, ckk_y a1, lt_d, bd_s, lt_d, lt_d, b1, h8, lt_d, lt_d]
  have kd2 := kdI_1 hkd
  generalize hS2 : cPi S (x0 + 1) 1 0 = S2 at kd2
  generalize hM2 : pu M 1 0 = M2 at kd2
  have eS2 : cEq (fun a => a = x0 + 1) S S2 := by rw [← hS2]; exact cEq_cPi _ rfl
  have hh2 : hsI x0 S2 M2 := hsI_g hh (lvC_k eS2 (fun a ha => by omega)) (by rw [← hM2, pu_o _ _ (by decide)])
  obtain ⟨F, ok, q1, q2, q3, q4⟩ := t_fault hh2 kd2 (tp := tp) h6
  have kd3 := kdI_3 kd2 F
  show ∃ tg r S1 r2 M1, ckk S2 x0 12 _ = _ ∧ _
  rw [ckk_y hh2.1.1, hh2.1.2.1, bd_s, ckk_y hh2.1.1, bd_s, ckk_y kd2.1.1]
  show ∃ tg r S1 r2 M1, bd (fk_3_faultIn S2 (x0 + 1) (Int32.ofNat tp)) _ = _ ∧ _
  rw [q1, bd_s, ckk_y kd2.1.1, lt_d, q2]
  unfold fm_kind_66 fm_kind_92
  rw [lt_d]
  generalize hS7 : cPi S2 (x0 + 1) 3 F = S7 at kd3
  generalize hM3 : pu M2 3 F = M3 at kd3
  have eS7 : cEq (fun a => a = x0 + 1) S S7 := cEq_trans eS2 (by rw [← hS7]; exact cEq_cPi _ rfl)
  have hh7 : hsI x0 S7 M3 := hsI_g hh (lvC_k eS7 (fun a ha => by omega)) (by rw [← hM3, ← hM2, pu_o _ _ (by decide), pu_o _ _ (by decide)])
  have f3 : kF S7 (x0 + 1) 3 = F := by rw [← hS7]; exact kF_cPi _ _ _ _
  have m4 : M3.1 4 = Int32.ofNat kn := by rw [← hM3, ← hM2, pu_o _ _ (by decide), pu_o _ _ (by decide)]; exact h9
  have f2 : kF S7 (x0 + 1) 2 = Int32.ofNat kn := by rw [kd3.2.1.2.1]; exact m4
  have eM : ∀ x, mEx (fun j => j ≤ 4 ∨ 47 ≤ j) M (pu M3 0 x) := fun x => by
    rw [← hM3, ← hM2]
    exact mEx_trans (mEx_trans (mEx_pu (by omega) _) (mEx_pu (by omega) _)) (mEx_pu (by omega) _)
  have IK : ∀ x, Inv x0 (k + 1) S7 (pu M3 0 x) := fun x => Inv_k h (by omega) hk (eM x) eS7 (fun a ha => by omega) (kdI_0 kd3 x)
  rw [ckk_y hh7.1.1, hh7.1.2.1, bd_s, ckk_y kd3.1.1, f3]
  cases ok with
  | false =>
    have hF : F ≠ -1 := fun e => by have := q3.mpr e; cases this
    rw [if_neg hF, if_pos bFn, lt_d, pu_s, if_neg n10]
    exact ⟨_, _, _, _, _, rfl, rfl, Or.inr (Or.inl ⟨rfl, pu_s _ _ _⟩), IK 1⟩
  | true =>
    have hF : F = -1 := q3.mp rfl
    obtain ⟨t1, t2, t3⟩ := q4 rfl
    rw [if_pos hF, if_neg bTn, ckk_y hh7.1.1, bd_s, ckk_y kd3.1.1, f2, m4]
    by_cases c : kn < 8
    · have kd4 := kdI_0 kd3 0
      generalize hM4 : pu M3 0 0 = M4 at kd4
      have m44 : M4.1 4 = Int32.ofNat kn := by rw [← hM4, pu_o _ _ (by decide)]; exact m4
      have m40 : M4.1 0 = 0 := by rw [← hM4]; exact pu_s _ _ _
      rw [if_pos (show Int32.ofNat kn < 8 from (jI_lt (b := 8) (by omega) (by decide)).mpr c), if_neg (jN 8 8 rfl (by omega) (by omega) (by decide)), lt_d, m40, if_pos rfl, m44, ck_n c (by omega), lt_d, ckk_y hh7.1.1, bd_s, ckk_y kd3.1.1, k_enter kd4 t2 c m44, bd_s, lt_d, lt_d]
      generalize hM5 : wr M4 5 (Int32.ofNat kn) (Int32.ofNat tp) = M5
      have m5 : M5.2 5 = upd (M4.2 5) kn (Int32.ofNat tp) := by rw [← hM5]; exact wr_s _ _ (by omega) _
      have m5o : ∀ j, j ≠ 5 → M5.2 j = M4.2 j := fun j hj => by rw [← hM5]; exact wr_o _ _ _ hj
      have m51 : M5.1 = M4.1 := by rw [← hM5]; rfl
      obtain ⟨D, d1, d2, d3⟩ := m_kindGo (M := M5) t2 c tp 0 mFU M5 (by omega) (Nat.lt_of_le_of_lt t2 (by decide)) (mEx_refl _ _) (by rw [m51]; exact m44) (fun q => by rw [if_neg (by omega)])
      have d1' : fm_kind_117 mFU M5 (Int32.ofNat tp) 0 = some (Int32.ofNat kn, pu D 4 (Int32.ofNat (kn + 1))) := d1
      have M42 : M4.2 = M.2 := by rw [← hM4, ← hM3, ← hM2]; rfl
      obtain ⟨e1, e2⟩ := kdI_enter kd4 t1 t2 c m44 (N := pu D 4 (Int32.ofNat (kn + 1))) (fun i hi => by rw [M42]; have := t3 i hi; rw [← hM2] at this; exact this) (pu_s _ _ _) (by rw [pu_o _ _ (by decide), (d2 1 (by decide)).1, m51]) (by rw [pu_o _ _ (by decide), (d2 3 (by decide)).1, m51]) (by rw [pu_2, (d2 5 (by decide)).2, m5]) (fun q => by rw [pu_2, d3 q, m5o 2 (by decide), m5o 6 (by decide)]) (fun j h5 h6 => by rw [pu_2, (d2 j h6).2, m5o j h5])
      rw [d1']
      refine ⟨0, _, _, _, _, rfl, rfl, Or.inl ⟨rfl, ?_, rfl⟩, ?_⟩
      · rw [pu_o _ _ (by decide), (d2 0 (by decide)).1, m51]; exact m40
      · refine Inv_kd (W := fun a => x0 + 1 ≤ a ∧ a < x0 + 5) h (by omega) hk (fun j h5 h6 => by rw [pu_2, (d2 j h6).2, m5o j h5, M42]) (fun j g1 g2 => ?_) (fun i hi => ?_) (cEq_trans (cEq_mono eS7 (fun a ha => by omega)) (cEq_trans (cEq_trans (cEq_sI _ (by omega)) (cEq_cWi _ (by omega))) (cEq_cPi _ (by omega)))) (fun a ha => ha) e1
        · rw [pu_o _ _ (by omega), (d2 j (by omega)).1, m51, ← hM4, ← hM3, ← hM2, pu_o _ _ (by omega), pu_o _ _ (by omega), pu_o _ _ (by omega)]
        · rw [← M42] at hi ⊢; exact e2 i hi
    · have c8 : kn = 8 := by omega
      subst c8
      rw [if_neg (show ¬ Int32.ofNat 8 < 8 by decide), if_pos (show Int32.ofNat 8 = 8 from rfl), lt_d, pu_s, if_neg (show ¬ (2 : Int32) = 0 by decide)]
      exact ⟨_, _, _, _, _, rfl, rfl, Or.inr (Or.inr ⟨rfl, pu_s _ _ _⟩), IK 2⟩
end V
