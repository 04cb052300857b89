-- part 93: calm
section V
variable {S S' : cSt} {M A : mSt} {ra : Nat → Nat} {sl : Nat → Int32} {mkO : Nat → Option Nat} {x0 n k : Nat} {l : List Nat} {L Wt : Nat → List Nat} {Bt : Nat}
theorem cLg_0 {lg w N : Nat} {E : List En} (h : cLg S lg w N E) (hk : kK S' lg = kK S lg ∧ kK S' (lg + 1) = kK S (lg + 1) ∧ kL S' (lg + 1) = kL S (lg + 1)) (h0 : kF S' lg 0 = 0) (ho : ∀ j, j ≠ 0 → kF S' lg j = kF S lg j) (hr : kR S' lg = kR S lg) : cLg S' lg w N [] := by
  obtain ⟨-, ⟨h1, -, h3, h4, h5⟩, ⟨h6, h7⟩, -⟩ := h
  refine ⟨Nat.zero_le _, ⟨by rw [hk.1]; exact h1, h0, by rw [ho 1 (by decide)]; exact h3, by rw [ho 2 (by decide)]; exact h4, by rw [hr]; exact h5⟩, ⟨by rw [hk.2.1]; exact h6, by rw [hk.2.2]; exact h7⟩, fun i hi => absurd hi (by simp)⟩
theorem c_calm (hk : k + 1 < 900) : lC_calm x0 (Inv x0 k) (Inv x0 (k + 1)) := by
  intro S M v1 h
  have h0 := Inv_0 h (by omega)
  unfold fk_11_calm fm_calm
  rw [lt_d, k_isNode, bd_s, m_wb]
  generalize pu M 0 0 = A at h0 ⊢
  have h1 := Inv_1 h0 hk
  obtain ⟨ra, sl, mkO, L, Wt, ro, fa, hc, hh, hkd, hth, htx, hro, hl, hnu⟩ := h0
  by_cases hv : 0 ≤ v1 ∧ v1 ≤ 3
  · obtain ⟨n, hn, rfl⟩ := wi3.mp hv
    rw [b2_t hv, if_neg n10, if_neg n10, k_nd hh hn, bd_s]
    have hc' := hc
    obtain ⟨⟨hA, hsl, htb, hBt⟩, -, hN, -⟩ := hc'
    obtain ⟨⟨hM1, hC1⟩, ⟨hw1, hw2, hw3⟩, hown⟩ := hN n hn
    obtain ⟨⟨hy, hv', hls⟩, ⟨E, hE, e1, e2, e3⟩, ⟨F, hF, f1, f2, f3⟩, ⟨f8, f9, f10⟩, hs, hsn, hcu⟩ := hC1
    rw [ckk_y hy.1.1, hy.1.2.2.2.2.1, bd_s, ckk_y hE.2.1.1, lt_d, k_nd hh hn, bd_s, ckk_y hy.1.1, hy.1.2.2.2.2.1, bd_s, ckk_y hE.2.1.1, lt_d, ck_n hn (by omega), rd_n _ _ (by omega), lt_d, ck_n hn (by omega), lt_d, ck_n hn (by omega), lt_d]
    generalize hS1 : cPi S (sN x0 n + 1) 0 0 = S1
    have eS1 : cEq (fun a => a = sN x0 n + 1) S S1 := by rw [← hS1]; exact cEq_cPi _ rfl
    have hW1 : ∀ a, a = sN x0 n + 1 → x0 + 22 ≤ a ∧ a < x0 + 126 := fun a ha => by subst ha; unfold sN; omega
    have hh1 : hsI x0 S1 A := hsI_g hh (lvC_eq eS1 hW1) rfl
    have zn := eS1.2.2.2.2 (sN x0 n) (by omega)
    have z3 := eS1.2.2.2.2 (sN x0 n + 3) (by omega)
    rw [k_nd hh1 hn, bd_s, ckk_y (by rw [eS1.1]; exact hy.1.1), zn.2.1, hy.1.2.2.2.2.2.1, bd_s, ckk_y (by rw [eS1.1]; exact hF.2.1.1), lt_d, hE.2.1.2.1, e2]
    generalize hS8 : cPi S1 (sN x0 n + 3) 0 0 = S8
    generalize hM8 : wr (wr A 27 (Int32.ofNat n) 0) 37 (Int32.ofNat n) 0 = M8
    have eS : cEq (fun a => a = sN x0 n + 1 ∨ a = sN x0 n + 3) S S8 := cEq_trans (cEq_mono eS1 (fun a ha => Or.inl ha)) (by rw [← hS8]; exact cEq_cPi _ (Or.inr rfl))
    have eM : mEx (fun k => k = 27 ∨ k = 37) A M8 := by rw [← hM8]; exact mEx_trans (mEx_wr (Or.inl rfl) _ _) (mEx_wr (Or.inr rfl) _ _)
    have m27 : M8.2 27 = upd (A.2 27) n 0 := by rw [← hM8, wr_o _ _ _ (by decide)]; exact wr_s _ _ (by omega) _
    have m37 : M8.2 37 = upd (A.2 37) n 0 := by rw [← hM8, wr_s _ _ (by omega), wr_o _ _ _ (by decide)]
    have r : rEq A M8 := fun k h1 h2 => (eM k (by omega)).2
    have fm : ∀ k, k ≠ 27 → k ≠ 37 → M8.2 k = A.2 k := fun k h1 h2 => (eM k (by omega)).2
    have hW : ∀ a, a = sN x0 n + 1 ∨ a = sN x0 n + 3 → x0 + 22 ≤ a ∧ a < x0 + 126 := fun a ha => by unfold sN at ha; omega
    have R : ∀ a, kR S8 a = kR S a := fun a => by rw [← hS8, ← hS1]; rfl
    have c1 : kF S8 (sN x0 n + 1) 0 = 0 := by rw [← hS8, kF_cPo _ _ (by omega), ← hS1]; exact kF_cPi _ _ _ _
    have c1' : ∀ j, j ≠ 0 → kF S8 (sN x0 n + 1) j = kF S (sN x0 n + 1) j := fun j hj => by rw [← hS8, kF_cPo _ _ (by omega), ← hS1, kF_cPo _ _ (by omega)]
    have c3 : kF S8 (sN x0 n + 3) 0 = 0 := by rw [← hS8]; exact kF_cPi _ _ _ _
    have c3' : ∀ j, j ≠ 0 → kF S8 (sN x0 n + 3) j = kF S (sN x0 n + 3) j := fun j hj => by rw [← hS8, kF_cPo _ _ (by omega), ← hS1, kF_cPo _ _ (by omega)]
    have eS0 := eS.2.2.2.2 (sN x0 n) (by omega)
    refine ⟨_, _, _, rfl, rfl, ?_⟩
    have hco : core x0 (1000 * (k + 1)) S8 M8 ra sl mkO (updL L n (L n)) (updL Wt n (Wt n)) := by
      refine core_n1 hc hn eS (fun a ha => by omega) r (fun n' hn' e => nEq_of r (fun k k1 k2 i hi => ?_)) (tBd_mono (tBd_f htb r (fun k hk => fm k (by omega) (by omega))) (by omega)) (by omega) ⟨⟨nM_w hM1 r (fun k hk => fm k (by omega) (by omega)) (lsM_f hM1.2.2.1 (fun k hk => fm k (by omega) (by omega))), ?_⟩, ⟨?_, ?_, wOk_r hw3 r⟩, hown⟩
      · by_cases e27 : k = 27
        · subst e27
          have : i = n' := by simpa [wdt] using hi
          rw [m27, upd_o _ _ (by omega)]
        · by_cases e37 : k = 37
          · subst e37
            have : i = n' := by simpa [wdt] using hi
            rw [m37, upd_o _ _ (by omega)]
          · rw [fm k e27 e37]
      · refine ⟨⟨cNy_eq hy eS (R _) (by rw [eS0.1]), cNv_r r ⟨cLed_eq hv'.1 eS (fun a ha => by omega), cVw_eq hv'.2.1 eS (by omega) (by omega), vwA_eq hv'.2.2 eS (by omega)⟩, cLs_f hls (fun k hk => fm k (by omega) (by omega)) (eS.2.2.2.2 _ (by omega)).2.2.1⟩, ⟨[], cLg_0 hE ⟨eS.1 _, eS.1 _, eS.2.1 _⟩ c1 c1' (R _), Nat.zero_le _, by rw [m27, upd_s]; rfl, fun i hi => absurd hi (by simp)⟩, ⟨[], cLg_0 hF ⟨eS.1 _, eS.1 _, eS.2.1 _⟩ c3 c3' (R _), Nat.zero_le _, by rw [m37, upd_s]; rfl, fun i hi => absurd hi (by simp)⟩, ⟨?_, ?_, ?_⟩, ?_, ?_, ?_⟩
        · rw [eS0.1, fm 17 (by decide) (by decide)]; exact f8
        · rw [eS0.1, fm 18 (by decide) (by decide)]; exact f9
        · rw [eS0.1, fm 19 (by decide) (by decide)]; exact f10
        · unfold snV; rw [(eS.2.2.2.2 (sN x0 n + 5) (by omega)).2.2.1, fm 20 (by decide) (by decide), fm 21 (by decide) (by decide)]; exact hs
        · rw [(eS.2.2.2.2 (sN x0 n + 6) (by omega)).2.2.1, fm 22 (by decide) (by decide)]; exact hsn
        · rw [(eS.2.2.2.2 (sN x0 n + 7) (by omega)).2.2.1, fm 31 (by decide) (by decide)]; exact hcu
      · unfold mWt; rw [fm 25 (by decide) (by decide), fm 26 (by decide) (by decide)]; exact hw1
      · unfold nW; rw [eS0.1, (eS.2.2.2.2 (sN x0 n + 8) (by omega)).2.2.2]; exact hw2
    rw [updL_id, updL_id] at hco
    refine Inv_n hh hkd hth htx hro hl (by omega) (fun j m hj => (hA.2.1.1 j m hj).2.1) (mEx_mono eM (fun k hk => by omega)) eS hW hco ?_
    exact nuI_g hnu (lvM_r (mEx_mono eM (fun k hk => by omega))) (ra := ra) (ra' := ra) ⟨fun _ _ => rfl, fun _ _ h => h, fun j m hj => (hA.2.1.1 j m hj).2.1⟩ (by omega) (fm 21 (by decide) (by decide)) (fm 22 (by decide) (by decide)) (fm 31 (by decide) (by decide))
  · rw [b2_f hv, if_pos rfl, if_pos rfl]
    exact ⟨_, _, _, rfl, rfl, h1⟩
end V
