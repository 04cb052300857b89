-- part 76: one node's change; tick and stand
section N
variable {S S' : cSt} {M M' : mSt} {ra : Nat → Nat} {sl : Nat → Int32} {mkO : Nat → Option Nat} {L Wt : Nat → List Nat} {x0 Bt Bt' k n : Nat} {l w : List Nat} {W : Nat → Prop}
theorem core_n1 (h : core x0 Bt S M ra sl mkO L Wt) (hn : n < 4) (eS : cEq W S S') (hW : ∀ a, W a → sN x0 n ≤ a ∧ a < sN x0 n + 26) (r : rEq M M') (eN : ∀ n', n' < 4 → n' ≠ n → nEq M M' n') (htb : tBd M' Bt') (hBt : Bt' < 1000000) (hnew : (nM M' mkO sl n l ∧ nC S' M' ra sl x0 n l) ∧ (mWt M' n w ∧ nW S' ra x0 n w ∧ wOk M' l w) ∧ ∀ q, mde M q → rN q = n → q ∈ l) : core x0 Bt' S' M' ra sl mkO (updL L n l) (updL Wt n w) := by
  obtain ⟨⟨hA, hsl, -, -⟩, ⟨hB, hBa⟩, hN, hz, hra⟩ := h
  have out : ∀ a, W a → x0 + 22 ≤ a ∧ a < x0 + 126 := fun a ha => by have := hW a ha; unfold sN at this; omega
  refine ⟨⟨rA_r r hA, ?_, htb, hBt⟩, ⟨cBk_r r (cBk_eq hB eS (fun a ha => by have := out a ha; omega)), fun n hn => ?_⟩, fun n' hn' => ?_, by rw [eS.2.2.1]; exact hz, fun q hq => ?_⟩
  · unfold slI; rw [r 8 (by decide) (by decide)]; exact hsl
  · rw [(eS.2.2.2.2 (x0 + 8) (fun q => by have := out _ q; omega)).2.2.1, (eS.2.2.2.2 (x0 + 9) (fun q => by have := out _ q; omega)).2.2.1, r 7 (by decide) (by decide), r 8 (by decide) (by decide)]
    exact hBa n hn
  · rw [mde_r r]
    by_cases e : n' = n
    · subst e; rw [updL_s, updL_s]; exact hnew
    · rw [updL_o _ _ e, updL_o _ _ e]
      obtain ⟨⟨h1, h2⟩, ⟨h3, h4, h5⟩, h6⟩ := hN n' hn'
      have hs : ∀ a, W a → a < sN x0 n' ∨ sN x0 n' + 26 ≤ a := fun a ha => by have := hW a ha; unfold sN at *; omega
      exact ⟨⟨nM_eq h1 (eN n' hn' e), nC_eq h2 eS hs (eN n' hn' e)⟩, ⟨mWt_n h3 (eN n' hn' e), nW_eq h4 eS (fun q => by have := hs _ q; omega) (fun q => by have := hs _ q; omega), wOk_r h5 r⟩, h6⟩
  · rw [mde_r r] at hq; rw [eS.2.2.1]; exact hra q hq
theorem nC_w (h : nC S M ra sl x0 n l) (e : cEq W S S') (hW : ∀ a, W a → a < sN x0 n ∨ a = sN x0 n ∨ (sN x0 n + 5 ≤ a ∧ a ≤ sN x0 n + 11) ∨ sN x0 n + 21 ≤ a) (hR : kR S' (sN x0 n) = kR S (sN x0 n)) (hF : kF S' (sN x0 n) 0 = kF S (sN x0 n) 0) (r : rEq M M') (f : ∀ k, (27 ≤ k ∧ k ≤ 30) ∨ (37 ≤ k ∧ k ≤ 41) → M'.2 k = M.2 k) (hls : cLs S' M' (sN x0 n) n) (hf : kF S' (sN x0 n) 8 = M'.2 17 n ∧ kF S' (sN x0 n) 9 = M'.2 18 n ∧ kF S' (sN x0 n) 10 = M'.2 19 n) (hs : ∀ m q, m < 4 → q < 4 → kI S' (sN x0 n + 5) (4 * m + q) = snV M' n m q) (ht : ∀ k, k < 16 → kI S' (sN x0 n + 6) k = M'.2 22 (16 * n + k)) (hu : ∀ k, k < 16 → kI S' (sN x0 n + 7) k = M'.2 31 (16 * n + k)) : nC S' M' ra sl x0 n l := by
  obtain ⟨⟨h1, h2, -⟩, ⟨E, h4, h4'⟩, ⟨F, h5, h5'⟩, -⟩ := h
  have nw : ∀ k, 1 ≤ k → (k < 5 ∨ (12 ≤ k ∧ k < 21)) → ¬ W (sN x0 n + k) := fun k hk hk' q => by have := hW _ q; omega
  refine ⟨⟨cNy_eq h1 e hR hF, cNv_r r ⟨cLed_eq h2.1 e (fun a ha => by have := hW a ha; omega), cVw_eq h2.2.1 e (nw 20 (by decide) (by decide)) (nw 15 (by decide) (by decide)), vwA_eq h2.2.2 e (nw 20 (by decide) (by decide))⟩, hls⟩, ⟨E, cLg_eq h4 e (nw 1 (by decide) (by decide)) (nw 2 (by decide) (by decide)), ?_⟩, ⟨F, cLg_eq h5 e (nw 3 (by decide) (by decide)) (nw 4 (by decide) (by decide)), ?_⟩, hf, hs, ht, hu⟩
  · unfold mNw; rw [f 27 (by decide), f 28 (by decide), f 29 (by decide), f 30 (by decide)]; exact h4'
  · unfold mTu; rw [f 37 (by decide), f 38 (by decide), f 39 (by decide), f 40 (by decide), f 41 (by decide)]; exact h5'
theorem nM_w (h : nM M mkO sl n l) (r : rEq M M') (f : ∀ k, k = 18 ∨ k = 19 ∨ k = 20 ∨ k = 23 ∨ k = 24 → M'.2 k = M.2 k) (hls : lsM M' n) : nM M' mkO sl n l := by
  obtain ⟨⟨hA, hc, h2, h23⟩, hk, -, ho, hl⟩ := h
  refine ⟨⟨rA_r r hA, cl_r r hc, ?_, ?_⟩, ?_, hls, fun q hq => ?_, ?_⟩
  · unfold lAt; rw [f 24 (by decide)]; exact h2
  · rw [f 23 (by decide)]; exact h23
  · unfold knL; rw [f 20 (by decide)]; exact hk
  · rw [mdN_r r, f 20 (by decide)]; exact ho q hq
  · unfold lsT; rw [f 18 (by decide), f 19 (by decide), tS_r r]; exact hl
theorem lsM_f (h : lsM M n) (f : ∀ k, k = 6 ∨ (32 ≤ k ∧ k ≤ 36) → M'.2 k = M.2 k) : lsM M' n := by
  unfold lsM; rw [f 6 (by decide), f 32 (by decide), f 33 (by decide), f 34 (by decide)]; exact h
theorem cLs_f {nd : Nat} (h : cLs S M nd n) (f : ∀ k, k = 6 ∨ (32 ≤ k ∧ k ≤ 36) → M'.2 k = M.2 k) (hI : kI S' (nd + 11) = kI S (nd + 11)) : cLs S' M' nd n := by
  unfold cLs; rw [f 6 (by decide), f 32 (by decide), f 33 (by decide), f 34 (by decide), f 35 (by decide), f 36 (by decide), hI]; exact h
theorem updL_id (f : Nat → List Nat) (i : Nat) : updL f i (f i) = f := by
  funext j; unfold updL; by_cases h : j = i
  · rw [if_pos h, h]
  · rw [if_neg h]
/-- how many of a field's places each node has -/
def wdt (k : Nat) : Nat := if k = 20 ∨ (32 ≤ k ∧ k ≤ 36) then 4 else if k = 21 ∨ k = 22 ∨ k = 31 then 16 else if k = 24 then 1000 else if k = 26 then 30 else if 28 ≤ k ∧ k ≤ 30 then 250 else if 38 ≤ k ∧ k ≤ 41 then 200 else 1
theorem nEq_of (r : rEq M M') (h : ∀ k, 17 ≤ k → k ≤ 41 → ∀ i, i / wdt k = n → M'.2 k i = M.2 k i) : nEq M M' n := by
  refine ⟨r, ?_, fun q hq => ⟨?_, ?_, ?_, ?_, ?_, ?_⟩, fun k hk => ⟨?_, ?_, ?_⟩, fun i hi => ?_, fun i hi => ?_, ⟨?_, fun k hk => ⟨?_, ?_, ?_⟩⟩, ⟨?_, fun k hk => ⟨?_, ?_, ?_, ?_⟩⟩⟩
  · rintro k (e | e | e | e | e) <;> subst e <;> exact h _ (by decide) (by decide) _ (by show n / 1 = n; omega)
  · exact h 20 (by decide) (by decide) _ (by show (4 * n + q) / 4 = n; omega)
  · exact h 32 (by decide) (by decide) _ (by show (4 * n + q) / 4 = n; omega)
  · exact h 33 (by decide) (by decide) _ (by show (4 * n + q) / 4 = n; omega)
  · exact h 34 (by decide) (by decide) _ (by show (4 * n + q) / 4 = n; omega)
  · exact h 35 (by decide) (by decide) _ (by show (4 * n + q) / 4 = n; omega)
  · exact h 36 (by decide) (by decide) _ (by show (4 * n + q) / 4 = n; omega)
  · exact h 21 (by decide) (by decide) _ (by show (16 * n + k) / 16 = n; omega)
  · exact h 22 (by decide) (by decide) _ (by show (16 * n + k) / 16 = n; omega)
  · exact h 31 (by decide) (by decide) _ (by show (16 * n + k) / 16 = n; omega)
  · exact h 24 (by decide) (by decide) _ (by show (1000 * n + i) / 1000 = n; omega)
  · exact h 26 (by decide) (by decide) _ (by show (30 * n + i) / 30 = n; omega)
  · exact h 27 (by decide) (by decide) _ (by show n / 1 = n; omega)
  · exact h 28 (by decide) (by decide) _ (by show (250 * n + k) / 250 = n; omega)
  · exact h 29 (by decide) (by decide) _ (by show (250 * n + k) / 250 = n; omega)
  · exact h 30 (by decide) (by decide) _ (by show (250 * n + k) / 250 = n; omega)
  · exact h 37 (by decide) (by decide) _ (by show n / 1 = n; omega)
  · exact h 38 (by decide) (by decide) _ (by show (200 * n + k) / 200 = n; omega)
  · exact h 39 (by decide) (by decide) _ (by show (200 * n + k) / 200 = n; omega)
  · exact h 40 (by decide) (by decide) _ (by show (200 * n + k) / 200 = n; omega)
  · exact h 41 (by decide) (by decide) _ (by show (200 * n + k) / 200 = n; omega)
theorem c_tick (hk : k + 1 < 900) : lC_tick x0 (Inv x0 k) (Inv x0 (k + 1)) := by
  intro S M v1 v2 h
  have h0 := Inv_0 h (by omega)
  unfold fk_11_tick fm_tick fk_11_tick_19 fm_tick_25
  rw [lt_d, k_isNode, bd_s, m_within, bd_s]
  generalize pu M 0 0 = A at h0 ⊢
  have h1 := Inv_1 h0 hk
  obtain ⟨ra, sl, mkO, L, Wt, ro, fa, hc, hh, hkd, hth, htx, hro, hl, hnu⟩ := h0
  by_cases hv : 0 ≤ v1 ∧ v1 ≤ 3
  · obtain ⟨n, hn, rfl⟩ := wi3.mp hv
    rw [b2_t hv, if_neg n10, if_neg n10, m_within, bd_s]
    by_cases h2 : (1 : Int32) ≤ v2 ∧ v2 ≤ 1000
    · rw [b2_t h2, if_neg n10, if_neg (Int32.not_lt.mpr h2.1), if_pos h2.2]
      obtain ⟨t, ht, rfl⟩ : ∃ t, t < 1001 ∧ v2 = Int32.ofNat t := (wiE (N := 1001) (by decide)).mp ⟨Int32.le_trans (by decide) h2.1, h2.2⟩
      rw [k_nd hh hn, bd_s]
      have hc' := hc
      obtain ⟨⟨hA, hsl, htb, hBt⟩, -, hN, -⟩ := hc'
      obtain ⟨⟨hM1, hC1⟩, ⟨hw1, hw2, hw3⟩, hown⟩ := hN n hn
      have hC2 := hC1
      obtain ⟨⟨hy, -, hls⟩, -, -, ⟨f8, f9, f10⟩, hs, hsn, hcu⟩ := hC1
      obtain ⟨⟨T, T1, T2⟩, -⟩ := htb.1 n hn
      rw [ckk_y hy.1.1, ckk_y hy.1.1, lt_d, ck_n hn (by omega), ck_n hn (by omega), rd_n _ _ (by omega), lt_d, ck_n hn (by omega), f8, T2, jI_add]
      generalize hS8 : cPi S (sN x0 n) 8 (Int32.ofNat (T + t)) = S8
      generalize hM8 : wr A 17 (Int32.ofNat n) (Int32.ofNat (T + t)) = M8
      have eS : cEq (fun a => a = sN x0 n) S S8 := by rw [← hS8]; exact cEq_cPi _ rfl
      have eM : mEx (fun k => k = 17) A M8 := by rw [← hM8]; exact mEx_wr1 _ _
      have m17 : M8.2 17 = upd (A.2 17) n (Int32.ofNat (T + t)) := by rw [← hM8]; exact wr_s _ _ (by omega) _
      have f8' : kF S8 (sN x0 n) 8 = Int32.ofNat (T + t) := by rw [← hS8]; exact kF_cPi _ _ _ _
      have fo : ∀ j, j ≠ 8 → kF S8 (sN x0 n) j = kF S (sN x0 n) j := fun j hj => by rw [← hS8]; exact kF_cPo _ _ (by omega)
      have r : rEq A M8 := fun k h1 h2 => (eM k (by omega)).2
      have fm : ∀ k, k ≠ 17 → M8.2 k = A.2 k := fun k hk => (eM k hk).2
      have hW : ∀ a, a = sN x0 n → x0 + 22 ≤ a ∧ a < x0 + 126 := fun a ha => by subst ha; unfold sN; omega
      have hh8 : hsI x0 S8 M8 := hsI_g hh (lvC_eq eS hW) (eM 45 (by decide)).1
      have R8 : kR S8 (sN x0 n) = kR S (sN x0 n) := by rw [← hS8]; rfl
      refine ⟨_, _, _, by rw [k_nd hh8 hn, bd_s, ckk_y (by rw [eS.1]; exact hy.1.1), f8'], by rw [rd_n _ _ (by omega), m17, upd_s], ?_⟩
      have hco : core x0 (1000 * (k + 1)) S8 M8 ra sl mkO (updL L n (L n)) (updL Wt n (Wt n)) := by
        refine core_n1 hc hn eS (fun a ha => by subst ha; omega) r (fun n' hn' e => nEq_of r (fun k k1 k2 i hi => ?_)) ⟨fun n' hn' => ?_, fun q hq => ?_⟩ (by omega) ⟨⟨nM_w hM1 r (fun k hk => fm k (by omega)) (lsM_f hM1.2.2.1 (fun k hk => fm k (by omega))), nC_w hC2 eS (fun a ha => Or.inr (Or.inl ha)) R8 (fo 0 (by decide)) r (fun k hk => fm k (by omega)) (cLs_f hls (fun k hk => fm k (by omega)) (eS.2.2.2.2 _ (by omega)).2.2.1) ⟨?_, ?_, ?_⟩ ?_ ?_ ?_⟩, ⟨?_, ?_, wOk_r hw3 r⟩, hown⟩
        · by_cases e17 : k = 17
          · subst e17
            have : i = n' := by simpa [wdt] using hi
            rw [m17, upd_o _ _ (by omega)]
          · rw [fm k e17]
        · obtain ⟨⟨W, W1, W2⟩, T', C', g1, g2, g3, g4⟩ := htb.1 n' hn'
          refine ⟨?_, T', C', by rw [fm 18 (by decide)]; exact g1, by rw [fm 19 (by decide)]; exact g2, by omega, by rw [tot_r r]; exact g4⟩
          rw [m17]
          by_cases e : n' = n
          · exact ⟨T + t, by omega, by rw [e, upd_s]⟩
          · exact ⟨W, by omega, by rw [upd_o _ _ e]; exact W2⟩
        · rw [mde_r r] at hq
          obtain ⟨t', c', g1, g2, g3, g4⟩ := htb.2 q hq
          exact ⟨t', c', by rw [fm 14 (by decide)]; exact g1, by rw [fm 15 (by decide)]; exact g2, by omega, by rw [tot_r r]; exact g4⟩
        · rw [f8', m17, upd_s]
        · rw [fo 9 (by decide), fm 18 (by decide)]; exact f9
        · rw [fo 10 (by decide), fm 19 (by decide)]; exact f10
        · unfold snV; rw [(eS.2.2.2.2 (sN x0 n + 5) (by omega)).2.2.1, fm 20 (by decide), fm 21 (by decide)]; exact hs
        · rw [(eS.2.2.2.2 (sN x0 n + 6) (by omega)).2.2.1, fm 22 (by decide)]; exact hsn
        · rw [(eS.2.2.2.2 (sN x0 n + 7) (by omega)).2.2.1, fm 31 (by decide)]; exact hcu
        · unfold mWt; rw [fm 25 (by decide), fm 26 (by decide)]; exact hw1
        · unfold nW; rw [fo 11 (by decide), (eS.2.2.2.2 (sN x0 n + 8) (by omega)).2.2.2]; exact hw2
      rw [updL_id, updL_id] at hco
      refine Inv_n hh hkd hth htx hro hl (by omega) (fun j m hj => (hA.2.1.1 j m hj).2.1) (mEx_mono eM (fun k hk => by omega)) eS hW hco ?_
      exact nuI_g hnu (lvM_r (mEx_mono eM (fun k hk => by omega))) (ra := ra) (ra' := ra) ⟨fun _ _ => rfl, fun _ _ h => h, fun j m hj => (hA.2.1.1 j m hj).2.1⟩ (by omega) (fm 21 (by decide)) (fm 22 (by decide)) (fm 31 (by decide))
    · rw [b2_f h2, if_pos rfl]
      by_cases h3 : v2 < 1
      · rw [if_pos h3]; exact ⟨_, _, _, rfl, rfl, h1⟩
      · rw [if_neg h3, if_neg (fun q => h2 ⟨Int32.not_lt.mp h3, q⟩)]; exact ⟨_, _, _, rfl, rfl, h1⟩
  · rw [b2_f hv, if_pos rfl, if_pos rfl]
    exact ⟨_, _, _, rfl, rfl, h1⟩
end N
