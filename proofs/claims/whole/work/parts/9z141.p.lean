-- part 141: join
section V
variable {S S' S0 S1 T : cSt} {M M' A : mSt} {ra : Nat → Nat} {sl ch : Nat → Int32} {mkO : Nat → Option Nat} {L Wt : Nat → List Nat} {ro fa : Nat → Nat} {x0 n m k Bt la lb bk nd md : Nat} {l W : List Nat}
/-- the last stamp of who has all that another has -/
theorem rsL_sub (h1 : lsT M n l) (h2 : lsT M m W) (hs : ∀ q ∈ l, q ∈ W) : rsL (M.2 18 n, M.2 19 n) (M.2 18 m, M.2 19 m) = (M.2 18 m, M.2 19 m) := by
  obtain ⟨T, C, a1, a2, a3, a4, a5, a6⟩ := h1
  obtain ⟨T', C', b1, b2', b3, b4, b5, b6⟩ := h2
  have hle : T * 1048576 + C ≤ T' * 1048576 + C' := by
    rcases a6 with ⟨h1, h2⟩ | ⟨r, h1, h2⟩
    · rw [h1, h2]; exact Nat.le_trans (Nat.le_of_eq (by rfl)) (Nat.zero_le _)
    · rw [← h2]; exact b5 r (hs r h1)
  rw [a1, a2, b1, b2']
  obtain ⟨T2, C2, x1, x2, x3, x4⟩ := rsL_max a3 a4 b3 b4
  rw [x1]
  rcases x4 with ⟨y1, y2, y3⟩ | ⟨y1, y2, y3⟩
  · have e1 : T = T' := by omega
    have e2 : C = C' := by omega
    rw [y1, y2, e1, e2]
  · rw [y1, y2]
theorem mx_le {a b N : Nat} (ha : a ≤ N) (hb : b ≤ N) (hN : N ≤ 250) : ∃ x, x ≤ N ∧ mxV (Int32.ofNat a) (Int32.ofNat b) = Int32.ofNat x := by
  unfold mxV
  by_cases c : Int32.ofNat a < Int32.ofNat b
  · rw [if_pos c]; exact ⟨b, hb, rfl⟩
  · rw [if_neg c]; exact ⟨a, ha, rfl⟩
/-- one join more -/
theorem Ib_45 (hI : Ib x0 k S M ra sl mkO L Wt ro fa) {q : Nat} (hq : q < 40) (h45 : M.1 45 = Int32.ofNat q) : Ib x0 k (cPi S x0 9 (kF S x0 9 + 1)) (pu M 45 (M.1 45 + 1)) ra sl mkO L Wt ro fa := by
  obtain ⟨hc, hh, hkd, hth, htx, hro, hl, hnu⟩ := hI
  have eS : cEq (fun a => a = x0) S (cPi S x0 9 (kF S x0 9 + 1)) := cEq_cPi _ rfl
  obtain ⟨h1, ⟨h2, h3⟩, h4, h5, b0, b1, ⟨t0, t1, t2, t3⟩, s0, s1⟩ := hh
  have hc1 : core x0 (1000 * k) (cPi S x0 9 (kF S x0 9 + 1)) M ra sl mkO L Wt := core_sm hc (cSm_eq eS (fun a ha e => by
    have e : a = x0 := e
    subst e
    rcases ha with ha | ha | ⟨r, hr, ha⟩
    · omega
    · omega
    · have := hc.2.1.1.1.2.2.2.2.2 r hr; omega)) (Nat.le_refl _)
  obtain ⟨hf, nf, w, g1, g3, hS, hF⟩ := ln_to hl
  refine ⟨hc1, ⟨h1, ⟨?_, q + 1, by omega, ?_⟩, h4, h5, b0, b1, ⟨t0, t1, t2, t3⟩, ?_, ?_⟩, ?_, hth, htx, hro, ?_, hnu⟩
  · rw [kF_cPi, pu_s, h2]
  · rw [pu_s, h45]; exact jI_add _ 1
  · have p0 := eS.2.2.2.2 (kT S 0) (by omega)
    unfold pStr at s0 ⊢
    rw [show kT (cPi S x0 9 (kF S x0 9 + 1)) 0 = kT S 0 from rfl, p0.1]; exact s0
  · have p0 := eS.2.2.2.2 (kT S 1) (by omega)
    unfold pStr at s1 ⊢
    rw [show kT (cPi S x0 9 (kF S x0 9 + 1)) 1 = kT S 1 from rfl, p0.1]; exact s1
  · have e : lvM M (pu M 45 (M.1 45 + 1)) := (lvM_r (mEx_refl _ M) : lvM M M)
    exact kdI_g hkd e (fun k hk => ⟨pu_o _ _ (by omega), rfl⟩) (cSm_eq eS (fun a ha q => by omega)) (fun m _ h1 h2 => absurd h1 h2)
  · refine ln_of (nf := nf) (w := w) ⟨?_, ?_, ?_⟩ g1 (by rw [pu_o _ _ (by decide)]; exact g3) hS ?_
    · rw [kF_cPo _ _ (by omega), pu_o _ _ (by decide)]; exact hf.1
    · rw [kF_cPo _ _ (by omega), pu_o _ _ (by decide)]; exact hf.2.1
    · rw [kF_cPo _ _ (by omega), pu_o _ _ (by decide)]; exact hf.2.2
    · have := lnF_sm (S' := cPi S x0 9 (kF S x0 9 + 1)) hS hF g1 (cSm_eq eS (fun a ha q => by omega)) (fun i _ => rfl)
      exact this
/-- a node gets all that another has -/
theorem Ib_join (hI : Ib x0 k S M ra sl mkO L Wt ro fa) (hn : n < 4) (hm : m < 4) (hmn : n ≠ m) (hsub : ∀ q ∈ L n, q ∈ L m) : ∃ S' M', fk_7_joinTo S (sN x0 n) (sN x0 m) = some S' ∧ fm_join_71 mFU M (Int32.ofNat n) (Int32.ofNat m) 0 = some (1, pu M' 45 (M'.1 45 + 1)) ∧ M'.1 45 = M.1 45 ∧ kF S' x0 = kF S x0 ∧ kK S' x0 = kK S x0 ∧ Ib x0 k S' M' ra sl mkO (updL L n (L m)) (updL Wt n ((Wt n).filter (fun q => decide (q ∉ L m)))) ro fa := by
  obtain ⟨S', c1, c2, c3, c4, c5, c6, c7, c8⟩ := k_joinTo hI hn hm hmn
  obtain ⟨hc, hh, hkd, hth, htx, hro, hl, hnu⟩ := hI
  have hc' := hc
  obtain ⟨⟨hA, hsl, htb, hBt⟩, -, hN, -⟩ := hc'
  obtain ⟨⟨hM1, hC1⟩, ⟨hw1, hw2, hw3⟩, hown⟩ := hN n hn
  obtain ⟨⟨hM2, hC2⟩, -⟩ := hN m hm
  have hcl := hM2.1.2.1
  obtain ⟨A1, x1, x2, x3, x4⟩ := m_jn71 (M := M) hn hm hmn 4 0 mFU M rfl (by decide) (mEx_refl _ _) (fun i hi => absurd hi (by omega)) (fun i _ => rfl)
  obtain ⟨A2, y1, y2, y3, y4⟩ := m_jn127 (B := A1) hn hm hmn 4 0 mFU A1 rfl (by decide) (mEx_refl _ _) (fun i hi => absurd hi (by omega)) (fun i _ => rfl)
  generalize hB3 : wr A2 23 (Int32.ofNat n) (A1.2 23 m) = B3 at y1
  have e3 : mEx (fun k => k = 23) A2 B3 := by rw [← hB3]; exact mEx_wr (W := fun k => k = 23) rfl _ _
  have e13 : mEx (fun k => k = 20 ∨ k = 21 ∨ k = 23) M B3 := mEx_trans (mEx_mono x2 (fun k hk => by omega)) (mEx_trans (mEx_mono y2 (fun k hk => by omega)) (mEx_mono e3 (fun k hk => by omega)))
  have b23 : B3.2 23 = upd (M.2 23) n (M.2 23 m) := by rw [← hB3, wr_s _ _ (by omega), (y2 23 (by decide)).2, (x2 23 (by decide)).2]
  have h23 : B3.2 23 m = Int32.ofNat (L m).length := by rw [b23, upd_o _ _ (Ne.symm hmn)]; exact hM2.1.2.2.2
  have hlen := cl_len hcl
  obtain ⟨A4, z1, z2, z3, z4⟩ := m_jn168 (B := B3) hn hm hmn hlen h23 (L m).length 0 mFU B3 (by omega) (Nat.lt_of_le_of_lt hlen (by decide)) (mEx_refl _ _) (fun i hi => absurd hi (by omega)) (fun i _ => rfl)
  generalize hB5 : wr (wr A4 18 (Int32.ofNat n) (B3.2 18 m)) 19 (Int32.ofNat n) (B3.2 19 m) = B5 at z1
  have e5 : mEx (fun k => k = 18 ∨ k = 19) A4 B5 := by rw [← hB5]; exact mEx_trans (mEx_wr (W := fun k => k = 18 ∨ k = 19) (Or.inl rfl) _ _) (mEx_wr (W := fun k => k = 18 ∨ k = 19) (Or.inr rfl) _ _)
  have e15 : mEx (fun k => k = 18 ∨ k = 19 ∨ k = 20 ∨ k = 21 ∨ k = 23 ∨ k = 24) M B5 := mEx_trans (mEx_mono e13 (fun k hk => by omega)) (mEx_trans (mEx_mono z2 (fun k hk => by omega)) (mEx_mono e5 (fun k hk => by omega)))
  have b18 : B5.2 18 = upd (M.2 18) n (M.2 18 m) := by rw [← hB5, wr_o _ _ _ (by decide), wr_s _ _ (by omega), (z2 18 (by decide)).2, (e13 18 (by decide)).2]
  have b19 : B5.2 19 = upd (M.2 19) n (M.2 19 m) := by rw [← hB5, wr_s _ _ (by omega), wr_o _ _ _ (by decide), (z2 19 (by decide)).2, (e13 19 (by decide)).2]
  have b20 : B5.2 20 = A2.2 20 := by rw [(e5 20 (by decide)).2, (z2 20 (by decide)).2, (e3 20 (by decide)).2]
  have b21 : B5.2 21 = A1.2 21 := by rw [(e5 21 (by decide)).2, (z2 21 (by decide)).2, (e3 21 (by decide)).2, (y2 21 (by decide)).2]
  have b23' : B5.2 23 = upd (M.2 23) n (M.2 23 m) := by rw [(e5 23 (by decide)).2, (z2 23 (by decide)).2, b23]
  have b24 : B5.2 24 = A4.2 24 := (e5 24 (by decide)).2
  have m20 : A1.2 20 = M.2 20 := (x2 20 (by decide)).2
  have m24 : B3.2 24 = M.2 24 := (e13 24 (by decide)).2
  rw [m20] at y3 y4
  rw [m24] at z3 z4
  have hk5 : knL B5 n (L m) := ⟨hn, fun r hr => by rw [b20, y3 _ (rN_lt hr)]; exact hM2.2.1.2 r hr⟩
  have hw5 : mWt B5 n ([] ++ Wt n) := by
    show mWt B5 n (Wt n)
    unfold mWt; rw [(e15 25 (by decide)).2, (e15 26 (by decide)).2]; exact hw1
  obtain ⟨A6, w1, w2, w3, w4⟩ := m_jn228 (l := L m) hn 30 [] (Wt n) B5 mFU hw1.1 (by decide) (fun q hq => absurd hq (by simp)) hw5 hk5
  have w3 : mWt A6 n ((Wt n).filter (fun q => decide (q ∉ L m))) := w3
  have e : mEx (fun k => k = 18 ∨ k = 19 ∨ k = 20 ∨ k = 21 ∨ k = 23 ∨ k = 24 ∨ k = 25 ∨ k = 26) M A6 := mEx_trans (mEx_mono e15 (fun k hk => by omega)) (mEx_mono w2 (fun k hk => by omega))
  have q18 : A6.2 18 = upd (M.2 18) n (M.2 18 m) := by rw [(w2 18 (by decide)).2, b18]
  have q19 : A6.2 19 = upd (M.2 19) n (M.2 19 m) := by rw [(w2 19 (by decide)).2, b19]
  have q20 : A6.2 20 = A2.2 20 := by rw [(w2 20 (by decide)).2, b20]
  have q21 : A6.2 21 = A1.2 21 := by rw [(w2 21 (by decide)).2, b21]
  have q23 : A6.2 23 = upd (M.2 23) n (M.2 23 m) := by rw [(w2 23 (by decide)).2, b23']
  have q24 : A6.2 24 = A4.2 24 := by rw [(w2 24 (by decide)).2, b24]
  have q25 : ∀ n', n' ≠ n → A6.2 25 n' = M.2 25 n' ∧ ∀ k, k < 30 → A6.2 26 (30 * n' + k) = M.2 26 (30 * n' + k) := fun n' hn' => by
    have := w4 n' hn'
    rw [(e15 25 (by decide)).2, (e15 26 (by decide)).2] at this; exact this
  have r : rEq M A6 := fun k h1 h2 => (e k (by omega)).2
  have fm : ∀ k, k ≠ 18 → k ≠ 19 → k ≠ 20 → k ≠ 21 → k ≠ 23 → k ≠ 24 → k ≠ 25 → k ≠ 26 → A6.2 k = M.2 k := fun k _ _ _ _ _ _ _ _ => (e k (by omega)).2
  have hx : x0 + 22 ≤ sN x0 n ∧ sN x0 n + 26 ≤ x0 + 126 := by unfold sN; omega
  have hWx : ∀ a, (a = sN x0 n ∨ a = sN x0 n + 5 ∨ a = sN x0 n + 8 ∨ (sN x0 n + 12 ≤ a ∧ a < sN x0 n + 20)) → sN x0 n ≤ a ∧ a < sN x0 n + 26 := fun a ha => by omega
  have eN : ∀ n', n' < 4 → n' ≠ n → nEq M A6 n' := fun n' hn' en => nEq_of r (fun k k1 k2 i hi => by
    by_cases e18 : k = 18
    · subst e18; rw [q18, upd_o]; have hi : i / 1 = n' := hi; omega
    by_cases e19 : k = 19
    · subst e19; rw [q19, upd_o]; have hi : i / 1 = n' := hi; omega
    by_cases e20 : k = 20
    · subst e20; have hi : i / 4 = n' := hi; rw [q20]; exact y4 i (by omega)
    by_cases e21 : k = 21
    · subst e21; have hi : i / 16 = n' := hi; rw [q21]; exact x4 i (by omega)
    by_cases e23 : k = 23
    · subst e23; rw [q23, upd_o]; have hi : i / 1 = n' := hi; omega
    by_cases e24 : k = 24
    · subst e24; have hi : i / 1000 = n' := hi; rw [q24]; exact z4 i (by omega)
    by_cases e25 : k = 25
    · subst e25; have hi : i / 1 = n' := hi; rw [show i = n' by omega]; exact (q25 n' en).1
    by_cases e26 : k = 26
    · subst e26; have hi : i / 30 = n' := hi; rw [show i = 30 * n' + i % 30 by omega]; exact (q25 n' en).2 _ (by omega)
    rw [fm k e18 e19 e20 e21 e23 e24 e25 e26])
  obtain ⟨⟨hy, hv, hls⟩, ⟨E, hE1, hE2⟩, ⟨F, hF1, hF2⟩, ⟨f8, f9, f10⟩, hs, hsn, hcu⟩ := hC1
  obtain ⟨-, -, -, -, hs', -⟩ := hC2
  have nw : ∀ k, k < 26 → k ≠ 0 → k ≠ 5 → k ≠ 8 → (k < 12 ∨ 20 ≤ k) → ¬ (sN x0 n + k = sN x0 n ∨ sN x0 n + k = sN x0 n + 5 ∨ sN x0 n + k = sN x0 n + 8 ∨ (sN x0 n + 12 ≤ sN x0 n + k ∧ sN x0 n + k < sN x0 n + 20)) := fun k _ _ _ _ _ => by omega
  have hrs := rsL_sub hM1.2.2.2.2 hM2.2.2.2.2 hsub
  rw [hrs] at c5
  have c59 : kF S' (sN x0 n) 9 = M.2 18 m := congrArg Prod.fst c5
  have c510 : kF S' (sN x0 n) 10 = M.2 19 m := congrArg Prod.snd c5
  have hnM : nM A6 mkO sl n (L m) := by
    refine ⟨⟨rA_r r hA, cl_r r hcl, ⟨hn, hlen, fun i hi => ?_⟩, ?_⟩, ⟨hn, fun q hq => ?_⟩, lsM_f hM1.2.2.1 (fun k hk => fm k (by omega) (by omega) (by omega) (by omega) (by omega) (by omega) (by omega) (by omega)), fun q hq => ?_, ?_⟩
    · rw [q24, z3 i hi]; exact hM2.1.2.2.1.2.2 i hi
    · rw [q23, upd_s]; exact hM2.1.2.2.2
    · rw [q20, y3 _ (rN_lt hq)]; exact hM2.2.1.2 q hq
    · rw [mdN_r r, q20, y3 q hq]; exact hM2.2.2.2.1 q hq
    · have := hM2.2.2.2.2
      unfold lsT at this ⊢
      rw [q18, q19, upd_s, upd_s, tS_r r]; exact this
  have hs6 : ∀ a q, a < 4 → q < 4 → kI S' (sN x0 n + 5) (4 * a + q) = snV A6 n a q := fun a q ha hq => by
    rw [c7 a q ha hq]
    unfold snV
    by_cases en : a = n
    · rw [if_pos en, if_pos en, q20, y3 q hq, hs' m q hm hq]; unfold snV; rw [if_pos rfl]
    · have := x3 (4 * a + q) (by omega)
      unfold jnP at this
      rw [if_neg (by omega), show (4 * a + q) / 4 = a by omega, show (4 * a + q) % 4 = q by omega] at this
      rw [if_neg en, if_neg en, q21, Nat.add_assoc, this, hs a q ha hq, hs' a q ha hq, show snV M n a q = M.2 21 (16 * n + (4 * a + q)) by unfold snV; rw [if_neg en, Nat.add_assoc]]
  have hvw : cVw M S' (sN x0 n + 20) (x0 + 5) (sN x0 n + 12) (sN x0 n + 15) 1000 (L m) := by
    have u20 := c2.2.2.2.2 (sN x0 n + 20) (nw 20 (by decide) (by decide) (by decide) (by decide) (by decide))
    obtain ⟨⟨v1, v2, v3, v4, v5⟩, v6, v7, v8, v9⟩ := hv.2.1
    refine ⟨⟨by rw [c2.1]; exact v1, by rw [u20.2.1]; exact v2, by rw [u20.2.1]; exact v3, by rw [u20.2.1]; exact v4, by rw [u20.1]; exact v5⟩, v6, by rw [c2.1]; exact v7, by rw [c2.2.1]; exact v8, fun q hq => ?_⟩
    rw [take1000 hcl]
    exact c8.2.2.2.2.1 q hq
  have hnC : nC S' A6 ra sl x0 n (L m) := by
    refine ⟨⟨cNy_eq hy c2 c3 (c4 0 (by decide) (by decide) (by decide)), cNv_r r ⟨c8, hvw, vwA_eq hv.2.2 c2 (nw 20 (by decide) (by decide) (by decide) (by decide) (by decide))⟩, cLs_f hls (fun k hk => fm k (by omega) (by omega) (by omega) (by omega) (by omega) (by omega) (by omega) (by omega)) (c2.2.2.2.2 _ (nw 11 (by decide) (by decide) (by decide) (by decide) (by decide))).2.2.1⟩, ⟨E, cLg_eq hE1 c2 (nw 1 (by decide) (by decide) (by decide) (by decide) (by decide)) (nw 2 (by decide) (by decide) (by decide) (by decide) (by decide)), ?_⟩, ⟨F, cLg_eq hF1 c2 (nw 3 (by decide) (by decide) (by decide) (by decide) (by decide)) (nw 4 (by decide) (by decide) (by decide) (by decide) (by decide)), ?_⟩, ⟨?_, ?_, ?_⟩, hs6, fun k hk => ?_, fun k hk => ?_⟩
    · unfold mNw; rw [fm 27 (by decide) (by decide) (by decide) (by decide) (by decide) (by decide) (by decide) (by decide), fm 28 (by decide) (by decide) (by decide) (by decide) (by decide) (by decide) (by decide) (by decide), fm 29 (by decide) (by decide) (by decide) (by decide) (by decide) (by decide) (by decide) (by decide), fm 30 (by decide) (by decide) (by decide) (by decide) (by decide) (by decide) (by decide) (by decide)]; exact hE2
    · unfold mTu; rw [fm 37 (by decide) (by decide) (by decide) (by decide) (by decide) (by decide) (by decide) (by decide), fm 38 (by decide) (by decide) (by decide) (by decide) (by decide) (by decide) (by decide) (by decide), fm 39 (by decide) (by decide) (by decide) (by decide) (by decide) (by decide) (by decide) (by decide), fm 40 (by decide) (by decide) (by decide) (by decide) (by decide) (by decide) (by decide) (by decide), fm 41 (by decide) (by decide) (by decide) (by decide) (by decide) (by decide) (by decide) (by decide)]; exact hF2
    · rw [c4 8 (by decide) (by decide) (by decide), fm 17 (by decide) (by decide) (by decide) (by decide) (by decide) (by decide) (by decide) (by decide)]; exact f8
    · rw [c59, q18, upd_s]
    · rw [c510, q19, upd_s]
    · rw [(c2.2.2.2.2 _ (nw 6 (by decide) (by decide) (by decide) (by decide) (by decide))).2.2.1, fm 22 (by decide) (by decide) (by decide) (by decide) (by decide) (by decide) (by decide) (by decide)]; exact hsn k hk
    · rw [(c2.2.2.2.2 _ (nw 7 (by decide) (by decide) (by decide) (by decide) (by decide))).2.2.1, fm 31 (by decide) (by decide) (by decide) (by decide) (by decide) (by decide) (by decide) (by decide)]; exact hcu k hk
  have htb' : tBd A6 (1000 * k) := by
    refine ⟨fun n' hn' => ?_, fun q hq => ?_⟩
    · obtain ⟨⟨W, W1, W2⟩, T', C', g1, g2, g3, g4⟩ := htb.1 n' hn'
      refine ⟨⟨W, W1, by rw [fm 17 (by decide) (by decide) (by decide) (by decide) (by decide) (by decide) (by decide) (by decide)]; exact W2⟩, ?_⟩
      rw [q18, q19, tot_r r]
      by_cases en : n' = n
      · rw [en, upd_s, upd_s]; exact (htb.1 m hm).2
      · rw [upd_o _ _ en, upd_o _ _ en]; exact ⟨T', C', g1, g2, g3, g4⟩
    · rw [mde_r r] at hq
      rw [r 14 (by decide) (by decide), r 15 (by decide) (by decide), tot_r r]; exact htb.2 q hq
  have hco : core x0 (1000 * k) S' A6 ra sl mkO (updL L n (L m)) (updL Wt n ((Wt n).filter (fun q => decide (q ∉ L m)))) :=
    core_n1 hc hn c2 hWx r eN htb' hBt ⟨⟨hnM, hnC⟩, ⟨w3, c6, ⟨List.Pairwise.filter _ hw3.1, fun q hq => by
      obtain ⟨q1, q2⟩ := List.mem_filter.mp hq
      rw [mde_r r]
      exact ⟨(hw3.2 q q1).1, of_decide_eq_true q2⟩⟩⟩, fun q h1 h2 => hsub q (hown q h1 h2)⟩
  have hmk : ∀ j m, mkO j = some m → mde M m := fun j m hj => (hA.2.1.1 j m hj).2.1
  have eM := lvM_r (M := M) (M' := A6) (mEx_mono e (fun k hk => by omega))
  have hW2 : ∀ a, (a = sN x0 n ∨ a = sN x0 n + 5 ∨ a = sN x0 n + 8 ∨ (sN x0 n + 12 ≤ a ∧ a < sN x0 n + 20)) → x0 + 22 ≤ a ∧ a < x0 + 126 := fun a ha => by omega
  have eC := lvC_eq c2 hW2
  have eR : lvR M ra ra mkO mkO := ⟨fun _ _ => rfl, fun _ _ h => h, hmk⟩
  have z0 := c2.2.2.2.2 x0 (fun q => by have := hW2 _ q; omega)
  refine ⟨S', A6, c1, ?_, (e 45 (by decide)).1, z0.1, c2.1 _, hco, hsI_g hh eC (e 45 (by decide)).1, kdI_g hkd eM (fun k hk => e k (by omega)) (cSm_eq c2 (fun a ha q => by have := hW2 a q; omega)) (fun m _ h1 h2 => absurd (by rw [mde_r r] at h1; exact h1) h2), thI_g hth eC, txI_g htx eC (fun _ _ => rfl), ?_, lnI_g hl eM eR (fun k hk => e k (by omega)) eC (cSm_eq c2 (fun a ha q => by have := hW2 a q; omega)) (fun _ _ => rfl) (Nat.le_refl _), fun n' hn' => ?_⟩
  · have x1' : fm_join_71 mFU M (Int32.ofNat n) (Int32.ofNat m) 0 = fm_join_127 mFU A1 (Int32.ofNat n) (Int32.ofNat m) 0 := x1
    have y1' : fm_join_127 mFU A1 (Int32.ofNat n) (Int32.ofNat m) 0 = fm_join_168 mFU B3 (Int32.ofNat n) (Int32.ofNat m) 0 := y1
    have z1' : fm_join_168 mFU B3 (Int32.ofNat n) (Int32.ofNat m) 0 = fm_join_228 mFU B5 (Int32.ofNat n) 0 := z1
    rw [x1', y1', z1']
    exact w1
  · unfold roI; rw [mde_r r]; exact hro
  · rw [mdN_r r]
    obtain ⟨h1, h2⟩ := hnu n' hn'
    rw [fm 22 (by decide) (by decide) (by decide) (by decide) (by decide) (by decide) (by decide) (by decide), fm 31 (by decide) (by decide) (by decide) (by decide) (by decide) (by decide) (by decide) (by decide)]
    refine ⟨fun a q ha hq => ⟨?_, (h1 a q ha hq).2⟩, fun a ha => cuI_r r (Nat.le_refl _) (h2 a ha)⟩
    by_cases en : n' = n
    · rw [en] at h1 ⊢
      have := x3 (4 * a + q) (by omega)
      unfold jnP at this
      rw [show (4 * a + q) / 4 = a by omega, show (4 * a + q) % 4 = q by omega] at this
      rw [q21, Nat.add_assoc, this]
      by_cases ea : a = n
      · rw [if_pos ea, ← Nat.add_assoc]; exact (h1 a q ha hq).1
      · rw [if_neg ea]
        obtain ⟨x, hx1, hx2⟩ := (h1 a q ha hq).1
        have hsv : ∃ y, y ≤ mdN M q ∧ snV M m a q = Int32.ofNat y := by
          unfold snV
          by_cases em : a = m
          · rw [if_pos em]; exact hM2.2.2.2.1 q hq
          · rw [if_neg em]; exact ((hnu m hm).1 a q ha hq).1
        obtain ⟨y, hy1, hy2⟩ := hsv
        rw [Nat.add_assoc] at hx2
        rw [hx2, hy2]
        exact mx_le hx1 hy1 (hA.2.2.1 q hq).1
    · rw [q21, x4 _ (by omega)]; exact (h1 a q ha hq).1
end V
