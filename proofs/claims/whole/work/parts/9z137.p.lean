-- part 137: deliver
section V
variable {S S' S0 S1 : cSt} {M M' A : mSt} {ra : Nat → Nat} {sl ch : Nat → Int32} {mkO : Nat → Option Nat} {L Wt : Nat → List Nat} {ro ro' fa fa' : Nat → Nat} {x0 n m k k' Bt nf w r v : Nat} {l W : List Nat}
/-- one frame more was refused -/
theorem Ib_44 (hI : Ib x0 k S M ra sl mkO L Wt ro fa) (hk : k < 900) : Ib x0 k (cPi S (x0 + 11) 2 (M.1 44 + 1)) (pu M 44 (M.1 44 + 1)) ra sl mkO L Wt ro fa := by
  obtain ⟨hc, hh, hkd, hth, htx, hro, hl, hnu⟩ := hI
  obtain ⟨hf, nf, w, g1, g3, hS, hF⟩ := ln_to hl
  have eS : cEq (fun a => a = x0 + 11) S (cPi S (x0 + 11) 2 (M.1 44 + 1)) := cEq_cPi _ rfl
  refine Ib_fr (Nat.le_refl _) hk hc hh hkd hth htx hro hnu (mEx_pu (by omega) _) (cSm_eq eS (fun a ha q => by
    rcases ha with ha | ha | ha
    · omega
    · omega
    · omega)) (Nat.le_refl _) (fun _ => rfl) (fun _ _ => rfl) (ln_of (nf := nf) (w := w) ⟨?_, ?_, ?_⟩ g1 (by rw [pu_o _ _ (by decide)]; exact g3) hS ?_)
  · rw [kF_cPo _ _ (by omega), pu_o _ _ (by decide)]; exact hf.1
  · rw [kF_cPo _ _ (by omega), pu_o _ _ (by decide)]; exact hf.2.1
  · rw [kF_cPi, pu_s]
  · have := lnF_sm (S' := cPi S (x0 + 11) 2 (M.1 44 + 1)) hS hF g1 (cSm_eq eS (fun a ha q => by omega)) (fun i _ => rfl)
    exact this
theorem c_deliver (hk : k + 1 < 900) : lC_deliver x0 (Inv x0 k) (Inv x0 (k + 1)) := by
  intro S M v1 h
  have h0 := Inv_0 h (by omega)
  unfold fk_11_deliver fm_deliver fk_11_deliver_105
  rw [lt_d, m_wb]
  generalize pu M 0 0 = A at h0 ⊢
  have h1 := Inv_1 h0 hk
  obtain ⟨ra, sl, mkO, L, Wt, ro, fa, hIb⟩ := h0
  have hIb : Ib x0 k S A ra sl mkO L Wt ro fa := hIb
  obtain ⟨hc, hh, hkd, hth, htx, hro, hl, hnu⟩ := id hIb
  rw [ckk_y hh.1.1, hh.1.2.2.2.2.1, bd_s, ckk_y hl.1.1]
  by_cases hv : 0 ≤ v1 ∧ v1 ≤ A.1 42 - 1
  · obtain ⟨v, v60, rfl, i2, wa, ta, nf, w, w1, w2, w3, w4, y2, z1, z2⟩ := k_lAtY hl hv
    have hf133 : x0 + 133 ≤ fa v := by
      obtain ⟨-, -, nf', w', a1, a2, a3, -, -, -, g7⟩ := hl
      have : w' = w := by rw [a3] at w4; exact (jI_inj (by omega) (by omega)).mp w4
      exact (g7 v (by omega)).1
    obtain ⟨S5, M6, p1, p2, p3, p4, p5, p6, p7⟩ := rem_both hIb (by omega) w1 (by omega) w4
    obtain ⟨bb, b1, b2'⟩ := m_isBent (M := A) v60
    obtain ⟨⟨a3, a4, a5, a6⟩, ⟨m, n, hm, hn, hmn, g0, g1⟩, hg2, hvec, hcur, hcu, c, c1, c2, c3⟩ := id z1
    obtain ⟨y1, y2', y3, y4⟩ := z2
    have hlen := frL_len A (gF A v) c1 c2
    generalize hff : fa v = f at *
    have zf := p4.2.2.2.2 f (by omega)
    have zf1 := p4.2.2.2.2 (f + 1) (by omega)
    have zf2 := p4.2.2.2.2 (f + 2) (by omega)
    have zf3 := p4.2.2.2.2 (f + 3) (by omega)
    have z0 := p4.2.2.2.2 x0 (by omega)
    have z10 := p4.2.2.2.2 (x0 + 10) (by omega)
    have hL5 : fLy S5 f wa ta := by unfold fLy; simp only [p4.1, p4.2.1, zf.2.1]; exact y2
    have k12 : kK S5 x0 = 12 := by rw [p4.1]; exact hh.1.1
    have hcnt : ((List.range (frL A (gF A v)).length).filter (fun i => decide (gF A v (32 + i) ≠ 0))).length = 0 ↔ bb = false := by
      rw [b2']
      constructor
      · intro h0 c' h1 h2
        by_cases q : c' < 32 + (frL A (gF A v)).length
        · have := cnt_0 h0 (c' - 32) (by omega)
          have := of_decide_eq_false this
          rw [show 32 + (c' - 32) = c' by omega] at this
          exact Decidable.not_not.mp this
        · exact y1 c' (by omega) h2
      · intro h0
        exact cnt_z (fun i hi => by show decide (gF A v (32 + i) ≠ 0) = false; rw [h0 (32 + i) (by omega) (by omega)]; decide)
    have hcl : ((List.range (frL A (gF A v)).length).filter (fun i => decide (gF A v (32 + i) ≠ 0))).length ≤ 556 := Nat.le_trans (List.length_filter_le _ _) (by rw [List.length_range]; exact hlen)
    rw [b2_t hv, if_neg n10, i2, bd_s, cs_S, ckk_y hh.1.1, bd_s, ckk_y hl.1.1, p1, bd_s, ckk_y hL5.1.1, zf.1, y3, b1, bd_s, p2, bd_s, bd_s]
    cases bb with
    | true =>
      have hne : ¬ ((List.range (frL A (gF A v)).length).filter (fun i => decide (gF A v (32 + i) ≠ 0))).length = 0 := fun q => by have := hcnt.mp q; cases this
      obtain ⟨hc5, hh5, -, -, -, -, hl5, -⟩ := id p3
      have f44 : kF S5 (x0 + 11) 2 = M6.1 44 := hl5.2.1.2.2
      rw [if_neg (jI_p (by omega) (by omega)), if_neg bTn, ckk_y k12, hh5.1.2.2.2.2.1, bd_s, ckk_y hl5.1.1, ckk_y hl5.1.1, lt_d, lt_d, f44]
      exact ⟨_, _, _, rfl, rfl, Inv_1 (Inv_b (Ib_44 p3 (by omega))) hk⟩
    | false =>
      have h0c := hcnt.mpr rfl
      rw [if_pos (show Int32.ofNat _ ≤ 0 by rw [h0c]; decide), if_pos bFn]
      have hR : ∀ c', c' < 640 → M6.2 76 c' = gF A v c' := p7
      have r76 : ∀ i : Nat, i < 640 → rd M6 76 (Int32.ofNat i) = gF A v i := fun i hi => by rw [rd_n _ _ (by omega)]; exact hR i hi
      have r0 : rd M6 76 0 = Int32.ofNat m := (r76 0 (by decide)).trans g0
      have r1 : rd M6 76 1 = Int32.ofNat n := (r76 1 (by decide)).trans g1
      have rq6 : rEq A M6 := fun k h1 h2 => (p6 k (by omega)).2
      have fm6 : ∀ k, k ≠ 42 → k ≠ 46 → k ≠ 76 → M6.2 k = A.2 k := fun k a b c => (p6 k (by omega)).2
      obtain ⟨hc5, hh5, hkd5, hth5, htx5, hro5, hl5, hnu5⟩ := id p3
      obtain ⟨⟨hA5, -, -, -⟩, ⟨hB5, -⟩, hN5, -⟩ := id hc5
      obtain ⟨⟨hM5, ⟨⟨hy5, hv5, -⟩, -, -, -, hs5, hsn5, hcu5⟩⟩, ⟨hw51, -, -⟩, -⟩ := hN5 n hn
      have h23 : M6.2 23 n = Int32.ofNat (L n).length := hM5.1.2.2.2
      have hsN : x0 + 22 ≤ sN x0 n ∧ sN x0 n + 26 ≤ x0 + 126 := by unfold sN; omega
      have f3' : kF S5 f 3 = Int32.ofNat m := by rw [zf.1, a3]; exact g0
      have f4' : kF S5 f 4 = Int32.ofNat n := by rw [zf.1, a4]; exact g1
      have ko : kO S5 (x0 + 10) n = some (sN x0 n) := by rw [z10.2.2.2]; exact hh.2.2.1.2.2 n hn
      have i51 : ∀ q, q < 4 → kI S5 (f + 1) q = gF A v (4 + q) := fun q hq => by rw [zf1.2.2.1]; exact (hvec q hq).1
      have i52 : ∀ q, q < 16 → kI S5 (f + 2) q = gF A v (16 + q) := fun q hq => by rw [zf2.2.2.1]; exact hcur q hq
      obtain ⟨f5, f7, q1, q2, q3, q4⟩ := k_hear hy5 hL5 hm f3' (by omega)
      obtain ⟨MA, s1, s2, s3, s4, s5, s6⟩ := m_hear (M := M6) (Rs := M6.2 76) hn hm rfl (Int32.ofNat (L n).length)
      generalize hT : sI (sI S5 (sN x0 n + 5) f5) (sN x0 n + 7) f7 = T at q1
      have eT : cEq (fun a => a = sN x0 n + 5 ∨ a = sN x0 n + 6 ∨ a = sN x0 n + 7) S5 T := by rw [← hT]; exact cEq_trans (cEq_sI _ (Or.inl rfl)) (cEq_sI _ (Or.inr (Or.inr rfl)))
      have tI5 : kI T (sN x0 n + 5) = f5 := by rw [← hT, kI_sIo _ _ (by omega), kI_sI]
      have tI7 : kI T (sN x0 n + 7) = f7 := by rw [← hT, kI_sI]
      have tI6 : kI T (sN x0 n + 6) = kI S5 (sN x0 n + 6) := by rw [← hT, kI_sIo _ _ (by omega), kI_sIo _ _ (by omega)]
      have fmA : ∀ k, k ≠ 21 → k ≠ 31 → MA.2 k = M6.2 k := fun k a b => (s2 k (by omega)).2
      have hIA : Ib x0 k T MA ra sl mkO L Wt ro (fun i => fa (rmv v w i)) := by
        refine Ib_nd p3 (Nat.le_refl _) (by omega) hn eT (mEx_mono s2 (fun k hk => by omega)) (fun j hj q hq => ?_) (fun m' q hm' hq => ?_) (fun c' hc' => ?_) (fun c' hc' => ?_) ⟨fun m' q hm' hq => ⟨?_, ?_⟩, fun m' hm' => ?_⟩
        · rcases hj with e | e | e <;> subst e
          · exact s4 q (by omega)
          · rw [fmA 22 (by decide) (by decide)]
          · exact s6 q hq
        · rw [tI5]
          have hsv := hs5 m' q hm' hq
          unfold snV at hsv ⊢
          by_cases em : m' = m
          · subst em
            rw [if_neg hmn] at hsv ⊢
            rw [q2 q hq, s3 q hq, hsv, i51 q hq, hR _ (by omega)]
          · rw [q3 _ (by omega) (by omega), hsv, fmA 20 (by decide) (by decide), s4 _ (by omega)]
        · rw [tI6, fmA 22 (by decide) (by decide)]; exact hsn5 c' hc'
        · rw [tI7]
          obtain ⟨q, t, hq, ht, e⟩ : ∃ q t, q < 4 ∧ t < 4 ∧ c' = 4 * q + t := ⟨c' / 4, c' % 4, by omega, by omega, by omega⟩
          subst e
          rw [q4 q t hq ht, s5 q t hq ht, hcu5 (4 * q) (by omega), hcu5 (4 * q + t) hc', i52 (4 * q) (by omega), i52 (4 * q + t) hc', hR _ (by omega), hR _ (by omega)]
        · by_cases em : m' = m
          · subst em
            rw [s3 q hq]
            unfold mxV
            rw [hR _ (by omega)]
            split
            · have := (hvec q hq).2
              rw [mdN_r rq6]; exact this
            · exact ((hnu5 n hn).1 m' q hm' hq).1
          · rw [s4 _ (by omega)]; exact ((hnu5 n hn).1 m' q hm' hq).1
        · rw [fmA 22 (by decide) (by decide)]; exact ((hnu5 n hn).1 m' q hm' hq).2
        · have e0 := s5 m' 0 hm' (by decide)
          have e1 := s5 m' 1 hm' (by decide)
          have e2 := s5 m' 2 hm' (by decide)
          have e3 := s5 m' 3 hm' (by decide)
          rw [show 16 * n + 4 * m' = 16 * n + (4 * m' + 0) from rfl, show 16 * n + (4 * m' + 0) + 1 = 16 * n + (4 * m' + 1) from rfl, show 16 * n + (4 * m' + 0) + 2 = 16 * n + (4 * m' + 2) from rfl, show 16 * n + (4 * m' + 0) + 3 = 16 * n + (4 * m' + 3) from rfl, e0, e1, e2, e3]
          unfold cuV
          by_cases cc : M6.2 76 (16 + 4 * m') ≤ M6.2 31 (16 * n + 4 * m')
          · rw [if_pos cc, if_pos cc, if_pos cc, if_pos cc]
            exact (hnu5 n hn).2 m' hm'
          · rw [if_neg cc, if_neg cc, if_neg cc, if_neg cc, hR _ (by omega), hR _ (by omega), hR _ (by omega), hR _ (by omega)]
            have := hcu m' hm'
            rw [show 17 + 4 * m' = 16 + (4 * m' + 1) by omega, show 18 + 4 * m' = 16 + (4 * m' + 2) by omega, show 19 + 4 * m' = 16 + (4 * m' + 3) by omega] at this
            exact cuI_r rq6 (Nat.le_refl _) this
      have tz := eT.2.2.2.2 f (by omega)
      have tz3 := eT.2.2.2.2 (f + 3) (by omega)
      have hrr : ∀ i, i < c → mde A (gF A v (8 + i)).toNatClampNeg ∧ gF A v (8 + i) = Int32.ofNat (gF A v (8 + i)).toNatClampNeg ∧ kO S (f + 3) i = some (ra (gF A v (8 + i)).toNatClampNeg) := fun i hi => by
        obtain ⟨r, x1, x2, x3⟩ := c3 i hi
        have hr := x1.1
        rw [x2, jI_cl (by omega)]
        exact ⟨x1, rfl, x3⟩
      have rqA : rEq A MA := fun k h1 h2 => by rw [fmA k (by omega) (by omega), fm6 k (by omega) (by omega) (by omega)]
      obtain ⟨S2, M2, L2, W2, b, u1, u2, u3, u4, u5, u6, u7, u8⟩ := rowsGo (x0 := x0) (k := k) hn (f := f) (c := c) (l0 := (L n).length) (fun i => (gF A v (8 + i)).toNatClampNeg) c1 hf133 (Int32.ofNat m) (M6.2 76) (by rw [hR 3 (by decide)]; exact c2) (fun i hi => by rw [hR _ (by omega)]; exact (hrr i hi).2.1) c 0 T MA L Wt 0 mFU mFU (by omega) (Nat.lt_of_le_of_lt c1 (by decide)) (Nat.lt_of_le_of_lt c1 (by decide)) hIA ⟨by rw [eT.1]; exact hL5.1.1, by rw [eT.1]; exact hL5.2.1.2.2.2.2.1, by rw [eT.2.1]; exact hL5.2.1.2.2.2.2.2, by rw [tz.2.1]; exact hL5.1.2.2.2.1, by rw [tz.1, zf.1, a6]; exact c2⟩ (fun i hi => ⟨by rw [mde_r rqA]; exact (hrr i hi).1, by rw [tz3.2.2.2, zf3.2.2.2]; exact (hrr i hi).2.2⟩) (by omega) (fmA 76 (by decide) (by decide))
      have u1' : fk_7_receive_55 mFU T (sN x0 n) f 0 0 = some (Int32.ofNat b, S2) := u1
      have u2' : fm_deliver_237 mFU MA (Int32.ofNat m) (Int32.ofNat n) (Int32.ofNat (L n).length) 0 = _ := u2
      have vz := u4.2.2.2.2 f (by omega)
      have vz1 := u4.2.2.2.2 (f + 1) (by omega)
      have kf2 : kK S2 f = 3 := by rw [u4.1, eT.1]; exact hL5.1.1
      have f5' : kF S2 f 5 = gF A v 2 := by rw [vz.1, tz.1, zf.1]; exact a5
      rw [ckk_y hL5.1.1, lt_d, a3.trans g0, ckk_y k12, z0.2.1, hh.1.2.2.2.1, bd_s, ckk_y hL5.1.1, a4.trans g1, ckk_y (by rw [p4.1]; exact hh.2.2.1.1), p4.2.1, hh.2.2.1.2.1, ck_n hn (by omega), lt_d, jI_cl (by omega), ko, bd_s, ckk_y hy5.1.1, q1, u1', bd_s, lt_d, lt_d]
      show ∃ r S1 M1, ckk S2 f 3 _ = _ ∧ ck (0 : Int32) 640 _ = _ ∧ _
      rw [ckk_y kf2, f5', show ck (0 : Int32) 640 _ = _ from ck_n (i := 0) (by decide) (by decide), r0, lt_d, show ck (1 : Int32) 640 _ = _ from ck_n (i := 1) (by decide) (by decide), r1, lt_d, ck_n hn (by omega), rd_n _ _ (by omega), h23, lt_d, s1, u2', hR 2 (by decide)]
      unfold fm_deliver_390
      rcases hg2 with eg | eg
      · rw [eg, if_pos rfl, if_neg (show ¬ (0 : Int32) = 1 by decide)]
        exact ⟨_, _, _, rfl, rfl, Inv_1 (Inv_b u3) hk⟩
      · rw [eg, if_neg (show ¬ (1 : Int32) = 0 by decide), if_pos rfl]
        -- an answer at once
        obtain ⟨hc2, hh2, -, -, -, -, hl2, hnu2⟩ := id u3
        obtain ⟨⟨hM2, ⟨⟨hy2, hv2, -⟩, -, -, -, hs2, hsn2, hcu2⟩⟩, -, -⟩ := hc2.2.2.1 n hn
        have kf1 : kK S2 (f + 1) = 20 ∧ kL S2 (f + 1) = 4 := by rw [u4.1, eT.1, u4.2.1, eT.2.1]; exact ⟨hL5.2.1.1, hL5.2.1.2.1⟩
        have r0' : kR S2 f 0 = some (f + 1) := by rw [vz.2.1, tz.2.1]; exact hL5.1.2.1
        have i21 : ∀ q, q < 4 → kI S2 (f + 1) q = gF A v (4 + q) := fun q hq => by
          rw [vz1.2.2.1, (eT.2.2.2.2 (f + 1) (by omega)).2.2.1]; exact i51 q hq
        have e4m : (4 : Int32) * Int32.ofNat m = Int32.ofNat (4 * m) := jI_mul 4 m
        have eC : cCp S2 (f + 1) (Int32.toNatClampNeg 0) (sN x0 n + 6) (4 * m) (Int32.toNatClampNeg 4) = sI S2 (sN x0 n + 6) (va_cpy (kI S2 (f + 1)) (kI S2 (sN x0 n + 6)) 0 (4 * m) 4) := rfl
        generalize hS16 : sI S2 (sN x0 n + 6) (va_cpy (kI S2 (f + 1)) (kI S2 (sN x0 n + 6)) 0 (4 * m) 4) = S16 at eC
        have e16 : cEq (fun a => a = sN x0 n + 5 ∨ a = sN x0 n + 6 ∨ a = sN x0 n + 7) S2 S16 := by rw [← hS16]; exact cEq_sI _ (Or.inr (Or.inl rfl))
        have sent : ∀ (j i fu : Nat) (C : mSt), i + j = 4 → j < fu → mEx (fun k => k = 22) M2 C → (∀ q, q < i → C.2 22 (16 * n + 4 * m + q) = gF A v (4 + q)) → (∀ c', (c' < 16 * n + 4 * m ∨ 16 * n + 4 * m + i ≤ c') → C.2 22 c' = M2.2 22 c') → ∃ D, fm_deliver_346 fu C (Int32.ofNat m) (Int32.ofNat n) (Int32.ofNat b) (Int32.ofNat i) = (bd (fm_start D (Int32.ofNat n) (Int32.ofNat m) 0) fun S2 => some (Int32.ofNat b, S2)) ∧ mEx (fun k => k = 22) M2 D ∧ (∀ q, q < 4 → D.2 22 (16 * n + 4 * m + q) = gF A v (4 + q)) ∧ (∀ c', (c' < 16 * n + 4 * m ∨ 16 * n + 4 * m + 4 ≤ c') → D.2 22 c' = M2.2 22 c') := by
          intro j
          induction j with
          | zero =>
            intro i fu C hi hf eC' x1 x2
            obtain ⟨fu, rfl⟩ : ∃ q, fu = q + 1 := ⟨fu - 1, by omega⟩
            have e : i = 4 := by omega
            subst e
            rw [fm_deliver_346, if_pos (show (4 : Int32) ≤ Int32.ofNat 4 by decide)]
            exact ⟨C, rfl, eC', x1, x2⟩
          | succ j ih =>
            intro i fu C hi hf eC' x1 x2
            obtain ⟨fu, rfl⟩ : ∃ q, fu = q + 1 := ⟨fu - 1, by omega⟩
            have r76' : rd C 76 (Int32.ofNat (4 + i)) = gF A v (4 + i) := by rw [rd_n _ _ (by omega), (eC' 76 (by decide)).2, u5]; exact hR _ (by omega)
            rw [fm_deliver_346, if_neg (jK 4 4 rfl (by omega) (by decide)), show (16 : Int32) * Int32.ofNat n + (4 : Int32) * Int32.ofNat m + Int32.ofNat i = Int32.ofNat (16 * n + 4 * m + i) from by rw [show (16 : Int32) = Int32.ofNat 16 from rfl, show (4 : Int32) = Int32.ofNat 4 from rfl, jI_mul, jI_mul, jI_add, jI_add], show (4 : Int32) + Int32.ofNat i = Int32.ofNat (4 + i) from jI_add 4 i, ck_n (by omega) (by omega), ck_n (by omega) (by omega), r76', lt_d, lt_d, show Int32.ofNat i + 1 = Int32.ofNat (i + 1) from jI_add _ 1]
            refine ih (i + 1) fu _ (by omega) (by omega) (mEx_trans eC' (mEx_wr (W := fun k => k = 22) rfl _ _)) (fun q hq => ?_) (fun c' hc' => ?_)
            · rw [wr_s _ _ (by omega)]
              by_cases e : q = i
              · subst e; rw [upd_s]
              · rw [upd_o _ _ (by omega)]; exact x1 q (by omega)
            · rw [wr_s _ _ (by omega), upd_o _ _ (by omega)]; exact x2 c' (by omega)
        obtain ⟨D, d1, d2, d3, d4⟩ := sent 4 0 mFU M2 rfl (by decide) (mEx_refl _ _) (fun q hq => absurd hq (by omega)) (fun _ _ => rfl)
        have d1' : fm_deliver_346 mFU M2 (Int32.ofNat m) (Int32.ofNat n) (Int32.ofNat b) 0 = _ := d1
        have fmD : ∀ k, k ≠ 22 → D.2 k = M2.2 k := fun k a => (d2 k (by omega)).2
        have hID : Ib x0 k S16 D ra sl mkO L2 W2 ro (fun i => fa (rmv v w i)) := by
          refine Ib_nd u3 (Nat.le_refl _) (by omega) hn e16 (mEx_mono d2 (fun k hk => by omega)) (fun j hj q hq => ?_) (fun m' q hm' hq => ?_) (fun c' hc' => ?_) (fun c' hc' => ?_) ⟨fun m' q hm' hq => ⟨?_, ?_⟩, fun m' hm' => ?_⟩
          · rcases hj with e | e | e <;> subst e
            · rw [fmD 21 (by decide)]
            · exact d4 q (by omega)
            · rw [fmD 31 (by decide)]
          · have : kI S16 (sN x0 n + 5) = kI S2 (sN x0 n + 5) := by rw [← hS16, kI_sIo _ _ (by omega)]
            rw [this, hs2 m' q hm' hq]
            unfold snV
            rw [fmD 20 (by decide), fmD 21 (by decide)]
          · rw [← hS16, kI_sI]
            unfold va_cpy
            by_cases q : 4 * m ≤ c' ∧ c' < 4 * m + 4
            · rw [if_pos q, Nat.zero_add, i21 _ (by omega)]
              have := d3 (c' - 4 * m) (by omega)
              rw [show 16 * n + 4 * m + (c' - 4 * m) = 16 * n + c' by omega] at this
              exact this.symm
            · rw [if_neg q, d4 _ (by omega)]; exact hsn2 c' hc'
          · have : kI S16 (sN x0 n + 7) = kI S2 (sN x0 n + 7) := by rw [← hS16, kI_sIo _ _ (by omega)]
            rw [this, fmD 31 (by decide)]; exact hcu2 c' hc'
          · rw [fmD 21 (by decide)]; exact ((hnu2 n hn).1 m' q hm' hq).1
          · by_cases em : m' = m
            · subst em
              rw [d3 q hq, mdN_r u8, mdN_r rqA]
              exact (hvec q hq).2
            · rw [d4 _ (by omega)]; exact ((hnu2 n hn).1 m' q hm' hq).2
          · rw [fmD 31 (by decide)]; exact (hnu2 n hn).2 m' hm'
        have h42 : D.1 42 = Int32.ofNat (w - 1) := by rw [(d2 42 (by decide)).1, u6, (s2 42 (by decide)).1]; exact p5
        obtain ⟨S3, M3, ro3, fa3, t1, t2, t3⟩ := dsp hID (by omega) hn hm hmn (Or.inl rfl) (by omega : w - 1 < 60) h42
        have z160 := e16.2.2.2.2 (sN x0 n) (by omega)
        rw [d1', t2, bd_s, ckk_y kf2, r0', bd_s, ckk_y hy2.1.1, hy2.1.2.2.2.2.2.2.2.1, bd_s, ckk_y kf1.1, ckk_y hy2.2.2.2.1.1, e4m, jI_cl (by omega), ckp_y ⟨⟨by decide, jI_nn (by omega), by decide⟩, by rw [kf1.2]; decide, by rw [hy2.2.2.2.1.2]; show 4 * m + 4 ≤ 16; omega⟩, lt_d, eC, ckk_y (by rw [e16.1]; exact hy2.1.1), ckk_y (by rw [e16.1]; exact hh2.1.1), z160.1, hy2.1.2.1, t1, bd_s]
        exact ⟨_, _, _, rfl, rfl, Inv_1 (Inv_b t3) hk⟩
  · rw [b2_f hv, if_pos rfl, k_lAtN hl hv, bd_s, cs_N]
    exact ⟨_, _, _, rfl, rfl, h1⟩
end V
