-- part 126: a frame more waits; twice
section V
variable {S S' S1 S2 : cSt} {M M' M2 A : mSt} {ra : Nat → Nat} {sl ch : Nat → Int32} {mkO : Nat → Option Nat} {L Wt : Nat → List Nat} {ro ro' ro1 fa fa' fa1 : Nat → Nat} {x0 n k k' Bt Bt' nf nf1 w : Nat} {l : List Nat}
theorem lnF_sm (h : lnS x0 S ro fa nf) (hF : lnF S M ra mkO Bt fa w) (hw : w ≤ nf) (c : cSm (fun a => x0 + 133 ≤ a ∧ a < kZ S) S S') (hfa : ∀ i, i < w → fa' i = fa i) : lnF S' M ra mkO Bt fa' w := by
  intro i hi wa' ta' hL
  rw [hfa i hi] at hL ⊢
  obtain ⟨hs, g2, g4, g5, g6, g7⟩ := h
  obtain ⟨y1, wa, ta, y2, y3, y4, y5, y6, y7, y8, y9, y10, y11, y12⟩ := g7 i (by omega)
  have d0 := c (fa i) ⟨y1, by omega⟩
  have d1 := c (fa i + 1) ⟨by omega, by omega⟩
  have d2 := c (fa i + 2) ⟨by omega, by omega⟩
  have d3 := c (fa i + 3) ⟨by omega, by omega⟩
  have dw := c wa ⟨y7, y8⟩
  have dt := c ta ⟨y9, y10⟩
  have hL0 : fLy S' (fa i) wa ta := by
    unfold fLy; rw [d0.1, d0.2.2.2.1, d1.1, d1.2.1, d2.1, d2.2.1, d3.1, d3.2.1, dw.1, dw.2.1, dt.1, dt.2.1]; exact y2
  obtain ⟨rfl, rfl⟩ := fLy_u hL0 hL
  obtain ⟨z1, z2⟩ := hF i hi _ _ y2
  refine ⟨fCo_r (fun _ _ _ => rfl) (Nat.le_refl _) d0.2.2.1 d1.2.2.2.2.1 d2.2.2.2.2.1 d3.2.2.2.2.2 z1, ?_⟩
  unfold fBy at z2 ⊢
  rw [d0.2.2.1, dw.2.2.2.2.1, dt.2.2.2.2.1, dw.2.1]
  exact z2
theorem Ib_close (hI : Ib x0 k S M ra sl mkO L Wt ro fa) (hkk : k ≤ k') (hk : k' < 900) (h42 : M.1 42 = Int32.ofNat w) (hw : w < 60) (hS1 : lnS x0 S1 ro1 fa1 nf1) (hw1 : w + 1 ≤ nf1) (c1 : cSm (fun a => a < kZ S ∧ a ≠ x0 + 11 ∧ a ≠ x0 + 12) S S1) (z1 : kZ S ≤ kZ S1) (t1 : ∀ i, kT S1 i = kT S i) (f1 : ∀ i, i ≠ w → fa1 i = fa i) (r1 : ∀ a, a < kZ S → ro1 a = ro a) (F1 : kF S1 (x0 + 11) = upd (kF S (x0 + 11)) 0 (Int32.ofNat (w + 1)))
    (c2 : cSm (fun a => a < kZ S1 ∧ (x0 + 133 ≤ a → ro1 a ≠ fa1 w)) S1 S2) (z2 : kZ S1 ≤ kZ S2) (t2 : ∀ i, kT S2 i = kT S1 i) (e : mEx (fun j => j = 0 ∨ j = 42 ∨ 46 ≤ j) M M2) (g42 : M2.1 42 = Int32.ofNat (w + 1)) (h46 : ∀ i q, i < w → q < 640 → M2.2 46 (640 * i + q) = M.2 46 (640 * i + q))
    (hnew : ∃ wa ta, fLy S2 (fa1 w) wa ta ∧ (wa < kZ S1 → ro1 wa = fa1 w) ∧ (ta < kZ S1 → ro1 ta = fa1 w) ∧ x0 + 133 ≤ wa ∧ wa < kZ S2 ∧ x0 + 133 ≤ ta ∧ ta < kZ S2 ∧ (wa < fa1 w ∨ fa1 w + 4 ≤ wa) ∧ (ta < fa1 w ∨ fa1 w + 4 ≤ ta) ∧ fCo S2 M2 ra mkO (1000 * k') (fa1 w) (gF M2 w) ∧ fBy S2 M2 (fa1 w) wa ta (gF M2 w)) : ∃ ro2, Ib x0 k' S2 M2 ra sl mkO L Wt ro2 fa1 := by
  obtain ⟨hc, hh, hkd, hth, htx, hro, hl, hnu⟩ := hI
  obtain ⟨hf, nf, w', g1, g3, hS, hF⟩ := ln_to hl
  have ew : w' = w := by
    have := hS.2.1
    rw [g3] at h42; exact (jI_inj (by omega) (by omega)).mp h42
  subst ew
  obtain ⟨wa, ta, n1, n2, n3, n4, n5, n6, n7, n8, n9, n10, n11⟩ := hnew
  have hz133 := hc.2.2.2.1
  obtain ⟨q1, -⟩ := hS1.2.2.2.2.2 w' (by omega)
  have r : rEq M M2 := fun k h1 h2 => (e k (by omega)).2
  have cc : cSm (fun a => a < kZ S ∧ a ≠ x0 + 11 ∧ a ≠ x0 + 12 ∧ (x0 + 133 ≤ a → ro a ≠ fa1 w')) S S2 := cSm_trans (cSm_mono c1 (fun a ha => ⟨ha.1, ha.2.1, ha.2.2.1⟩)) (cSm_mono c2 (fun a ha => ⟨by have := ha.1; omega, fun q => by rw [r1 a ha.1]; exact ha.2.2.2 q⟩))
  have hF1 : lnF S1 M ra mkO (1000 * k) fa1 w' := lnF_sm hS hF g1 (cSm_mono c1 (fun a ha => ⟨ha.2, by omega, by omega⟩)) (fun i hi => f1 i (by omega))
  have hS2 : lnS x0 S2 (fun a => if a < kZ S1 then ro1 a else fa1 w') fa1 nf1 := by
    refine lnS_fr (i0 := w') hS1 (by omega) (cSm_mono c2 (fun a ha => ?_)) z2 (fun a ha => if_pos ha) ⟨wa, ta, n1, ?_, ?_, n4, n5, n6, n7, n8, n9⟩
    · rcases ha with ha | ha | ha
      · exact ⟨by omega, fun q => by omega⟩
      · exact ⟨by omega, fun q => by omega⟩
      · exact ⟨ha.2.1, fun _ => ha.2.2⟩
    · by_cases q : wa < kZ S1
      · exact (if_pos q).trans (n2 q)
      · exact if_neg q
    · by_cases q : ta < kZ S1
      · exact (if_pos q).trans (n3 q)
      · exact if_neg q
  have hF2 : lnF S2 M2 ra mkO (1000 * k') fa1 (w' + 1) := by
    refine lnF_fr (i0 := w') hS1 hF1 (by omega) (by omega) (cSm_mono c2 (fun a ha => ⟨ha.2.1, fun _ => ha.2.2⟩)) r (by omega) (fun i q hi hne hq => h46 i q (by omega) hq) (fun i hi hne => by omega) (fun _ wa' ta' hL => ?_)
    obtain ⟨rfl, rfl⟩ := fLy_u n1 hL
    exact ⟨n10, n11⟩
  have d11 := c2 (x0 + 11) ⟨by omega, fun q => by omega⟩
  have hl2 : lnI x0 (1000 * k') S2 M2 ra mkO (fun a => if a < kZ S1 then ro1 a else fa1 w') fa1 := by
    refine ln_of ⟨?_, ?_, ?_⟩ hw1 g42 hS2 hF2
    · rw [d11.2.2.1, F1, upd_s, g42]
    · rw [d11.2.2.1, F1, upd_o _ _ (by decide), (e 43 (by decide)).1]; exact hf.2.1
    · rw [d11.2.2.1, F1, upd_o _ _ (by decide), (e 44 (by decide)).1]; exact hf.2.2
  refine ⟨_, Ib_fr hkk hk hc hh hkd hth htx hro hnu (mEx_mono e (fun k hk => by omega)) (cSm_mono cc (fun a ha => ?_)) (by omega) (fun i => by rw [t2, t1]) (fun a ha => (if_pos (by omega)).trans (r1 a ha)) hl2⟩
  rcases ha with ha | ha | ⟨a1, a2, a3⟩
  · exact ⟨by omega, by omega, by omega, fun q => by omega⟩
  · exact ⟨by omega, by omega, by omega, fun q => by omega⟩
  · exact ⟨a2, by omega, by omega, fun _ => by omega⟩
theorem k_isFull (h6 : kK S (x0 + 11) = 6) (h0 : kF S (x0 + 11) 0 = Int32.ofNat w) (hw : w ≤ 60) : fk_5_isFull S (x0 + 11) = some (b2 (w = 60)) := by
  unfold fk_5_isFull fk_5_isFull_14
  rw [ckk_y h6, h0, ckz_0, ckz_1]
  by_cases c : w = 60
  · rw [if_neg (show ¬ Int32.ofNat w < 60 from fun q => absurd ((jI_lt (b := 60) (by omega) (by decide)).mp q) (by omega)), b2_t c]
  · rw [if_pos (show Int32.ofNat w < 60 from (jI_lt (b := 60) (by omega) (by decide)).mpr (by omega)), b2_f c]
/-- cells of a line's frame, by who they belong to -/
theorem fr_in (h : lnS x0 S ro fa nf) {i : Nat} (hi : i < nf) {wa ta : Nat} (hL : fLy S (fa i) wa ta) : ∀ a, (a = fa i ∨ a = fa i + 1 ∨ a = fa i + 2 ∨ a = fa i + 3 ∨ a = wa ∨ a = ta) → ro a = fa i ∧ x0 + 133 ≤ a ∧ a < kZ S := fun a ha => by
  obtain ⟨y1, wa', ta', y2, y3, y4, y5, y6, y7, y8, y9, y10, -⟩ := h.2.2.2.2.2 i hi
  obtain ⟨rfl, rfl⟩ := fLy_u hL y2
  have h00 := y3 0 (by decide)
  rw [Nat.add_zero] at h00
  rcases ha with e | e | e | e | e | e <;> subst e
  · exact ⟨h00, y1, by omega⟩
  · exact ⟨y3 1 (by decide), by omega, by omega⟩
  · exact ⟨y3 2 (by decide), by omega, by omega⟩
  · exact ⟨y3 3 (by decide), by omega, by omega⟩
  · exact ⟨y4, y7, y8⟩
  · exact ⟨y5, y9, y10⟩
theorem c_twice (hk : k + 1 < 900) : lC_twice x0 (Inv x0 k) (Inv x0 (k + 1)) := by
  intro S M v1 h
  have h0 := Inv_0 h (by omega)
  unfold fk_11_twice fm_twice fk_11_twice_23 fm_twice_28
  rw [lt_d, m_wb, ckz_0, ckz_0]
  generalize pu M 0 0 = A at h0 ⊢
  have h1 := Inv_1 h0 hk
  obtain ⟨ra, sl, mkO, L, Wt, ro, fa, hIb⟩ := h0
  have hIb : Ib x0 k S A ra sl mkO L Wt ro fa := hIb
  obtain ⟨hc, hh, hkd, hth, htx, hro, hl, hnu⟩ := id hIb
  rw [ckk_y hh.1.1, hh.1.2.2.2.2.1, bd_s, ckk_y hl.1.1]
  by_cases hv : 0 ≤ v1 ∧ v1 ≤ A.1 42 - 1
  · obtain ⟨v, v60, rfl, i2, -⟩ := k_lAtY hl hv
    obtain ⟨hf, nf, w, g1, g3, hS, hF⟩ := ln_to hl
    have hnf := hS.2.1
    have hvw : v < w := by
      rw [g3] at hv
      obtain ⟨i, hi, e⟩ := (wiE (by omega)).mp hv
      have := (jI_inj (by omega) (by omega)).mp e
      omega
    have hf0 : kF S (x0 + 11) 0 = Int32.ofNat w := hf.1.trans g3
    rw [b2_t hv, if_neg n10, i2, bd_s, cs_S, ckk_y hh.1.1, bd_s, ckk_y hl.1.1, k_isFull hl.1.1 hf0 (by omega), bd_s, g3]
    by_cases c60 : w = 60
    · rw [b2_t c60, if_neg n10, if_pos (show Int32.ofNat w = 60 by rw [c60]; rfl)]
      exact ⟨_, _, _, rfl, rfl, h1⟩
    · have hz133 := hc.2.2.2.1
      obtain ⟨S1, ro1, fa1, nf1, o1, hS1, o2, o3, o4, o5, o6, o7, o8⟩ := k_open (w := w) hS (by omega) g1 hf0 hz133
      rw [b2_f c60, if_pos rfl, if_neg (jN 60 60 rfl c60 (by omega) (by decide)), ckk_y hh.1.1, bd_s, ckk_y hl.1.1, o1, bd_s, lt_d, lt_d]
      show ∃ r S1 M1, bd (some (fa1 w)) _ = _ ∧ _
      rw [bd_s]
      obtain ⟨x1, wa, ta, hLw, -, -, -, x6, x7, x8, x9, x10, x11, x12⟩ := hS1.2.2.2.2.2 w (by omega)
      obtain ⟨-, ws, ts, hLs, -⟩ := hS1.2.2.2.2.2 v (by omega)
      have hF1 : lnF S1 A ra mkO (1000 * k) fa1 w := lnF_sm hS hF g1 (cSm_mono o3 (fun a ha => ⟨ha.2, by omega, by omega⟩)) (fun i hi => o6 i (by omega))
      obtain ⟨z1, z2⟩ := hF1 v hvw ws ts hLs
      have hsv : fa1 v = fa v := o6 v (by omega)
      have hne : fa1 v ≠ fa1 w := fun q => by have := hS1.2.2.2.2.1 v w (by omega) (by omega) q; omega
      have inw := fr_in hS1 (by omega : w < nf1) hLw
      have inv := fr_in hS1 (by omega : v < nf1) hLs
      have rows : ∀ r, mde A r → cRow A sl (chF A sl) S1 r (ra r) := fun r hr => by
        obtain ⟨q1, q2, q3, q4, q5, va, v1, v2, v3, v4, v5⟩ := (hc.2.1.1.2.2.1 r hr.1 hr).2
        have hlt := hc.2.2.2.2 r hr
        have hgt := hc.2.1.1.1.2.2.2.2.2 r hr
        have da := o3 (ra r) ⟨hlt, by omega, by omega⟩
        have dv := o3 va ⟨by omega, by omega, by omega⟩
        exact ⟨by rw [da.1]; exact q1, by rw [da.2.2.1]; exact q2, by rw [da.2.2.1]; exact q3, by rw [da.2.2.1]; exact q4, by rw [da.2.2.1]; exact q5, va, v1, by rw [da.2.2.2.1]; exact v2, by rw [dv.1]; exact v3, by rw [dv.2.1]; exact v4, by rw [dv.2.2.2.2.1]; exact v5⟩
      have sepw : ∀ a, ro1 a ≠ fa1 w → a ≠ fa1 w ∧ a ≠ fa1 w + 1 ∧ a ≠ fa1 w + 2 ∧ a ≠ fa1 w + 3 ∧ a ≠ wa ∧ a ≠ ta := fun a ha => by
        refine ⟨fun q => ha (inw a (by omega)).1, fun q => ha (inw a (by omega)).1, fun q => ha (inw a (by omega)).1, fun q => ha (inw a (by omega)).1, fun q => ha (inw a (by omega)).1, fun q => ha (inw a (by omega)).1⟩
      obtain ⟨S2, wa', ta', k1, k2, k3, k4, k5, k6, k7, k8, k9, k10, k11⟩ := k_copyFrom hLw hLs z1 z2 ⟨x6, x8, x10⟩ ⟨x11, x12⟩ (fun a ha => by
        have ha' : (a = fa1 v ∨ a = fa1 v + 1 ∨ a = fa1 v + 2 ∨ a = fa1 v + 3 ∨ a = ws ∨ a = ts) ∨ ∃ r, mde A r ∧ (a = ra r ∨ a + 1 = ra r) := by
          rcases ha with q | q | q | q | q | q | q
          · exact Or.inl (by omega)
          · exact Or.inl (by omega)
          · exact Or.inl (by omega)
          · exact Or.inl (by omega)
          · exact Or.inl (by omega)
          · exact Or.inl (by omega)
          · exact Or.inr q
        rcases ha' with q | ⟨r, hr, q⟩
        · obtain ⟨b1, b2, b3⟩ := inv a q
          exact ⟨b3, sepw a (by rw [b1]; exact hne)⟩
        · have hlt := hc.2.2.2.2 r hr
          have hgt := hc.2.1.1.1.2.2.2.2.2 r hr
          obtain ⟨h3, h4⟩ := hro r hr
          have hra : ro1 a = 1 := by
            rw [o7 a (by omega)]
            rcases q with q | q
            · rw [q]; exact h3
            · rw [show a = ra r - 1 by omega]; exact h4
          exact ⟨by omega, sepw a (by omega)⟩) rows
      rw [hsv] at k1
      rw [ckk_y hLw.1.1, k1, bd_s, ckz_1]
      obtain ⟨B, b1, b2', b3, b4⟩ := m_twice32 hvw (by omega) g3
      rw [b1]
      have hg : ∀ q, q < 640 → gF (pu B 42 (Int32.ofNat (w + 1))) w q = gF A v q := fun q hq => b3 q hq
      have eM : mEx (fun j => j = 0 ∨ j = 42 ∨ 46 ≤ j) A (pu B 42 (Int32.ofNat (w + 1))) := mEx_trans (mEx_mono b2' (fun k hk => by omega)) (mEx_pu (Or.inr (Or.inl rfl)) _)
      have r : rEq A (pu B 42 (Int32.ofNat (w + 1))) := fun k h1 h2 => (eM k (by omega)).2
      obtain ⟨c, c1, c2, c3⟩ := fr_rows k3
      obtain ⟨ro2, hfin⟩ := Ib_close (k' := k + 1) (M2 := pu B 42 (Int32.ofNat (w + 1))) hIb (by omega) hk g3 (by omega) hS1 o2 o3 o4 o5 o6 o7 o8 (cSm_mono k5 (fun a ha => ⟨ha.1, by
          by_cases q : x0 + 133 ≤ a
          · exact sepw a (ha.2 q)
          · omega⟩)) k6 k7 eM (pu_s _ _ _) (fun i q hi hq => b4 _ (by omega)) ⟨wa', ta', k2, fun q => by
          rcases k8 with e | e
          · rw [e]; exact (inw wa (by omega)).1
          · omega, fun q => by
          rcases k9 with e | e
          · rw [e]; exact (inw ta (by omega)).1
          · omega, by rcases k8 with e | e <;> omega, k10, by rcases k9 with e | e <;> omega, k11, by rcases k8 with e | e <;> omega, by rcases k9 with e | e <;> omega, fCo_c hg (fCo_x r (by omega) (fun _ _ _ => rfl) rfl rfl rfl k3), by
          have := fBy_c hg c1 c2 k4
          unfold fBy at this ⊢
          rw [frL_r r]; exact this⟩
      exact ⟨_, _, _, rfl, rfl, Inv_b hfin⟩
  · rw [b2_f hv, if_pos rfl, k_lAtN hl hv, bd_s, cs_N]
    exact ⟨_, _, _, rfl, rfl, h1⟩
end V
