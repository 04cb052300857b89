-- part 122: cells of frames change
section V
variable {S S' : cSt} {M M' A : mSt} {ra : Nat → Nat} {sl : Nat → Int32} {mkO : Nat → Option Nat} {L Wt : Nat → List Nat} {ro ro' fa fa' : Nat → Nat} {x0 n k Bt Bt' : Nat} {l : List Nat}
/-- all but the line, its frames and new cells -/
def frP (x0 : Nat) (S : cSt) (ro : Nat → Nat) : Nat → Prop := fun a => a < x0 + 11 ∨ (x0 + 13 ≤ a ∧ a < x0 + 133) ∨ (x0 + 133 ≤ a ∧ a < kZ S ∧ (ro a = 1 ∨ ro a = 2))
theorem cBk_sm {made : Nat → Prop} {ch : Nat → Int32} {bk : Nat} (h : cBk M ra sl ch made mkO S bk) (c : cSm (fun a => (bk ≤ a ∧ a < bk + 5) ∨ ∃ r, made r ∧ (a = ra r ∨ a + 1 = ra r)) S S') : cBk M ra sl ch made mkO S' bk := by
  obtain ⟨⟨h1, h2, h3, h4, h5, h6⟩, ⟨g1, g2, g3, g4, g5, g6, g7, g8⟩, hr, hn, hm⟩ := h
  have c0 := c bk (by omega)
  have c1 := c (bk + 1) (by omega)
  have c2 := c (bk + 2) (by omega)
  have c3 := c (bk + 3) (by omega)
  have c4 := c (bk + 4) (by omega)
  refine ⟨⟨by rw [c0.1]; exact h1, by rw [c0.2.2.2.1]; exact h2, by rw [c0.2.2.2.1]; exact h3, by rw [c0.2.2.2.1]; exact h4, by rw [c0.2.2.2.1]; exact h5, h6⟩, ⟨by rw [c1.1]; exact g1, by rw [c1.2.1]; exact g2, by rw [c2.1]; exact g3, by rw [c2.2.1]; exact g4, by rw [c3.1]; exact g5, by rw [c3.2.1]; exact g6, by rw [c4.1]; exact g7, by rw [c4.2.1]; exact g8⟩, fun r hr1 hr2 => ?_, fun r hr1 hr2 => by rw [c1.2.2.2.2.2]; exact hn r hr1 hr2, fun j hj => by rw [c2.2.2.2.2.2]; exact hm j hj⟩
  obtain ⟨q0, q1, q2, q3, q4, q5, va, v1, v2, v3, v4, v5⟩ := hr r hr1 hr2
  have da := c (ra r) (Or.inr ⟨r, hr2, Or.inl rfl⟩)
  have dv := c va (Or.inr ⟨r, hr2, Or.inr v1⟩)
  exact ⟨by rw [c1.2.2.2.2.2]; exact q0, by rw [da.1]; exact q1, by rw [da.2.2.1]; exact q2, by rw [da.2.2.1]; exact q3, by rw [da.2.2.1]; exact q4, by rw [da.2.2.1]; exact q5, va, v1, by rw [da.2.2.2.1]; exact v2, by rw [dv.1]; exact v3, by rw [dv.2.1]; exact v4, by rw [dv.2.2.2.2.1]; exact v5⟩
theorem nEq_refl (M : mSt) (n : Nat) : nEq M M n := nEq_of (fun _ _ _ => rfl) (fun _ _ _ _ _ => rfl)
theorem core_sm (h : core x0 Bt S M ra sl mkO L Wt) (c : cSm (fun a => (x0 + 5 ≤ a ∧ a < x0 + 10) ∨ (x0 + 22 ≤ a ∧ a < x0 + 126) ∨ ∃ r, mde M r ∧ (a = ra r ∨ a + 1 = ra r)) S S') (hz : kZ S ≤ kZ S') : core x0 Bt S' M ra sl mkO L Wt := by
  obtain ⟨h1, ⟨hB, hBa⟩, hN, hz1, hra⟩ := h
  refine ⟨h1, ⟨cBk_sm hB (cSm_mono c (fun a ha => ?_)), fun n hn => ?_⟩, fun n hn => ?_, by omega, fun q hq => by have := hra q hq; omega⟩
  · rcases ha with ha | ha
    · exact Or.inl (by omega)
    · exact Or.inr (Or.inr ha)
  · rw [(c (x0 + 8) (by omega)).2.2.2.2.1, (c (x0 + 9) (by omega)).2.2.2.2.1]; exact hBa n hn
  · obtain ⟨⟨g1, g2⟩, ⟨g3, g4, g5⟩, g6⟩ := hN n hn
    have cn : cSm (fun a => sN x0 n ≤ a ∧ a < sN x0 n + 26) S S' := cSm_mono c (fun a ha => Or.inr (Or.inl (by unfold sN at ha; omega)))
    exact ⟨⟨g1, nC_sm g2 (nEq2_of (nEq_refl M n) (fun _ => True)) (fun _ _ => trivial) (fun _ _ => rfl) (fun _ _ => rfl) cn⟩, ⟨g3, nW_sm g4 (fun _ _ => rfl) cn, g5⟩, g6⟩
theorem Ib_fr {k' : Nat} (hkk : k ≤ k') (hk : k' < 900) (hc : core x0 (1000 * k) S M ra sl mkO L Wt) (hh : hsI x0 S M) (hkd : kdI x0 S M) (ht : thI x0 S) (hx : txI x0 S ro) (hr : roI x0 S M ra ro) (hn : nuI M mkO (1000 * k)) (e : mEx (fun j => j = 0 ∨ (42 ≤ j ∧ j ≠ 45)) M M') (c : cSm (frP x0 S ro) S S') (hz : kZ S ≤ kZ S') (hT : ∀ i, kT S' i = kT S i) (hro : ∀ a, a < kZ S → ro' a = ro a) (hl : lnI x0 (1000 * k') S' M' ra mkO ro' fa') : Ib x0 k' S' M' ra sl mkO L Wt ro' fa' := by
  have r : rEq M M' := fun k h1 h2 => (e k (by omega)).2
  have eM : lvM M M' := ⟨trivial, fun q hq => by rw [mde_r r]; exact hq, fun q _ => by rw [mdN_r r]; exact Nat.le_refl _, (rOn_of r _).1, fun i _ => by rw [r 6 (by decide) (by decide)]⟩
  have hm : ∀ j m, mkO j = some m → mde M m := fun j m hj => (hc.1.1.2.1.1 j m hj).2.1
  have eR : lvR M ra ra mkO mkO := ⟨fun _ _ => rfl, fun _ _ h => h, hm⟩
  have lo : ∀ a, a < x0 + 11 → frP x0 S ro a := fun a ha => Or.inl ha
  have md : ∀ a, x0 + 13 ≤ a → a < x0 + 133 → frP x0 S ro a := fun a h1 h2 => Or.inr (Or.inl ⟨h1, h2⟩)
  have c1 : core x0 (1000 * k) S' M ra sl mkO L Wt := core_sm hc (cSm_mono c (fun a ha => by
    rcases ha with ha | ha | ⟨q, hq, ha⟩
    · exact lo a (by omega)
    · exact md a (by omega) (by omega)
    · have h1 := hc.2.2.2.2 q hq
      have h2 := hc.2.1.1.1.2.2.2.2.2 q hq
      obtain ⟨h3, h4⟩ := hr q hq
      refine Or.inr (Or.inr ⟨by omega, by omega, Or.inl ?_⟩)
      rcases ha with ha | ha
      · rw [ha]; exact h3
      · rw [show a = ra q - 1 by omega]; exact h4)) hz
  refine ⟨core_o c1 (fun k h1 h2 => (e k (by omega)).2) (cEq_refl (fun _ => False) _) (fun a ha => ha.elim) (by omega) (by omega), ?_, kdI_g hkd eM (fun k hk => e k (by omega)) (cSm_mono c (fun a ha => lo a (by omega))) (fun m _ h1 h2 => absurd (by rw [mde_r r] at h1; exact h1) h2), ?_, ?_, ?_, hl, nuI_g hn eM eR (by omega) (e 21 (by decide)).2 (e 22 (by decide)).2 (e 31 (by decide)).2⟩
  · obtain ⟨h1, ⟨h2, h3⟩, ⟨h4, h5, h6⟩, ⟨h7, h8, h9, h10, h11⟩, b0, b1, ⟨t0, t1, t2, t3⟩, s0, s1⟩ := hh
    have c0 := c x0 (lo _ (by omega))
    have c10 := c (x0 + 10) (lo _ (by omega))
    have p0 := c (kT S 0) (lo _ (by omega))
    have p1 := c (kT S 1) (lo _ (by omega))
    have q0 := c b0 (lo _ (by omega))
    have q1 := c b1 (lo _ (by omega))
    have f19 := c (x0 + 19) (md _ (by omega) (by omega))
    have f20 := c (x0 + 20) (md _ (by omega) (by omega))
    have f21 := c (x0 + 21) (md _ (by omega) (by omega))
    refine ⟨by rw [c0.1, c0.2.2.2.1]; exact h1, ⟨by rw [c0.2.2.1, (e 45 (by decide)).1]; exact h2, by rw [(e 45 (by decide)).1]; exact h3⟩, ⟨by rw [c10.1]; exact h4, by rw [c10.2.1]; exact h5, by rw [c10.2.2.2.2.2]; exact h6⟩, ⟨by rw [f19.1]; exact h7, by rw [f20.1]; exact h8, by rw [f20.2.1]; exact h9, by rw [f21.1]; exact h10, by rw [f21.2.1]; exact h11⟩, b0, b1, by rw [hT, hT]; exact ⟨t0, t1, t2, t3⟩, ?_, ?_⟩
    · unfold pStr; rw [hT, p0.1, q0.1, q0.2.1, p0.2.2.2.1, p0.2.2.1, q0.2.2.2.2.1]; exact s0
    · unfold pStr; rw [hT, p1.1, q1.1, q1.2.1, p1.2.2.2.1, p1.2.2.1, q1.2.2.2.2.1]; exact s1
  · obtain ⟨⟨h1, h2, h3⟩, h4, h5⟩ := ht
    have d126 := c (x0 + 126) (md _ (by omega) (by omega))
    have d127 := c (x0 + 127) (md _ (by omega) (by omega))
    have d0 := c (x0 + 128) (md _ (by omega) (by omega))
    have d1 := c (x0 + 128 + 1) (md _ (by omega) (by omega))
    have d2 := c (x0 + 128 + 2) (md _ (by omega) (by omega))
    have d3 := c (x0 + 128 + 3) (md _ (by omega) (by omega))
    have d4 := c (x0 + 128 + 4) (md _ (by omega) (by omega))
    refine ⟨⟨by rw [d126.1]; exact h1, by rw [d126.2.2.2.1]; exact h2, by rw [d126.2.2.2.1]; exact h3⟩, by rw [d127.1, d127.2.1]; exact h4, ?_⟩
    unfold vwA
    rw [d126.2.2.2.1, d0.1, d0.2.1, d1.1, d1.2.1, d2.1, d2.2.1, d3.1, d3.2.1, d4.1, d4.2.1]
    exact h5
  · obtain ⟨h1, tb, h2, h3, h4, h5, h6⟩ := hx
    have d0 := c (x0 + 13) (md _ (by omega) (by omega))
    have d1 := c (x0 + 13 + 1) (md _ (by omega) (by omega))
    have d2 := c (x0 + 13 + 2) (md _ (by omega) (by omega))
    have d3 := c (x0 + 13 + 3) (md _ (by omega) (by omega))
    have db : kK S' tb = kK S tb ∧ kL S' tb = kL S tb := by
      rcases h6 with h6 | ⟨h6, h7⟩
      · have := c tb (md _ (by omega) (by omega)); exact ⟨this.1, this.2.1⟩
      · have := c tb (Or.inr (Or.inr ⟨h6, h5, Or.inr h7⟩)); exact ⟨this.1, this.2.1⟩
    refine ⟨?_, tb, by rw [d0.2.2.2.1]; exact h2, by rw [db.1]; exact h3, by rw [db.2]; exact h4, by omega, ?_⟩
    · unfold txA
      rw [d0.1, d0.2.2.2.1, d1.1, d1.2.1, d2.1, d2.2.1, d3.1, d3.2.1]
      exact h1
    · rw [hro tb h5]; exact h6
  · intro q hq
    rw [mde_r r] at hq
    have h1 := hc.2.2.2.2 q hq
    rw [hro _ h1, hro _ (by omega)]
    exact hr q hq
/-- one frame's cells change -/
theorem lnI_fr {i0 nf w : Nat} (hs : (kK S (x0 + 11) = 6 ∧ kR S (x0 + 11) 3 = some (x0 + 12) ∧ kK S (x0 + 12) = 32 ∧ kL S (x0 + 12) = 60)) (hf : (kF S (x0 + 11) 0 = M.1 42 ∧ kF S (x0 + 11) 1 = M.1 43 ∧ kF S (x0 + 11) 2 = M.1 44)) (g1 : w ≤ nf) (g2 : nf ≤ 60) (g3 : M.1 42 = Int32.ofNat w) (g4 : ∀ i, i < nf → kO S (x0 + 12) i = some (fa i)) (g5 : ∀ i, nf ≤ i → i < 60 → kO S (x0 + 12) i = none) (g6 : ∀ i i', i < nf → i' < nf → fa i = fa i' → i = i')
    (g7 : ∀ i, i < nf → x0 + 133 ≤ fa i ∧ ∃ wa ta, fLy S (fa i) wa ta ∧ (∀ c, c < 4 → ro (fa i + c) = fa i) ∧ ro wa = fa i ∧ ro ta = fa i ∧ fa i + 4 ≤ kZ S ∧ x0 + 133 ≤ wa ∧ wa < kZ S ∧ x0 + 133 ≤ ta ∧ ta < kZ S ∧ (wa < fa i ∨ fa i + 4 ≤ wa) ∧ (ta < fa i ∨ fa i + 4 ≤ ta) ∧ (i < w → fCo S M ra mkO Bt (fa i) (gF M i) ∧ fBy S M (fa i) wa ta (gF M i)))
    (r : rEq M M') (hle : Bt ≤ Bt') (hi0 : i0 < nf) (c : cSm (fun a => a = x0 + 11 ∨ a = x0 + 12 ∨ (x0 + 133 ≤ a ∧ a < kZ S ∧ ro a ≠ fa i0)) S S') (hz : kZ S ≤ kZ S') (hro : ∀ a, a < kZ S → ro' a = ro a) (h42 : M'.1 42 = M.1 42 ∧ M'.1 43 = M.1 43 ∧ M'.1 44 = M.1 44) (h46 : ∀ i q, i < w → i ≠ i0 → q < 640 → M'.2 46 (640 * i + q) = M.2 46 (640 * i + q))
    (hnew : ∃ wa ta, fLy S' (fa i0) wa ta ∧ ro' wa = fa i0 ∧ ro' ta = fa i0 ∧ x0 + 133 ≤ wa ∧ wa < kZ S' ∧ x0 + 133 ≤ ta ∧ ta < kZ S' ∧ (wa < fa i0 ∨ fa i0 + 4 ≤ wa) ∧ (ta < fa i0 ∨ fa i0 + 4 ≤ ta) ∧ (i0 < w → fCo S' M' ra mkO Bt' (fa i0) (gF M' i0) ∧ fBy S' M' (fa i0) wa ta (gF M' i0))) : lnI x0 Bt' S' M' ra mkO ro' fa := by
  have c11 := c (x0 + 11) (Or.inl rfl)
  have c12 := c (x0 + 12) (Or.inr (Or.inl rfl))
  refine ⟨⟨by rw [c11.1]; exact hs.1, by rw [c11.2.2.2.1]; exact hs.2.1, by rw [c12.1]; exact hs.2.2.1, by rw [c12.2.1]; exact hs.2.2.2⟩, by rw [c11.2.2.1, h42.1, h42.2.1, h42.2.2]; exact hf, nf, w, g1, g2, by rw [h42.1]; exact g3, by rw [c12.2.2.2.2.2]; exact g4, by rw [c12.2.2.2.2.2]; exact g5, g6, fun i hi => ?_⟩
  obtain ⟨y1, wa, ta, y2, y3, y4, y5, y6, y7, y8, y9, y10, y11, y12, y13⟩ := g7 i hi
  by_cases e : i = i0
  · subst e
    obtain ⟨wa', ta', z1, z2, z3, z4, z5, z6, z7, z8, z9, z10⟩ := hnew
    exact ⟨y1, wa', ta', z1, fun q hq => by rw [hro _ (by omega)]; exact y3 q hq, z2, z3, by omega, z4, z5, z6, z7, z8, z9, z10⟩
  · have hne : fa i ≠ fa i0 := fun q => e (g6 i i0 hi hi0 q)
    have d0 := c (fa i) (Or.inr (Or.inr ⟨y1, by omega, by have := y3 0 (by decide); rw [Nat.add_zero] at this; rw [this]; exact hne⟩))
    have d1 := c (fa i + 1) (Or.inr (Or.inr ⟨by omega, by omega, by rw [y3 1 (by decide)]; exact hne⟩))
    have d2 := c (fa i + 2) (Or.inr (Or.inr ⟨by omega, by omega, by rw [y3 2 (by decide)]; exact hne⟩))
    have d3 := c (fa i + 3) (Or.inr (Or.inr ⟨by omega, by omega, by rw [y3 3 (by decide)]; exact hne⟩))
    have dw := c wa (Or.inr (Or.inr ⟨y7, y8, by rw [y4]; exact hne⟩))
    have dt := c ta (Or.inr (Or.inr ⟨y9, y10, by rw [y5]; exact hne⟩))
    refine ⟨y1, wa, ta, ?_, fun q hq => by rw [hro _ (by omega)]; exact y3 q hq, by rw [hro _ y8]; exact y4, by rw [hro _ y10]; exact y5, by omega, y7, by omega, y9, by omega, y11, y12, fun hw => ?_⟩
    · unfold fLy; rw [d0.1, d0.2.2.2.1, d1.1, d1.2.1, d2.1, d2.2.1, d3.1, d3.2.1, dw.1, dw.2.1, dt.1, dt.2.1]; exact y2
    · obtain ⟨z1, z2⟩ := y13 hw
      have hg : ∀ q, q < 640 → gF M' i q = gF M i q := fun q hq => h46 i q hw e hq
      have z1' := fCo_c hg z1
      obtain ⟨-, -, -, -, -, -, q, c1, c2, c3⟩ := z1
      have z2' := fBy_c hg c1 c2 z2
      refine ⟨fCo_r r hle d0.2.2.1 d1.2.2.2.2.1 d2.2.2.2.2.1 d3.2.2.2.2.2 z1', ?_⟩
      unfold fBy at z2' ⊢
      rw [frL_r r, d0.2.2.1, dw.2.2.2.2.1, dt.2.2.2.2.1, dw.2.1]
      exact z2'
/-- rows and a frame's cells are apart -/
theorem fr_row (hc : core x0 Bt S M ra sl mkO L Wt) (hr : roI x0 S M ra ro) {f wa : Nat} (hf : x0 + 133 ≤ f) (h0 : ∀ c, c < 4 → ro (f + c) = f) (hw : ro wa = f) : ∀ r, mde M r → cRow M sl (chF M sl) S r (ra r) ∧ ra r < kZ S ∧ ra r ≠ f ∧ ra r ≠ wa ∧ ra r ≠ f + 1 ∧ ra r ≠ wa + 1 := fun r hm => by
  obtain ⟨h1, h2⟩ := hr r hm
  have h00 := h0 0 (by decide)
  rw [Nat.add_zero] at h00
  have h01 := h0 1 (by decide)
  refine ⟨(hc.2.1.1.2.2.1 r hm.1 hm).2, hc.2.2.2.2 r hm, fun e => ?_, fun e => ?_, fun e => ?_, fun e => ?_⟩
  · rw [e, h00] at h1; omega
  · rw [e, hw] at h1; omega
  · rw [e, h01] at h1; omega
  · rw [e, Nat.add_sub_cancel, hw] at h2; omega
/-- a frame of the line is written, in the class: all is kept -/
theorem Ib_write {v w : Nat} (hI : Ib x0 k S M ra sl mkO L Wt ro fa) (hk : k < 900) (hv : v < w) (hw : M.1 42 = Int32.ofNat w) (hw60 : w ≤ 60) : ∃ S' ro' wa ta, fk_2_write S (fa v) = some S' ∧ Ib x0 k S' M ra sl mkO L Wt ro' fa ∧ fLy S' (fa v) wa ta ∧ kF S' (fa v) 7 = Int32.ofNat (frL M (gF M v)).length ∧ kL S' wa = 560 ∧ kL S' ta = 560 ∧ fCo S' M ra mkO (1000 * k) (fa v) (gF M v) ∧ fBy S' M (fa v) wa ta (gF M v) ∧ (frL M (gF M v)).length ≤ 556 ∧ ro' wa = fa v ∧ ro' ta = fa v ∧ wa < kZ S' ∧ ta < kZ S' ∧ (wa < fa v ∨ fa v + 4 ≤ wa) ∧ (ta < fa v ∨ fa v + 4 ≤ ta) ∧ x0 + 133 ≤ wa ∧ x0 + 133 ≤ ta ∧ x0 + 133 ≤ fa v ∧ (∀ i, kT S' i = kT S i) := by
  obtain ⟨hc, hh, hkd, hth, htx, hro, hl, hnu⟩ := hI
  obtain ⟨hs, hf, nf, w', g1, g2, g3, g4, g5, g6, g7⟩ := hl
  have ew : w' = w := by rw [g3] at hw; exact (jI_inj (by omega) (by omega)).mp hw
  subst ew
  obtain ⟨y1, wa, ta, y2, y3, y4, y5, y6, y7, y8, y9, y10, y11, y12, y13⟩ := g7 v (by omega)
  obtain ⟨z1, z2⟩ := y13 hv
  have hz133 := hc.2.2.2.1
  have hcc : ∃ c, c ≤ 8 ∧ gF M v 3 = Int32.ofNat c := by obtain ⟨-, -, -, -, -, -, c, c1, c2, -⟩ := z1; exact ⟨c, c1, c2⟩
  obtain ⟨c, c1, c2⟩ := hcc
  have hlen := frL_len M (gF M v) c1 c2
  obtain ⟨S', wa', ta', s1, s2, s3, s4, s5, s6, s7, s8, s9, s10, s11, s12, s13, s14⟩ := k_write y2 z1 z2 ⟨y6, y8, y10⟩ ⟨y11, y12⟩ (fr_row hc hro y1 y3 y4)
  have h00 := y3 0 (by decide)
  rw [Nat.add_zero] at h00
  let ro' : Nat → Nat := fun a => if a < kZ S then ro a else fa v
  have hro' : ∀ a, a < kZ S → ro' a = ro a := fun a ha => if_pos ha
  have rw' : ro' wa' = fa v := by
    rcases s10 with e | e
    · rw [e, hro' _ y8]; exact y4
    · exact if_neg (by omega)
  have rt' : ro' ta' = fa v := by
    rcases s11 with e | e
    · rw [e, hro' _ y10]; exact y5
    · exact if_neg (by omega)
  have wsep : wa' < fa v ∨ fa v + 4 ≤ wa' := by
    rcases s10 with e | e
    · rw [e]; exact y11
    · omega
  have tsep : ta' < fa v ∨ fa v + 4 ≤ ta' := by
    rcases s11 with e | e
    · rw [e]; exact y12
    · omega
  have lt' : kL S' ta' = 560 := by
    obtain ⟨-, -, -, -, -, q⟩ := s2
    rcases q with ⟨q1, q2⟩ | ⟨q1, q2⟩
    · rw [s6] at q1; cases q1
    · exact q2
  have cA : ∀ a, x0 + 133 ≤ a → a < kZ S → ro a ≠ fa v → a < kZ S ∧ a ≠ fa v ∧ a ≠ wa ∧ a ≠ ta := fun a h1 h2 h3 => ⟨h2, fun e => h3 (by rw [e]; exact h00), fun e => h3 (by rw [e]; exact y4), fun e => h3 (by rw [e]; exact y5)⟩
  have hl' : lnI x0 (1000 * k) S' M ra mkO ro' fa := by
    refine lnI_fr (i0 := v) hs hf g1 g2 g3 g4 g5 g6 g7 (fun _ _ _ => rfl) (Nat.le_refl _) (by omega) (cSm_mono s7 (fun a ha => ?_)) s8 hro' ⟨rfl, rfl, rfl⟩ (fun _ _ _ _ _ => rfl) ⟨wa', ta', s2, rw', rt', ?_, s12, ?_, s13, wsep, tsep, fun _ => ⟨s3, s4⟩⟩
    · rcases ha with ha | ha | ⟨h1, h2, h3⟩
      · omega
      · omega
      · exact cA a h1 h2 h3
    · rcases s10 with e | e <;> omega
    · rcases s11 with e | e <;> omega
  refine ⟨S', ro', wa', ta', s1, Ib_fr (Nat.le_refl _) hk hc hh hkd hth htx hro hnu (mEx_refl _ _) (cSm_mono s7 (fun a ha => ?_)) s8 s9 hro' hl', s2, s5, s6, lt', s3, s4, hlen, rw', rt', s12, s13, wsep, tsep, ?_, ?_, y1, s9⟩
  · rcases ha with ha | ha | ⟨h1, h2, h3⟩
    · omega
    · omega
    · exact cA a h1 h2 (by omega)
  · rcases s10 with e | e <;> omega
  · rcases s11 with e | e <;> omega
end V
