-- part 73: reading changes nothing that is kept
def scr (x0 : Nat) : Nat → Prop := fun a => (∃ n, n < 4 ∧ sN x0 n + 21 ≤ a ∧ a < sN x0 n + 26) ∨ (x0 + 13 ≤ a ∧ a ≤ x0 + 16) ∨ (x0 + 19 ≤ a ∧ a ≤ x0 + 21) ∨ (x0 + 126 ≤ a ∧ a < x0 + 133)
section I
variable {S S' : cSt} {M M' : mSt} {ra : Nat → Nat} {sl : Nat → Int32} {mkO : Nat → Option Nat} {L Wt : Nat → List Nat} {ro fa : Nat → Nat} {x0 Bt Bt' k n : Nat} {l : List Nat} {W : Nat → Prop}
theorem scr_no {a : Nat} (h : scr x0 a) : x0 + 13 ≤ a ∧ a < x0 + 133 ∧ a ≠ x0 + 17 ∧ a ≠ x0 + 18 ∧ (x0 + 22 ≤ a → a < x0 + 126 → ∃ n, n < 4 ∧ sN x0 n + 21 ≤ a ∧ a < sN x0 n + 26) := by
  rcases h with ⟨n, h1, h2, h3⟩ | h | h | h
  · refine ⟨?_, ?_, ?_, ?_, fun _ _ => ⟨n, h1, h2, h3⟩⟩ <;> (unfold sN at h2 h3; omega)
  · refine ⟨?_, ?_, ?_, ?_, fun _ _ => ?_⟩ <;> omega
  · refine ⟨?_, ?_, ?_, ?_, fun _ _ => ?_⟩ <;> omega
  · refine ⟨?_, ?_, ?_, ?_, fun _ _ => ?_⟩ <;> omega
theorem scr_nd {a : Nat} (hn : n < 4) (h : scr x0 a) : a < sN x0 n ∨ sN x0 n + 21 ≤ a := by
  rcases h with ⟨n', h1, h2, h3⟩ | h | h | h
  · unfold sN at *; omega
  · unfold sN; omega
  · unfold sN; omega
  · unfold sN; omega
/-- a node where only its view's arrays may have changed -/
theorem nC_eq2 (h : nC S M ra sl x0 n l) (e : cEq W S S') (hW : ∀ a, W a → a < sN x0 n ∨ sN x0 n + 21 ≤ a) (eM : nEq M M' n) : nC S' M' ra sl x0 n l := by
  obtain ⟨⟨h1, h2, h3⟩, ⟨E, h4, h4'⟩, ⟨F, h5, h5'⟩, ⟨h6, h7, h8⟩, h9, h10, h11⟩ := h
  obtain ⟨e0, e1, e2, e3, e4, e5, e6, e7⟩ := eM
  have nw : ∀ k, k < 21 → ¬ W (sN x0 n + k) := fun k hk q => by have := hW _ q; omega
  have c0 := e.2.2.2.2 (sN x0 n) (nw 0 (by decide))
  have c5 := e.2.2.2.2 (sN x0 n + 5) (nw 5 (by decide))
  have c6 := e.2.2.2.2 (sN x0 n + 6) (nw 6 (by decide))
  have c7 := e.2.2.2.2 (sN x0 n + 7) (nw 7 (by decide))
  have c11 := e.2.2.2.2 (sN x0 n + 11) (nw 11 (by decide))
  refine ⟨⟨cNy_eq' h1 e (nw 0 (by decide)), cNv_r e0 ⟨cLed_eq h2.1 e (fun a ha => by have := hW a ha; omega), cVw_eq h2.2.1 e (nw 20 (by decide)) (nw 15 (by decide)), vwA_eq h2.2.2 e (nw 20 (by decide))⟩, fun q hq => ?_⟩, ⟨E, cLg_eq h4 e (nw 1 (by decide)) (nw 2 (by decide)), ?_⟩, ⟨F, cLg_eq h5 e (nw 3 (by decide)) (nw 4 (by decide)), ?_⟩, ⟨?_, ?_, ?_⟩, fun m q hm hq => ?_, fun k hk => ?_, fun k hk => ?_⟩
  · obtain ⟨-, x1, x2, x3, x4, x5⟩ := e2 q hq
    rw [x1, x2, x3, x4, x5, e0 6 (by decide) (by decide), c11.2.2.1]; exact h3 q hq
  · refine ⟨h4'.1, by rw [e6.1]; exact h4'.2.1, fun i hi => ?_⟩
    obtain ⟨y1, y2, y3⟩ := e6.2 i (by have := h4'.1; omega)
    rw [y1, y2, y3]; exact h4'.2.2 i hi
  · refine ⟨h5'.1, by rw [e7.1]; exact h5'.2.1, fun i hi => ?_⟩
    obtain ⟨y1, y2, y3, y4⟩ := e7.2 i (by have := h5'.1; omega)
    rw [y1, y2, y3, y4]; exact h5'.2.2 i hi
  · rw [c0.1, e1 17 (by omega)]; exact h6
  · rw [c0.1, e1 18 (by omega)]; exact h7
  · rw [c0.1, e1 19 (by omega)]; exact h8
  · rw [c5.2.2.1, h9 m q hm hq]
    unfold snV
    by_cases hmn : m = n
    · rw [if_pos hmn, if_pos hmn, (e2 q hq).1]
    · rw [if_neg hmn, if_neg hmn, Nat.add_assoc, (e3 (4 * m + q) (by omega)).1]
  · rw [c6.2.2.1, h10 k hk, (e3 k hk).2.1]
  · rw [c7.2.2.1, h11 k hk, (e3 k hk).2.2]
/-- the reference's fields 1 to 46 are as they were -/
def mCo (M M' : mSt) : Prop := ∀ k, 1 ≤ k → k < 47 → M'.1 k = M.1 k ∧ M'.2 k = M.2 k
theorem mCo_of (e : mEx (fun j => j = 0 ∨ 47 ≤ j) M M') : mCo M M' := fun k h1 h2 => e k (by omega)
theorem mCo_r (e : mCo M M') : rEq M M' := fun k h1 h2 => (e k (by omega) (by omega)).2
theorem mCo_n (e : mCo M M') (n : Nat) : nEq M M' n := by
  have f : ∀ k, 1 ≤ k → k < 47 → M'.2 k = M.2 k := fun k h1 h2 => (e k h1 h2).2
  refine ⟨mCo_r e, ?_, fun q _ => ⟨?_, ?_, ?_, ?_, ?_, ?_⟩, fun k _ => ⟨?_, ?_, ?_⟩, fun i _ => ?_, fun i _ => ?_, ⟨?_, fun k _ => ⟨?_, ?_, ?_⟩⟩, ⟨?_, fun k _ => ⟨?_, ?_, ?_, ?_⟩⟩⟩
  · rintro k (h | h | h | h | h) <;> rw [f k (by omega) (by omega)]
  all_goals rw [f _ (by decide) (by decide)]
theorem tBd_mono (h : tBd M Bt) (hle : Bt ≤ Bt') : tBd M Bt' := by
  refine ⟨fun n hn => ?_, fun r hr => ?_⟩
  · obtain ⟨⟨W, h1, h2⟩, T, C, h3, h4, h5, h6⟩ := h.1 n hn
    exact ⟨⟨W, by omega, h2⟩, T, C, h3, h4, by omega, h6⟩
  · obtain ⟨t, c, h1, h2, h3, h4⟩ := h.2 r hr
    exact ⟨t, c, h1, h2, by omega, h4⟩
theorem tBd_r (h : tBd M Bt) (e : mCo M M') : tBd M' Bt := by
  have r := mCo_r e
  unfold tBd
  rw [(e 17 (by decide) (by decide)).2, (e 18 (by decide) (by decide)).2, (e 19 (by decide) (by decide)).2, tot_r r, mde_r r, r 14 (by decide) (by decide), r 15 (by decide) (by decide)]
  exact h
theorem core_sc (h : core x0 Bt S M ra sl mkO L Wt) (e : mCo M M') (eS : cEq (scr x0) S S') (hle : Bt ≤ Bt') (hB' : Bt' < 1000000) : core x0 Bt' S' M' ra sl mkO L Wt := by
  obtain ⟨⟨hA, hsl, htb, -⟩, ⟨hB, hBa⟩, hN, hz, hra⟩ := h
  have r := mCo_r e
  refine ⟨⟨rA_r r hA, ?_, tBd_r (tBd_mono htb hle) e, hB'⟩, ⟨cBk_r r (cBk_eq hB eS (fun a ha => by have := scr_no ha; omega)), fun n hn => ?_⟩, fun n hn => ?_, by rw [eS.2.2.1]; exact hz, fun q hq => ?_⟩
  · unfold slI; rw [r 8 (by decide) (by decide)]; exact hsl
  · rw [(eS.2.2.2.2 (x0 + 8) (fun q => by have := scr_no q; omega)).2.2.1, (eS.2.2.2.2 (x0 + 9) (fun q => by have := scr_no q; omega)).2.2.1, r 7 (by decide) (by decide), r 8 (by decide) (by decide)]
    exact hBa n hn
  · obtain ⟨⟨h1, h2⟩, ⟨h3, h4, h5⟩, h6⟩ := hN n hn
    have hs : ∀ a, scr x0 a → a < sN x0 n ∨ sN x0 n + 21 ≤ a := fun a ha => scr_nd hn ha
    refine ⟨⟨nM_eq h1 (mCo_n e n), nC_eq2 h2 eS hs (mCo_n e n)⟩, ⟨mWt_n h3 (mCo_n e n), nW_eq h4 eS (fun q => by have := hs _ q; omega) (fun q => by have := hs _ q; omega), wOk_r h5 r⟩, ?_⟩
    rw [mde_r r]; exact h6
  · rw [mde_r r] at hq; rw [eS.2.2.1]; exact hra q hq
theorem frL_r (e : rEq M M') : frL M' = frL M := by
  have h : rowL M' = rowL M := by
    funext r; unfold rowL
    rw [e 9 (by decide) (by decide), e 10 (by decide) (by decide), e 11 (by decide) (by decide), e 12 (by decide) (by decide), e 13 (by decide) (by decide), e 14 (by decide) (by decide), e 15 (by decide) (by decide), e 16 (by decide) (by decide)]
  have h2 : bodL M' = bodL M := by funext g; unfold bodL; rw [h]
  funext g; unfold frL; rw [h2]
theorem cuI_r (e : rEq M M') (hle : Bt ≤ Bt') {a b c d : Int32} (h : cuI M mkO Bt a b c d) : cuI M' mkO Bt' a b c d := by
  obtain ⟨⟨x, x1, x2⟩, h2⟩ := h
  refine ⟨⟨x, by omega, x2⟩, fun ha => ?_⟩
  obtain ⟨j, m, kd, p, y1, y2, y3, y4⟩ := h2 ha
  refine ⟨j, m, kd, p, ?_, y2, y3, ?_⟩
  · unfold ptO; rw [e 12 (by decide) (by decide), e 6 (by decide) (by decide)]; exact y1
  · rcases y4 with y4 | ⟨t, t1, t2, t3⟩
    · exact Or.inl y4
    · refine Or.inr ⟨t, by rw [mde_r e]; exact t1, ?_, t3⟩
      show M'.2 9 t = 9 ∧ M'.2 10 t = b ∧ M'.2 11 t = c
      rw [e 9 (by decide) (by decide), e 10 (by decide) (by decide), e 11 (by decide) (by decide)]; exact t2
theorem lnI_sc (h : lnI x0 Bt S M ra mkO ro fa) (e : mCo M M') (eS : cEq (scr x0) S S') (hle : Bt ≤ Bt') : lnI x0 Bt' S' M' ra mkO ro fa := by
  obtain ⟨⟨h1, h2, h3, h4⟩, ⟨h5, h6, h7⟩, nf, w, g1, g2, g3, g4, g5, g6, g7⟩ := h
  have r := mCo_r e
  have c11 := eS.2.2.2.2 (x0 + 11) (fun q => by have := scr_no q; omega)
  have c12 := eS.2.2.2.2 (x0 + 12) (fun q => by have := scr_no q; omega)
  refine ⟨⟨by rw [eS.1]; exact h1, by rw [c11.2.1]; exact h2, by rw [eS.1]; exact h3, by rw [eS.2.1]; exact h4⟩, ⟨by rw [c11.1, (e 42 (by decide) (by decide)).1]; exact h5, by rw [c11.1, (e 43 (by decide) (by decide)).1]; exact h6, by rw [c11.1, (e 44 (by decide) (by decide)).1]; exact h7⟩, nf, w, g1, g2, by rw [(e 42 (by decide) (by decide)).1]; exact g3, by rw [c12.2.2.2]; exact g4, by rw [c12.2.2.2]; exact g5, g6, fun i hi => ?_⟩
  obtain ⟨y1, wa, ta, y2, y3, y4, y5, y6, y7, y8, y9, y10, y11, y12, y13⟩ := g7 i hi
  have hg : gF M' i = gF M i := by funext c; unfold gF; rw [(e 46 (by decide) (by decide)).2]
  have out : ∀ a, x0 + 133 ≤ a → ¬ scr x0 a := fun a ha q => by have := scr_no q; omega
  have d0 := eS.2.2.2.2 (fa i) (out _ y1)
  have d1 := eS.2.2.2.2 (fa i + 1) (out _ (by omega))
  have d2 := eS.2.2.2.2 (fa i + 2) (out _ (by omega))
  have d3 := eS.2.2.2.2 (fa i + 3) (out _ (by omega))
  have dw := eS.2.2.2.2 wa (out _ y7)
  have dt := eS.2.2.2.2 ta (out _ y9)
  refine ⟨y1, wa, ta, ?_, y3, y4, y5, by rw [eS.2.2.1]; exact y6, y7, by rw [eS.2.2.1]; exact y8, y9, by rw [eS.2.2.1]; exact y10, y11, y12, fun hw => ?_⟩
  · unfold fLy; simp only [eS.1, eS.2.1, d0.2.1]; exact y2
  · obtain ⟨z1, z2⟩ := y13 hw
    rw [hg]
    constructor
    · obtain ⟨a1, a2, a3, a4, a5, a6, c, c1, c2, c3⟩ := z1
      refine ⟨by rw [d0.1]; exact a1, a2, a3, fun q hq => ?_, by rw [d2.2.2.1]; exact a5, fun m hm => cuI_r r hle (a6 m hm), c, c1, c2, fun i' hi' => ?_⟩
      · rw [d1.2.2.1, mdN_r r]; exact a4 q hq
      · rw [mde_r r, d3.2.2.2]; exact c3 i' hi'
    · unfold fBy
      rw [frL_r r, d0.1, dw.2.2.1, dt.2.2.1, eS.2.1]
      exact z2
theorem Inv_sc {k' : Nat} (h : Inv x0 k S M) (hkk : k ≤ k') (hk : k' < 900) (eM : mEx (fun j => j = 0 ∨ 47 ≤ j) M M') (eS : cEq (scr x0) S S') (hR : kR S' (x0 + 13) = kR S (x0 + 13)) (hR2 : ∀ j, j ≠ 7 → kR S' (x0 + 126) j = kR S (x0 + 126) j) : Inv x0 k' S' M' := by
  obtain ⟨ra, sl, mkO, L, Wt, ro, fa, hc, hh, hk1, ht, hx, hr, hl, hn⟩ := h
  have e := mCo_of eM
  have r := mCo_r e
  have lo : ∀ a, a < x0 + 13 → ¬ scr x0 a := fun a ha q => by have := scr_no q; omega
  refine ⟨ra, sl, mkO, L, Wt, ro, fa, core_sc hc e eS (by omega) (by omega), ?_, ?_, ?_, ?_, ?_, lnI_sc hl e eS (by omega), ?_⟩
  · obtain ⟨h1, ⟨h2, h3⟩, ⟨h4, h5, h6⟩, h7, b0, b1, ⟨t0, t1, t2, t3⟩, s0, s1⟩ := hh
    have c0 := eS.2.2.2.2 x0 (lo _ (by omega))
    have c10 := eS.2.2.2.2 (x0 + 10) (lo _ (by omega))
    have p0 := eS.2.2.2.2 (kT S 0) (lo _ (by omega))
    have p1 := eS.2.2.2.2 (kT S 1) (lo _ (by omega))
    have q0 := eS.2.2.2.2 b0 (lo _ (by omega))
    have q1 := eS.2.2.2.2 b1 (lo _ (by omega))
    refine ⟨by rw [eS.1, c0.2.1]; exact h1, ⟨by rw [c0.1, (e 45 (by decide) (by decide)).1]; exact h2, by rw [(e 45 (by decide) (by decide)).1]; exact h3⟩, ⟨by rw [eS.1]; exact h4, by rw [eS.2.1]; exact h5, by rw [c10.2.2.2]; exact h6⟩, by rw [eS.1, eS.1, eS.2.1, eS.1, eS.2.1]; exact h7, b0, b1, by rw [eS.2.2.2.1, eS.2.2.2.1]; exact ⟨t0, t1, t2, t3⟩, ?_, ?_⟩
    · unfold pStr; rw [eS.2.2.2.1, eS.1, eS.1, eS.2.1, p0.2.1, p0.1, q0.2.2.1]; exact s0
    · unfold pStr; rw [eS.2.2.2.1, eS.1, eS.1, eS.2.1, p1.2.1, p1.1, q1.2.2.1]; exact s1
  · obtain ⟨h1, h2, h3, h4, h5, tp, kn, h6, h7, h8, h9, h10, h11⟩ := hk1
    have c1 := eS.2.2.2.2 (x0 + 1) (lo _ (by omega))
    have c2 := eS.2.2.2.2 (x0 + 2) (lo _ (by omega))
    have c3 := eS.2.2.2.2 (x0 + 3) (lo _ (by omega))
    have c4 := eS.2.2.2.2 (x0 + 4) (lo _ (by omega))
    refine ⟨by rw [eS.1, c1.2.1, eS.1, eS.2.1, eS.1, eS.2.1, eS.1, eS.2.1]; exact h1, by rw [c1.1, (e 1 (by decide) (by decide)).1, (e 4 (by decide) (by decide)).1, (e 3 (by decide) (by decide)).1]; exact h2, by rw [c2.2.2.1, (e 2 (by decide) (by decide)).2]; exact h3, by rw [c3.2.2.1, r 6 (by decide) (by decide)]; exact h4, by rw [c4.2.2.1, r 5 (by decide) (by decide)]; exact h5, tp, kn, h6, h7, by rw [(e 1 (by decide) (by decide)).1]; exact h8, by rw [(e 4 (by decide) (by decide)).1]; exact h9, by rw [r 5 (by decide) (by decide), r 6 (by decide) (by decide)]; exact h10, by rw [mde_r r, r 9 (by decide) (by decide), r 12 (by decide) (by decide)]; exact h11⟩
  · obtain ⟨⟨h1, h2, h3⟩, h4, h5⟩ := ht
    refine ⟨⟨by rw [eS.1]; exact h1, by rw [hR2 1 (by decide)]; exact h2, by rw [hR2 2 (by decide)]; exact h3⟩, by rw [eS.1, eS.2.1]; exact h4, ?_⟩
    unfold vwA
    rw [hR2 0 (by decide), hR2 3 (by decide), hR2 4 (by decide), hR2 5 (by decide), hR2 6 (by decide)]
    simp only [eS.1, eS.2.1]
    exact h5
  · obtain ⟨h1, tb, h2, h3, h4, h5, h6⟩ := hx
    refine ⟨?_, tb, by rw [hR]; exact h2, by rw [eS.1]; exact h3, by rw [eS.2.1]; exact h4, by rw [eS.2.2.1]; exact h5, h6⟩
    unfold txA
    simp only [hR, eS.1, eS.2.1]
    exact h1
  · unfold roI; rw [mde_r r]; exact hr
  · intro n hn'
    obtain ⟨h1, h2⟩ := hn n hn'
    rw [(e 21 (by decide) (by decide)).2, (e 22 (by decide) (by decide)).2, (e 31 (by decide) (by decide)).2, mdN_r r]
    exact ⟨h1, fun m hm => cuI_r r (by omega) (h2 m hm)⟩
end I
