-- part 99: lose
section V
variable {S S' : cSt} {M M' A : mSt} {ra : Nat → Nat} {sl : Nat → Int32} {mkO : Nat → Option Nat} {x0 n k : Nat} {l : List Nat} {L Wt : Nat → List Nat} {Bt Bt' : Nat} {ro fa : Nat → Nat} {W : Nat → Prop}
theorem m_remove {w v : Nat} (hw : w ≤ 60) (hv : v < w) (h42 : M.1 42 = Int32.ofNat w) : ∃ M', fm_remove M (Int32.ofNat v) = some M' ∧ M'.1 42 = Int32.ofNat (w - 1) ∧ mEx (fun k => k = 42 ∨ k = 46 ∨ k = 76) M M' ∧ ∀ i c, i + 1 < w → c < 640 → M'.2 46 (640 * i + c) = M.2 46 (640 * rmv v w i + c) := by
  unfold fm_remove
  have second : ∀ (j i fu : Nat) (C : mSt), i + j = 640 * (w - 1) → 640 * v ≤ i → j < fu → mEx (fun k => k = 46 ∨ k = 76) M C → (∀ q, q < i → C.2 46 q = if q < 640 * v then M.2 46 q else M.2 46 (q + 640)) → (∀ q, i ≤ q → C.2 46 q = M.2 46 q) → ∃ D, fm_remove_39 fu C (Int32.ofNat i) = some D ∧ D.1 42 = Int32.ofNat (w - 1) ∧ mEx (fun k => k = 42 ∨ k = 46 ∨ k = 76) M D ∧ ∀ q, q < 640 * (w - 1) → D.2 46 q = if q < 640 * v then M.2 46 q else M.2 46 (q + 640) := by
    intro j
    induction j with
    | zero =>
      intro i fu C hi hvi hfu eC h1 h2
      obtain ⟨fu, rfl⟩ : ∃ q, fu = q + 1 := ⟨fu - 1, by omega⟩
      have c42 : C.1 42 = Int32.ofNat w := by rw [(eC 42 (by decide)).1]; exact h42
      have e : (640 : Int32) * (C.1 42 - 1) = Int32.ofNat (640 * (w - 1)) := by rw [c42, show (1 : Int32) = Int32.ofNat 1 from rfl, jI_sub (by omega), show (640 : Int32) = Int32.ofNat 640 from rfl, jI_mul]
      refine ⟨pu C 42 (Int32.ofNat (w - 1)), ?_, pu_s _ _ _, mEx_trans (mEx_mono eC (fun k hk => by omega)) (mEx_pu (Or.inl rfl) _), fun q hq => h1 q (by omega)⟩
      rw [fm_remove_39, e, if_pos ((jI_le (by omega) (by omega)).mpr (by omega)), lt_d, c42, show (1 : Int32) = Int32.ofNat 1 from rfl, jI_sub (by omega)]
    | succ j ih =>
      intro i fu C hi hvi hfu eC h1 h2
      obtain ⟨fu, rfl⟩ : ∃ q, fu = q + 1 := ⟨fu - 1, by omega⟩
      have c42 : C.1 42 = Int32.ofNat w := by rw [(eC 42 (by decide)).1]; exact h42
      have e : (640 : Int32) * (C.1 42 - 1) = Int32.ofNat (640 * (w - 1)) := by rw [c42, show (1 : Int32) = Int32.ofNat 1 from rfl, jI_sub (by omega), show (640 : Int32) = Int32.ofNat 640 from rfl, jI_mul]
      have e2 : Int32.ofNat i + 640 = Int32.ofNat (i + 640) := jI_add i 640
      have e3 : Int32.ofNat i + 1 = Int32.ofNat (i + 1) := jI_add i 1
      rw [fm_remove_39, e, if_neg (fun q => absurd ((jI_le (by omega) (by omega)).mp q) (by omega)), e2, ck_n (by omega) (by omega), ck_n (by omega) (by omega), lt_d, rd_n _ _ (by omega), lt_d, e3]
      have c46 := wr_s C 46 (i := i) (by omega) (C.2 46 (i + 640))
      refine ih (i + 1) fu _ (by omega) (by omega) (by omega) (mEx_trans eC (mEx_wr (Or.inl rfl) _ _)) (fun q hq => ?_) (fun q hq => ?_)
      · rw [c46]
        by_cases c : q = i
        · subst c; rw [upd_s, if_neg (by omega), h2 (q + 640) (by omega)]
        · rw [upd_o _ _ c]; exact h1 q (by omega)
      · rw [c46, upd_o _ _ (by omega)]; exact h2 q (by omega)
  have first : ∀ (j i fu : Nat) (C : mSt), i + j = 640 → j < fu → mEx (fun k => k = 76) M C → ∃ D, fm_remove_2 fu C (Int32.ofNat v) (Int32.ofNat i) = fm_remove_39 mFU D (Int32.ofNat (640 * v)) ∧ mEx (fun k => k = 76) M D := by
    intro j
    induction j with
    | zero =>
      intro i fu C hi hfu eC
      obtain ⟨fu, rfl⟩ : ∃ q, fu = q + 1 := ⟨fu - 1, by omega⟩
      have e : i = 640 := by omega
      subst e
      refine ⟨C, ?_, eC⟩
      rw [fm_remove_2, if_pos (show (640 : Int32) ≤ Int32.ofNat 640 by decide), lt_d, show (640 : Int32) * Int32.ofNat v = Int32.ofNat (640 * v) from jI_mul 640 v]
    | succ j ih =>
      intro i fu C hi hfu eC
      obtain ⟨fu, rfl⟩ : ∃ q, fu = q + 1 := ⟨fu - 1, by omega⟩
      rw [fm_remove_2, if_neg (jK 640 640 rfl (by omega) (by decide)), show (640 : Int32) * Int32.ofNat v = Int32.ofNat (640 * v) from jI_mul 640 v, jI_add, ck_n (by omega) (by omega), ck_n (by omega) (by omega), lt_d, lt_d, show Int32.ofNat i + 1 = Int32.ofNat (i + 1) from jI_add i 1]
      exact ih (i + 1) fu _ (by omega) (by omega) (mEx_trans eC (mEx_wr1 _ _))
  obtain ⟨D, d1, d2⟩ := first 640 0 mFU M rfl (by decide) (mEx_refl _ _)
  have d46 : D.2 46 = M.2 46 := (d2 46 (by decide)).2
  obtain ⟨E, e1, e2, e3, e4⟩ := second (640 * (w - 1) - 640 * v) (640 * v) mFU D (by omega) (Nat.le_refl _) (Nat.lt_of_lt_of_le (show 640 * (w - 1) - 640 * v < 40000 by omega) (by decide)) (mEx_mono d2 (fun k hk => Or.inr hk)) (fun q hq => by rw [d46, if_pos hq]) (fun q _ => by rw [d46])
  refine ⟨E, d1.trans e1, e2, e3, fun i c hi hc => ?_⟩
  rw [e4 (640 * i + c) (by omega)]
  unfold rmv
  by_cases q : i < v
  · rw [if_pos (by omega), if_pos q]
  · rw [if_neg (by omega), if_neg q, if_pos hi, show 640 * i + c + 640 = 640 * (i + 1) + c by omega]
/-- a frame only looks at its own 640 numbers -/
theorem fCo_c {f : Nat} {g g' : Nat → Int32} (hg : ∀ c, c < 640 → g' c = g c) (h : fCo S M ra mkO Bt f g) : fCo S M ra mkO Bt f g' := by
  obtain ⟨a1, a2, a3, a4, a5, a6, c, c1, c2, c3⟩ := h
  refine ⟨by rw [hg 0 (by decide), hg 1 (by decide), hg 2 (by decide), hg 3 (by decide)]; exact a1, by rw [hg 0 (by decide), hg 1 (by decide)]; exact a2, by rw [hg 2 (by decide)]; exact a3, fun q hq => by rw [hg _ (by omega)]; exact a4 q hq, fun c hc => by rw [hg _ (by omega)]; exact a5 c hc, fun m hm => by rw [hg _ (by omega), hg _ (by omega), hg _ (by omega), hg _ (by omega)]; exact a6 m hm, c, c1, by rw [hg 3 (by decide)]; exact c2, fun i hi => ?_⟩
  rw [hg _ (by omega)]; exact c3 i hi
theorem frL_c {g g' : Nat → Int32} (hg : ∀ c, c < 640 → g' c = g c) {c : Nat} (hc : c ≤ 8) (h3 : g 3 = Int32.ofNat c) : frL M g' = frL M g := by
  have h : bodL M g' = bodL M g := by
    unfold bodL
    rw [hg 0 (by decide), hg 1 (by decide), hg 2 (by decide), hg 3 (by decide)]
    have e1 : (List.range 4).flatMap (fun q => numL (g' (4 + q))) = (List.range 4).flatMap (fun q => numL (g (4 + q))) := flatMap_cg (fun x hx => by rw [List.mem_range] at hx; rw [hg _ (by omega)])
    have e2 : (List.range 4).flatMap (fun m => numL (g' (16 + 4 * m)) ++ if g' (16 + 4 * m) = 0 then [] else numL (g' (17 + 4 * m)) ++ numL (g' (18 + 4 * m)) ++ numL (g' (19 + 4 * m))) = (List.range 4).flatMap (fun m => numL (g (16 + 4 * m)) ++ if g (16 + 4 * m) = 0 then [] else numL (g (17 + 4 * m)) ++ numL (g (18 + 4 * m)) ++ numL (g (19 + 4 * m))) := flatMap_cg (fun x hx => by rw [List.mem_range] at hx; rw [hg _ (by omega), hg _ (by omega), hg _ (by omega), hg _ (by omega)])
    have e3 : (List.range (g 3).toNatClampNeg).flatMap (fun i => rowL M (g' (8 + i)).toNatClampNeg) = (List.range (g 3).toNatClampNeg).flatMap (fun i => rowL M (g (8 + i)).toNatClampNeg) := flatMap_cg (fun x hx => by rw [h3, jI_cl (by omega), List.mem_range] at hx; rw [hg _ (by omega)])
    rw [e1, e2, e3]
  unfold frL
  rw [h]
theorem fBy_c {f wa ta : Nat} {g g' : Nat → Int32} (hg : ∀ c, c < 640 → g' c = g c) {c : Nat} (hc : c ≤ 8) (h3 : g 3 = Int32.ofNat c) (h : fBy S M f wa ta g) : fBy S M f wa ta g' := by
  have hl := frL_len M g hc h3
  unfold fBy at h ⊢
  rw [frL_c hg hc h3]
  obtain ⟨h1, h2, h4, h5⟩ := h
  refine ⟨fun i h6 h7 => by rw [hg i h7]; exact h1 i h6 h7, fun i hi => by rw [hg _ (by omega)]; exact h2 i hi, ?_, ?_⟩
  · have e : (List.range (frL M g).length).filter (fun i => decide (g' (32 + i) ≠ 0)) = (List.range (frL M g).length).filter (fun i => decide (g (32 + i) ≠ 0)) := by
      refine List.filter_congr (fun i hi => ?_)
      rw [List.mem_range] at hi
      rw [hg _ (by omega)]
    rw [e]; exact h4
  · rcases h5 with ⟨q1, q2⟩ | ⟨q1, q2, q3, q4⟩
    · exact Or.inl ⟨q1, fun i hi => by rw [hg _ (by omega)]; exact q2 i hi⟩
    · exact Or.inr ⟨q1, q2, q3, fun i hi => by rw [hg _ (by omega)]; exact q4 i hi⟩
theorem cuI_rr (r : rEq M M') (hle : Bt ≤ Bt') {a b c d : Int32} (h : cuI M mkO Bt a b c d) : cuI M' mkO Bt' a b c d := cuI_r r hle h
theorem fCo_r {f : Nat} {g : Nat → Int32} (r : rEq M M') (hle : Bt ≤ Bt') (e0 : kF S' f = kF S f) (e1 : kI S' (f + 1) = kI S (f + 1)) (e2 : kI S' (f + 2) = kI S (f + 2)) (e3 : kO S' (f + 3) = kO S (f + 3)) (h : fCo S M ra mkO Bt f g) : fCo S' M' ra mkO Bt' f g := by
  obtain ⟨a1, a2, a3, a4, a5, a6, c, c1, c2, c3⟩ := h
  refine ⟨by rw [e0]; exact a1, a2, a3, fun q hq => ?_, by rw [e2]; exact a5, fun m hm => cuI_r r hle (a6 m hm), c, c1, c2, fun i hi => ?_⟩
  · rw [e1, mdN_r r]; exact a4 q hq
  · rw [mde_r r, e3]; exact c3 i hi
/-- a frame taken out of the line -/
theorem lnI_rm {w v nf : Nat} (hs : (kK S (x0 + 11) = 6 ∧ kR S (x0 + 11) 3 = some (x0 + 12) ∧ kK S (x0 + 12) = 32 ∧ kL S (x0 + 12) = 60)) (g1 : w ≤ nf) (g2 : nf ≤ 60) (hv : v < w) (g5 : ∀ i, nf ≤ i → i < 60 → kO S (x0 + 12) i = none) (g4 : ∀ i, i < nf → kO S (x0 + 12) i = some (fa i)) (g6 : ∀ i i', i < nf → i' < nf → fa i = fa i' → i = i')
    (g7 : ∀ i, i < nf → x0 + 133 ≤ fa i ∧ ∃ wa ta, fLy S (fa i) wa ta ∧ (∀ c, c < 4 → ro (fa i + c) = fa i) ∧ ro wa = fa i ∧ ro ta = fa i ∧ fa i + 4 ≤ kZ S ∧ x0 + 133 ≤ wa ∧ wa < kZ S ∧ x0 + 133 ≤ ta ∧ ta < kZ S ∧ (wa < fa i ∨ fa i + 4 ≤ wa) ∧ (ta < fa i ∨ fa i + 4 ≤ ta) ∧ (i < w → fCo S M ra mkO Bt (fa i) (gF M i) ∧ fBy S M (fa i) wa ta (gF M i)))
    (r : rEq M M') (hle : Bt ≤ Bt') (eS : cEq (fun a => a = x0 + 11 ∨ a = x0 + 12) S S') (hR : kR S' (x0 + 11) = kR S (x0 + 11)) (h42 : M'.1 42 = Int32.ofNat (w - 1)) (f0 : kF S' (x0 + 11) 0 = M'.1 42 ∧ kF S' (x0 + 11) 1 = M'.1 43 ∧ kF S' (x0 + 11) 2 = M'.1 44) (hO : ∀ q, q < w → kO S' (x0 + 12) q = some (fa (rmv v w q))) (hO2 : ∀ q, w ≤ q → kO S' (x0 + 12) q = kO S (x0 + 12) q) (h46 : ∀ i c, i + 1 < w → c < 640 → M'.2 46 (640 * i + c) = M.2 46 (640 * rmv v w i + c)) : lnI x0 Bt' S' M' ra mkO ro (fun i => fa (rmv v w i)) := by
  refine ⟨⟨by rw [eS.1]; exact hs.1, by rw [hR]; exact hs.2.1, by rw [eS.1]; exact hs.2.2.1, by rw [eS.2.1]; exact hs.2.2.2⟩, f0, nf, w - 1, by omega, g2, h42, fun i hi => ?_, fun i h1 h2 => ?_, fun i i' hi hi' h => ?_, fun i hi => ?_⟩
  · by_cases c : i < w
    · exact hO i c
    · rw [hO2 i (by omega), g4 i hi]
      show some (fa i) = some (fa (rmv v w i))
      unfold rmv; rw [if_neg (by omega), if_neg (by omega), if_neg (by omega)]
  · rw [hO2 i (by omega)]; exact g5 i h1 h2
  · exact rmv_inj hv (g6 _ _ (rmv_lt hv g1 hi) (rmv_lt hv g1 hi') h)
  · have hσ := rmv_lt hv g1 hi
    obtain ⟨y1, wa, ta, y2, y3, y4, y5, y6, y7, y8, y9, y10, y11, y12, y13⟩ := g7 (rmv v w i) hσ
    have out : ∀ a, x0 + 133 ≤ a → ¬ (a = x0 + 11 ∨ a = x0 + 12) := fun a ha q => by omega
    have d0 := eS.2.2.2.2 (fa (rmv v w i)) (out _ y1)
    have d1 := eS.2.2.2.2 (fa (rmv v w i) + 1) (out _ (by omega))
    have d2 := eS.2.2.2.2 (fa (rmv v w i) + 2) (out _ (by omega))
    have d3 := eS.2.2.2.2 (fa (rmv v w i) + 3) (out _ (by omega))
    have dw := eS.2.2.2.2 wa (out _ y7)
    have dt := eS.2.2.2.2 ta (out _ y9)
    refine ⟨y1, wa, ta, ?_, y3, y4, y5, by rw [eS.2.2.1]; exact y6, y7, by rw [eS.2.2.1]; exact y8, y9, by rw [eS.2.2.1]; exact y10, y11, y12, fun hw => ?_⟩
    · unfold fLy; simp only [eS.1, eS.2.1, d0.2.1]; exact y2
    · obtain ⟨z1, z2⟩ := y13 (by unfold rmv; split <;> (try split) <;> omega)
      have hg : ∀ c, c < 640 → gF M' i c = gF M (rmv v w i) c := fun c hc => h46 i c (by omega) hc
      have z1' := fCo_c hg z1
      obtain ⟨-, -, -, -, -, -, c, c1, c2, c3⟩ := z1
      have z2' := fBy_c hg c1 c2 z2
      refine ⟨fCo_r r hle d0.1 d1.2.2.1 d2.2.2.1 d3.2.2.2 z1', ?_⟩
      unfold fBy at z2' ⊢
      rw [frL_r r, d0.1, dw.2.2.1, dt.2.2.1, eS.2.1]
      exact z2'
/-- the line changes, no row -/
theorem Inv_ln {k' : Nat} {fa' : Nat → Nat} (hkk : k ≤ k') (hk : k' < 900) (hc : core x0 (1000 * k) S M ra sl mkO L Wt) (hh : hsI x0 S M) (hkd : kdI x0 S M) (ht : thI x0 S) (hx : txI x0 S ro) (hr : roI x0 S M ra ro) (hn : nuI M mkO (1000 * k)) (e : mEx (fun j => j = 0 ∨ (42 ≤ j ∧ j ≠ 45)) M M') (eS : cEq (fun a => a = x0 + 11 ∨ a = x0 + 12) S S') (hl : lnI x0 (1000 * k') S' M' ra mkO ro fa') : Inv x0 k' S' M' := by
  have r : rEq M M' := fun k h1 h2 => (e k (by omega)).2
  have eM : lvM M M' := ⟨trivial, fun q hq => by rw [mde_r r]; exact hq, fun q _ => by rw [mdN_r r]; exact Nat.le_refl _, (rOn_of r _).1, fun i _ => by rw [r 6 (by decide) (by decide)]⟩
  have eC : lvC x0 S S' := by
    refine ⟨cSm_eq eS (fun a ha q => ?_), fun a _ => ⟨eS.1 a, eS.2.1 a⟩, (eS.2.2.2.2 _ (by omega)).2.1, fun j _ => ?_, eS.2.2.2.1, by rw [eS.2.2.1]; exact Nat.le_refl _⟩
    · unfold kp at ha; have := hc.2.2.2.1; omega
    · rw [(eS.2.2.2.2 (x0 + 126) (by omega)).2.1]
  have hm : ∀ j m, mkO j = some m → mde M m := fun j m hj => (hc.1.1.2.1.1 j m hj).2.1
  have eR : lvR M ra ra mkO mkO := ⟨fun _ _ => rfl, fun _ _ h => h, hm⟩
  refine ⟨ra, sl, mkO, L, Wt, ro, fa', core_o hc (fun k h1 h2 => (e k (by omega)).2) eS (fun a ha => by omega) (by omega) (by omega), hsI_g hh eC (e 45 (by decide)).1, kdI_g hkd eM (fun k hk => e k (by omega)) (cSm_eq eS (fun a ha q => by omega)) (fun m _ h1 h2 => absurd (by rw [mde_r r] at h1; exact h1) h2), thI_g ht eC, txI_g hx eC (fun _ _ => rfl), ?_, hl, nuI_g hn eM eR (by omega) (e 21 (by decide)).2 (e 22 (by decide)).2 (e 31 (by decide)).2⟩
  unfold roI; rw [mde_r r]; exact hr
theorem c_lose (hk : k + 1 < 900) : lC_lose x0 (Inv x0 k) (Inv x0 (k + 1)) := by
  intro S M v1 h
  have h0 := Inv_0 h (by omega)
  unfold fk_11_lose fm_lose
  rw [lt_d, m_wb]
  generalize pu M 0 0 = A at h0 ⊢
  have h1 := Inv_1 h0 hk
  obtain ⟨ra, sl, mkO, L, Wt, ro, fa, hc, hh, hkd, hth, htx, hro, hl, hnu⟩ := h0
  rw [ckk_y hh.1.1, hh.1.2.2.2.2.1, bd_s, ckk_y hl.1.1]
  by_cases hv : 0 ≤ v1 ∧ v1 ≤ A.1 42 - 1
  · obtain ⟨v, v60, rfl, i2, -⟩ := k_lAtY hl hv
    rw [b2_t hv, if_neg n10, i2, bd_s]
    show ∃ r S1 M1, ckk S x0 12 _ = _ ∧ _
    obtain ⟨hs, ⟨f0, f1, f2⟩, nf, w, g1, g2, g3, g4, g5, g6, g7⟩ := hl
    have hvw : v < w := by
      rw [g3] at hv
      obtain ⟨i, hi, e⟩ := (wiE (by omega)).mp hv
      have := (jI_inj (by omega) (by omega)).mp e
      omega
    obtain ⟨M', m1, m2, m3, m4⟩ := m_remove (by omega) hvw g3
    obtain ⟨S', g', s1, s2, s3, s4⟩ := k_removeGo (S := S) (x0 := x0) (fa := fa) (by omega) hvw hs.1 hs.2.1 (by rw [f0, g3]) hs.2.2.1 hs.2.2.2 (fun i hi => by obtain ⟨-, wa, ta, y, -⟩ := g7 i (by omega); exact y.1.1) (w - 1 - v) v mFU (kO S (x0 + 12)) (by omega) (Nat.le_refl _) (Nat.lt_of_lt_of_le (show w - 1 - v < 60 by omega) (by decide)) (fun q hq => by rw [g4 q (by omega)]; unfold rmv; rw [if_pos hq]) (fun q h1 h2 => g4 q (by omega))
    rw [sO_id] at s1
    have rem : fk_5_remove S (x0 + 11) (Int32.ofNat v) = some S' := by
      unfold fk_5_remove
      rw [ckk_y hs.1, hs.2.1, bd_s, ckk_y hs.2.2.1, hs.2.2.2, ck_n (by omega) (by omega), lt_d, jI_cl (by omega), g4 v (by omega), s1]
    have eS1 : cEq (fun a => a = x0 + 11 ∨ a = x0 + 12) S S' := by rw [s2]; exact cEq_trans (cEq_cPi _ (Or.inl rfl)) (cEq_sO _ (Or.inr rfl))
    have z0 := eS1.2.2.2.2 x0 (by omega)
    have R' : kR S' (x0 + 11) = kR S (x0 + 11) := by rw [s2]; rfl
    have F0 : kF S' (x0 + 11) 0 = Int32.ofNat (w - 1) := by rw [s2]; exact kF_cPi _ _ _ _
    have Fo : ∀ j, j ≠ 0 → kF S' (x0 + 11) j = kF S (x0 + 11) j := fun j hj => by rw [s2]; exact kF_cPo _ _ (by omega)
    have O' : kO S' (x0 + 12) = g' := by rw [s2]; exact kO_sO _ _ _
    rw [ckk_y hh.1.1, bd_s, ckk_y hs.1, rem, bd_s, ckk_y (by rw [eS1.1]; exact hh.1.1), z0.2.1, hh.1.2.2.2.2.1, bd_s, ckk_y (by rw [eS1.1]; exact hs.1), ckk_y (by rw [eS1.1]; exact hs.1), lt_d, ckz_1, m1, bd_s, lt_d, ckz_1, Fo 1 (by decide), f1, (m3 43 (by decide)).1]
    refine ⟨_, _, _, rfl, rfl, ?_⟩
    have eM : mEx (fun j => j = 0 ∨ (42 ≤ j ∧ j ≠ 45)) A (pu M' 43 (A.1 43 + 1)) := mEx_trans (mEx_mono m3 (fun k hk => by omega)) (mEx_pu (by omega) _)
    have eS : cEq (fun a => a = x0 + 11 ∨ a = x0 + 12) S (cPi S' (x0 + 11) 1 (A.1 43 + 1)) := cEq_trans eS1 (cEq_cPi _ (Or.inl rfl))
    refine Inv_ln (by omega) hk hc hh hkd hth htx hro hnu eM eS (lnI_rm (v := v) hs g1 g2 hvw g5 g4 g6 g7 (fun k h1 h2 => (eM k (by omega)).2) (by omega) eS (by exact R') (by rw [pu_o _ _ (by decide)]; exact m2) ⟨?_, ?_, ?_⟩ ?_ ?_ ?_)
    · rw [kF_cPo _ _ (by omega), F0, pu_o _ _ (by decide), m2]
    · rw [kF_cPi, pu_s]
    · rw [kF_cPo _ _ (by omega), Fo 2 (by decide), f2, pu_o _ _ (by decide), (m3 44 (by decide)).1]
    · intro q hq; show kO S' (x0 + 12) q = _; rw [O']; exact s3 q hq
    · intro q hq; show kO S' (x0 + 12) q = _; rw [O']; exact s4 q hq
    · exact m4
  · rw [b2_f hv, if_pos rfl, k_lAtN hl hv, bd_s]
    exact ⟨_, _, _, rfl, rfl, h1⟩
end V
