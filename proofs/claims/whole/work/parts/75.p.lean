-- part 75: what stays beside a node's change
def kp (x0 z : Nat) : Nat → Prop := fun a => a ≤ x0 ∨ a = x0 + 10 ∨ a = x0 + 17 ∨ a = x0 + 18 ∨ (x0 + 133 ≤ a ∧ a < z)
/-- what a change leaves alone, in the class -/
def lvC (x0 : Nat) (S S' : cSt) : Prop := cSm (kp x0 (kZ S)) S S' ∧ (∀ a, (x0 + 13 ≤ a ∧ a ≤ x0 + 21) ∨ (x0 + 126 ≤ a ∧ a < x0 + 133) → kK S' a = kK S a ∧ kL S' a = kL S a) ∧ kR S' (x0 + 13) = kR S (x0 + 13) ∧ (∀ j, j ≠ 7 → kR S' (x0 + 126) j = kR S (x0 + 126) j) ∧ (∀ i, kT S' i = kT S i) ∧ kZ S ≤ kZ S'
/-- and in the reference -/
def lvM (M M' : mSt) : Prop := True ∧ (∀ q, mde M q → mde M' q) ∧ (∀ q, q < 4 → mdN M q ≤ mdN M' q) ∧ (∀ q, mde M q → (M'.2 9 q = M.2 9 q ∧ M'.2 10 q = M.2 10 q ∧ M'.2 11 q = M.2 11 q ∧ M'.2 12 q = M.2 12 q ∧ M'.2 13 q = M.2 13 q ∧ M'.2 14 q = M.2 14 q ∧ M'.2 15 q = M.2 15 q) ∧ ∀ i, i < 4 → M'.2 16 (4 * q + i) = M.2 16 (4 * q + i)) ∧ ∀ i, M.2 6 i ≠ 0 → M'.2 6 i = M.2 6 i
/-- rows and slots, more of them -/
def lvR (M : mSt) (ra ra' : Nat → Nat) (mkO mkO' : Nat → Option Nat) : Prop := (∀ q, mde M q → ra' q = ra q) ∧ (∀ j m, mkO j = some m → mkO' j = some m) ∧ ∀ j m, mkO j = some m → mde M m
section I
variable {S S' : cSt} {M M' : mSt} {ra ra' : Nat → Nat} {mkO mkO' : Nat → Option Nat} {ro ro' fa : Nat → Nat} {x0 Bt Bt' : Nat}
theorem cuI_g (e : lvM M M') (eR : lvR M ra ra' mkO mkO') (hle : Bt ≤ Bt') {a b c d : Int32} (h : cuI M mkO Bt a b c d) : cuI M' mkO' Bt' a b c d := by
  obtain ⟨⟨x, x1, x2⟩, h2⟩ := h
  refine ⟨⟨x, by omega, x2⟩, fun ha => ?_⟩
  obtain ⟨j, m, kd, p, y1, y2, y3, y4⟩ := h2 ha
  obtain ⟨z1, z2, z3, z4, z5, z6⟩ := y1
  refine ⟨j, m, kd, p, ⟨eR.2.1 j m z1, ?_, z3, z4, by rw [e.2.2.2.2 _ (by rw [z5]; exact z6)]; exact z5, z6⟩, y2, y3, ?_⟩
  · rw [(e.2.2.2.1 m (eR.2.2 j m z1)).1.2.2.2.1]; exact z2
  · rcases y4 with y4 | ⟨t, t1, t2, t3⟩
    · exact Or.inl y4
    · refine Or.inr ⟨t, e.2.1 t t1, ?_, t3⟩
      obtain ⟨q9, q10, q11, -⟩ := (e.2.2.2.1 t t1).1
      show M'.2 9 t = 9 ∧ M'.2 10 t = b ∧ M'.2 11 t = c
      rw [q9, q10, q11]; exact t2
theorem rowL_g {r : Nat} (e : lvM M M') (hr : mde M r) : rowL M' r = rowL M r := by
  obtain ⟨⟨q9, q10, q11, q12, q13, q14, q15⟩, q16⟩ := e.2.2.2.1 r hr
  unfold rowL
  rw [q9, q10, q11, q12, q13, q14, q15]
  have : (List.range 4).flatMap (fun q => numL (M'.2 16 (4 * r + q))) = (List.range 4).flatMap (fun q => numL (M.2 16 (4 * r + q))) := by
    rw [show List.range 4 = [0, 1, 2, 3] from rfl]
    simp only [List.flatMap_cons, List.flatMap_nil]
    rw [q16 0 (by decide), q16 1 (by decide), q16 2 (by decide), q16 3 (by decide)]
  rw [this]
theorem flatMap_cg {α β : Type} {f g : α → List β} {l : List α} (h : ∀ x ∈ l, f x = g x) : l.flatMap f = l.flatMap g := by
  induction l with
  | nil => rfl
  | cons a l ih =>
    rw [List.flatMap_cons, List.flatMap_cons, h a List.mem_cons_self, ih (fun x hx => h x (List.mem_cons_of_mem _ hx))]
theorem frL_g {g : Nat → Int32} (e : lvM M M') {c : Nat} (hc : c ≤ 8) (h3 : g 3 = Int32.ofNat c) (hg : ∀ i, i < c → ∃ r, mde M r ∧ g (8 + i) = Int32.ofNat r) : frL M' g = frL M g := by
  have h : bodL M' g = bodL M g := by
    unfold bodL
    have : (List.range (g 3).toNatClampNeg).flatMap (fun i => rowL M' (g (8 + i)).toNatClampNeg) = (List.range (g 3).toNatClampNeg).flatMap (fun i => rowL M (g (8 + i)).toNatClampNeg) := by
      refine flatMap_cg (fun i hi => ?_)
      rw [h3, jI_cl (by omega), List.mem_range] at hi
      obtain ⟨r, r1, r2⟩ := hg i hi
      rw [r2, jI_cl (by have := r1.1; omega), rowL_g e r1]
    rw [this]
  unfold frL
  rw [h]
theorem fCo_g {f : Nat} {g : Nat → Int32} (e : lvM M M') (eR : lvR M ra ra' mkO mkO') (hle : Bt ≤ Bt') (e0 : kF S' f = kF S f) (e1 : kI S' (f + 1) = kI S (f + 1)) (e2 : kI S' (f + 2) = kI S (f + 2)) (e3 : kO S' (f + 3) = kO S (f + 3)) (h : fCo S M ra mkO Bt f g) : fCo S' M' ra' mkO' Bt' f g := by
  obtain ⟨a1, a2, a3, a4, a5, a6, c, c1, c2, c3⟩ := h
  refine ⟨by rw [e0]; exact a1, a2, a3, fun q hq => ?_, by rw [e2]; exact a5, fun m hm => cuI_g e eR hle (a6 m hm), c, c1, c2, fun i hi => ?_⟩
  · obtain ⟨y1, x, y2, y3⟩ := a4 q hq
    exact ⟨by rw [e1]; exact y1, x, Nat.le_trans y2 (e.2.2.1 q hq), y3⟩
  · obtain ⟨r, y1, y2, y3⟩ := c3 i hi
    exact ⟨r, e.2.1 r y1, y2, by rw [e3, eR.1 r y1]; exact y3⟩
theorem lnI_g (h : lnI x0 Bt S M ra mkO ro fa) (e : lvM M M') (eR : lvR M ra ra' mkO mkO') (e42 : ∀ k, 42 ≤ k ∧ k < 47 → M'.1 k = M.1 k ∧ M'.2 k = M.2 k) (eS : lvC x0 S S') (e11 : cSm (fun a => a = x0 + 11 ∨ a = x0 + 12) S S') (hro : ∀ a, a < kZ S → ro' a = ro a) (hle : Bt ≤ Bt') : lnI x0 Bt' S' M' ra' mkO' ro' fa := by
  obtain ⟨⟨h1, h2, h3, h4⟩, ⟨h5, h6, h7⟩, nf, w, g1, g2, g3, g4, g5, g6, g7⟩ := h
  have c11 := e11 (x0 + 11) (Or.inl rfl)
  have c12 := e11 (x0 + 12) (Or.inr rfl)
  refine ⟨⟨by rw [c11.1]; exact h1, by rw [c11.2.2.2.1]; exact h2, by rw [c12.1]; exact h3, by rw [c12.2.1]; exact h4⟩, ⟨by rw [c11.2.2.1, (e42 42 (by decide)).1]; exact h5, by rw [c11.2.2.1, (e42 43 (by decide)).1]; exact h6, by rw [c11.2.2.1, (e42 44 (by decide)).1]; exact h7⟩, nf, w, g1, g2, by rw [(e42 42 (by decide)).1]; exact g3, by rw [c12.2.2.2.2.2]; exact g4, by rw [c12.2.2.2.2.2]; exact g5, g6, fun i hi => ?_⟩
  obtain ⟨y1, wa, ta, y2, y3, y4, y5, y6, y7, y8, y9, y10, y11, y12, y13⟩ := g7 i hi
  have hg : gF M' i = gF M i := by funext c; unfold gF; rw [(e42 46 (by decide)).2]
  have inn : ∀ a, x0 + 133 ≤ a → a < kZ S → kp x0 (kZ S) a := fun a ha hb => by unfold kp; omega
  have d0 := eS.1 (fa i) (inn _ y1 (by omega))
  have d1 := eS.1 (fa i + 1) (inn _ (by omega) (by omega))
  have d2 := eS.1 (fa i + 2) (inn _ (by omega) (by omega))
  have d3 := eS.1 (fa i + 3) (inn _ (by omega) (by omega))
  have dw := eS.1 wa (inn _ y7 y8)
  have dt := eS.1 ta (inn _ y9 y10)
  have hz := eS.2.2.2.2.2
  refine ⟨y1, wa, ta, ?_, fun c hc => by rw [hro _ (by omega)]; exact y3 c hc, by rw [hro _ y8]; exact y4, by rw [hro _ y10]; exact y5, by omega, y7, by omega, y9, by omega, y11, y12, fun hw => ?_⟩
  · unfold fLy; rw [d0.1, d0.2.2.2.1, d1.1, d1.2.1, d2.1, d2.2.1, d3.1, d3.2.1, dw.1, dw.2.1, dt.1, dt.2.1]; exact y2
  · obtain ⟨z1, z2⟩ := y13 hw
    rw [hg]
    refine ⟨fCo_g e eR hle d0.2.2.1 d1.2.2.2.2.1 d2.2.2.2.2.1 d3.2.2.2.2.2 z1, ?_⟩
    obtain ⟨-, -, -, -, -, -, c, c1, c2, c3⟩ := z1
    unfold fBy
    rw [frL_g e c1 c2 (fun i hi => by obtain ⟨r, q1, q2, -⟩ := c3 i hi; exact ⟨r, q1, q2⟩), d0.2.2.1, dw.2.2.2.2.1, dt.2.2.2.2.1, dw.2.1]
    exact z2
theorem hsI_g (hh : hsI x0 S M) (eS : lvC x0 S S') (e45 : M'.1 45 = M.1 45) : hsI x0 S' M' := by
  obtain ⟨h1, ⟨h2, h3⟩, ⟨h4, h5, h6⟩, ⟨h7, h8, h9, h10, h11⟩, b0, b1, ⟨t0, t1, t2, t3⟩, s0, s1⟩ := hh
  have c0 := eS.1 x0 (by unfold kp; omega)
  have c10 := eS.1 (x0 + 10) (by unfold kp; omega)
  have p0 := eS.1 (kT S 0) (by unfold kp; omega)
  have p1 := eS.1 (kT S 1) (by unfold kp; omega)
  have q0 := eS.1 b0 (by unfold kp; omega)
  have q1 := eS.1 b1 (by unfold kp; omega)
  have f19 := eS.2.1 (x0 + 19) (by omega)
  have f20 := eS.2.1 (x0 + 20) (by omega)
  have f21 := eS.2.1 (x0 + 21) (by omega)
  have hT := eS.2.2.2.2.1
  refine ⟨by rw [c0.1, c0.2.2.2.1]; exact h1, ⟨by rw [c0.2.2.1, e45]; exact h2, by rw [e45]; exact h3⟩, ⟨by rw [c10.1]; exact h4, by rw [c10.2.1]; exact h5, by rw [c10.2.2.2.2.2]; exact h6⟩, ⟨by rw [f19.1]; exact h7, by rw [f20.1]; exact h8, by rw [f20.2]; exact h9, by rw [f21.1]; exact h10, by rw [f21.2]; exact h11⟩, b0, b1, by rw [hT, hT]; exact ⟨t0, t1, t2, t3⟩, ?_, ?_⟩
  · unfold pStr; rw [hT, p0.1, q0.1, q0.2.1, p0.2.2.2.1, p0.2.2.1, q0.2.2.2.2.1]; exact s0
  · unfold pStr; rw [hT, p1.1, q1.1, q1.2.1, p1.2.2.2.1, p1.2.2.1, q1.2.2.2.2.1]; exact s1
theorem kdI_g (hk1 : kdI x0 S M) (e : lvM M M') (e1 : ∀ k, 1 ≤ k ∧ k ≤ 6 → M'.1 k = M.1 k ∧ M'.2 k = M.2 k) (eS : cSm (fun a => x0 + 1 ≤ a ∧ a ≤ x0 + 4) S S') (hnew : ∀ m kd, mde M' m → ¬ mde M m → M'.2 9 m = 0 → M'.2 12 m = Int32.ofNat kd → kd < 8 → ∀ kn, kn ≤ 8 → M.1 4 = Int32.ofNat kn → kd < kn) : kdI x0 S' M' := by
  obtain ⟨h1, h2, h3, h4, h5, tp, kn, h6, h7, h8, h9, h10, h11⟩ := hk1
  have c1 := eS (x0 + 1) (by omega)
  have c2 := eS (x0 + 2) (by omega)
  have c3 := eS (x0 + 3) (by omega)
  have c4 := eS (x0 + 4) (by omega)
  refine ⟨by rw [c1.1, c1.2.2.2.1, c2.1, c2.2.1, c3.1, c3.2.1, c4.1, c4.2.1]; exact h1, by rw [c1.2.2.1, (e1 1 (by decide)).1, (e1 4 (by decide)).1, (e1 3 (by decide)).1]; exact h2, by rw [c2.2.2.2.2.1, (e1 2 (by decide)).2]; exact h3, by rw [c3.2.2.2.2.1, (e1 6 (by decide)).2]; exact h4, by rw [c4.2.2.2.2.1, (e1 5 (by decide)).2]; exact h5, tp, kn, h6, h7, by rw [(e1 1 (by decide)).1]; exact h8, by rw [(e1 4 (by decide)).1]; exact h9, by rw [(e1 5 (by decide)).2, (e1 6 (by decide)).2]; exact h10, fun m kd hm h9' h12 hkd => ?_⟩
  by_cases hm' : mde M m
  · obtain ⟨⟨q9, -, -, q12, -⟩, -⟩ := e.2.2.2.1 m hm'
    exact h11 m kd hm' (q9 ▸ h9') (q12 ▸ h12) hkd
  · exact hnew m kd hm hm' h9' h12 hkd kn h7 h9
theorem thI_g (ht : thI x0 S) (eS : lvC x0 S S') : thI x0 S' := by
  obtain ⟨⟨h1, h2, h3⟩, h4, h5⟩ := ht
  have f : ∀ i, i < 7 → kK S' (x0 + 126 + i) = kK S (x0 + 126 + i) ∧ kL S' (x0 + 126 + i) = kL S (x0 + 126 + i) := fun i hi => eS.2.1 _ (by omega)
  have hR2 := eS.2.2.2.1
  have f0 := f 0 (by omega)
  have f1 := f 1 (by omega)
  have f2 := f 2 (by omega)
  have f3 := f 3 (by omega)
  have f4 := f 4 (by omega)
  have f5 := f 5 (by omega)
  have f6 := f 6 (by omega)
  refine ⟨⟨by rw [f0.1]; exact h1, by rw [hR2 1 (by decide)]; exact h2, by rw [hR2 2 (by decide)]; exact h3⟩, by rw [f1.1, f1.2]; exact h4, ?_⟩
  unfold vwA
  rw [hR2 0 (by decide), hR2 3 (by decide), hR2 4 (by decide), hR2 5 (by decide), hR2 6 (by decide)]
  simp only [show x0 + 128 = x0 + 126 + 2 from rfl, show x0 + 126 + 2 + 1 = x0 + 126 + 3 from rfl, show x0 + 126 + 2 + 2 = x0 + 126 + 4 from rfl, show x0 + 126 + 2 + 3 = x0 + 126 + 5 from rfl, show x0 + 126 + 2 + 4 = x0 + 126 + 6 from rfl, f2.1, f2.2, f3.1, f3.2, f4.1, f4.2, f5.1, f5.2, f6.1, f6.2]
  exact h5
theorem txI_g (hx : txI x0 S ro) (eS : lvC x0 S S') (hro : ∀ a, a < kZ S → ro' a = ro a) : txI x0 S' ro' := by
  obtain ⟨h1, tb, h2, h3, h4, h5, h6⟩ := hx
  have f : ∀ i, i < 9 → kK S' (x0 + 13 + i) = kK S (x0 + 13 + i) ∧ kL S' (x0 + 13 + i) = kL S (x0 + 13 + i) := fun i hi => eS.2.1 _ (by omega)
  have f0 := f 0 (by omega)
  have f1 := f 1 (by omega)
  have f2 := f 2 (by omega)
  have f3 := f 3 (by omega)
  have f4 := f 4 (by omega)
  have ht := eS.1 tb (by unfold kp; omega)
  have hz := eS.2.2.2.2.2
  refine ⟨?_, tb, by rw [eS.2.2.1]; exact h2, by rw [ht.1]; exact h3, by rw [ht.2.1]; exact h4, by omega, ?_⟩
  · unfold txA
    simp only [eS.2.2.1, f0.1, f0.2, f1.1, f1.2, f2.1, f2.2, f3.1, f3.2, f4.1, f4.2]
    exact h1
  · rw [hro _ h5]; exact h6
theorem nuI_g (h : nuI M mkO Bt) (e : lvM M M') (eR : lvR M ra ra' mkO mkO') (hle : Bt ≤ Bt') (h21 : M'.2 21 = M.2 21) (h22 : M'.2 22 = M.2 22) (h31 : M'.2 31 = M.2 31) : nuI M' mkO' Bt' := by
  intro n hn
  obtain ⟨h1, h2⟩ := h n hn
  rw [h21, h22, h31]
  refine ⟨fun m q hm hq => ?_, fun m hm => cuI_g e eR hle (h2 m hm)⟩
  obtain ⟨⟨x, x1, x2⟩, y, y1, y2⟩ := h1 m q hm hq
  have := e.2.2.1 q hq
  exact ⟨⟨x, by omega, x2⟩, y, by omega, y2⟩
/-- no row more -/
theorem lvM_r (e : mEx (fun k => k = 0 ∨ (17 ≤ k ∧ k ≤ 41) ∨ 47 ≤ k) M M') : lvM M M' := by
  have r : rEq M M' := fun k h1 h2 => (e k (by omega)).2
  exact ⟨trivial, fun q hq => by rw [mde_r r]; exact hq, fun q _ => by rw [mdN_r r]; exact Nat.le_refl _, (rOn_of r _).1, fun i _ => by rw [r 6 (by decide) (by decide)]⟩
theorem lvC_eq {W : Nat → Prop} (e : cEq W S S') (hW : ∀ a, W a → x0 + 22 ≤ a ∧ a < x0 + 126) : lvC x0 S S' := by
  refine ⟨cSm_eq e (fun a ha q => ?_), fun a _ => ⟨e.1 a, e.2.1 a⟩, (e.2.2.2.2 _ (fun q => ?_)).2.1, fun j _ => ?_, e.2.2.2.1, by rw [e.2.2.1]; exact Nat.le_refl _⟩
  · have := hW a q; unfold kp at ha; omega
  · have := hW _ q; omega
  · rw [(e.2.2.2.2 (x0 + 126) (fun q => by have := hW _ q; omega)).2.1]
/-- a node's change, no row more -/
theorem Inv_n {W : Nat → Prop} {sl : Nat → Int32} {L' Wt' : Nat → List Nat} {k k' : Nat} (hh : hsI x0 S M) (hk1 : kdI x0 S M) (ht : thI x0 S) (hx : txI x0 S ro) (hr : roI x0 S M ra ro) (hl : lnI x0 (1000 * k) S M ra mkO ro fa) (hkk : k ≤ k') (hm : ∀ j m, mkO j = some m → mde M m) (e : mEx (fun k => k = 0 ∨ (17 ≤ k ∧ k ≤ 41) ∨ 47 ≤ k) M M') (eS : cEq W S S') (hW : ∀ a, W a → x0 + 22 ≤ a ∧ a < x0 + 126) (hc : core x0 (1000 * k') S' M' ra sl mkO L' Wt') (hn : nuI M' mkO (1000 * k')) : Inv x0 k' S' M' := by
  have eM := lvM_r e
  have eC := lvC_eq eS hW
  have r : rEq M M' := fun k h1 h2 => (e k (by omega)).2
  have eR : lvR M ra ra mkO mkO := ⟨fun _ _ => rfl, fun _ _ h => h, hm⟩
  refine ⟨ra, sl, mkO, L', Wt', ro, fa, hc, hsI_g hh eC (e 45 (by decide)).1, kdI_g hk1 eM (fun k hk => e k (by omega)) (cSm_eq eS (fun a ha q => by have := hW a q; omega)) (fun m _ h1 h2 => absurd (by rw [mde_r r] at h1; exact h1) h2), thI_g ht eC, txI_g hx eC (fun _ _ => rfl), ?_, lnI_g hl eM eR (fun k hk => e k (by omega)) eC (cSm_eq eS (fun a ha q => by have := hW a q; omega)) (fun _ _ => rfl) (by omega), hn⟩
  unfold roI; rw [mde_r r]; exact hr
end I
