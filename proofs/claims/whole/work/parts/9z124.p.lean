-- part 124: the line's frames as cells, and what they carry; a frame opened
/-- the line's cells -/
def lnS (x0 : Nat) (S : cSt) (ro fa : Nat → Nat) (nf : Nat) : Prop :=
  (kK S (x0 + 11) = 6 ∧ kR S (x0 + 11) 3 = some (x0 + 12) ∧ kK S (x0 + 12) = 32 ∧ kL S (x0 + 12) = 60) ∧ nf ≤ 60 ∧ (∀ i, i < nf → kO S (x0 + 12) i = some (fa i)) ∧ (∀ i, nf ≤ i → i < 60 → kO S (x0 + 12) i = none) ∧ (∀ i i', i < nf → i' < nf → fa i = fa i' → i = i') ∧
  ∀ i, i < nf → x0 + 133 ≤ fa i ∧ ∃ wa ta, fLy S (fa i) wa ta ∧ (∀ c, c < 4 → ro (fa i + c) = fa i) ∧ ro wa = fa i ∧ ro ta = fa i ∧ fa i + 4 ≤ kZ S ∧ x0 + 133 ≤ wa ∧ wa < kZ S ∧ x0 + 133 ≤ ta ∧ ta < kZ S ∧ (wa < fa i ∨ fa i + 4 ≤ wa) ∧ (ta < fa i ∨ fa i + 4 ≤ ta)
/-- what the first w frames carry -/
def lnF (S : cSt) (M : mSt) (ra : Nat → Nat) (mkO : Nat → Option Nat) (Bt : Nat) (fa : Nat → Nat) (w : Nat) : Prop := ∀ i, i < w → ∀ wa ta, fLy S (fa i) wa ta → fCo S M ra mkO Bt (fa i) (gF M i) ∧ fBy S M (fa i) wa ta (gF M i)
section V
variable {S S' : cSt} {M M' A : mSt} {ra : Nat → Nat} {sl : Nat → Int32} {mkO : Nat → Option Nat} {L Wt : Nat → List Nat} {ro ro' fa fa' : Nat → Nat} {x0 n k Bt Bt' nf w : Nat} {l : List Nat}
theorem fLy_u {f wa ta wa' ta' : Nat} (h : fLy S f wa ta) (h' : fLy S f wa' ta') : wa' = wa ∧ ta' = ta := by
  have a := h.1.2.2.2.2.1
  have b := h'.1.2.2.2.2.1
  have c := h.1.2.2.2.2.2
  have d := h'.1.2.2.2.2.2
  rw [a] at b
  rw [c] at d
  exact ⟨(Option.some.inj b).symm, (Option.some.inj d).symm⟩
theorem ln_to (h : lnI x0 Bt S M ra mkO ro fa) : (kF S (x0 + 11) 0 = M.1 42 ∧ kF S (x0 + 11) 1 = M.1 43 ∧ kF S (x0 + 11) 2 = M.1 44) ∧ ∃ nf w, w ≤ nf ∧ M.1 42 = Int32.ofNat w ∧ lnS x0 S ro fa nf ∧ lnF S M ra mkO Bt fa w := by
  obtain ⟨hs, hf, nf, w, g1, g2, g3, g4, g5, g6, g7⟩ := h
  refine ⟨hf, nf, w, g1, g3, ⟨hs, g2, g4, g5, g6, fun i hi => ?_⟩, fun i hi wa' ta' hL => ?_⟩
  · obtain ⟨y1, wa, ta, y2, y3, y4, y5, y6, y7, y8, y9, y10, y11, y12, -⟩ := g7 i hi
    exact ⟨y1, wa, ta, y2, y3, y4, y5, y6, y7, y8, y9, y10, y11, y12⟩
  · obtain ⟨y1, wa, ta, y2, y3, y4, y5, y6, y7, y8, y9, y10, y11, y12, y13⟩ := g7 i (by omega)
    obtain ⟨rfl, rfl⟩ := fLy_u y2 hL
    exact y13 hi
theorem ln_of (hf : kF S (x0 + 11) 0 = M.1 42 ∧ kF S (x0 + 11) 1 = M.1 43 ∧ kF S (x0 + 11) 2 = M.1 44) (g1 : w ≤ nf) (g3 : M.1 42 = Int32.ofNat w) (hS : lnS x0 S ro fa nf) (hF : lnF S M ra mkO Bt fa w) : lnI x0 Bt S M ra mkO ro fa := by
  obtain ⟨hs, g2, g4, g5, g6, g7⟩ := hS
  refine ⟨hs, hf, nf, w, g1, g2, g3, g4, g5, g6, fun i hi => ?_⟩
  obtain ⟨y1, wa, ta, y2, y3, y4, y5, y6, y7, y8, y9, y10, y11, y12⟩ := g7 i hi
  exact ⟨y1, wa, ta, y2, y3, y4, y5, y6, y7, y8, y9, y10, y11, y12, fun hw => hF i hw wa ta y2⟩
/-- cells of one frame change: the line's cells stay a line -/
theorem lnS_fr {i0 : Nat} (h : lnS x0 S ro fa nf) (hi0 : i0 < nf) (c : cSm (fun a => a = x0 + 11 ∨ a = x0 + 12 ∨ (x0 + 133 ≤ a ∧ a < kZ S ∧ ro a ≠ fa i0)) S S') (hz : kZ S ≤ kZ S') (hro : ∀ a, a < kZ S → ro' a = ro a)
    (hnew : ∃ wa ta, fLy S' (fa i0) wa ta ∧ ro' wa = fa i0 ∧ ro' ta = fa i0 ∧ x0 + 133 ≤ wa ∧ wa < kZ S' ∧ x0 + 133 ≤ ta ∧ ta < kZ S' ∧ (wa < fa i0 ∨ fa i0 + 4 ≤ wa) ∧ (ta < fa i0 ∨ fa i0 + 4 ≤ ta)) : lnS x0 S' ro' fa nf := by
  obtain ⟨hs, g2, g4, g5, g6, g7⟩ := h
  have c11 := c (x0 + 11) (Or.inl rfl)
  have c12 := c (x0 + 12) (Or.inr (Or.inl rfl))
  refine ⟨⟨by rw [c11.1]; exact hs.1, by rw [c11.2.2.2.1]; exact hs.2.1, by rw [c12.1]; exact hs.2.2.1, by rw [c12.2.1]; exact hs.2.2.2⟩, g2, by rw [c12.2.2.2.2.2]; exact g4, by rw [c12.2.2.2.2.2]; exact g5, g6, fun i hi => ?_⟩
  obtain ⟨y1, wa, ta, y2, y3, y4, y5, y6, y7, y8, y9, y10, y11, y12⟩ := g7 i hi
  by_cases e : i = i0
  · subst e
    obtain ⟨wa', ta', z1, z2, z3, z4, z5, z6, z7, z8, z9⟩ := hnew
    exact ⟨y1, wa', ta', z1, fun q hq => by rw [hro _ (by omega)]; exact y3 q hq, z2, z3, by omega, z4, z5, z6, z7, z8, z9⟩
  · have hne : fa i ≠ fa i0 := fun q => e (g6 i i0 hi hi0 q)
    have d0 := c (fa i) (Or.inr (Or.inr ⟨y1, by omega, by have := y3 0 (by decide); rw [Nat.add_zero] at this; rw [this]; exact hne⟩))
    have d1 := c (fa i + 1) (Or.inr (Or.inr ⟨by omega, by omega, by rw [y3 1 (by decide)]; exact hne⟩))
    have d2 := c (fa i + 2) (Or.inr (Or.inr ⟨by omega, by omega, by rw [y3 2 (by decide)]; exact hne⟩))
    have d3 := c (fa i + 3) (Or.inr (Or.inr ⟨by omega, by omega, by rw [y3 3 (by decide)]; exact hne⟩))
    have dw := c wa (Or.inr (Or.inr ⟨y7, y8, by rw [y4]; exact hne⟩))
    have dt := c ta (Or.inr (Or.inr ⟨y9, y10, by rw [y5]; exact hne⟩))
    refine ⟨y1, wa, ta, ?_, fun q hq => by rw [hro _ (by omega)]; exact y3 q hq, by rw [hro _ y8]; exact y4, by rw [hro _ y10]; exact y5, by omega, y7, by omega, y9, by omega, y11, y12⟩
    unfold fLy; rw [d0.1, d0.2.2.2.1, d1.1, d1.2.1, d2.1, d2.2.1, d3.1, d3.2.1, dw.1, dw.2.1, dt.1, dt.2.1]; exact y2
/-- what other frames carry stays -/
theorem lnF_fr {i0 w' : Nat} (h : lnS x0 S ro fa nf) (hF : lnF S M ra mkO Bt fa w) (hw : w ≤ nf) (hi0 : i0 < nf) (c : cSm (fun a => x0 + 133 ≤ a ∧ a < kZ S ∧ ro a ≠ fa i0) S S') (r : rEq M M') (hle : Bt ≤ Bt') (h46 : ∀ i q, i < w' → i ≠ i0 → q < 640 → M'.2 46 (640 * i + q) = M.2 46 (640 * i + q)) (hww : ∀ i, i < w' → i ≠ i0 → i < w)
    (hnew : i0 < w' → ∀ wa ta, fLy S' (fa i0) wa ta → fCo S' M' ra mkO Bt' (fa i0) (gF M' i0) ∧ fBy S' M' (fa i0) wa ta (gF M' i0)) : lnF S' M' ra mkO Bt' fa w' := by
  intro i hi wa' ta' hL
  by_cases e : i = i0
  · subst e; exact hnew hi wa' ta' hL
  · obtain ⟨hs, g2, g4, g5, g6, g7⟩ := h
    have hiw := hww i hi e
    obtain ⟨y1, wa, ta, y2, y3, y4, y5, y6, y7, y8, y9, y10, y11, y12⟩ := g7 i (by omega)
    have hne : fa i ≠ fa i0 := fun q => e (g6 i i0 (by omega) hi0 q)
    have d0 := c (fa i) ⟨y1, by omega, by have := y3 0 (by decide); rw [Nat.add_zero] at this; rw [this]; exact hne⟩
    have d1 := c (fa i + 1) ⟨by omega, by omega, by rw [y3 1 (by decide)]; exact hne⟩
    have d2 := c (fa i + 2) ⟨by omega, by omega, by rw [y3 2 (by decide)]; exact hne⟩
    have d3 := c (fa i + 3) ⟨by omega, by omega, by rw [y3 3 (by decide)]; exact hne⟩
    have dw := c wa ⟨y7, y8, by rw [y4]; exact hne⟩
    have dt := c ta ⟨y9, y10, by rw [y5]; exact hne⟩
    have hL0 : fLy S' (fa i) wa ta := by
      unfold fLy; rw [d0.1, d0.2.2.2.1, d1.1, d1.2.1, d2.1, d2.2.1, d3.1, d3.2.1, dw.1, dw.2.1, dt.1, dt.2.1]; exact y2
    obtain ⟨rfl, rfl⟩ := fLy_u hL0 hL
    obtain ⟨z1, z2⟩ := hF i hiw _ _ y2
    have hg : ∀ q, q < 640 → gF M' i q = gF M i q := fun q hq => h46 i q hi e hq
    have z1' := fCo_c hg z1
    obtain ⟨-, -, -, -, -, -, q, c1, c2, c3⟩ := z1
    have z2' := fBy_c hg c1 c2 z2
    refine ⟨fCo_r r hle d0.2.2.1 d1.2.2.2.2.1 d2.2.2.2.2.1 d3.2.2.2.2.2 z1', ?_⟩
    unfold fBy at z2' ⊢
    rw [frL_r r, d0.2.2.1, dw.2.2.2.2.1, dt.2.2.2.2.1, dw.2.1]
    exact z2'
/-- a new frame's cells -/
theorem k_frInit {f : Nat} (hf : kK S f = 3) (hfz : kZ S = f + 1) : ∃ S', fk_2_init S f = some S' ∧ cSm (fun a => a < f) S S' ∧ kZ S' = f + 6 ∧ (∀ i, kT S' i = kT S i) ∧ fLy S' f (f + 4) (f + 5) := by
  unfold fk_2_init
  -- cell by cell
  have step : ∀ (T : cSt) (kd n j : Nat), kK T f = 3 → f < kZ T → ∃ U, (cPr (cNw T kd n) f j (some (kZ T))) = U ∧ kK (cNw T kd n) f = 3 ∧ kZ U = kZ T + 1 ∧ kK U f = 3 ∧ kK U (kZ T) = kd ∧ kL U (kZ T) = n ∧ kR U f j = some (kZ T) ∧ (∀ q, q ≠ j → kR U f q = kR T f q) ∧ (∀ i, kT U i = kT T i) ∧ (∀ a, a ≠ kZ T → kK U a = kK T a ∧ kL U a = kL T a) ∧ cSm (fun a => a < kZ T ∧ a ≠ f) T U := fun T kd n j h1 h2 => by
    have wS := nw_sm T kd n
    obtain ⟨w1, w2, w3, w4⟩ := cNw_K T kd n
    refine ⟨_, rfl, by rw [(wS f (by omega)).1]; exact h1, w3, by show kK (cNw T kd n) f = 3; rw [(wS f (by omega)).1]; exact h1, w1, w2, kR_cPr _ _ _ _, fun q hq => by rw [kR_cPo _ _ (fun e => hq e.2), (wS f (by omega)).2.2.2.1], w4, fun a ha => ⟨(wS a ha).1, (wS a ha).2.1⟩, fun a ha => ?_⟩
    have q := wS a (by omega)
    refine ⟨q.1, q.2.1, q.2.2.1, ?_, q.2.2.2.2.1, q.2.2.2.2.2⟩
    funext z
    rw [kR_cPo _ _ (fun e => ha.2 e.1), q.2.2.2.1]
  obtain ⟨U1, e1, a1, z1, k1, p1, l1, r1, o1, t1, m1, s1⟩ := step S 20 4 0 hf (by omega)
  obtain ⟨U2, e2, a2, z2, k2, p2, l2, r2, o2, t2, m2, s2⟩ := step U1 20 16 1 k1 (by omega)
  obtain ⟨U3, e3, a3, z3, k3, p3, l3, r3, o3, t3, m3, s3⟩ := step U2 30 8 2 k2 (by omega)
  obtain ⟨U4, e4, a4, z4, k4, p4, l4, r4, o4, t4, m4, s4⟩ := step U3 21 0 9 k3 (by omega)
  obtain ⟨U5, e5, a5, z5, k5, p5, l5, r5, o5, t5, m5, s5⟩ := step U4 21 0 10 k4 (by omega)
  refine ⟨U5, ?_, ?_, by omega, fun i => by rw [t5, t4, t3, t2, t1], ?_⟩
  · simp only [lt_d]
    rw [ckk_y a1, e1, ckk_y a2, e2, ckk_y a3, e3, ckk_y a4, e4, ckk_y a5, e5]
  · exact cSm_trans (cSm_trans (cSm_trans (cSm_trans (cSm_mono s1 (fun a (ha : a < f) => ⟨by omega, by omega⟩)) (cSm_mono s2 (fun a (ha : a < f) => ⟨by omega, by omega⟩))) (cSm_mono s3 (fun a (ha : a < f) => ⟨by omega, by omega⟩))) (cSm_mono s4 (fun a (ha : a < f) => ⟨by omega, by omega⟩))) (cSm_mono s5 (fun a (ha : a < f) => ⟨by omega, by omega⟩))
  · have b1 : kZ S = f + 1 := hfz
    have b2 : kZ U1 = f + 2 := by omega
    have b3 : kZ U2 = f + 3 := by omega
    have b4 : kZ U3 = f + 4 := by omega
    have b5 : kZ U4 = f + 5 := by omega
    rw [b1] at p1 l1 r1 m1
    rw [b2] at p2 l2 r2 m2
    rw [b3] at p3 l3 r3 m3
    rw [b4] at p4 l4 r4 m4
    rw [b5] at p5 l5 r5 m5
    refine ⟨⟨k5, ?_, ?_, ?_, ?_, r5⟩, ⟨?_, ?_, ?_, ?_, ?_, ?_⟩, ?_, p5, by omega, Or.inl ⟨?_, l5⟩⟩
    · rw [o5 0 (by decide), o4 0 (by decide), o3 0 (by decide), o2 0 (by decide)]; exact r1
    · rw [o5 1 (by decide), o4 1 (by decide), o3 1 (by decide)]; exact r2
    · rw [o5 2 (by decide), o4 2 (by decide)]; exact r3
    · rw [o5 9 (by decide)]; exact r4
    · rw [(m5 (f + 1) (by omega)).1, (m4 (f + 1) (by omega)).1, (m3 (f + 1) (by omega)).1, (m2 (f + 1) (by omega)).1]; exact p1
    · rw [(m5 (f + 1) (by omega)).2, (m4 (f + 1) (by omega)).2, (m3 (f + 1) (by omega)).2, (m2 (f + 1) (by omega)).2]; exact l1
    · rw [(m5 (f + 2) (by omega)).1, (m4 (f + 2) (by omega)).1, (m3 (f + 2) (by omega)).1]; exact p2
    · rw [(m5 (f + 2) (by omega)).2, (m4 (f + 2) (by omega)).2, (m3 (f + 2) (by omega)).2]; exact l2
    · rw [(m5 (f + 3) (by omega)).1, (m4 (f + 3) (by omega)).1]; exact p3
    · rw [(m5 (f + 3) (by omega)).2, (m4 (f + 3) (by omega)).2]; exact l3
    · rw [(m5 (f + 4) (by omega)).1]; exact p4
    · rw [(m5 (f + 4) (by omega)).2]; exact l4
/-- a frame is opened behind all that wait -/
theorem k_open (h : lnS x0 S ro fa nf) (hw : w < 60) (hwn : w ≤ nf) (h0 : kF S (x0 + 11) 0 = Int32.ofNat w) (hz : x0 + 133 ≤ kZ S) : ∃ S' ro' fa' nf', fk_5_open S (x0 + 11) = some (some (fa' w), S') ∧ lnS x0 S' ro' fa' nf' ∧ w + 1 ≤ nf' ∧ cSm (fun a => a < kZ S ∧ a ≠ x0 + 11 ∧ a ≠ x0 + 12) S S' ∧ kZ S ≤ kZ S' ∧ (∀ i, kT S' i = kT S i) ∧ (∀ i, i ≠ w → fa' i = fa i) ∧ (∀ a, a < kZ S → ro' a = ro a) ∧ kF S' (x0 + 11) = upd (kF S (x0 + 11)) 0 (Int32.ofNat (w + 1)) := by
  have h' := h
  obtain ⟨⟨s1, s2, s3, s4⟩, g2, g4, g5, g6, g7⟩ := h
  have tail : ∀ (T : cSt) (f : Nat), kK T (x0 + 11) = 6 → kR T (x0 + 11) 3 = some (x0 + 12) → kK T (x0 + 12) = 32 → kL T (x0 + 12) = 60 → kF T (x0 + 11) 0 = Int32.ofNat w → kO T (x0 + 12) w = some f → fk_5_open_28 T (x0 + 11) = some (some f, cPi T (x0 + 11) 0 (Int32.ofNat (w + 1))) := fun T f t1 t2 t3 t4 t5 t6 => by
    have u1 : kK (cPi T (x0 + 11) 0 (Int32.ofNat (w + 1))) (x0 + 11) = 6 := t1
    have u2 : kR (cPi T (x0 + 11) 0 (Int32.ofNat (w + 1))) (x0 + 11) 3 = some (x0 + 12) := t2
    have u3 : kK (cPi T (x0 + 11) 0 (Int32.ofNat (w + 1))) (x0 + 12) = 32 := t3
    have u4 : kL (cPi T (x0 + 11) 0 (Int32.ofNat (w + 1))) (x0 + 12) = 60 := t4
    have u5 : kF (cPi T (x0 + 11) 0 (Int32.ofNat (w + 1))) (x0 + 11) 0 = Int32.ofNat (w + 1) := kF_cPi _ _ _ _
    have u6 : kO (cPi T (x0 + 11) 0 (Int32.ofNat (w + 1))) (x0 + 12) w = some f := t6
    unfold fk_5_open_28
    rw [ckk_y t1, ckk_y t1, t5, show Int32.ofNat w + 1 = Int32.ofNat (w + 1) from jI_add _ 1, lt_d, ckk_y u1, u2, bd_s, ckk_y u1, u5, ckk_y u3, u4, show Int32.ofNat (w + 1) - 1 = Int32.ofNat w from by rw [show (1 : Int32) = Int32.ofNat 1 from rfl, jI_sub (by omega)]; rfl, ck_n (by omega) (by omega), lt_d, jI_cl (by omega), u6]
  unfold fk_5_open
  rw [ckk_y s1, s2, bd_s, ckk_y s1, ckk_y s3, s4, h0, ck_n hw (by omega), lt_d, jI_cl (by omega)]
  by_cases c : w < nf
  · rw [g4 w c, cs_S, tail S (fa w) s1 s2 s3 s4 h0 (g4 w c)]
    refine ⟨_, ro, fa, nf, rfl, ?_, by omega, cSm_eq (cEq_cPi (W := fun a => a = x0 + 11) _ rfl) (fun a ha => ha.2.1), Nat.le_refl _, fun _ => rfl, fun _ _ => rfl, fun _ _ => rfl, fP _ _ _ _⟩
    exact h'
  · have e : w = nf := by omega
    subst e
    rw [g5 w (Nat.le_refl _) hw, cs_N, ckk_y s1, bd_s, ckk_y s1, lt_d, lt_d]
    have wS := nw_sm S 3 0
    obtain ⟨w1, w2, w3, w4⟩ := cNw_K S 3 0
    generalize hS5 : cNw S 3 0 = S5 at wS w1 w2 w3 w4
    obtain ⟨S7, i1, i2, i3, i4, i5⟩ := k_frInit (S := S5) (f := kZ S) w1 w3
    have c57 : cSm (fun a => a < kZ S) S S7 := cSm_trans (cSm_mono wS (fun a (ha : a < kZ S) => by omega)) i2
    have d11 := c57 (x0 + 11) (by omega)
    have d12 := c57 (x0 + 12) (by omega)
    have q3 : ∀ {T : cSt} {K : Option (Option Nat × cSt)}, kK T (kZ S) = 3 → ckq T (some (kZ S)) 3 K = K := fun h => ckk_y h
    rw [i1, bd_s, ckk_y (by rw [d12.1]; exact s3), d12.2.1, s4, ck_n hw (by omega), q3 i5.1.1, lt_d]
    have v1 : kK (cWo S7 (x0 + 12) w (some (kZ S))) (x0 + 11) = 6 := by show kK S7 (x0 + 11) = 6; rw [d11.1]; exact s1
    have v2 : kR (cWo S7 (x0 + 12) w (some (kZ S))) (x0 + 11) 3 = some (x0 + 12) := by show kR S7 (x0 + 11) 3 = _; rw [d11.2.2.2.1]; exact s2
    have v3 : kK (cWo S7 (x0 + 12) w (some (kZ S))) (x0 + 12) = 32 := by show kK S7 (x0 + 12) = 32; rw [d12.1]; exact s3
    have v4 : kL (cWo S7 (x0 + 12) w (some (kZ S))) (x0 + 12) = 60 := by show kL S7 (x0 + 12) = 60; rw [d12.2.1]; exact s4
    have v5 : kF (cWo S7 (x0 + 12) w (some (kZ S))) (x0 + 11) 0 = Int32.ofNat w := by show kF S7 (x0 + 11) 0 = _; rw [d11.2.2.1]; exact h0
    have v6 : kO (cWo S7 (x0 + 12) w (some (kZ S))) (x0 + 12) = upo (kO S (x0 + 12)) w (some (kZ S)) := by rw [cWo_sO, kO_sO, d12.2.2.2.2.2]
    have v6' : kO (cWo S7 (x0 + 12) w (some (kZ S))) (x0 + 12) w = some (kZ S) := by rw [v6]; unfold upo; rw [if_pos rfl]
    rw [tail _ (kZ S) v1 v2 v3 v4 v5 v6']
    have hfw : upd2 fa w (kZ S) w = kZ S := by unfold upd2; rw [if_pos rfl]
    have hfo : ∀ i, i ≠ w → upd2 fa w (kZ S) i = fa i := fun i hi => by unfold upd2; rw [if_neg hi]
    generalize hS2 : cPi (cWo S7 (x0 + 12) w (some (kZ S))) (x0 + 11) 0 (Int32.ofNat (w + 1)) = S2
    have kk : ∀ a, kK S2 a = kK S7 a ∧ kL S2 a = kL S7 a ∧ kR S2 a = kR S7 a := fun a => by rw [← hS2]; exact ⟨rfl, rfl, rfl⟩
    have kz : kZ S2 = kZ S7 := by rw [← hS2]; rfl
    refine ⟨S2, fun a => if a < kZ S then ro a else kZ S, upd2 fa w (kZ S), w + 1, by rw [hfw], ⟨⟨by rw [← hS2]; exact v1, by rw [← hS2]; exact v2, by rw [← hS2]; exact v3, by rw [← hS2]; exact v4⟩, by omega, fun i hi => ?_, fun i h1 h2 => ?_, fun i i' hi hi' he => ?_, fun i hi => ?_⟩, Nat.le_refl _, fun a ha => ?_, by rw [kz]; omega, fun i => by rw [← hS2]; show kT S7 i = _; rw [i4]; exact w4 i, hfo, fun a ha => if_pos ha, ?_⟩
    · rw [← hS2]; show kO (cWo S7 (x0 + 12) w (some (kZ S))) (x0 + 12) i = _
      rw [v6]
      by_cases e : i = w
      · subst e; rw [hfw]; unfold upo; rw [if_pos rfl]
      · rw [hfo i e]; unfold upo; rw [if_neg e]; exact g4 i (by omega)
    · rw [← hS2]; show kO (cWo S7 (x0 + 12) w (some (kZ S))) (x0 + 12) i = _
      rw [v6]; unfold upo; rw [if_neg (by omega)]; exact g5 i (by omega) h2
    · by_cases e : i = w
      · by_cases e' : i' = w
        · rw [e, e']
        · rw [e, hfw, hfo i' e'] at he
          obtain ⟨-, wa, ta, -, -, -, -, y6, -⟩ := g7 i' (by omega)
          omega
      · by_cases e' : i' = w
        · rw [e', hfw, hfo i e] at he
          obtain ⟨-, wa, ta, -, -, -, -, y6, -⟩ := g7 i (by omega)
          omega
        · rw [hfo i e, hfo i' e'] at he
          exact g6 i i' (by omega) (by omega) he
    · by_cases e : i = w
      · subst e
        rw [hfw]
        refine ⟨hz, kZ S + 4, kZ S + 5, ?_, fun c hc => if_neg (by omega), if_neg (by omega), if_neg (by omega), by rw [kz]; omega, by omega, by rw [kz]; omega, by omega, by rw [kz]; omega, by omega, by omega⟩
        unfold fLy
        simp only [(kk _).1, (kk _).2.1, (kk _).2.2]
        exact i5
      · rw [hfo i e]
        obtain ⟨y1, wa, ta, y2, y3, y4, y5, y6, y7, y8, y9, y10, y11, y12⟩ := g7 i (by omega)
        have d0 := c57 (fa i) (by omega)
        have d1 := c57 (fa i + 1) (by omega)
        have d2 := c57 (fa i + 2) (by omega)
        have d3 := c57 (fa i + 3) (by omega)
        have dw := c57 wa y8
        have dt := c57 ta y10
        refine ⟨y1, wa, ta, ?_, fun c hc => (if_pos (by omega)).trans (y3 c hc), (if_pos y8).trans y4, (if_pos y10).trans y5, by rw [kz]; omega, y7, by rw [kz]; omega, y9, by rw [kz]; omega, y11, y12⟩
        unfold fLy
        simp only [(kk _).1, (kk _).2.1, (kk _).2.2]
        rw [d0.1, d0.2.2.2.1, d1.1, d1.2.1, d2.1, d2.2.1, d3.1, d3.2.1, dw.1, dw.2.1, dt.1, dt.2.1]; exact y2
    · have q := c57 a ha.1
      rw [← hS2]
      refine ⟨q.1, q.2.1, ?_, q.2.2.2.1, q.2.2.2.2.1, ?_⟩
      · rw [fPo _ _ _ ha.2.1]; exact q.2.2.1
      · show kO (cWo S7 (x0 + 12) w (some (kZ S))) a = _
        rw [cWo_sO, kO_sOo _ _ ha.2.2]; exact q.2.2.2.2.2
    · rw [← hS2, fP]
      show upd (kF S7 (x0 + 11)) 0 _ = _
      rw [d11.2.2.1]
end V
