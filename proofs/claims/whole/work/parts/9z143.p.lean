-- part 143: what two texts have in common; the table's cell
def lcs : List Int32 → List Int32 → Nat
  | [], _ => 0
  | _ :: _, [] => 0
  | x :: xs, y :: ys => if x = y then 1 + lcs xs ys else max (lcs xs (y :: ys)) (lcs (x :: xs) ys)
termination_by a b => a.length + b.length
theorem lcs_n (b : List Int32) : lcs [] b = 0 := by rw [lcs]
theorem lcs_z (a : List Int32) : lcs a [] = 0 := by cases a <;> rw [lcs]
theorem lcs_c (x y : Int32) (a b : List Int32) : lcs (x :: a) (y :: b) = if x = y then 1 + lcs a b else max (lcs a (y :: b)) (lcs (x :: a) b) := by rw [lcs]
theorem lcs_all : ∀ (k : Nat) (a b : List Int32), a.length + b.length ≤ k → (∀ x, lcs (x :: a) b ≤ 1 + lcs a b ∧ lcs a b ≤ lcs (x :: a) b) ∧ ∀ y, lcs a (y :: b) ≤ 1 + lcs a b ∧ lcs a b ≤ lcs a (y :: b) := by
  intro k
  induction k with
  | zero =>
    intro a b h
    have e1 : a = [] := List.length_eq_zero_iff.mp (by omega)
    have e2 : b = [] := List.length_eq_zero_iff.mp (by omega)
    subst e1; subst e2
    refine ⟨fun x => ?_, fun y => ?_⟩
    · rw [lcs_z, lcs_z]; omega
    · rw [lcs_n, lcs_n]; omega
  | succ k ih =>
    intro a b h
    refine ⟨fun x => ?_, fun y => ?_⟩
    · cases b with
      | nil => rw [lcs_z, lcs_z]; omega
      | cons y b =>
        rw [List.length_cons] at h
        rw [lcs_c]
        have h1 := (ih a b (by omega)).2 y
        have h2 := (ih a b (by omega)).1 x
        by_cases c : x = y
        · rw [if_pos c]; omega
        · rw [if_neg c]; omega
    · cases a with
      | nil => rw [lcs_n, lcs_n]; omega
      | cons x a =>
        rw [List.length_cons] at h
        rw [lcs_c]
        have h1 := (ih a b (by omega)).2 y
        have h2 := (ih a b (by omega)).1 x
        by_cases c : x = y
        · rw [if_pos c]; omega
        · rw [if_neg c]; omega
theorem lcs_le : ∀ (k : Nat) (a b : List Int32), a.length + b.length ≤ k → lcs a b ≤ b.length ∧ lcs a b ≤ a.length := by
  intro k
  induction k with
  | zero =>
    intro a b h
    have e1 : a = [] := List.length_eq_zero_iff.mp (by omega)
    subst e1
    rw [lcs_n]; omega
  | succ k ih =>
    intro a b h
    cases a with
    | nil => rw [lcs_n]; omega
    | cons x a =>
      cases b with
      | nil => rw [lcs_z]; omega
      | cons y b =>
        rw [List.length_cons, List.length_cons] at h
        have h1 := ih a b (by omega)
        have h2 := ih a (y :: b) (by rw [List.length_cons]; omega)
        have h3 := ih (x :: a) b (by rw [List.length_cons]; omega)
        rw [lcs_c, List.length_cons, List.length_cons]
        rw [List.length_cons] at h2 h3
        by_cases c : x = y
        · rw [if_pos c]; omega
        · rw [if_neg c]; omega
/-- what two texts have in common from two places on -/
def cmn (X Y : List Int32) (i j : Nat) : Nat := lcs (X.drop i) (Y.drop j)
theorem cmn_x {X Y : List Int32} {i j : Nat} (h : X.length ≤ i) : cmn X Y i j = 0 := by
  unfold cmn; rw [List.drop_of_length_le h, lcs_n]
theorem cmn_y {X Y : List Int32} {i j : Nat} (h : Y.length ≤ j) : cmn X Y i j = 0 := by
  unfold cmn; rw [List.drop_of_length_le h, lcs_z]
theorem cmn_c {X Y : List Int32} {i j : Nat} (hi : i < X.length) (hj : j < Y.length) : cmn X Y i j = if X[i] = Y[j] then 1 + cmn X Y (i + 1) (j + 1) else max (cmn X Y (i + 1) j) (cmn X Y i (j + 1)) := by
  unfold cmn
  rw [List.drop_eq_getElem_cons hi, List.drop_eq_getElem_cons hj, lcs_c]
theorem cmn_m {X Y : List Int32} {i j : Nat} (hi : i < X.length) (hj : j < Y.length) : cmn X Y (i + 1) j ≤ 1 + cmn X Y (i + 1) (j + 1) ∧ cmn X Y i (j + 1) ≤ 1 + cmn X Y (i + 1) (j + 1) := by
  unfold cmn
  have := lcs_all ((X.drop (i + 1)).length + (Y.drop (j + 1)).length) (X.drop (i + 1)) (Y.drop (j + 1)) (Nat.le_refl _)
  refine ⟨?_, ?_⟩
  · rw [List.drop_eq_getElem_cons hj]; exact (this.2 _).1
  · rw [List.drop_eq_getElem_cons hi]; exact (this.1 _).1
theorem cmn_le (X Y : List Int32) (i j : Nat) : cmn X Y i j ≤ Y.length - j ∧ cmn X Y i j ≤ X.length - i := by
  unfold cmn
  have := lcs_le _ (X.drop i) (Y.drop j) (Nat.le_refl _)
  rw [List.length_drop, List.length_drop] at this
  exact this
section V
variable {S S' : cSt} {M M' A : mSt} {ra : Nat → Nat} {sl : Nat → Int32} {mkO : Nat → Option Nat} {L Wt : Nat → List Nat} {ro ro' fa fa' : Nat → Nat} {x0 n k Bt Bt' nf w : Nat} {l : List Nat}
/-- all cells but the text's table -/
def tbP (x0 : Nat) (S : cSt) (ro : Nat → Nat) : Nat → Prop := fun a => a < kZ S ∧ a ≠ x0 + 13 ∧ a ≠ x0 + 18 ∧ (x0 + 133 ≤ a → ro a ≠ 2)
theorem lnS_tb (h : lnS x0 S ro fa nf) (hz0 : x0 + 133 ≤ kZ S) (c : cSm (tbP x0 S ro) S S') (hz : kZ S ≤ kZ S') (hro : ∀ a, a < kZ S → ro' a = ro a) : lnS x0 S' ro' fa nf := by
  obtain ⟨hs, g2, g4, g5, g6, g7⟩ := h
  have c11 := c (x0 + 11) ⟨by omega, by omega, by omega, fun q => by omega⟩
  have c12 := c (x0 + 12) ⟨by omega, by omega, by omega, fun q => by omega⟩
  refine ⟨⟨by rw [c11.1]; exact hs.1, by rw [c11.2.2.2.1]; exact hs.2.1, by rw [c12.1]; exact hs.2.2.1, by rw [c12.2.1]; exact hs.2.2.2⟩, g2, by rw [c12.2.2.2.2.2]; exact g4, by rw [c12.2.2.2.2.2]; exact g5, g6, fun i hi => ?_⟩
  obtain ⟨y1, wa, ta, y2, y3, y4, y5, y6, y7, y8, y9, y10, y11, y12⟩ := g7 i hi
  have d0 := c (fa i) ⟨by omega, by omega, by omega, fun _ => by have := y3 0 (by decide); rw [Nat.add_zero] at this; omega⟩
  have d1 := c (fa i + 1) ⟨by omega, by omega, by omega, fun _ => by rw [y3 1 (by decide)]; omega⟩
  have d2 := c (fa i + 2) ⟨by omega, by omega, by omega, fun _ => by rw [y3 2 (by decide)]; omega⟩
  have d3 := c (fa i + 3) ⟨by omega, by omega, by omega, fun _ => by rw [y3 3 (by decide)]; omega⟩
  have dw := c wa ⟨y8, by omega, by omega, fun _ => by rw [y4]; omega⟩
  have dt := c ta ⟨y10, by omega, by omega, fun _ => by rw [y5]; omega⟩
  refine ⟨y1, wa, ta, ?_, fun q hq => by rw [hro _ (by omega)]; exact y3 q hq, by rw [hro _ y8]; exact y4, by rw [hro _ y10]; exact y5, by omega, y7, by omega, y9, by omega, y11, y12⟩
  unfold fLy; rw [d0.1, d0.2.2.2.1, d1.1, d1.2.1, d2.1, d2.2.1, d3.1, d3.2.1, dw.1, dw.2.1, dt.1, dt.2.1]; exact y2
theorem lnF_tb (h : lnS x0 S ro fa nf) (hF : lnF S M ra mkO Bt fa w) (hw : w ≤ nf) (c : cSm (tbP x0 S ro) S S') : lnF S' M ra mkO Bt fa w := by
  intro i hi wa' ta' hL
  obtain ⟨hs, g2, g4, g5, g6, g7⟩ := h
  obtain ⟨y1, wa, ta, y2, y3, y4, y5, y6, y7, y8, y9, y10, y11, y12⟩ := g7 i (by omega)
  have d0 := c (fa i) ⟨by omega, by omega, by omega, fun _ => by have := y3 0 (by decide); rw [Nat.add_zero] at this; omega⟩
  have d1 := c (fa i + 1) ⟨by omega, by omega, by omega, fun _ => by rw [y3 1 (by decide)]; omega⟩
  have d2 := c (fa i + 2) ⟨by omega, by omega, by omega, fun _ => by rw [y3 2 (by decide)]; omega⟩
  have d3 := c (fa i + 3) ⟨by omega, by omega, by omega, fun _ => by rw [y3 3 (by decide)]; omega⟩
  have dw := c wa ⟨y8, by omega, by omega, fun _ => by rw [y4]; omega⟩
  have dt := c ta ⟨y10, by omega, by omega, fun _ => by rw [y5]; omega⟩
  have hL0 : fLy S' (fa i) wa ta := by
    unfold fLy; rw [d0.1, d0.2.2.2.1, d1.1, d1.2.1, d2.1, d2.2.1, d3.1, d3.2.1, dw.1, dw.2.1, dt.1, dt.2.1]; exact y2
  obtain ⟨rfl, rfl⟩ := fLy_u hL0 hL
  obtain ⟨z1, z2⟩ := hF i hi _ _ y2
  refine ⟨fCo_r (rEq_refl M) (Nat.le_refl _) d0.2.2.1 d1.2.2.2.2.1 d2.2.2.2.2.1 d3.2.2.2.2.2 z1, ?_⟩
  unfold fBy at z2 ⊢
  rw [d0.2.2.1, dw.2.2.2.2.1, dt.2.2.2.2.1, dw.2.1]
  exact z2
/-- the text's table changes -/
theorem Ib_tab (hI : Ib x0 k S M ra sl mkO L Wt ro fa) (c : cSm (tbP x0 S ro) S S') (hz : kZ S ≤ kZ S') (hT : ∀ i, kT S' i = kT S i) (hro : ∀ a, a < kZ S → ro' a = ro a) (hx : txI x0 S' ro') : Ib x0 k S' M ra sl mkO L Wt ro' fa := by
  obtain ⟨hc, hh, hkd, ht, -, hr, hl, hn⟩ := hI
  have hz0 := hc.2.2.2.1
  have lo : ∀ a, a < x0 + 133 → a ≠ x0 + 13 → a ≠ x0 + 18 → tbP x0 S ro a := fun a ha h1 h2 => ⟨by omega, h1, h2, fun q => by omega⟩
  have c1 : core x0 (1000 * k) S' M ra sl mkO L Wt := core_sm hc (cSm_mono c (fun a ha => by
    rcases ha with ha | ha | ⟨q, hq, ha⟩
    · exact lo a (by omega) (by omega) (by omega)
    · exact lo a (by omega) (by omega) (by omega)
    · have h1 := hc.2.2.2.2 q hq
      have h2 := hc.2.1.1.1.2.2.2.2.2 q hq
      obtain ⟨h3, h4⟩ := hr q hq
      refine ⟨by omega, by omega, by omega, fun _ => ?_⟩
      rcases ha with ha | ha
      · rw [ha, h3]; decide
      · rw [show a = ra q - 1 by omega, h4]; decide)) hz
  refine ⟨c1, ?_, kdI_g hkd (lvM_r (mEx_refl _ M)) (fun k hk => ⟨rfl, rfl⟩) (cSm_mono c (fun a ha => lo a (by omega) (by omega) (by omega))) (fun m _ h1 h2 => absurd h1 h2), ?_, hx, ?_, ?_, hn⟩
  · obtain ⟨h1, ⟨h2, h3⟩, ⟨h4, h5, h6⟩, ⟨h7, h8, h9, h10, h11⟩, b0, b1, ⟨t0, t1, t2, t3⟩, s0, s1⟩ := hh
    have c0 := c x0 (lo _ (by omega) (by omega) (by omega))
    have c10 := c (x0 + 10) (lo _ (by omega) (by omega) (by omega))
    have p0 := c (kT S 0) (lo _ (by omega) (by omega) (by omega))
    have p1 := c (kT S 1) (lo _ (by omega) (by omega) (by omega))
    have q0 := c b0 (lo _ (by omega) (by omega) (by omega))
    have q1 := c b1 (lo _ (by omega) (by omega) (by omega))
    have f19 := c (x0 + 19) (lo _ (by omega) (by omega) (by omega))
    have f20 := c (x0 + 20) (lo _ (by omega) (by omega) (by omega))
    have f21 := c (x0 + 21) (lo _ (by omega) (by omega) (by omega))
    refine ⟨by rw [c0.1, c0.2.2.2.1]; exact h1, ⟨by rw [c0.2.2.1]; exact h2, h3⟩, ⟨by rw [c10.1]; exact h4, by rw [c10.2.1]; exact h5, by rw [c10.2.2.2.2.2]; exact h6⟩, ⟨by rw [f19.1]; exact h7, by rw [f20.1]; exact h8, by rw [f20.2.1]; exact h9, by rw [f21.1]; exact h10, by rw [f21.2.1]; exact h11⟩, b0, b1, by rw [hT, hT]; exact ⟨t0, t1, t2, t3⟩, ?_, ?_⟩
    · unfold pStr; rw [hT, p0.1, q0.1, q0.2.1, p0.2.2.2.1, p0.2.2.1, q0.2.2.2.2.1]; exact s0
    · unfold pStr; rw [hT, p1.1, q1.1, q1.2.1, p1.2.2.2.1, p1.2.2.1, q1.2.2.2.2.1]; exact s1
  · obtain ⟨⟨h1, h2, h3⟩, h4, h5⟩ := ht
    have d126 := c (x0 + 126) (lo _ (by omega) (by omega) (by omega))
    have d127 := c (x0 + 127) (lo _ (by omega) (by omega) (by omega))
    have d0 := c (x0 + 128) (lo _ (by omega) (by omega) (by omega))
    have d1 := c (x0 + 128 + 1) (lo _ (by omega) (by omega) (by omega))
    have d2 := c (x0 + 128 + 2) (lo _ (by omega) (by omega) (by omega))
    have d3 := c (x0 + 128 + 3) (lo _ (by omega) (by omega) (by omega))
    have d4 := c (x0 + 128 + 4) (lo _ (by omega) (by omega) (by omega))
    refine ⟨⟨by rw [d126.1]; exact h1, by rw [d126.2.2.2.1]; exact h2, by rw [d126.2.2.2.1]; exact h3⟩, by rw [d127.1, d127.2.1]; exact h4, ?_⟩
    unfold vwA
    rw [d126.2.2.2.1, d0.1, d0.2.1, d1.1, d1.2.1, d2.1, d2.2.1, d3.1, d3.2.1, d4.1, d4.2.1]
    exact h5
  · intro q hq
    have h1 := hc.2.2.2.2 q hq
    rw [hro _ h1, hro _ (by omega)]
    exact hr q hq
  · obtain ⟨hf, nf, w, g1, g3, hS, hF⟩ := ln_to hl
    have c11 := c (x0 + 11) (lo _ (by omega) (by omega) (by omega))
    exact ln_of (nf := nf) (w := w) (by rw [c11.2.2.1]; exact hf) g1 g3 (lnS_tb hS hz0 c hz hro) (lnF_tb hS hF g1 c)
/-- a row made at both, with its names -/
theorem Ib_mk {j : Nat} {s o p v w : Int32} (hI : Ib x0 k S M ra sl mkO L Wt ro fa) (hk : k < 900) (hn : n < 4) (hm : mdN M n < 250) (hd : dOk M mkO n (L n) j s o p v w) (hs0 : s ≠ 0) (hdr : kF S (x0 + 19) 0 = s ∧ kF S (x0 + 19) 1 = Int32.ofNat j ∧ kF S (x0 + 19) 2 = o ∧ kF S (x0 + 19) 3 = p ∧ kF S (x0 + 19) 4 = v ∧ kF S (x0 + 19) 5 = w) : ∃ S' M' sl' ro', fk_7_make S (sN x0 n) (x0 + 19) = some (some (kZ S + 1), S') ∧ fm_make M (Int32.ofNat n) s o p v w = some (Int32.ofNat (rNm (250 * n + mdN M n)), M') ∧ Ib x0 k S' M' (upd2 ra (250 * n + mdN M n) (kZ S + 1)) sl' mkO (updL L n (L n ++ [250 * n + mdN M n])) Wt ro' fa ∧ kF S' (kZ S + 1) 11 = Int32.ofNat (rNm (250 * n + mdN M n)) ∧ kK S' (kZ S + 1) = 9 ∧ cSm (fun a => ¬ wMk x0 n (kZ S) a) S S' ∧ kZ S' = kZ S + 2 ∧ kF S' (x0 + 19) = kF S (x0 + 19) ∧ kK S' (x0 + 19) = kK S (x0 + 19) ∧ mEx (fun k => (7 ≤ k ∧ k ≤ 16) ∨ wAp k) M M' ∧ mdN M' n = mdN M n + 1 ∧ rOn (fun q => q ≠ 250 * n + mdN M n) M M' ∧ (∀ q, mde M' q ↔ mde M q ∨ q = 250 * n + mdN M n) ∧ (M'.2 9 (250 * n + mdN M n) = s ∧ M'.2 10 (250 * n + mdN M n) = o ∧ M'.2 11 (250 * n + mdN M n) = p) := by
  obtain ⟨hc, hh, hkd, ht, hx, hr, hl, hnu⟩ := hI
  obtain ⟨S', M', h1, h2, h3, h4, h5, h6, ⟨h7, h7a, h7b, h7c⟩, h8, h9, h10, e9, e12, e10, e11⟩ := make_both hc hn hm hd ⟨hh.2.2.2.1.1, hdr.1, fun _ => hdr.2.1, hdr.2.2⟩
  have hmkE : mkN2 mkO s j (250 * n + mdN M n) = mkO := by unfold mkN2; rw [if_neg hs0]
  rw [hmkE] at h3
  have hz := hc.2.2.2.1
  have hnew : ¬ mde M (250 * n + mdN M n) := fun q => by
    have := q.2
    have e1 : rN (250 * n + mdN M n) = n := by unfold rN; omega
    rw [e1] at this
    unfold rM at this; omega
  have hmd' : mde M' (250 * n + mdN M n) := (h8 _).mpr (Or.inr rfl)
  have hrow := (h3.2.1.1.2.2.1 _ hmd'.1 hmd').2
  have hra : upd2 ra (250 * n + mdN M n) (kZ S + 1) (250 * n + mdN M n) = kZ S + 1 := by unfold upd2; rw [if_pos rfl]
  rw [hra] at hrow
  obtain ⟨k9, hfl, ⟨-, -, k11, -⟩, -⟩ := id hrow
  refine ⟨S', M', upd sl (250 * n + mdN M n) (Int32.ofNat j), fun a => if a < kZ S then ro a else 1, h1, h2, ?_, k11, k9, h5, h6, h7c hs0, h7a, h4, h10, h9, h8, e9, e10, e11⟩
  have eM : lvM M M' := by
    refine ⟨trivial, fun q hq => (h8 q).mpr (Or.inl hq), fun q hq => ?_, fun q hq => ?_, fun i _ => by rw [h9.2.2]⟩
    · by_cases c : mdN M q ≤ mdN M' q
      · exact c
      · have hb := (hc.1.1.2.2.1 q hq).1
        have hq' : mde M (250 * q + (mdN M q - 1)) := by
          refine ⟨by omega, ?_⟩
          have e1 : rN (250 * q + (mdN M q - 1)) = q := by unfold rN; omega
          rw [e1]; unfold rM; omega
        have := ((h8 _).mpr (Or.inl hq')).2
        have e1 : rN (250 * q + (mdN M q - 1)) = q := by unfold rN; omega
        rw [e1] at this
        unfold rM at this; omega
    · exact h9.1 q (fun e => hnew (by rw [← e]; exact hq))
  have out : ∀ a, (a ≤ x0 ∨ (x0 + 1 ≤ a ∧ a ≤ x0 + 5) ∨ (x0 + 10 ≤ a ∧ a ≤ x0 + 18) ∨ a = x0 + 20 ∨ a = x0 + 21 ∨ (x0 + 126 ≤ a ∧ a < kZ S)) → ¬ wMk x0 n (kZ S) a := fun a ha q => by
    unfold wMk inAp sN at q; omega
  have eC : lvC x0 S S' := by
    refine ⟨fun a ha => h5 a (out a (by unfold kp at ha; omega)), fun a ha => ?_, (h5 (x0 + 13) (out _ (by omega))).2.2.2.1, fun j _ => by rw [(h5 (x0 + 126) (out _ (by omega))).2.2.2.1], h7, by omega⟩
    by_cases c : a = x0 + 19
    · subst c; exact ⟨h7a, h7b⟩
    · exact ⟨(h5 a (out a (by omega))).1, (h5 a (out a (by omega))).2.1⟩
  have hmm : ∀ j m, mkO j = some m → mde M m := fun j m hj => (hc.1.1.2.1.1 j m hj).2.1
  have eR : lvR M ra (upd2 ra (250 * n + mdN M n) (kZ S + 1)) mkO mkO := ⟨fun q hq => by unfold upd2; rw [if_neg (fun e => hnew (by rw [← e]; exact hq))], fun _ _ h => h, hmm⟩
  have fm : ∀ i, ¬ ((7 ≤ i ∧ i ≤ 16) ∨ wAp i) → M'.1 i = M.1 i ∧ M'.2 i = M.2 i := fun i hi => h4 i hi
  refine ⟨h3, hsI_g hh eC (fm 45 (by unfold wAp wMid; decide)).1, kdI_g hkd eM (fun i hi => fm i (by unfold wAp wMid; omega)) (fun a ha => h5 a (out a (by omega))) (fun m kd g1 g2 g3 g4 g5 kn g6 g7 => ?_), thI_g ht eC, txI_g hx eC (fun a ha => if_pos ha), ?_, lnI_g hl eM eR (fun i hi => fm i (by unfold wAp wMid; omega)) eC (fun a ha => h5 a (out a (by omega))) (fun a ha => if_pos ha) (Nat.le_refl _), nuI_g hnu eM eR (Nat.le_refl _) (fm 21 (by unfold wAp wMid; decide)).2 (fm 22 (by unfold wAp wMid; decide)).2 (fm 31 (by unfold wAp wMid; decide)).2⟩
  · have hm' : m = 250 * n + mdN M n := ((h8 m).mp g1).resolve_left g2
    subst hm'
    rw [e9] at g3
    exact absurd g3 hs0
  · intro q hq
    rcases (h8 q).mp hq with hq | hq
    · have e1 : upd2 ra (250 * n + mdN M n) (kZ S + 1) q = ra q := eR.1 q hq
      have hlt := hc.2.2.2.2 q hq
      show (if upd2 ra (250 * n + mdN M n) (kZ S + 1) q < kZ S then _ else 1) = 1 ∧ (if upd2 ra (250 * n + mdN M n) (kZ S + 1) q - 1 < kZ S then _ else 1) = 1
      rw [e1, if_pos hlt, if_pos (by omega)]
      exact hr q hq
    · subst hq
      show (if upd2 ra (250 * n + mdN M n) (kZ S + 1) (250 * n + mdN M n) < kZ S then _ else 1) = 1 ∧ (if upd2 ra (250 * n + mdN M n) (kZ S + 1) (250 * n + mdN M n) - 1 < kZ S then _ else 1) = 1
      rw [hra, if_neg (by omega), if_neg (by omega)]
      exact ⟨rfl, rfl⟩
end V
