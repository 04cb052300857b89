-- part 147: the class compares a text with the tape
section V
variable {S S' : cSt} {M M' A : mSt} {ra : Nat → Nat} {sl : Nat → Int32} {mkO : Nat → Option Nat} {L Wt : Nat → List Nat} {ro ro' fa fa' : Nat → Nat} {x0 n k Bt Bt' nf w tx tb pa : Nat} {l : List Nat} {rr : Nat → Nat} {X Y : List Int32}
theorem k_cmp50 (h : cmS S tx tb pa rr X Y) : ∃ f, fk_9_compare_50 S tx = some (sI S tb f) ∧ ∀ i' j', i' ≤ X.length → j' ≤ Y.length → f (i' * (Y.length + 1) + j') = Int32.ofNat (cmn X Y i' j') := by
  obtain ⟨⟨a1, a2, a3, a4, a5, a6⟩, -, ⟨b1, b2', b3⟩, -⟩ := id h
  obtain ⟨f, g1, g2⟩ := k_cmp56 h (X.length + 1) mFU (kI S tb) (Nat.le_refl _) (Nat.lt_of_le_of_lt (show X.length + 1 ≤ 1001 by omega) (by decide)) (fun i' j' x1 x2 x3 => absurd x3 (by omega))
  rw [jPre, sI_id] at g1
  unfold fk_9_compare_50
  rw [ckk_y a1, a3, lt_d]
  exact ⟨f, g1, g2⟩
/-- what stays of the comparison while other cells change -/
theorem cmS_m (h : cmS S tx tb pa rr X Y) (c : cSm (fun a => a = tx ∨ a = tx + 1 ∨ a = tb ∨ a = pa ∨ ∃ i, i < X.length ∧ a = rr i) S S') : cmS S' tx tb pa rr X Y := by
  obtain ⟨h1, h2, h3, h4, h5, h6⟩ := h
  have d0 := c tx (Or.inl rfl)
  have d1 := c (tx + 1) (Or.inr (Or.inl rfl))
  have d2 := c tb (Or.inr (Or.inr (Or.inl rfl)))
  have d3 := c pa (Or.inr (Or.inr (Or.inr (Or.inl rfl))))
  refine ⟨by rw [d0.1, d0.2.2.1, d0.2.2.2.1]; exact h1, by rw [d1.1, d1.2.1, d2.1, d2.2.1, d3.1, d3.2.1]; exact h2, by rw [d2.2.1]; exact h3, fun i hi => ?_, fun j hj => by rw [d3.2.2.2.2.1]; exact h5 j hj, h6⟩
  have d4 := c (rr i) (Or.inr (Or.inr (Or.inr (Or.inr ⟨i, hi, rfl⟩))))
  rw [d1.2.2.2.2.2, d4.1, d4.2.2.1]; exact h4 i hi
theorem k_compare (hI : Ib x0 k S M ra sl mkO L Wt ro fa) (hX : X.length ≤ 1000) (hY : Y.length ≤ 40) (h1 : kF S (x0 + 13) 1 = Int32.ofNat X.length) (hr : ∀ i (h : i < X.length), (kO S (x0 + 14) i = some (rr i) ∧ kK S (rr i) = 9 ∧ kF S (rr i) 4 = X[i]) ∧ x0 + 133 ≤ rr i ∧ rr i < kZ S ∧ ro (rr i) = 1) (hp : kK S (x0 + 2) = 22 ∧ kL S (x0 + 2) = 40 ∧ ∀ j (h : j < Y.length), kI S (x0 + 2) j = Y[j]) : ∃ S' ro' tb', fk_9_compare S (x0 + 13) (x0 + 2) (Int32.ofNat Y.length) = some S' ∧ Ib x0 k S' M ra sl mkO L Wt ro' fa ∧ cmS S' (x0 + 13) tb' (x0 + 2) rr X Y ∧ (∀ i' j', i' ≤ X.length → j' ≤ Y.length → kI S' tb' (i' * (Y.length + 1) + j') = Int32.ofNat (cmn X Y i' j')) ∧ ((tb' = x0 + 18 ∨ x0 + 133 ≤ tb') ∧ tb' < kZ S') ∧ cSm (tbP x0 S ro) S S' ∧ kZ S ≤ kZ S' := by
  obtain ⟨hc, hh, hkd, ht, htx, hro, hl, hn⟩ := id hI
  obtain ⟨hTA, tb, t1, t2, t3, t4, t5⟩ := id htx
  obtain ⟨⟨y1, y2, y3, y4, y5⟩, y6, y7, y8, y9, y10, y11⟩ := id hTA
  have hz := hc.2.2.2.1
  generalize hS2 : cPi (cPr S (x0 + 13) 5 (some (x0 + 2))) (x0 + 13) 6 (Int32.ofNat Y.length) = S2
  have e2 : cEq (fun a => a = x0 + 13) S S2 := by rw [← hS2]; exact cEq_trans (cEq_cPr _ rfl) (cEq_cPi _ rfl)
  have g6 : kF S2 (x0 + 13) 6 = Int32.ofNat Y.length := by rw [← hS2]; exact kF_cPi _ _ _ _
  have g1 : kF S2 (x0 + 13) 1 = Int32.ofNat X.length := by rw [← hS2, kF_cPo _ _ (by omega)]; exact h1
  have gR : ∀ j, j ≠ 5 → kR S2 (x0 + 13) j = kR S (x0 + 13) j := fun j hj => by
    rw [← hS2]
    show kR (cPr S (x0 + 13) 5 (some (x0 + 2))) (x0 + 13) j = _
    show up2 S.2.2.1 (x0 + 13) 5 (some (x0 + 2)) (x0 + 13) j = _
    unfold up2; rw [if_neg (fun q => hj q.2)]; rfl
  have g5 : kR S2 (x0 + 13) 5 = some (x0 + 2) := by
    rw [← hS2]; exact kR_cPr _ _ _ _
  have k10 : kK S2 (x0 + 13) = 10 := by rw [e2.1]; exact y1
  have k10' : kK (cPr S (x0 + 13) 5 (some (x0 + 2))) (x0 + 13) = 10 := y1
  have k21 : kK S2 tb = 21 := by rw [e2.1]; exact t2
  have l21 : kL S2 tb = kL S tb := e2.2.1 _
  have hb := (idx_lt (Nat.le_refl X.length) (Nat.le_refl Y.length) hX hY).2.1
  have ex3 : (Int32.ofNat X.length + 1) * (Int32.ofNat Y.length + 1) = Int32.ofNat ((X.length + 1) * (Y.length + 1)) := by
    rw [show Int32.ofNat X.length + 1 = Int32.ofNat (X.length + 1) from jI_add _ 1, show Int32.ofNat Y.length + 1 = Int32.ofNat (Y.length + 1) from jI_add _ 1, jI_mul]
  have htb : tb ≠ x0 + 2 := by omega
  have z2 := e2.2.2.2.2 (x0 + 2) (by omega)
  have z14 := e2.2.2.2.2 (x0 + 14) (by omega)
  have rows2 : ∀ i (h : i < X.length), kO S2 (x0 + 13 + 1) i = some (rr i) ∧ kK S2 (rr i) = 9 ∧ kF S2 (rr i) 4 = X[i] := fun i hi => by
    obtain ⟨⟨q1, q2, q3⟩, q4, -⟩ := hr i hi
    rw [show x0 + 13 + 1 = x0 + 14 from rfl, z14.2.2.2, e2.1, (e2.2.2.2.2 (rr i) (by omega)).1]; exact ⟨q1, q2, q3⟩
  unfold fk_9_compare
  rw [ckk_y y1, lt_d, ckk_y k10', lt_d, hS2, ckk_y k10, ckk_y k10, g1, g6, ex3, lt_d, ckk_y k10, gR 7 (by decide), t1, bd_s, ckk_y k21]
  by_cases c : (X.length + 1) * (Y.length + 1) ≤ kL S tb
  · rw [l21, if_pos ((jI_le (by omega) (by omega)).mpr c)]
    have hcm : cmS S2 (x0 + 13) tb (x0 + 2) rr X Y := ⟨⟨k10, by rw [gR 0 (by decide)]; exact y2, g1, g5, g6, by rw [gR 7 (by decide)]; exact t1⟩, ⟨by rw [e2.1]; exact y6, by rw [e2.2.1]; exact y7, k21, by rw [l21]; exact c, by rw [e2.1]; exact hp.1, by rw [e2.2.1]; exact hp.2.1⟩, ⟨hX, hY, by rw [l21]; omega⟩, rows2, fun j hj => by rw [z2.2.2.1]; exact hp.2.2 j hj, htb⟩
    obtain ⟨f, f1, f2⟩ := k_cmp50 hcm
    have eF : cEq (fun a => a = tb) S2 (sI S2 tb f) := cEq_sI _ rfl
    have hsm : cSm (tbP x0 S ro) S (sI S2 tb f) := cSm_trans (cSm_eq e2 (fun a ha q => ha.2.1 q)) (cSm_eq eF (fun a ha q => by
      have q : a = tb := q
      subst q
      rcases t5 with t5 | ⟨t5, t6⟩
      · exact ha.2.2.1 t5
      · exact ha.2.2.2 t5 t6))
    have hRf : kR (sI S2 tb f) (x0 + 13) = kR S2 (x0 + 13) := rfl
    have hxx : txI x0 (sI S2 tb f) ro := by
      refine ⟨?_, tb, by rw [hRf, gR 7 (by decide)]; exact t1, k21, by show kL S2 tb ≤ _; rw [l21]; exact t3, by show tb < kZ S2; rw [e2.2.2.1]; exact t4, t5⟩
      unfold txA
      rw [hRf, gR 0 (by decide), gR 2 (by decide), gR 3 (by decide), gR 4 (by decide)]
      have hk : ∀ a, kK (sI S2 tb f) a = kK S a := fun a => e2.1 a
      have hl' : ∀ a, kL (sI S2 tb f) a = kL S a := fun a => e2.2.1 a
      simp only [hk, hl']
      exact hTA
    refine ⟨_, ro, tb, f1, Ib_tab hI hsm (by show kZ S ≤ kZ S2; rw [e2.2.2.1]; exact Nat.le_refl _) (fun i => e2.2.2.2.1 i) (fun _ _ => rfl) hxx, cmS_t hcm f, fun i' j' x1 x2 => by rw [kI_sI]; exact f2 i' j' x1 x2, ⟨?_, ?_⟩, hsm, ?_⟩
    · rcases t5 with t5 | t5
      · exact Or.inl t5
      · exact Or.inr t5.1
    · show tb < kZ S2; rw [e2.2.2.1]; exact t4
    · show kZ S ≤ kZ S2; rw [e2.2.2.1]; exact Nat.le_refl _
  · rw [l21, if_neg (fun q => c ((jI_le (by omega) (by omega)).mp q)), ckk_y k10, bd_s, ckk_y k21]
    have e2N : (2 : Int32) * Int32.ofNat (kL S tb) = Int32.ofNat (2 * kL S tb) := jI_mul 2 _
    obtain ⟨sz, s1, s2, s3⟩ : ∃ sz, (if Int32.ofNat ((X.length + 1) * (Y.length + 1)) < (2 : Int32) * Int32.ofNat (kL S tb) then (2 : Int32) * Int32.ofNat (kL S tb) else Int32.ofNat ((X.length + 1) * (Y.length + 1))) = Int32.ofNat sz ∧ (X.length + 1) * (Y.length + 1) ≤ sz ∧ sz ≤ 82082 := by
      rw [e2N]
      by_cases d : (X.length + 1) * (Y.length + 1) < 2 * kL S tb
      · rw [if_pos ((jI_lt (by omega) (by omega)).mpr d)]; exact ⟨_, rfl, by omega, by omega⟩
      · rw [if_neg (fun q => d ((jI_lt (by omega) (by omega)).mp q))]; exact ⟨_, rfl, by omega, by omega⟩
    rw [l21, s1, ckp_y ⟨jI_nn (by omega), by rw [jI_cl (by omega)]; exact s3⟩, lt_d, lt_d, jI_cl (by omega)]
    have hz2 : kZ S2 = kZ S := e2.2.2.1
    obtain ⟨w1, w2, w3, w4, w5, w6, w7, w8⟩ := nw_at S2 21 sz
    have wsm := nw_sm S2 21 sz
    rw [hz2] at w1 w2 w3 wsm
    generalize hS7 : cNw S2 21 sz = S7 at *
    have d13 := wsm (x0 + 13) (by omega)
    have k7 : kK S7 (x0 + 13) = 10 := by rw [d13.1]; exact k10
    rw [hz2, ckk_y k7, lt_d]
    generalize hS10 : cPr S7 (x0 + 13) 7 (some (kZ S)) = S10
    have e10 : cEq (fun a => a = x0 + 13) S7 S10 := by rw [← hS10]; exact cEq_cPr _ rfl
    have q7 : kR S10 (x0 + 13) 7 = some (kZ S) := by rw [← hS10]; exact kR_cPr _ _ _ _
    have qR : ∀ j, j ≠ 7 → kR S10 (x0 + 13) j = kR S2 (x0 + 13) j := fun j hj => by
      rw [← hS10, ← d13.2.2.2.1]
      show up2 S7.2.2.1 (x0 + 13) 7 (some (kZ S)) (x0 + 13) j = _
      unfold up2; rw [if_neg (fun q => hj q.2)]; rfl
    have qF : kF S10 (x0 + 13) = kF S2 (x0 + 13) := by rw [← hS10, ← d13.2.2.1]; rfl
    have hk : ∀ a, a < kZ S → kK S10 a = kK S a ∧ kL S10 a = kL S a := fun a ha => by
      have := wsm a (by omega)
      exact ⟨by rw [e10.1, this.1, e2.1], by rw [e10.2.1, this.2.1, e2.2.1]⟩
    have s210 : cSm (fun a => a < kZ S ∧ a ≠ x0 + 13) S2 S10 := cSm_trans (cSm_mono wsm (fun a ha => by omega)) (cSm_eq e10 (fun a ha => ha.2))
    have kz10 : kK S10 (kZ S) = 21 ∧ kL S10 (kZ S) = sz := ⟨by rw [e10.1]; exact w1, by rw [e10.2.1]; exact w2⟩
    have kZ10 : kZ S10 = kZ S + 1 := by rw [e10.2.2.1]; exact w3
    have x2 := s210 (x0 + 2) ⟨by omega, by omega⟩
    have x14 := s210 (x0 + 14) ⟨by omega, by omega⟩
    have hcm : cmS S10 (x0 + 13) (kZ S) (x0 + 2) rr X Y := by
      refine ⟨⟨by rw [e10.1]; exact k7, by rw [qR 0 (by decide), gR 0 (by decide)]; exact y2, by rw [qF]; exact g1, by rw [qR 5 (by decide)]; exact g5, by rw [qF]; exact g6, q7⟩, ⟨by rw [(hk (x0 + 13 + 1) (by omega)).1]; exact y6, by rw [(hk (x0 + 13 + 1) (by omega)).2]; exact y7, kz10.1, by rw [kz10.2]; exact s2, by rw [(hk _ (by omega)).1]; exact hp.1, by rw [(hk _ (by omega)).2]; exact hp.2.1⟩, ⟨hX, hY, by rw [kz10.2]; omega⟩, fun i hi => ?_, fun j hj => by rw [x2.2.2.2.2.1, z2.2.2.1]; exact hp.2.2 j hj, by omega⟩
      obtain ⟨-, q4, q5, -⟩ := hr i hi
      have xr := s210 (rr i) ⟨q5, by omega⟩
      rw [show x0 + 13 + 1 = x0 + 14 from rfl, x14.2.2.2.2.2, xr.1, xr.2.2.1]
      exact rows2 i hi
    obtain ⟨f, f1, f2⟩ := k_cmp50 hcm
    have eF : cEq (fun a => a = kZ S) S10 (sI S10 (kZ S) f) := cEq_sI _ rfl
    have hsm : cSm (tbP x0 S ro) S (sI S10 (kZ S) f) := cSm_trans (cSm_eq e2 (fun a ha q => ha.2.1 q)) (cSm_trans (cSm_mono s210 (fun a ha => ⟨ha.1, ha.2.1⟩)) (cSm_eq eF (fun a ha q => by have := ha.1; omega)))
    have hRf : kR (sI S10 (kZ S) f) (x0 + 13) = kR S10 (x0 + 13) := rfl
    have hxx : txI x0 (sI S10 (kZ S) f) (fun a => if a = kZ S then 2 else ro a) := by
      refine ⟨?_, kZ S, by rw [hRf]; exact q7, kz10.1, by show kL S10 (kZ S) ≤ _; rw [kz10.2]; exact s3, by show kZ S < kZ S10; rw [kZ10]; omega, Or.inr ⟨hz, if_pos rfl⟩⟩
      unfold txA
      rw [hRf, qR 0 (by decide), qR 2 (by decide), qR 3 (by decide), qR 4 (by decide), gR 0 (by decide), gR 2 (by decide), gR 3 (by decide), gR 4 (by decide)]
      have hk' : ∀ a, a < kZ S → kK (sI S10 (kZ S) f) a = kK S a ∧ kL (sI S10 (kZ S) f) a = kL S a := hk
      rw [(hk' (x0 + 13) (by omega)).1, (hk' (x0 + 13 + 1) (by omega)).1, (hk' (x0 + 13 + 1) (by omega)).2, (hk' (x0 + 13 + 2) (by omega)).1, (hk' (x0 + 13 + 2) (by omega)).2, (hk' (x0 + 13 + 3) (by omega)).1, (hk' (x0 + 13 + 3) (by omega)).2]
      exact hTA
    refine ⟨_, _, kZ S, f1, Ib_tab hI hsm (by show kZ S ≤ kZ S10; rw [kZ10]; omega) (fun i => by show kT S10 i = kT S i; rw [e10.2.2.2.1, w4, e2.2.2.2.1]) (fun a ha => if_neg (by omega)) hxx, cmS_t hcm f, fun i' j' x1 x2 => by rw [kI_sI]; exact f2 i' j' x1 x2, ⟨Or.inr hz, by show kZ S < kZ S10; rw [kZ10]; omega⟩, hsm, by show kZ S ≤ kZ S10; rw [kZ10]; omega⟩
end V
