-- part 148: both walk along two texts and make rows
section V
variable {S S' : cSt} {C M' A : mSt} {mkO : Nat → Option Nat} {Wt : Nat → List Nat} {fa : Nat → Nat} {x0 n k j0 tb : Nat} {rr tt : Nat → Nat} {X Y : List Int32} {o p : Int32}
/-- what holds while rows are made -/
def jwI (x0 k n j0 : Nat) (o p : Int32) (mkO : Nat → Option Nat) (Wt : Nat → List Nat) (fa : Nat → Nat) (tb : Nat) (rr tt : Nat → Nat) (X Y : List Int32) (S : cSt) (C : mSt) (last : Int32) : Prop :=
  ∃ ra sl L ro, Ib x0 k S C ra sl mkO L Wt ro fa ∧ cmS S (x0 + 13) tb (x0 + 2) rr X Y ∧ (∀ i' j', i' ≤ X.length → j' ≤ Y.length → kI S tb (i' * (Y.length + 1) + j') = Int32.ofNat (cmn X Y i' j')) ∧ ((tb = x0 + 18 ∨ x0 + 133 ≤ tb) ∧ tb < kZ S) ∧ wkS C tt X Y ∧
  (∀ i, i < X.length → kF S (rr i) 11 = Int32.ofNat (rNm (tt i)) ∧ x0 + 133 ≤ rr i ∧ rr i < kZ S ∧ tt i ∈ L n ∧ C.2 9 (tt i) = 9 ∧ C.2 10 (tt i) = o ∧ C.2 11 (tt i) = p) ∧ (kF S (x0 + 19) 1 = Int32.ofNat j0 ∧ kF S (x0 + 19) 2 = o ∧ kF S (x0 + 19) 3 = p) ∧
  (∃ m kd p', kd < 8 ∧ mkO j0 = some m ∧ m ∈ L n ∧ C.2 12 m = Int32.ofNat kd ∧ o = Int32.ofNat (rNm m) ∧ p' < 6 ∧ p = Int32.ofNat p' ∧ C.2 6 (6 * kd + p') = 84) ∧ (last = 0 ∨ ∃ t, t ∈ L n ∧ C.2 9 t = 9 ∧ C.2 10 t = o ∧ C.2 11 t = p ∧ last = Int32.ofNat (rNm t))
theorem jw_keep {last : Int32} (h : jwI x0 k n j0 o p mkO Wt fa tb rr tt X Y S C last) {i : Nat} (hi : i < X.length) : jwI x0 k n j0 o p mkO Wt fa tb rr tt X Y S C (Int32.ofNat (rNm (tt i))) := by
  obtain ⟨ra, sl, L, ro, h1, h2, h3, h4, h5, h6, h7, h8, -⟩ := h
  obtain ⟨-, -, -, a1, a2, a3, a4⟩ := h6 i hi
  exact ⟨ra, sl, L, ro, h1, h2, h3, h4, h5, h6, h7, h8, Or.inr ⟨tt i, a1, a2, a3, a4, rfl⟩⟩
theorem jw_mk {last s v w : Int32} (h : jwI x0 k n j0 o p mkO Wt fa tb rr tt X Y S C last) (hk : k < 900) (hn : n < 4) (hm : mdN C n < 250) (hs : (s = 9 ∧ w = last) ∨ (s = 10 ∧ ∃ i, i < X.length ∧ w = Int32.ofNat (rNm (tt i)))) : ∃ S' C' a r, fk_7_make (cPi (cPi (cPi S (x0 + 19) 0 s) (x0 + 19) 4 v) (x0 + 19) 5 w) (sN x0 n) (x0 + 19) = some (some a, S') ∧ fm_make C (Int32.ofNat n) s o p v w = some (Int32.ofNat r, C') ∧ kK S' a = 9 ∧ kF S' a 11 = Int32.ofNat r ∧ jwI x0 k n j0 o p mkO Wt fa tb rr tt X Y S' C' last ∧ (s = 9 → jwI x0 k n j0 o p mkO Wt fa tb rr tt X Y S' C' (Int32.ofNat r)) ∧ mdN C' n = mdN C n + 1 := by
  obtain ⟨ra, sl, L, ro, h1, h2, h3, ⟨h4, h4'⟩, h5, h6, ⟨d1, d2, d3⟩, ⟨m, kd, p', q1, q2, q3, q4, q5, q6, q7, q8⟩, h9⟩ := h
  generalize hS16 : cPi (cPi (cPi S (x0 + 19) 0 s) (x0 + 19) 4 v) (x0 + 19) 5 w = S16
  have e16 : cEq (fun a => a = x0 + 19) S S16 := by rw [← hS16]; exact cEq_trans (cEq_cPi _ rfl) (cEq_trans (cEq_cPi _ rfl) (cEq_cPi _ rfl))
  have lk : lkE x0 S S16 := by rw [← hS16]; exact lkE_t (lkE_t (lkE_P _ _) (lkE_P _ _)) (lkE_P _ _)
  have f16 : kF S16 (x0 + 19) = upd (upd (upd (kF S (x0 + 19)) 0 s) 4 v) 5 w := by rw [← hS16, fP, fP, fP]
  have I16 : Ib x0 k S16 C ra sl mkO L Wt ro fa := Ib_l (M' := C) h1 hk (mEx_refl _ _) lk
  have hs0 : s ≠ 0 := by rcases hs with ⟨q, -⟩ | ⟨q, -⟩ <;> (rw [q]; decide)
  have hd : dOk C mkO n (L n) j0 s o p v w := by
    have ru : ruS s = 84 := by rcases hs with ⟨q, -⟩ | ⟨q, -⟩ <;> (rw [q]; decide)
    have n0 : ∀ x : Int32, x ≠ 9 → x ≠ 10 → s ≠ x := fun x h1 h2 q => by
      rcases hs with ⟨q', -⟩ | ⟨q', -⟩
      · exact h1 (q.symm.trans q')
      · exact h2 (q.symm.trans q')
    refine ⟨?_, fun q => absurd q hs0, fun q => ?_, fun _ => ⟨m, kd, q1, q2, q3, q4, q5, fun q => absurd (ru.symm.trans q) (by decide), fun _ => ⟨p', q6, q7, by rw [ru]; exact q8⟩⟩, fun q => absurd q (n0 6 (by decide) (by decide)), fun q => ?_, fun q => ?_, fun q => ?_, fun q => absurd q (n0 11 (by decide) (by decide))⟩
    · rcases hs with ⟨q, -⟩ | ⟨q, -⟩
      · exact ⟨9, by decide, q⟩
      · exact ⟨10, by decide, q⟩
    · unfold tuS at q
      rcases q with q | q
      · exact absurd q (n0 13 (by decide) (by decide))
      · exact absurd q (n0 14 (by decide) (by decide))
    · rcases q with q | q | q | q
      · exact absurd q (n0 7 (by decide) (by decide))
      · exact absurd q (n0 8 (by decide) (by decide))
      · exact absurd q (n0 15 (by decide) (by decide))
      · exact absurd q (n0 16 (by decide) (by decide))
    · rcases hs with ⟨-, q'⟩ | ⟨q', -⟩
      · rw [q']
        rcases h9 with h9 | ⟨t, t1, t2, t3, t4, t5⟩
        · exact Or.inl h9
        · exact Or.inr ⟨t, t1, t2, t3, t4, t5⟩
      · exact absurd (q.symm.trans q') (by decide)
    · rcases hs with ⟨q', -⟩ | ⟨-, i, hi, q'⟩
      · exact absurd (q.symm.trans q') (by decide)
      · obtain ⟨-, -, -, a1, a2, a3, a4⟩ := h6 i hi
        exact ⟨tt i, a1, a2, a3, a4, q'⟩
  obtain ⟨S', C', sl', ro', m1, m2, m3, m4, m5, m6, m7, m8, m9, m10, m11, m12, m13, m14, m15, m16⟩ := Ib_mk I16 hk hn hm hd hs0 ⟨by rw [f16, upd_o _ _ (by decide), upd_o _ _ (by decide), upd_s], by rw [f16, upd_o _ _ (by decide), upd_o _ _ (by decide), upd_o _ _ (by decide)]; exact d1, by rw [f16, upd_o _ _ (by decide), upd_o _ _ (by decide), upd_o _ _ (by decide)]; exact d2, by rw [f16, upd_o _ _ (by decide), upd_o _ _ (by decide), upd_o _ _ (by decide)]; exact d3, by rw [f16, upd_o _ _ (by decide), upd_s], by rw [f16, upd_s]⟩
  have hz16 : kZ S16 = kZ S := e16.2.2.1
  have hz0 := h1.1.2.2.2.1
  rw [hz16] at m6 m7
  have hcm : cSm (fun a => a < kZ S ∧ (a = x0 + 2 ∨ a = x0 + 13 ∨ a = x0 + 14 ∨ a = x0 + 18 ∨ x0 + 133 ≤ a)) S S' := cSm_trans (cSm_eq e16 (fun a ha q => by have q : a = x0 + 19 := q; omega)) (cSm_mono m6 (fun a ha q => by unfold wMk inAp sN at q; omega))
  have hnew : ¬ mde C (250 * n + mdN C n) := fun q => by
    have := q.2
    have e1 : rN (250 * n + mdN C n) = n := by unfold rN; omega
    rw [e1] at this
    unfold rM at this; omega
  have hmd : ∀ t, t ∈ L n → mde C t := fun t ht => cl_mem (h1.1.2.2.1 n hn).1.1.1.2.1 ht
  have old : ∀ t, t ∈ L n → C'.2 9 t = C.2 9 t ∧ C'.2 10 t = C.2 10 t ∧ C'.2 11 t = C.2 11 t ∧ C'.2 12 t = C.2 12 t := fun t ht => by
    obtain ⟨⟨a1, a2, a3, a4, -⟩, -⟩ := m12.1 t (fun q => hnew (q ▸ hmd t ht))
    exact ⟨a1, a2, a3, a4⟩
  have inL : ∀ t, t ∈ L n → t ∈ updL L n (L n ++ [250 * n + mdN C n]) n := fun t ht => by rw [updL_s]; exact List.mem_append_left _ ht
  have fm : ∀ i, ¬ ((7 ≤ i ∧ i ≤ 16) ∨ wAp i) → C'.2 i = C.2 i := fun i hi => (m10 i hi).2
  have mk : ∀ last', (last' = 0 ∨ ∃ t, t ∈ updL L n (L n ++ [250 * n + mdN C n]) n ∧ C'.2 9 t = 9 ∧ C'.2 10 t = o ∧ C'.2 11 t = p ∧ last' = Int32.ofNat (rNm t)) → jwI x0 k n j0 o p mkO Wt fa tb rr tt X Y S' C' last' := fun last' hl => by
    have dtb := hcm tb ⟨h4', by omega⟩
    refine ⟨_, sl', _, ro', m3, cmS_m h2 (cSm_mono hcm (fun a ha => ?_)), ?_, ⟨h4, by omega⟩, wkS_e h5 (fm 2 (by unfold wAp wMid; decide)) (fm 71 (by unfold wAp wMid; decide)) (fm 72 (by unfold wAp wMid; decide)) (fm 73 (by unfold wAp wMid; decide)), fun i hi => ?_, ?_, ⟨m, kd, p', q1, q2, inL m q3, by rw [(old m q3).2.2.2]; exact q4, q5, q6, q7, by rw [fm 6 (by unfold wAp wMid; decide)]; exact q8⟩, hl⟩
    · rcases ha with ha | ha | ha | ha | ⟨i, hi, ha⟩
      · omega
      · omega
      · omega
      · omega
      · obtain ⟨-, a1, a2, -⟩ := h6 i hi
        omega
    · rw [dtb.2.2.2.2.1]; exact h3
    · obtain ⟨a1, a2, a3, a4, a5, a6, a7⟩ := h6 i hi
      have dr := hcm (rr i) ⟨a3, by omega⟩
      obtain ⟨b1, b2', b3, -⟩ := old (tt i) a4
      rw [dr.2.2.1, b1, b2', b3]
      exact ⟨a1, a2, by omega, inL _ a4, a5, a6, a7⟩
    · rw [m8, f16, upd_o _ _ (by decide), upd_o _ _ (by decide), upd_o _ _ (by decide), upd_o _ _ (by decide), upd_o _ _ (by decide), upd_o _ _ (by decide), upd_o _ _ (by decide), upd_o _ _ (by decide), upd_o _ _ (by decide)]
      exact ⟨d1, d2, d3⟩
  refine ⟨S', C', kZ S16 + 1, rNm (250 * n + mdN C n), m1, m2, m5, m4, mk last ?_, fun hs9 => mk _ (Or.inr ⟨250 * n + mdN C n, by rw [updL_s]; simp, by rw [m14]; exact hs9, m15, m16, rfl⟩), m11⟩
  rcases h9 with h9 | ⟨t, t1, t2, t3, t4, t5⟩
  · exact Or.inl h9
  · obtain ⟨b1, b2', b3, -⟩ := old t t1
    exact Or.inr ⟨t, inL t t1, by rw [b1]; exact t2, by rw [b2']; exact t3, by rw [b3]; exact t4, t5⟩
end V
