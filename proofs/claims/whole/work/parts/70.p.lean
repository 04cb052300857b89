-- part 70: a row made at both
def upd2 (f : Nat → Nat) (i x : Nat) : Nat → Nat := fun j => if j = i then x else f j
theorem upd2_s (f : Nat → Nat) (i x : Nat) : upd2 f i x i = x := by simp [upd2]
theorem upd2_o (f : Nat → Nat) {i j : Nat} (x : Nat) (h : j ≠ i) : upd2 f i x j = f j := by simp [upd2, h]
section B
variable {S : cSt} {M M1 : mSt} {ra : Nat → Nat} {sl : Nat → Int32} {mkO : Nat → Option Nat} {L Wt : Nat → List Nat} {x0 Bt n j : Nat} {l : List Nat} {s o p v w : Int32}
theorem own_known (hA : rA M mkO sl) (hn : n < 4) (hN : nM M mkO sl n l) (hown : ∀ q, mde M q → rN q = n → q ∈ l) : M.2 20 (4 * n + n) = Int32.ofNat (mdN M n) := by
  obtain ⟨x, x1, x2⟩ := hN.2.2.2.1 n hn
  have hm := (hA.2.2.1 n hn).1
  rw [x2]
  congr 1
  refine Nat.le_antisymm x1 ?_
  rcases Nat.eq_zero_or_pos (mdN M n) with h0 | h0
  · omega
  · generalize hr : 250 * n + mdN M n - 1 = r
    have hqn : rN r = n := by unfold rN; omega
    have hqm : rM r = mdN M n := by unfold rM; omega
    have hq : mde M r := ⟨by omega, by rw [hqn, hqm]; exact Nat.le_refl _⟩
    have h1 := (hN.2.1.2 r hq.1).mpr (hown _ hq hqn)
    rw [hqn, hqm, x2, jI_le (by omega) (by omega)] at h1
    exact h1
theorem cl_on {P : Nat → Prop} (hc : cl M l) (e : rOn P M M1) (hl : ∀ q ∈ l, P q) (hmd : ∀ q, mde M q → mde M1 q) (hnew : ∀ q t, mde M q → mde M1 t → kn M1 q t → mde M t ∧ kn M q t) : cl M1 l := by
  intro i hi
  obtain ⟨h1, h2, h3⟩ := hc i hi
  refine ⟨hmd _ h1, h2, fun t ht hk => ?_⟩
  obtain ⟨a, b⟩ := hnew _ t h1 ht hk
  exact h3 t a b
/-- the nodes of the reference, with a new row -/
theorem nM_new {mkO' : Nat → Option Nat} {sl' : Nat → Int32} {n' : Nat} {t c : Int32} (hA1 : rA M1 mkO' sl') (hN : nM M mkO sl n' l) (hn : n < 4) (hm : mdN M n < 250) (hA : rA M mkO sl) (e : nwE M n (250 * n + mdN M n) s o p v w t c M1) : nM M1 mkO' sl' n' l := by
  obtain ⟨⟨h1, h2, h3, h4⟩, h5, h6, h7, T, C, g1, g2, g3, g4, g5, g6⟩ := hN
  have hon := new_on hm e
  have hnm := new_nm (M := M) (n := n) hm
  have hne : ∀ q, mde M q → q ≠ 250 * n + mdN M n := fun q hq h => hnm (h ▸ hq)
  have f : ∀ k, k < 7 ∨ 16 < k → M1.2 k = M.2 k := fun k hk => (e.2.2.2.2 k (by omega)).2
  have hts : ∀ r ∈ l, tS M1 r = tS M r := fun r hr => by
    obtain ⟨⟨_, _, _, _, _, e14, e15⟩, _⟩ := hon.1 r (hne r (cl_mem h2 hr))
    unfold tS; rw [e14, e15]
  refine ⟨⟨hA1, cl_on h2 hon (fun q hq => hne q (cl_mem h2 hq)) (fun q hq => (new_mde hn hm e).mpr (Or.inl hq)) (fun q t hq ht hk => ?_), ?_, ?_⟩, ?_, ?_, fun q hq => ?_, T, C, by rw [f 18 (by omega)]; exact g1, by rw [f 19 (by omega)]; exact g2, g3, g4, fun r hr => by rw [hts r hr]; exact g5 r hr, ?_⟩
  · rcases (new_mde hn hm e).mp ht with h | h
    · exact ⟨h, (new_kn hA hn hm e hq h.1).mp hk⟩
    · subst h
      exact absurd ((new_kn hA hn hm e hq (by omega)).mp hk) (new_not hA hn hm hq)
  · unfold lAt; rw [f 24 (by omega)]; exact h3
  · rw [f 23 (by omega)]; exact h4
  · unfold knL; rw [f 20 (by omega)]; exact h5
  · unfold lsM; rw [f 32 (by omega), f 33 (by omega), f 34 (by omega), f 6 (by omega)]; exact h6
  · obtain ⟨x, x1, x2⟩ := h7 q hq
    refine ⟨x, ?_, by rw [f 20 (by omega)]; exact x2⟩
    rw [new_mdN hm e]
    by_cases h : q = n
    · rw [if_pos h]; rw [h] at x1; omega
    · rw [if_neg h]; exact x1
  · rcases g6 with h | ⟨r, r1, r2⟩
    · exact Or.inl h
    · exact Or.inr ⟨r, r1, by rw [hts r r1]; exact r2⟩
theorem new_nEq2 {t c : Int32} (hm : mdN M n < 250) (e : nwE M n (250 * n + mdN M n) s o p v w t c M1) (n' : Nat) : nEq2 (fun q => q ≠ 250 * n + mdN M n) M M1 n' := by
  have f : ∀ k, k < 7 ∨ 16 < k → M1.2 k = M.2 k := fun k hk => (e.2.2.2.2 k (by omega)).2
  refine ⟨new_on hm e, ?_, fun q _ => ⟨?_, ?_, ?_, ?_, ?_, ?_⟩, fun k _ => ⟨?_, ?_, ?_⟩, fun i _ => ?_, fun i _ => ?_, ⟨?_, fun k _ => ⟨?_, ?_, ?_⟩⟩, ⟨?_, fun k _ => ⟨?_, ?_, ?_, ?_⟩⟩⟩
  · rintro k (h | h | h | h | h) <;> rw [f k (by omega)]
  all_goals rw [f _ (by omega)]
end B
section B2
variable {S : cSt} {M : mSt} {ra : Nat → Nat} {sl : Nat → Int32} {mkO : Nat → Option Nat} {L Wt : Nat → List Nat} {x0 Bt n j : Nat} {s o p v w : Int32}
theorem ra_gt (h : core x0 Bt S M ra sl mkO L Wt) {r : Nat} (hr : mde M r) : x0 + 133 < ra r ∧ ra r < kZ S := ⟨h.2.1.1.1.2.2.2.2.2 r hr, h.2.2.2.2 r hr⟩
set_option maxHeartbeats 4000000 in
/-- up to the applying -/
theorem mk_pre (h : core x0 Bt S M ra sl mkO L Wt) (hn : n < 4) (hm : mdN M n < 250) (hd : dOk M mkO n (L n) j s o p v w) (hdr : kK S (x0 + 19) = 2 ∧ kF S (x0 + 19) 0 = s ∧ (s ≠ 0 → kF S (x0 + 19) 1 = Int32.ofNat j) ∧ kF S (x0 + 19) 2 = o ∧ kF S (x0 + 19) 3 = p ∧ kF S (x0 + 19) 4 = v ∧ kF S (x0 + 19) 5 = w) {M1 : mSt} (e : nwE M n (250 * n + mdN M n) s o p v w (nwT M n) (stM M n) M1) (hA1 : rA M1 (mkN2 mkO s j (250 * n + mdN M n)) (upd sl (250 * n + mdN M n) (Int32.ofNat j))) : ∃ S10, fk_7_make S (sN x0 n) (x0 + 19) = (bd (fk_7_apply S10 (sN x0 n) (kZ S + 1)) fun S11 => some (some (kZ S + 1), S11)) ∧ cSm (fun a => ¬ wMk x0 n (kZ S) a ∨ inAp (sN x0 n) a) S S10 ∧ kZ S10 = kZ S + 2 ∧ ((∀ i, kT S10 i = kT S i) ∧ kK S10 (x0 + 19) = kK S (x0 + 19) ∧ kL S10 (x0 + 19) = kL S (x0 + 19) ∧ (s ≠ 0 → kF S10 (x0 + 19) = kF S (x0 + 19))) ∧ cBk M1 (upd2 ra (250 * n + mdN M n) (kZ S + 1)) (upd sl (250 * n + mdN M n) (Int32.ofNat j)) (chF M1 (upd sl (250 * n + mdN M n) (Int32.ofNat j))) (mde M1) (mkN2 mkO s j (250 * n + mdN M n)) S10 (x0 + 5) ∧ ∀ n', n' < 4 → kI S10 (x0 + 8) n' = M1.2 7 n' ∧ kI S10 (x0 + 9) n' = M1.2 8 n' := by
  obtain ⟨⟨hA, hsl, htb, -⟩, ⟨hB, hBa⟩, hN, hz, hra⟩ := id h
  obtain ⟨⟨hnM, hnC⟩, -, hown⟩ := hN n hn
  obtain ⟨dk, ds, dj, do', dp, dv, dw⟩ := hdr
  have hok := own_known hA hn hnM hown
  have hrN := rN_new (M := M) (n := n) hm
  have hrM := rM_new (M := M) (n := n) hm
  have hr1 : 250 * n + mdN M n < 1000 := by omega
  have hnm := new_nm (M := M) (n := n) hm
  have hon := new_on hm e
  have hmde := fun q => new_mde (q := q) hn hm e
  generalize hr : 250 * n + mdN M n = r at *
  have hb : x0 + 22 ≤ sN x0 n ∧ sN x0 n + 26 ≤ x0 + 126 := by unfold sN; omega
  generalize hnd : sN x0 n = nd at *
  obtain ⟨⟨cy, cv, cls⟩, -, -, ⟨f8, f9, f10⟩, fseen, -, -⟩ := hnC
  rw [hnd] at cy cv cls f8 f9 f10 fseen
  -- the slot in the draft
  have hS0 : ∃ S0, fk_7_make S nd (x0 + 19) = fk_7_make_22 S0 nd (x0 + 19) ∧ cEq (fun a => a = x0 + 19) S S0 ∧ kF S0 (x0 + 19) 0 = s ∧ kF S0 (x0 + 19) 1 = Int32.ofNat j ∧ kF S0 (x0 + 19) 2 = o ∧ kF S0 (x0 + 19) 3 = p ∧ kF S0 (x0 + 19) 4 = v ∧ kF S0 (x0 + 19) 5 = w ∧ (s ≠ 0 → kF S0 (x0 + 19) = kF S (x0 + 19)) := by
    unfold fk_7_make
    rw [ckk_y dk, ds]
    by_cases hs : s = 0
    · obtain ⟨⟨c, c1, c2, c3⟩, -⟩ := hd.2.1 hs
      obtain ⟨⟨b1, b2', b3, b4, b5, -⟩, ⟨-, -, -, -, -, -, k4, k4'⟩, -⟩ := hB
      rw [if_pos hs, ckk_y cy.1.1, cy.2.1.1, bd_s, ckk_y cy.1.1, ckk_y b1, cy.1.2.1, k_nextSlot b1 b5 k4 k4' hn (by rw [show x0 + 5 + 4 = x0 + 9 from rfl, (hBa n hn).2]; exact c2), bd_s, ckk_y dk, lt_d, ← c3]
      refine ⟨_, rfl, cEq_cPi _ rfl, ?_, ?_, ?_, ?_, ?_, ?_, fun q => absurd hs q⟩
      · rw [kF_cPo _ _ (by simp)]; exact ds
      · rw [kF_cPi]
      · rw [kF_cPo _ _ (by simp)]; exact do'
      · rw [kF_cPo _ _ (by simp)]; exact dp
      · rw [kF_cPo _ _ (by simp)]; exact dv
      · rw [kF_cPo _ _ (by simp)]; exact dw
    · rw [if_neg hs]
      exact ⟨S, rfl, cEq_refl _ _, ds, dj hs, do', dp, dv, dw, fun _ => rfl⟩
  obtain ⟨S0, z1, z2, z3, z4, z5, z6, z7, z8, z9⟩ := hS0
  have n0 := z2.2.2.2.2 nd (by omega)
  have n5 := z2.2.2.2.2 (nd + 5) (by omega)
  have y0 := cNy_eq' cy z2 (by omega)
  have hz0 : kZ S0 = kZ S := z2.2.2.1
  -- time and count
  have htime : fk_7_make_22 S0 nd (x0 + 19) = fk_7_make_45 S0 nd (x0 + 19) (nwT M n) (stM M n) := by
    unfold fk_7_make_22
    have ht : (if kF S0 nd 8 < kF S0 nd 9 then kF S0 nd 9 else kF S0 nd 8) = nwT M n := by
      rw [nw_eq, n0.1, f8, f9]; rfl
    rw [ckk_y y0.1.1, k_timeNow y0.1.1, bd_s, ht, ckk_y y0.1.1]
    unfold stM
    rw [n0.1, f9]
    by_cases hh : nwT M n = M.2 18 n
    · rw [if_pos hh, if_pos hh, ckk_y y0.1.1, f10]
    · rw [if_neg hh, if_neg hh]
  rw [z1, htime]
  unfold fk_7_make_45
  -- the vector
  have e4 : (4 : Int32) * Int32.ofNat n = Int32.ofNat (4 * n) := by rw [show (4 : Int32) = Int32.ofNat 4 from rfl, jI_mul]
  have e44 : Int32.ofNat (4 * n) + 4 = Int32.ofNat (4 * n + 4) := by rw [show (4 : Int32) = Int32.ofNat 4 from rfl, jI_add]
  obtain ⟨S2, v1, v2, v3, v4, v5, v6, v7⟩ := k_copyVec (S := S0) (b := nd + 5) hn y0.2.2.1.1 y0.2.2.1.2 (by rw [hz0]; omega)
  rw [hz0] at v1 v2 v3 v5 v6 v7
  rw [ckk_y y0.1.1, y0.1.2.2.2.2.2.2.1, bd_s, ckk_y y0.1.1, ckk_y y0.1.1, y0.1.2.1, e4, e44, v1, bd_s, lt_d, lt_d, lt_d, lt_d]
  -- the row's cell
  obtain ⟨w1, -, w3, w4, -, -, w7, w8⟩ := nw_at S2 9 0
  have wsm := nw_sm S2 9 0
  rw [v3] at w1 w3 wsm ⊢
  have low : cSm (fun a => a < kZ S ∧ a ≠ x0 + 19) S (cNw S2 9 0) := cSm_trans (cSm_trans (cSm_eq z2 (fun a ha => ha.2)) (cSm_mono v2 (fun a ha => by omega))) (cSm_mono wsm (fun a ha => by omega))
  have dlow : cSm (fun a => a = x0 + 19) S0 (cNw S2 9 0) := cSm_trans (cSm_mono v2 (fun a ha => by omega)) (cSm_mono wsm (fun a ha => by omega))
  have zlow : cSm (fun a => a = kZ S) S2 (cNw S2 9 0) := cSm_mono wsm (fun a ha => by omega)
  generalize hS4 : cNw S2 9 0 = S4 at w1 w3 w4 w7 w8 low dlow zlow
  have a4 := low nd (by omega)
  have a45 := low (nd + 5) (by omega)
  have y4 := cNy_sm cy (cSm_mono low (fun a ha => by omega))
  have hkn : fk_7_knownOf S4 nd (Int32.ofNat n) = some (Int32.ofNat (mdN M n)) := by
    unfold fk_7_knownOf
    rw [ckk_y y4.1.1, y4.1.2.2.2.2.2.2.1, bd_s, ckk_y y4.1.1, ckk_y y4.2.2.1.1, y4.1.2.1, e4, jI_add, y4.2.2.1.2, ck_n (by omega) (by omega), jI_cl (by omega), a45.2.2.2.2.1, fseen n n hn hn]
    unfold snV
    rw [if_pos rfl, hok]
  rw [ckk_y y4.1.1, ckk_y y4.1.1, ckk_y y4.1.1, y4.1.2.1, hkn, bd_s, bd_s]
  have d4 := dlow (x0 + 19) rfl
  have dk4 : kK S4 (x0 + 19) = 2 := by rw [d4.1, z2.1]; exact dk
  obtain ⟨S8, i1, i2, ⟨g0, g1, g2, g3, g4, g5⟩, ⟨g6, g7, g8, g9, g11, g12, g13⟩, g10⟩ := k_rowInit (va := kZ S) dk4 w1 (by omega) (Int32.ofNat n) (Int32.ofNat (mdN M n) + 1) (nwT M n) (stM M n)
  rw [d4.2.2.1] at g0 g1 g2 g3 g4 g5 g13
  rw [z3] at g0 g13
  rw [z4] at g1 g13
  rw [z5] at g2
  rw [z6] at g3 g13
  rw [z7] at g4
  rw [z8] at g5
  have enum : Int32.ofNat (mdN M n) + 1 = Int32.ofNat (mdN M n + 1) := by rw [show (1 : Int32) = Int32.ofNat 1 from rfl, jI_add]
  rw [enum] at i1 g7 g11 g12 ⊢
  have eidx : (250 : Int32) * Int32.ofNat n + Int32.ofNat (mdN M n + 1) - 1 = Int32.ofNat r := by
    rw [show (250 : Int32) = Int32.ofNat 250 from rfl, jI_mul, jI_add, show (1 : Int32) = Int32.ofNat 1 from rfl, jI_sub (by omega)]
    congr 1
  have ename : (1000 : Int32) * Int32.ofNat n + Int32.ofNat (mdN M n + 1) = Int32.ofNat (rNm r) := by
    rw [show (1000 : Int32) = Int32.ofNat 1000 from rfl, jI_mul, jI_add]
    unfold rNm; rw [hrN, hrM]
  rw [eidx] at g12
  rw [ename] at g11
  rw [i1, bd_s]
  have low8 : cSm (fun a => a < kZ S ∧ a ≠ x0 + 19) S S8 := cSm_trans low (cSm_eq i2 (fun a ha => by omega))
  have y8 := cNy_sm cy (cSm_mono low8 (fun a ha => by omega))
  -- the book
  obtain ⟨⟨b1, b2', b3, b4, b5, b6⟩, ⟨k1, k1', k2, k2', k3, k3', k4, k4'⟩, brow, bno, bmk⟩ := hB
  have q0 := low8 (x0 + 5) (by omega)
  have q1 := low8 (x0 + 6) (by omega)
  have q2 := low8 (x0 + 7) (by omega)
  have q3 := low8 (x0 + 8) (by omega)
  have q4 := low8 (x0 + 9) (by omega)
  obtain ⟨S10, t1, t2, t3, t4, t5, t6⟩ := k_bookAdd (S := S8) (bk := x0 + 5) (a := kZ S + 1) (r := r) (j := j) (n := n) (by rw [q0.1]; exact b1) (by rw [q0.2.2.2.1]; exact b2') (by rw [q0.2.2.2.1]; exact b3) (by rw [q0.2.2.2.1]; exact b4) (by rw [q0.2.2.2.1]; exact b5) ⟨by rw [q1.1]; exact k1, by rw [q1.2.1]; exact k1'⟩ ⟨by rw [q2.1]; exact k2, by rw [q2.2.1]; exact k2'⟩ ⟨by rw [q3.1]; exact k3, by rw [q3.2.1]; exact k3'⟩ ⟨by rw [q4.1]; exact k4, by rw [q4.2.1]; exact k4'⟩ (by rw [i2.1]; exact w1) (by omega) hr1 g12 hn g6 (fun h0 => by
    rw [g0] at h0
    obtain ⟨⟨c, c1, c2, c3⟩, -⟩ := hd.2.1 h0
    exact ⟨by omega, g1⟩)
  rw [ckk_y y8.1.1, y8.2.1.1, bd_s, ckk_y (by rw [q0.1]; exact b1), t1, bd_s]
  have y10 := cNy_eq' y8 t2 (by omega)
  have low10 : cSm (fun a => a < kZ S ∧ a ≠ x0 + 19 ∧ a ≠ x0 + 6 ∧ a ≠ x0 + 7 ∧ a ≠ x0 + 8 ∧ a ≠ x0 + 9) S S10 := cSm_trans (cSm_mono low8 (fun a ha => by omega)) (cSm_eq t2 (fun a ha => by omega))
  have r10 : kK S10 (kZ S + 1) = 9 := by rw [t2.1, i2.1]; exact w1
  have rz10 := t2.2.2.2.2 (kZ S + 1) (by omega)
  have vz8 := i2.2.2.2.2 (kZ S) (by omega)
  have vz10 := t2.2.2.2.2 (kZ S) (by omega)
  have zz := zlow (kZ S) rfl
  refine ⟨S10, ?_, ?_, ?_, ?_, ?_, ?_⟩
  · rw [ckk_y y10.1.1]
  · refine cSm_mono low10 (fun a ha => ?_)
    unfold wMk inAp at ha
    omega
  · rw [t2.2.2.1, i2.2.2.1]; exact w3
  · exact ⟨fun i => by rw [t2.2.2.2.1, i2.2.2.2.1, w4, v4, z2.2.2.2.1], by rw [t2.1, i2.1, d4.1, z2.1], by rw [t2.2.1, i2.2.1, d4.2.1, z2.2.1], fun q => by rw [(t2.2.2.2.2 (x0 + 19) (by omega)).1, (i2.2.2.2.2 (x0 + 19) (by omega)).1, d4.2.2.1, z9 q]⟩
  · have ra' : ∀ q, mde M q → upd2 ra r (kZ S + 1) q = ra q := fun q hq => upd2_o _ _ (fun e => hnm (e ▸ hq))
    have p0 := low10 (x0 + 5) (by omega)
    have p1 := t2.2.2.2.2
    refine ⟨⟨by rw [p0.1]; exact b1, by rw [p0.2.2.2.1]; exact b2', by rw [p0.2.2.2.1]; exact b3, by rw [p0.2.2.2.1]; exact b4, by rw [p0.2.2.2.1]; exact b5, fun q hq => ?_⟩, ?_, fun q hq hmq => ?_, fun q hq hnq => ?_, fun j' hj' => ?_⟩
    · rcases (hmde q).mp hq with hq | hq
      · rw [ra' q hq]; exact b6 q hq
      · subst hq; rw [upd2_s]; omega
    · rw [t2.1, t2.2.1, t2.1, t2.2.1, t2.1, t2.2.1, t2.1, t2.2.1]
      rw [show x0 + 5 + 1 = x0 + 6 from rfl, show x0 + 5 + 2 = x0 + 7 from rfl, show x0 + 5 + 3 = x0 + 8 from rfl, show x0 + 5 + 4 = x0 + 9 from rfl, q1.1, q1.2.1, q2.1, q2.2.1, q3.1, q3.2.1, q4.1, q4.2.1]
      exact ⟨k1, k1', k2, k2', k3, k3', k4, k4'⟩
    · rcases (hmde q).mp hmq with hmq | hmq
      · have hqr : q ≠ r := fun e => hnm (e ▸ hmq)
        obtain ⟨o1, o2⟩ := brow q hq hmq
        have hgt := b6 q hmq
        have hlt := hra q hmq
        rw [ra' q hmq]
        refine ⟨by rw [t3, upo_o _ _ hqr, show x0 + 5 + 1 = x0 + 6 from rfl, q1.2.2.2.2.2]; exact o1, ?_⟩
        obtain ⟨x1, x2, x3, x4, x5, va, x6, x7, x8, x9, x10⟩ := o2
        have l1 := low10 (ra q) (by omega)
        have l2 := low10 va (by omega)
        obtain ⟨⟨h9, h10, h11, h12, h13, h14, h15⟩, hv⟩ := hon.1 q hqr
        unfold cRow
        rw [l1.1, l1.2.2.1, l1.2.2.2.1, h9, h10, h11, h12, h13, h14, h15, upd_o _ _ hqr, chF_on hon hqr (upd_o sl _ hqr)]
        refine ⟨x1, x2, x3, x4, x5, va, x6, x7, by rw [l2.1]; exact x8, by rw [l2.2.1]; exact x9, fun i hi => ?_⟩
        rw [l2.2.2.2.2.1, hv i hi]; exact x10 i hi
      · subst hmq
        rw [upd2_s]
        refine ⟨by rw [t3, upo_s], ?_⟩
        obtain ⟨-, ⟨e9, e10, e11, e12, e13, e14, e15⟩, ev, -, -⟩ := e
        unfold cRow
        rw [rz10.1, rz10.2.1, e9, e10, e11, e12, e13, e14, e15, upd_s, upd_s, upd_s, upd_s, upd_s, upd_s, upd_s, upd_s, hrN, hrM]
        refine ⟨r10, ⟨g0, g2, g3, g4, g5, g8, g9⟩, ⟨g6, g7, g11, g12⟩, g1, ?_, kZ S, rfl, g10, ?_, ?_, fun i hi => ?_⟩
        · rw [g13]
          unfold chF chV
          rw [e9, e11, upd_s, upd_s, upd_s]
        · rw [t2.1, i2.1, zz.1]; exact v5
        · rw [t2.2.1, i2.2.1, zz.2.1]; exact v6
        · rw [vz10.2.2.1, vz8.2.2.1, zz.2.2.2.2.1, v7 i hi, n5.2.2.1, fseen n i hn hi, ev i hi]
          unfold snV
          rw [if_pos rfl]
    · have hqr : q ≠ r := fun e => hnq ((hmde q).mpr (Or.inr e))
      rw [t3, upo_o _ _ hqr, show x0 + 5 + 1 = x0 + 6 from rfl, q1.2.2.2.2.2]
      exact bno q hq (fun hh => hnq ((hmde q).mpr (Or.inl hh)))
    · rw [t4, g0]
      obtain ⟨m1, m2⟩ := bmk j' hj'
      have hmm : (mkO j').map (upd2 ra r (kZ S + 1)) = (mkO j').map ra := by
        cases hmj : mkO j' with
        | none => rfl
        | some m => exact congrArg some (ra' m (m2 m hmj).2.1)
      have old : ∀ m, mkO j' = some m → m < 1000 ∧ mde M1 m ∧ M1.2 9 m = 0 ∧ upd sl r (Int32.ofNat j) m = Int32.ofNat j' := fun m hmj => by
        obtain ⟨y1, y2, y3, y4⟩ := m2 m hmj
        have hmr : m ≠ r := fun e => hnm (e ▸ y2)
        exact ⟨y1, (hmde m).mpr (Or.inl y2), by rw [(hon.1 m hmr).1.1]; exact y3, by rw [upd_o _ _ hmr]; exact y4⟩
      unfold mkN2
      by_cases hs : s = 0
      · rw [if_pos hs, if_pos hs]
        by_cases hjj : j' = j
        · subst hjj
          rw [upo_s, upo_s]
          refine ⟨by show some (kZ S + 1) = some (upd2 ra r (kZ S + 1) r); rw [upd2_s], fun m hmr => ?_⟩
          have : r = m := Option.some.inj hmr
          subst this
          exact ⟨hr1, (hmde r).mpr (Or.inr rfl), by rw [e.2.1.1, upd_s]; exact hs, upd_s _ _ _⟩
        · rw [upo_o _ _ hjj, upo_o _ _ hjj, show x0 + 5 + 2 = x0 + 7 from rfl, q2.2.2.2.2.2]
          exact ⟨by rw [hmm]; exact m1, old⟩
      · rw [if_neg hs, if_neg hs, show x0 + 5 + 2 = x0 + 7 from rfl, q2.2.2.2.2.2]
        exact ⟨by rw [hmm]; exact m1, old⟩
  · intro n' hn'
    rw [show x0 + 8 = x0 + 5 + 3 from rfl, show x0 + 9 = x0 + 5 + 4 from rfl, t5, t6, e.1.1, e.1.2, g0, g7]
    rw [show x0 + 5 + 3 = x0 + 8 from rfl, show x0 + 5 + 4 = x0 + 9 from rfl, q3.2.2.2.2.1, q4.2.2.2.2.1]
    obtain ⟨h7, h8⟩ := hBa n' hn'
    obtain ⟨h7n, h8n⟩ := hBa n hn
    by_cases hnn : n' = n
    · subst hnn
      rw [upd_s, upd_s, upd_s]
      refine ⟨rfl, ?_⟩
      by_cases hs : s = 0
      · rw [if_pos hs, if_pos hs, upd_s, h8]
      · rw [if_neg hs, if_neg hs, Int32.add_zero]; exact h8
    · rw [upd_o _ _ hnn, upd_o _ _ hnn, upd_o _ _ hnn]
      refine ⟨h7, ?_⟩
      by_cases hs : s = 0
      · rw [if_pos hs, upd_o _ _ hnn]; exact h8
      · rw [if_neg hs]; exact h8
end B2
