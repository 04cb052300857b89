-- part 71: a row made at both, and applied
section B
variable {S : cSt} {M : mSt} {ra : Nat → Nat} {sl : Nat → Int32} {mkO : Nat → Option Nat} {L Wt : Nat → List Nat} {x0 Bt n j : Nat} {s o p v w : Int32}
def updL (f : Nat → List Nat) (i : Nat) (x : List Nat) : Nat → List Nat := fun j => if j = i then x else f j
theorem updL_s (f : Nat → List Nat) (i : Nat) (x : List Nat) : updL f i x i = x := by simp [updL]
theorem updL_o (f : Nat → List Nat) {i j : Nat} (x : List Nat) (h : j ≠ i) : updL f i x j = f j := by simp [updL, h]
theorem tot_r {M M' : mSt} (e : rEq M M') : tot M' = tot M := by unfold tot; rw [mdN_r e]
theorem tot_le (hA : rA M mkO sl) : tot M ≤ 1000 := by
  have h0 := (hA.2.2.1 0 (by decide)).1
  have h1 := (hA.2.2.1 1 (by decide)).1
  have h2 := (hA.2.2.1 2 (by decide)).1
  have h3 := (hA.2.2.1 3 (by decide)).1
  unfold tot; omega
theorem new_tot {M1 : mSt} {t c : Int32} (hn : n < 4) (hm : mdN M n < 250) (e : nwE M n (250 * n + mdN M n) s o p v w t c M1) : tot M1 = tot M + 1 := by
  unfold tot
  rw [new_mdN hm e, new_mdN hm e, new_mdN hm e, new_mdN hm e]
  match n, hn with
  | 0, _ => simp; omega
  | 1, _ => simp; omega
  | 2, _ => simp; omega
  | 3, _ => simp; omega
/-- bounds behind an applied row -/
theorem tBd_app {M' : mSt} {l : List Nat} {r : Nat} (h : tBd M Bt) (hBt : Bt < 1000000) (hA : rA M mkO sl) (hr : mde M r) (hn : n < 4) (e : mEx wAp M M') (ha : apd M M' n r l) : tBd M' Bt := by
  have rB : rEq M M' := rEq_mEx e (fun k hk => by unfold wAp wMid at hk; omega)
  have f17 : M'.2 17 = M.2 17 := (e 17 (by unfold wAp wMid; omega)).2
  have htl := tot_le hA
  refine ⟨fun n' hn' => ?_, fun q hq => ?_⟩
  · obtain ⟨h1, T, C, h2, h3, h4, h5⟩ := h.1 n' hn'
    rw [f17, tot_r rB]
    refine ⟨h1, ?_⟩
    by_cases hnn : n' = n
    · subst hnn
      obtain ⟨t, c, t1, t2, t3, t4⟩ := h.2 r hr
      obtain ⟨T', C', m1, m2, m3, m4⟩ := rsL_max (T := T) (C := C) (t := t) (c := c) (by omega) (by omega) (by omega) (by omega)
      have := ha.2.2.2.1
      rw [h2, h3, t1, t2, m1] at this
      refine ⟨T', C', congrArg Prod.fst this, congrArg Prod.snd this, ?_, ?_⟩
      · rcases m4 with ⟨a, _, _⟩ | ⟨a, _, _⟩ <;> (rw [a]; assumption)
      · rcases m4 with ⟨_, a, _⟩ | ⟨_, a, _⟩ <;> (rw [a]; assumption)
    · obtain ⟨a1, a2⟩ := ha.2.2.2.2 n' hnn
      exact ⟨T, C, by rw [a1]; exact h2, by rw [a2]; exact h3, h4, h5⟩
  · rw [mde_r rB] at hq
    rw [rB 14 (by decide) (by decide), rB 15 (by decide) (by decide), tot_r rB]
    exact h.2 q hq
/-- a row that is made already is applied at node n -/
theorem core_app (hn : n < 4) {Lx Wx : Nat → List Nat} {r : Nat} (hA : rA M mkO sl) (hsl : slI M mkO) (htb : tBd M Bt) (hBt : Bt < 1000000) (hB : cBk M ra sl (chF M sl) (mde M) mkO S (x0 + 5)) (hBa : ∀ n, n < 4 → kI S (x0 + 8) n = M.2 7 n ∧ kI S (x0 + 9) n = M.2 8 n) (hN : ∀ n', n' < 4 → (nM M mkO sl n' (Lx n') ∧ nC S M ra sl x0 n' (Lx n')) ∧ (mWt M n' (Wx n') ∧ nW S ra x0 n' (Wx n') ∧ wOk M (Lx n') (Wx n'))) (hz : x0 + 133 ≤ kZ S ∧ ∀ r, mde M r → ra r < kZ S) (hr : nxt M (Lx n) r) : ∃ S' M', fk_7_apply S (sN x0 n) (ra r) = some S' ∧ fm_apply M (Int32.ofNat n) (Int32.ofNat r) = some M' ∧ cEq (inAp (sN x0 n)) S S' ∧ mEx wAp M M' ∧ (rA M' mkO sl ∧ slI M' mkO ∧ tBd M' Bt) ∧ (cBk M' ra sl (chF M' sl) (mde M') mkO S' (x0 + 5) ∧ ∀ n, n < 4 → kI S' (x0 + 8) n = M'.2 7 n ∧ kI S' (x0 + 9) n = M'.2 8 n) ∧ (∀ n', n' < 4 → (nM M' mkO sl n' (updL Lx n (Lx n ++ [r]) n') ∧ nC S' M' ra sl x0 n' (updL Lx n (Lx n ++ [r]) n')) ∧ mWt M' n' (if n' = n then (Wx n).filter (fun q => decide (q ≠ r)) else Wx n') ∧ nW S' ra x0 n' (Wx n')) ∧ (x0 + 133 ≤ kZ S' ∧ ∀ r, mde M' r → ra r < kZ S') ∧ rEq M M' := by
  obtain ⟨⟨hnM, hnC⟩, hnW, -⟩ := hN n hn
  have hx : x0 + 22 ≤ sN x0 n ∧ sN x0 n + 26 ≤ x0 + 126 := by unfold sN; omega
  obtain ⟨S', M', a1, a2, a3, a4, a5, a6, a7, a8, a9⟩ := ap_both hn hB hnM hnC hr hnW
  have rB : rEq M M' := rEq_mEx a4 (fun k hk => by unfold wAp wMid at hk; omega)
  have hlen : (Lx n).length < 1000 := by
    have := cl_len (cl_app hnM.1.2.1 hr)
    rw [List.length_append, List.length_singleton] at this; omega
  have hapd : ∃ l', apd M M' n r l' := by
    obtain ⟨⟨-, -, -⟩, ⟨E, -, c4'⟩, ⟨F, -, c5'⟩, -⟩ := hnC
    obtain ⟨M2, m1, -, m3, -⟩ := m_apply hnM.1 hnM.2.2.1 hr hnW c4' c5'
    rw [a2] at m1
    have := Option.some.inj m1
    subst this
    exact ⟨_, m3⟩
  obtain ⟨l', hap⟩ := hapd
  refine ⟨S', M', a1, a2, a3, a4, ⟨rA_r rB hA, ?_, tBd_app htb hBt hA hr.1 hn a4 hap⟩, ⟨cBk_r rB (cBk_eq hB a3 (fun a ha => by unfold inAp at ha; omega)), fun n' hn' => ?_⟩, fun n' hn' => ?_, ⟨?_, fun q hq => ?_⟩, rB⟩
  · unfold slI; rw [rB 8 (by decide) (by decide)]; exact hsl
  · rw [(a3.2.2.2.2 (x0 + 8) (fun q => by unfold inAp at q; omega)).2.2.1, (a3.2.2.2.2 (x0 + 9) (fun q => by unfold inAp at q; omega)).2.2.1, rB 7 (by decide) (by decide), rB 8 (by decide) (by decide)]
    exact hBa n' hn'
  · obtain ⟨⟨b1, b2'⟩, b3, b4, b5⟩ := hN n' hn'
    by_cases hnn : n' = n
    · subst hnn
      rw [updL_s, if_pos rfl]
      refine ⟨⟨a6, a7⟩, a8, ?_, ?_⟩
      · rw [a9]; exact b4.1
      · rw [(a3.2.2.2.2 (sN x0 n' + 8) (fun q => by unfold inAp at q; omega)).2.2.2]; exact b4.2
    · rw [updL_o _ _ hnn, if_neg hnn]
      have hsep : ∀ a, inAp (sN x0 n) a → a < sN x0 n' ∨ sN x0 n' + 26 ≤ a := fun a ha => by unfold inAp sN at *; omega
      exact ⟨⟨nM_eq b1 (a5 n' hnn), nC_eq b2' a3 hsep (a5 n' hnn)⟩, mWt_n b3 (a5 n' hnn), nW_eq b4 a3 (fun q => by have := hsep _ q; omega) (fun q => by have := hsep _ q; omega)⟩
  · rw [a3.2.2.1]; exact hz.1
  · rw [mde_r rB] at hq; rw [a3.2.2.1]; exact hz.2 q hq
/-- a row made at both -/
theorem make_both (h : core x0 Bt S M ra sl mkO L Wt) (hn : n < 4) (hm : mdN M n < 250) (hd : dOk M mkO n (L n) j s o p v w) (hdr : kK S (x0 + 19) = 2 ∧ kF S (x0 + 19) 0 = s ∧ (s ≠ 0 → kF S (x0 + 19) 1 = Int32.ofNat j) ∧ kF S (x0 + 19) 2 = o ∧ kF S (x0 + 19) 3 = p ∧ kF S (x0 + 19) 4 = v ∧ kF S (x0 + 19) 5 = w) : ∃ S' M', fk_7_make S (sN x0 n) (x0 + 19) = some (some (kZ S + 1), S') ∧ fm_make M (Int32.ofNat n) s o p v w = some (Int32.ofNat (rNm (250 * n + mdN M n)), M') ∧ core x0 Bt S' M' (upd2 ra (250 * n + mdN M n) (kZ S + 1)) (upd sl (250 * n + mdN M n) (Int32.ofNat j)) (mkN2 mkO s j (250 * n + mdN M n)) (updL L n (L n ++ [250 * n + mdN M n])) Wt ∧ mEx (fun k => (7 ≤ k ∧ k ≤ 16) ∨ wAp k) M M' ∧ cSm (fun a => ¬ wMk x0 n (kZ S) a) S S' ∧ kZ S' = kZ S + 2 ∧ ((∀ i, kT S' i = kT S i) ∧ kK S' (x0 + 19) = kK S (x0 + 19) ∧ kL S' (x0 + 19) = kL S (x0 + 19) ∧ (s ≠ 0 → kF S' (x0 + 19) = kF S (x0 + 19))) ∧ (∀ q, mde M' q ↔ mde M q ∨ q = 250 * n + mdN M n) ∧ rOn (fun q => q ≠ 250 * n + mdN M n) M M' ∧ mdN M' n = mdN M n + 1 ∧ M'.2 9 (250 * n + mdN M n) = s ∧ M'.2 12 (250 * n + mdN M n) = v ∧ M'.2 10 (250 * n + mdN M n) = o ∧ M'.2 11 (250 * n + mdN M n) = p := by
  obtain ⟨⟨hA, hsl, htb, hBt⟩, ⟨hB, hBa⟩, hN, hz, hra⟩ := id h
  obtain ⟨⟨hnM, hnC⟩, -, hown⟩ := hN n hn
  have h7 := (hA.2.2.1 n hn).2
  obtain ⟨M1, m1, e⟩ := m_makeTo hn h7 hm s o p v w
  obtain ⟨⟨W, hW1, hW⟩, T, C, hT, hC, hT1, hC1⟩ := htb.1 n hn
  have htl := tot_le hA
  obtain ⟨hA1, hsl1, hnx⟩ := new_rA hA hsl hn hm hnM hown hd hW (by omega) (fun C' hC' hC'' => by
    rw [hC] at hC'
    have := (jI_inj (by omega) (by omega)).mp hC'
    omega) e
  obtain ⟨S10, s1, s2, s3, s4, s5, s6⟩ := mk_pre h hn hm hd hdr e hA1
  have hon := new_on hm e
  have hmde := fun q => new_mde (q := q) hn hm e
  have hnm := new_nm (M := M) (n := n) hm
  have htot := new_tot hn hm e
  have hrN := rN_new (M := M) (n := n) hm
  have hx : ∀ n', n' < 4 → x0 + 22 ≤ sN x0 n' ∧ sN x0 n' + 26 ≤ x0 + 126 := fun n' _ => by unfold sN; omega
  obtain ⟨t, c, t1, t2, t3, t4, t5, t6, t7⟩ := new_time hW (by omega) hT hC (by omega) (by omega)
  have hne2 := new_nEq2 hm e
  have hnMx := fun n' (hn' : n' < 4) => nM_new (n' := n') hA1 (hN n' hn').1.1 hn hm hA e
  have hmdn := new_mdN hm e
  have htb1 : tBd M1 Bt := by
    have f : ∀ k, k < 7 ∨ 16 < k → M1.2 k = M.2 k := fun k hk => (e.2.2.2.2 k (by omega)).2
    refine ⟨fun n' hn' => ?_, fun q hq => ?_⟩
    · obtain ⟨x1, T', C', x2, x3, x4, x5⟩ := htb.1 n' hn'
      rw [f 17 (by omega), f 18 (by omega), f 19 (by omega), htot]
      exact ⟨x1, T', C', x2, x3, x4, by omega⟩
    · rcases (hmde q).mp hq with hq | hq
      · have hqr : q ≠ 250 * n + mdN M n := fun e => hnm (e ▸ hq)
        obtain ⟨⟨_, _, _, _, _, e14, e15⟩, _⟩ := hon.1 q hqr
        obtain ⟨t', c', x1, x2, x3, x4⟩ := htb.2 q hq
        rw [e14, e15, htot]
        exact ⟨t', c', x1, x2, x3, by omega⟩
      · subst hq
        obtain ⟨-, ⟨-, -, -, -, -, e14, e15⟩, -⟩ := e
        rw [e14, e15, upd_s, upd_s, htot]
        exact ⟨t, c, t1, t2, by rcases t5 with h | h <;> omega, by omega⟩
  generalize hr : 250 * n + mdN M n = r at *
  have hraN : ∀ q, mde M q → upd2 ra r (kZ S + 1) q = ra q := fun q hq => upd2_o _ _ (fun e => hnm (e ▸ hq))
  have hN1 : ∀ n', n' < 4 → (nM M1 (mkN2 mkO s j r) (upd sl r (Int32.ofNat j)) n' (L n') ∧ nC S10 M1 (upd2 ra r (kZ S + 1)) (upd sl r (Int32.ofNat j)) x0 n' (L n')) ∧ (mWt M1 n' (Wt n') ∧ nW S10 (upd2 ra r (kZ S + 1)) x0 n' (Wt n') ∧ wOk M1 (L n') (Wt n')) := fun n' hn' => by
    obtain ⟨⟨b1, b2'⟩, ⟨b3, b4, b5⟩, -⟩ := hN n' hn'
    have hin : ∀ q ∈ L n', mde M q := fun q hq => cl_mem b1.1.2.1 hq
    have hcs : cSm (fun a => sN x0 n' ≤ a ∧ a < sN x0 n' + 26) S S10 := cSm_mono s2 (fun a ha => by
      have h1 := hx n hn
      have h2 := hx n' hn'
      by_cases hap : inAp (sN x0 n) a
      · exact Or.inr hap
      · refine Or.inl (fun q => ?_)
        unfold wMk at q
        rcases q with q | q
        · exact hap q
        · omega)
    refine ⟨⟨hnMx n' hn', nC_sm b2' (hne2 n') (fun q hq e => hnm (e ▸ hin q hq)) (fun q hq => upd_o _ _ (fun e => hnm (e ▸ hin q hq))) (fun q hq => hraN q (hin q hq)) hcs⟩, mWt_n2 b3 (hne2 n'), nW_sm b4 (fun q hq => hraN q (b5.2 q hq).1) hcs, b5.1, fun q hq => ⟨(hmde q).mpr (Or.inl (b5.2 q hq).1), (b5.2 q hq).2⟩⟩
  obtain ⟨S', M', a1, a2, a3, a4, ⟨a5, a6, a7⟩, a8, a9, a10, a11⟩ := core_app (Lx := L) (Wx := Wt) hn hA1 hsl1 htb1 hBt s5 s6 hN1 ⟨by omega, fun q hq => by
    rcases (hmde q).mp hq with hq | hq
    · rw [hraN q hq]; have := hra q hq; omega
    · rw [hq, upd2_s]; omega⟩ hnx
  rw [upd2_s] at a1
  have hwr : ∀ n', n' < 4 → r ∉ Wt n' := fun n' hn' hh => hnm ((hN n' hn').2.1.2.2.2 r hh).1
  refine ⟨S', M', by rw [s1, a1, bd_s], by rw [m1, a2, bd_s], ⟨⟨a5, a6, a7, hBt⟩, a8, fun n' hn' => ?_, a10⟩, mEx_trans (mEx_mono e.2.2.2.2 (fun k hk => Or.inl hk)) (mEx_mono a4 (fun k hk => Or.inr hk)), ?_, ?_, ?_, fun q => by rw [mde_r a11]; exact hmde q, ?_, by rw [mdN_r a11, hmdn, if_pos rfl], by rw [a11 9 (by decide) (by decide), e.2.1.1, upd_s], by rw [a11 12 (by decide) (by decide), e.2.1.2.2.2.1, upd_s], by rw [a11 10 (by decide) (by decide), e.2.1.2.1, upd_s], by rw [a11 11 (by decide) (by decide), e.2.1.2.2.1, upd_s]⟩
  · obtain ⟨b1, b2', b3⟩ := a9 n' hn'
    have hwf : (if n' = n then (Wt n).filter (fun q => decide (q ≠ r)) else Wt n') = Wt n' := by
      by_cases hnn : n' = n
      · subst hnn
        rw [if_pos rfl, List.filter_eq_self]
        intro q hq
        exact decide_eq_true (fun e => hwr n' hn' (e ▸ hq))
      · rw [if_neg hnn]
    rw [hwf] at b2'
    obtain ⟨w1, w2⟩ := (hN1 n' hn').2.2.2
    refine ⟨b1, ⟨b2', b3, w1, fun q hq => ?_⟩, fun q hq hqn => ?_⟩
    · rw [mde_r a11]
      refine ⟨(w2 q hq).1, ?_⟩
      by_cases hnn : n' = n
      · subst hnn
        rw [updL_s, List.mem_append, List.mem_singleton]
        exact fun hh => hh.elim (w2 q hq).2 (fun e => hwr n' hn' (e ▸ hq))
      · rw [updL_o _ _ hnn]; exact (w2 q hq).2
    · rw [mde_r a11] at hq
      rcases (hmde q).mp hq with hq | hq
      · have := (hN n' hn').2.2 q hq hqn
        by_cases hnn : n' = n
        · subst hnn; rw [updL_s]; exact List.mem_append_left _ this
        · rw [updL_o _ _ hnn]; exact this
      · subst hq
        rw [hrN] at hqn
        subst hqn
        rw [updL_s]; simp
  · exact cSm_trans (cSm_mono s2 (fun a ha => Or.inl ha)) (cSm_eq a3 (fun a ha q => ha (Or.inl q)))
  · rw [a3.2.2.1, s3]
  · exact ⟨fun i => by rw [a3.2.2.2.1, s4.1], by rw [a3.1, s4.2.1], by rw [a3.2.1, s4.2.2.1], fun q => by rw [(a3.2.2.2.2 (x0 + 19) (fun z => by have := hx n hn; unfold inAp at z; omega)).1, s4.2.2.2 q]⟩
  · refine ⟨fun q hq => ?_, by rw [a11 5 (by decide) (by decide)]; exact hon.2.1, by rw [a11 6 (by decide) (by decide)]; exact hon.2.2⟩
    have := (rOn_of a11 (fun q => q ≠ r)).1 q hq
    have h2 := hon.1 q hq
    exact ⟨⟨this.1.1.trans h2.1.1, this.1.2.1.trans h2.1.2.1, this.1.2.2.1.trans h2.1.2.2.1, this.1.2.2.2.1.trans h2.1.2.2.2.1, this.1.2.2.2.2.1.trans h2.1.2.2.2.2.1, this.1.2.2.2.2.2.1.trans h2.1.2.2.2.2.2.1, this.1.2.2.2.2.2.2.trans h2.1.2.2.2.2.2.2⟩, fun i hi => (this.2 i hi).trans (h2.2 i hi)⟩
end B
