-- part 64: both states, tied; a row applied at both
def sN (x0 n : Nat) : Nat := x0 + 22 + 26 * n
def snV (M : mSt) (n m q : Nat) : Int32 := if m = n then M.2 20 (4 * n + q) else M.2 21 (16 * n + 4 * m + q)
/-- a node: the class's cells and the reference's -/
def nC (S : cSt) (M : mSt) (ra : Nat → Nat) (sl : Nat → Int32) (x0 n : Nat) (l : List Nat) : Prop :=
  (cNy S (sN x0 n) (x0 + 5) n ∧ cNv M ra sl S (sN x0 n) (x0 + 5) l ∧ cLs S M (sN x0 n) n) ∧
  (∃ E, cLg S (sN x0 n + 1) 3 250 E ∧ mNw M n E) ∧ (∃ F, cLg S (sN x0 n + 3) 4 200 F ∧ mTu M n F) ∧
  (kF S (sN x0 n) 8 = M.2 17 n ∧ kF S (sN x0 n) 9 = M.2 18 n ∧ kF S (sN x0 n) 10 = M.2 19 n) ∧
  (∀ m q, m < 4 → q < 4 → kI S (sN x0 n + 5) (4 * m + q) = snV M n m q) ∧ (∀ k, k < 16 → kI S (sN x0 n + 6) k = M.2 22 (16 * n + k)) ∧ ∀ k, k < 16 → kI S (sN x0 n + 7) k = M.2 31 (16 * n + k)
/-- the rows that wait at a node -/
def nW (S : cSt) (ra : Nat → Nat) (x0 n : Nat) (Wt : List Nat) : Prop := kF S (sN x0 n) 11 = Int32.ofNat Wt.length ∧ ∀ i (h : i < Wt.length), kO S (sN x0 n + 8) i = some (ra Wt[i])
/-- a row's time and stamp as one number -/
def tS (M : mSt) (r : Nat) : Nat := (M.2 14 r).toNatClampNeg * 1048576 + (M.2 15 r).toNatClampNeg
/-- the last stamp is the greatest -/
def lsT (M : mSt) (n : Nat) (l : List Nat) : Prop := ∃ T C, M.2 18 n = Int32.ofNat T ∧ M.2 19 n = Int32.ofNat C ∧ T < 1048576 ∧ C < 1048576 ∧ (∀ r ∈ l, tS M r ≤ T * 1048576 + C) ∧ ((T = 0 ∧ C = 0) ∨ ∃ r ∈ l, tS M r = T * 1048576 + C)
/-- a node, in the reference alone -/
def nM (M : mSt) (mkO : Nat → Option Nat) (sl : Nat → Int32) (n : Nat) (l : List Nat) : Prop := mR M mkO sl n l ∧ knL M n l ∧ lsM M n ∧ (∀ q, q < 4 → ∃ x, x ≤ mdN M q ∧ M.2 20 (4 * n + q) = Int32.ofNat x) ∧ lsT M n l
/-- the rows that wait are made, not applied, no two alike -/
def wOk (M : mSt) (l Wt : List Nat) : Prop := Wt.Nodup ∧ ∀ r ∈ Wt, mde M r ∧ r ∉ l
/-- what the reference keeps of node n is as it was -/
def nEq (M M' : mSt) (n : Nat) : Prop :=
  rEq M M' ∧ (∀ k, k = 17 ∨ k = 18 ∨ k = 19 ∨ k = 23 ∨ k = 25 → M'.2 k n = M.2 k n) ∧ (∀ q, q < 4 → M'.2 20 (4 * n + q) = M.2 20 (4 * n + q) ∧ M'.2 32 (4 * n + q) = M.2 32 (4 * n + q) ∧ M'.2 33 (4 * n + q) = M.2 33 (4 * n + q) ∧ M'.2 34 (4 * n + q) = M.2 34 (4 * n + q) ∧ M'.2 35 (4 * n + q) = M.2 35 (4 * n + q) ∧ M'.2 36 (4 * n + q) = M.2 36 (4 * n + q)) ∧
  (∀ k, k < 16 → M'.2 21 (16 * n + k) = M.2 21 (16 * n + k) ∧ M'.2 22 (16 * n + k) = M.2 22 (16 * n + k) ∧ M'.2 31 (16 * n + k) = M.2 31 (16 * n + k)) ∧ (∀ i, i < 1000 → M'.2 24 (1000 * n + i) = M.2 24 (1000 * n + i)) ∧ (∀ i, i < 30 → M'.2 26 (30 * n + i) = M.2 26 (30 * n + i)) ∧
  (M'.2 27 n = M.2 27 n ∧ ∀ k, k < 250 → M'.2 28 (250 * n + k) = M.2 28 (250 * n + k) ∧ M'.2 29 (250 * n + k) = M.2 29 (250 * n + k) ∧ M'.2 30 (250 * n + k) = M.2 30 (250 * n + k)) ∧
  (M'.2 37 n = M.2 37 n ∧ ∀ k, k < 200 → M'.2 38 (200 * n + k) = M.2 38 (200 * n + k) ∧ M'.2 39 (200 * n + k) = M.2 39 (200 * n + k) ∧ M'.2 40 (200 * n + k) = M.2 40 (200 * n + k) ∧ M'.2 41 (200 * n + k) = M.2 41 (200 * n + k))
section B
variable {M M' : mSt} {S S' : cSt} {ra : Nat → Nat} {sl : Nat → Int32} {mkO : Nat → Option Nat} {x0 n r : Nat} {l Wt : List Nat} {W : Nat → Prop}
theorem rsL_max {T C t c : Nat} (hT : T < 1048576) (hC : C < 1048576) (ht : t < 1048576) (hc : c < 1048576) : ∃ T' C', rsL (Int32.ofNat T, Int32.ofNat C) (Int32.ofNat t, Int32.ofNat c) = (Int32.ofNat T', Int32.ofNat C') ∧ T' < 1048576 ∧ C' < 1048576 ∧ ((T' = T ∧ C' = C ∧ t * 1048576 + c ≤ T * 1048576 + C) ∨ (T' = t ∧ C' = c ∧ T * 1048576 + C ≤ t * 1048576 + c)) := by
  unfold rsL
  by_cases h1 : T < t
  · rw [if_pos ((jI_lt (by omega) (by omega)).mpr h1)]
    exact ⟨t, c, rfl, ht, hc, Or.inr ⟨rfl, rfl, by omega⟩⟩
  · rw [if_neg (fun q => h1 ((jI_lt (by omega) (by omega)).mp q))]
    by_cases h2 : t = T
    · subst h2
      rw [if_pos rfl]
      by_cases h3 : c ≤ C
      · rw [if_pos ((jI_le (by omega) (by omega)).mpr h3)]
        exact ⟨t, C, rfl, hT, hC, Or.inl ⟨rfl, rfl, by omega⟩⟩
      · rw [if_neg (fun q => h3 ((jI_le (by omega) (by omega)).mp q))]
        exact ⟨t, c, rfl, ht, hc, Or.inr ⟨rfl, rfl, by omega⟩⟩
    · rw [if_neg (fun q => h2 ((jI_inj (by omega) (by omega)).mp q))]
      exact ⟨T, C, rfl, hT, hC, Or.inl ⟨rfl, rfl, by omega⟩⟩
theorem tS_r (e : rEq M M') : tS M' = tS M := by funext r; unfold tS; rw [e 14 (by decide) (by decide), e 15 (by decide) (by decide)]
theorem lsT_app (h : lsT M n l) (ht : tOk M) (hr : r < 1000) {B : mSt} (e : rEq M B) (ha : (B.2 18 n, B.2 19 n) = rsL (M.2 18 n, M.2 19 n) (M.2 14 r, M.2 15 r)) : lsT B n (l ++ [r]) := by
  obtain ⟨T, C, h1, h2, h3, h4, h5, h6⟩ := h
  obtain ⟨t1, t2, t3, t4⟩ := ht r hr
  have hS : tS M r = (M.2 14 r).toNatClampNeg * 1048576 + (M.2 15 r).toNatClampNeg := rfl
  obtain ⟨T', C', m1, m2, m3, m4⟩ := rsL_max h3 h4 t2 t4
  rw [h1, h2, jI_of t1, jI_of t3, m1] at ha
  have a1 : B.2 18 n = Int32.ofNat T' := congrArg Prod.fst ha
  have a2 : B.2 19 n = Int32.ofNat C' := congrArg Prod.snd ha
  refine ⟨T', C', a1, a2, m2, m3, fun q hq => ?_, ?_⟩
  · rw [tS_r e]
    rcases List.mem_append.mp hq with hq | hq
    · have := h5 q hq
      rcases m4 with ⟨x1, x2, x3⟩ | ⟨x1, x2, x3⟩
      · rw [x1, x2]; exact this
      · rw [x1, x2]; exact Nat.le_trans this x3
    · rw [List.mem_singleton.mp hq, hS]
      rcases m4 with ⟨x1, x2, x3⟩ | ⟨x1, x2, x3⟩
      · rw [x1, x2]; exact x3
      · rw [x1, x2]; exact Nat.le_refl _
  · rw [tS_r e]
    rcases m4 with ⟨x1, x2, x3⟩ | ⟨x1, x2, x3⟩
    · rw [x1, x2]
      rcases h6 with h6 | ⟨q, q1, q2⟩
      · exact Or.inl h6
      · exact Or.inr ⟨q, List.mem_append_left _ q1, q2⟩
    · rw [x1, x2]
      exact Or.inr ⟨r, by simp, hS⟩
theorem mde_low (h : mde M r) {q : Nat} (hn : rN q = rN r) (hq : q < 1000) (hm : rM q ≤ rM r) : mde M q := ⟨hq, by rw [hn]; exact Nat.le_trans hm h.2⟩
theorem knL_app (hA : rA M mkO sl) (hc : cl M l) (hr : nxt M l r) (h : knL M n l) {B : mSt} (ha : B.2 20 = upd (M.2 20) (4 * n + rN r) (Int32.ofNat (rM r))) : knL B n (l ++ [r]) := by
  refine ⟨h.1, fun q hq => ?_⟩
  have h1 := rM_le q
  have h2 := rM_le r
  rw [ha, List.mem_append, List.mem_singleton]
  by_cases hn : rN q = rN r
  · rw [hn, upd_s, jI_le (by omega) (by omega)]
    constructor
    · intro hle
      rcases Nat.lt_or_eq_of_le hle with hlt | heq
      · exact Or.inl (hr.2.2 q (mde_low hr.1 hn hq hle) ((kn_own (hA.1 r hr.1) hn).mpr hlt))
      · exact Or.inr (row_eq hn heq)
    · rintro (hm | hm)
      · refine Nat.le_of_lt (Classical.byContradiction fun hlt => ?_)
        have hmq := cl_mem hc hm
        rcases Nat.lt_or_eq_of_le (Nat.not_lt.mp hlt) with h3 | h3
        · exact hr.2.1 (cl_kn hc hm hr.1 ((kn_own (hA.1 q hmq) hn.symm).mpr h3))
        · exact hr.2.1 (row_eq hn h3.symm ▸ hm)
      · rw [hm]; exact Nat.le_refl _
  · rw [upd_o _ _ (by omega), h.2 q hq]
    exact ⟨Or.inl, fun q => q.resolve_right (fun e => hn (by rw [e]))⟩
/-- the reference's node behind a row -/
theorem nM_app (h : nM M mkO sl n l) (hr : nxt M l r) {B : mSt} (e : mEx wAp M B) (ha : apd M B n r l) : nM B mkO sl n (l ++ [r]) := by
  obtain ⟨h1, h2, h3, h4, h5⟩ := h
  have rB : rEq M B := rEq_mEx e (fun k hk => by unfold wAp wMid at hk; omega)
  have lB : lEq M B := lEq_mEx e (fun k hk => by unfold wAp wMid at hk; omega)
  refine ⟨mR_app h1 hr rB ha, knL_app h1.1 h1.2.1 hr h2 ha.2.2.1, lsM_l h3 lB, fun q hq => ?_, lsT_app h5 h1.1.2.2.2 hr.1.1 rB ha.2.2.2.1⟩
  rw [ha.2.2.1, mdN_r rB]
  by_cases hqr : q = rN r
  · rw [hqr, upd_s]; exact ⟨rM r, hr.1.2, rfl⟩
  · rw [upd_o _ _ (by omega)]; exact h4 q hq
theorem nEq_app (e : mEx wAp M M') (ha : apd M M' n r l) (hn : n < 4) (hr : r < 1000) (hl : l.length < 1000) (hW : otW M M' n) (hN : otN M M' n) (hT : otT M M' n) {n' : Nat} (hne : n' ≠ n) : nEq M M' n' := by
  have f : ∀ k, ¬ wAp k → M'.2 k = M.2 k := fun k hk => (e k hk).2
  have hr4 := rN_lt hr
  refine ⟨rEq_mEx e (fun k hk => by unfold wAp wMid at hk; omega), ?_, fun q hq => ⟨?_, ?_, ?_, ?_, ?_, ?_⟩, fun k hk => ⟨?_, ?_, ?_⟩, fun i hi => ?_, fun i hi => (hW n' hne).2 i hi, hN n' hne, hT n' hne⟩
  · rintro k (h | h | h | h | h) <;> subst h
    · rw [f 17 (by unfold wAp wMid; omega)]
    · exact (ha.2.2.2.2 n' hne).1
    · exact (ha.2.2.2.2 n' hne).2
    · rw [ha.2.1, upd_o _ _ hne]
    · exact (hW n' hne).1
  · rw [ha.2.2.1, upd_o _ _ (by omega)]
  · rw [f 32 (by unfold wAp wMid; omega)]
  · rw [f 33 (by unfold wAp wMid; omega)]
  · rw [f 34 (by unfold wAp wMid; omega)]
  · rw [f 35 (by unfold wAp wMid; omega)]
  · rw [f 36 (by unfold wAp wMid; omega)]
  · rw [f 21 (by unfold wAp wMid; omega)]
  · rw [f 22 (by unfold wAp wMid; omega)]
  · rw [f 31 (by unfold wAp wMid; omega)]
  · rw [ha.1, upd_o _ _ (by omega)]
theorem nM_eq (h : nM M mkO sl n l) (e : nEq M M' n) : nM M' mkO sl n l := by
  obtain ⟨⟨hA, hc, h2, h23⟩, hk, hls, ho, hl⟩ := h
  obtain ⟨e0, e1, e2, e3, e4, -⟩ := e
  refine ⟨⟨rA_r e0 hA, cl_r e0 hc, ⟨h2.1, h2.2.1, fun i hi => ?_⟩, ?_⟩, ⟨hk.1, fun r hr => ?_⟩, fun q hq => ?_, fun q hq => ?_, ?_⟩
  · rw [e4 i (by have := h2.2.1; omega)]; exact h2.2.2 i hi
  · rw [e1 23 (by omega)]; exact h23
  · rw [(e2 (rN r) (rN_lt hr)).1]; exact hk.2 r hr
  · obtain ⟨-, x1, x2, x3, -⟩ := e2 q hq
    rw [x1, x2, x3, e0 6 (by decide) (by decide)]; exact hls q hq
  · rw [mdN_r e0, (e2 q hq).1]; exact ho q hq
  · obtain ⟨T, C, g1, g2, g3, g4, g5, g6⟩ := hl
    refine ⟨T, C, by rw [e1 18 (by omega)]; exact g1, by rw [e1 19 (by omega)]; exact g2, g3, g4, ?_, ?_⟩
    · rw [tS_r e0]; exact g5
    · rw [tS_r e0]; exact g6
theorem cNv_r (e : rEq M M') {nd bk : Nat} (h : cNv M ra sl S nd bk l) : cNv M' ra sl S nd bk l := by
  unfold cNv cLed cVw
  rw [gd_r e, chF_r e, chL_r e]
  exact h
theorem cBk_r (e : rEq M M') {bk : Nat} (h : cBk M ra sl (chF M sl) (mde M) mkO S bk) : cBk M' ra sl (chF M' sl) (mde M') mkO S bk := by
  rw [chF_r e, mde_r e]
  obtain ⟨h1, h2, h3, h4, h5⟩ := h
  refine ⟨h1, h2, fun r hr hm => ⟨(h3 r hr hm).1, cRow_r e (h3 r hr hm).2⟩, h4, fun j hj => ⟨(h5 j hj).1, fun r hr => ?_⟩⟩
  rw [e 9 (by decide) (by decide)]
  exact (h5 j hj).2 r hr
/-- a node's cells and what the reference keeps of it are as they were -/
theorem nC_eq (h : nC S M ra sl x0 n l) (e : cEq W S S') (hW : ∀ a, W a → a < sN x0 n ∨ sN x0 n + 26 ≤ a) (eM : nEq M M' n) : nC S' M' ra sl x0 n l := by
  obtain ⟨⟨h1, h2, h3⟩, ⟨E, h4, h4'⟩, ⟨F, h5, h5'⟩, ⟨h6, h7, h8⟩, h9, h10, h11⟩ := h
  obtain ⟨e0, e1, e2, e3, e4, e5, e6, e7⟩ := eM
  have nw : ∀ k, k < 26 → ¬ W (sN x0 n + k) := fun k hk q => by have := hW _ q; omega
  have c0 := e.2.2.2.2 (sN x0 n) (nw 0 (by decide))
  have c5 := e.2.2.2.2 (sN x0 n + 5) (nw 5 (by decide))
  have c6 := e.2.2.2.2 (sN x0 n + 6) (nw 6 (by decide))
  have c7 := e.2.2.2.2 (sN x0 n + 7) (nw 7 (by decide))
  have c11 := e.2.2.2.2 (sN x0 n + 11) (nw 11 (by decide))
  refine ⟨⟨cNy_eq' h1 e (nw 0 (by decide)), cNv_r e0 ⟨cLed_eq h2.1 e (fun a ha => by have := hW a ha; omega), cVw_eq h2.2.1 e (nw 20 (by decide)) (nw 15 (by decide)), vwA_eq h2.2.2 e (nw 20 (by decide))⟩, fun q hq => ?_⟩, ⟨E, cLg_eq h4 e (nw 1 (by decide)) (nw 2 (by decide)), ?_⟩, ⟨F, cLg_eq h5 e (nw 3 (by decide)) (nw 4 (by decide)), ?_⟩, ⟨?_, ?_, ?_⟩, fun m q hm hq => ?_, fun k hk => ?_, fun k hk => ?_⟩
  · obtain ⟨-, x1, x2, x3, x4, x5⟩ := e2 q hq
    rw [x1, x2, x3, x4, x5, e0 6 (by decide) (by decide), c11.2.2.1]; exact h3 q hq
  · refine ⟨h4'.1, by rw [e6.1]; exact h4'.2.1, fun i hi => ?_⟩
    obtain ⟨y1, y2, y3⟩ := e6.2 i (by have := h4'.1; omega)
    rw [y1, y2, y3]; exact h4'.2.2 i hi
  · refine ⟨h5'.1, by rw [e7.1]; exact h5'.2.1, fun i hi => ?_⟩
    obtain ⟨y1, y2, y3, y4⟩ := e7.2 i (by have := h5'.1; omega)
    rw [y1, y2, y3, y4]; exact h5'.2.2 i hi
  · rw [c0.1, e1 17 (by omega)]; exact h6
  · rw [c0.1, e1 18 (by omega)]; exact h7
  · rw [c0.1, e1 19 (by omega)]; exact h8
  · rw [c5.2.2.1, h9 m q hm hq]
    unfold snV
    by_cases hmn : m = n
    · rw [if_pos hmn, if_pos hmn, (e2 q hq).1]
    · rw [if_neg hmn, if_neg hmn, Nat.add_assoc, (e3 (4 * m + q) (by omega)).1]
  · rw [c6.2.2.1, h10 k hk, (e3 k hk).2.1]
  · rw [c7.2.2.1, h11 k hk, (e3 k hk).2.2]
theorem nW_eq (h : nW S ra x0 n Wt) (e : cEq W S S') (h1 : ¬ W (sN x0 n)) (h2 : ¬ W (sN x0 n + 8)) : nW S' ra x0 n Wt := by
  unfold nW
  rw [(e.2.2.2.2 _ h1).1, (e.2.2.2.2 _ h2).2.2.2]
  exact h
theorem mWt_n {Wt : List Nat} (h : mWt M n Wt) (e : nEq M M' n) : mWt M' n Wt := by
  refine ⟨h.1, by rw [e.2.1 25 (by omega)]; exact h.2.1, fun i hi => ?_⟩
  rw [e.2.2.2.2.2.1 i (by have := h.1; omega)]
  exact h.2.2 i hi
theorem wOk_r (h : wOk M l Wt) (e : rEq M M') : wOk M' l Wt := by unfold wOk; rw [mde_r e]; exact h
/-- a row applied at both -/
theorem ap_both (hn : n < 4) (hB : cBk M ra sl (chF M sl) (mde M) mkO S (x0 + 5)) (hm : nM M mkO sl n l) (hc : nC S M ra sl x0 n l) (hr : nxt M l r) (hW : mWt M n Wt) : ∃ S' M', fk_7_apply S (sN x0 n) (ra r) = some S' ∧ fm_apply M (Int32.ofNat n) (Int32.ofNat r) = some M' ∧ cEq (inAp (sN x0 n)) S S' ∧ mEx wAp M M' ∧ (∀ n', n' ≠ n → nEq M M' n') ∧ nM M' mkO sl n (l ++ [r]) ∧ nC S' M' ra sl x0 n (l ++ [r]) ∧ mWt M' n (Wt.filter (fun q => decide (q ≠ r))) ∧ kF S' (sN x0 n) 11 = kF S (sN x0 n) 11 := by
  have hm' := hm
  obtain ⟨h1, h2, h3, h4, h5⟩ := hm
  obtain ⟨⟨c1, c2, c3⟩, ⟨E, c4, c4'⟩, ⟨F, c5, c5'⟩, ⟨c6, c7, c8⟩, c9, c10, c11⟩ := hc
  have hA := h1.1
  have hcl := h1.2.1
  have hlen : l.length < 1000 := by
    have := cl_len (cl_app hcl hr)
    rw [List.length_append, List.length_singleton] at this; omega
  have hb : x0 + 5 + 5 ≤ sN x0 n ∧ sN x0 n + 26 ≤ x0 + 5 + 128 := by unfold sN; omega
  obtain ⟨M', m1, m2, m3, m4, m5, m6, m7, m8, m9⟩ := m_apply h1 h3 hr hW c4' c5'
  obtain ⟨S', s1, s2, s3, s4, s5, s6, s7, s8, m, s9, s10, s11, s12⟩ := k_apply hA hcl hr hB c1 hn c2 hb c3 c4 c5
  have rB : rEq M M' := rEq_mEx m2 (fun k hk => by unfold wAp wMid at hk; omega)
  have f : ∀ k, ¬ wAp k → M'.2 k = M.2 k := fun k hk => (m2 k hk).2
  rw [tu_eq hA hcl hr s10 s11 s9] at m8
  have u6 := s2.2.2.2.2 (sN x0 n + 6) (fun q => by unfold inAp at q; omega)
  have u7 := s2.2.2.2.2 (sN x0 n + 7) (fun q => by unfold inAp at q; omega)
  have u11 := s2.2.2.2.2 (sN x0 n + 11) (fun q => by unfold inAp at q; omega)
  refine ⟨S', M', s1, m1, s2, m2, fun n' hne => nEq_app m2 m3 hn hr.1.1 hlen m5 m7 m9 hne, nM_app hm' hr m2 m3, ?_, m4, s4 11 (by decide) (by decide)⟩
  refine ⟨⟨cNy_eq c1 s2 s3 (s4 0 (by decide) (by decide)), cNv_r rB s7, fun q hq => ?_⟩, ⟨_, s8, m6⟩, ⟨_, s12, m8⟩, ⟨?_, ?_, ?_⟩, fun a q ha hq => ?_, fun k hk => ?_, fun k hk => ?_⟩
  · rw [f 32 (by unfold wAp wMid; omega), f 33 (by unfold wAp wMid; omega), f 34 (by unfold wAp wMid; omega), f 35 (by unfold wAp wMid; omega), f 36 (by unfold wAp wMid; omega), f 6 (by unfold wAp wMid; omega), u11.2.2.1]
    exact c3 q hq
  · rw [s4 8 (by decide) (by decide), f 17 (by unfold wAp wMid; omega)]; exact c6
  · have := congrArg Prod.fst (s5.trans (by rw [c7, c8] : _ = rsL (M.2 18 n, M.2 19 n) (M.2 14 r, M.2 15 r)))
    rw [← m3.2.2.2.1] at this
    exact this
  · have := congrArg Prod.snd (s5.trans (by rw [c7, c8] : _ = rsL (M.2 18 n, M.2 19 n) (M.2 14 r, M.2 15 r)))
    rw [← m3.2.2.2.1] at this
    exact this
  · have hr4 := rN_lt hr.1.1
    rw [s6]
    unfold snV
    by_cases han : a = n
    · subst han
      rw [if_pos rfl, m3.2.2.1]
      by_cases hqr : q = rN r
      · rw [hqr, upd_s, upd_s]
      · rw [upd_o _ _ (by omega), upd_o _ _ (by omega), c9 a q ha hq]
        unfold snV; rw [if_pos rfl]
    · rw [if_neg han, upd_o _ _ (by omega), c9 a q ha hq, f 21 (by unfold wAp wMid; omega)]
      unfold snV; rw [if_neg han]
  · rw [u6.2.2.1, f 22 (by unfold wAp wMid; omega)]; exact c10 k hk
  · rw [u7.2.2.1, f 31 (by unfold wAp wMid; omega)]; exact c11 k hk
end B
