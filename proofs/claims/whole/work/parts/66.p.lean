-- part 66: the reference makes a row
/-- a new row in the reference, not yet applied -/
def nwE (M : mSt) (n r : Nat) (s o p v w t c : Int32) (M1 : mSt) : Prop :=
  (M1.2 7 = upd (M.2 7) n (Int32.ofNat (mdN M n + 1)) ∧ M1.2 8 = upd (M.2 8) n (M.2 8 n + (if s = 0 then 1 else 0))) ∧ (M1.2 9 = upd (M.2 9) r s ∧ M1.2 10 = upd (M.2 10) r o ∧ M1.2 11 = upd (M.2 11) r p ∧ M1.2 12 = upd (M.2 12) r v ∧ M1.2 13 = upd (M.2 13) r w ∧ M1.2 14 = upd (M.2 14) r t ∧ M1.2 15 = upd (M.2 15) r c) ∧
  (∀ q, q < 4 → M1.2 16 (4 * r + q) = M.2 20 (4 * n + q)) ∧ (∀ j, (j < 4 * r ∨ 4 * r + 4 ≤ j) → M1.2 16 j = M.2 16 j) ∧ mEx (fun k => 7 ≤ k ∧ k ≤ 16) M M1
def stM (M : mSt) (n : Nat) : Int32 := if nwT M n = M.2 18 n then M.2 19 n + 1 else 0
section R
variable {M : mSt} {mkO : Nat → Option Nat} {sl : Nat → Int32} {n : Nat} {l : List Nat}
theorem m_makeVec (hn : n < 4) {r : Nat} (hr : r < 1000) : ∀ (j i fu : Nat) (s : mSt), i + j = 4 → j < fu → (∀ q, q < i → s.2 16 (4 * r + q) = s.2 20 (4 * n + q)) → ∃ s', fm_make_88 fu s (Int32.ofNat n) (Int32.ofNat r) (Int32.ofNat i) = fm_make_155 s' (Int32.ofNat n) (Int32.ofNat r) (Int32.ofNat r) (nwT s n) ∧ mEx (fun k => k = 16) s s' ∧ (∀ q, q < 4 → s'.2 16 (4 * r + q) = s.2 20 (4 * n + q)) ∧ ∀ k, (k < 4 * r ∨ 4 * r + 4 ≤ k) → s'.2 16 k = s.2 16 k := by
  intro j
  induction j with
  | zero =>
    intro i fu s hi hf h0
    obtain ⟨fu, rfl⟩ : ∃ z, fu = z + 1 := ⟨fu - 1, by omega⟩
    have hi4 : i = 4 := by omega
    subst hi4
    refine ⟨s, ?_, mEx_refl _ _, h0, fun _ _ => rfl⟩
    rw [fm_make_88, if_pos (show (4 : Int32) ≤ Int32.ofNat 4 by decide), ck_n hn (by omega), ck_n hn (by omega), rd_n _ _ (by omega), rd_n _ _ (by omega)]
    unfold nwT
    by_cases h : s.2 17 n ≤ s.2 18 n
    · rw [if_pos h, if_pos h, ck_n hn (by omega)]
    · rw [if_neg h, if_neg h, ck_n hn (by omega)]
  | succ j ih =>
    intro i fu s hi hf h0
    obtain ⟨fu, rfl⟩ : ∃ z, fu = z + 1 := ⟨fu - 1, by omega⟩
    obtain ⟨s', a1, a2, a3, a4⟩ := ih (i + 1) fu (wr s 16 (Int32.ofNat (4 * r + i)) (s.2 20 (4 * n + i))) (by omega) (by omega) (fun q hq => by
      rw [wr_s _ _ (by omega), wr_o _ _ _ (show (20 : Nat) ≠ 16 by decide)]
      by_cases e : q = i
      · subst e; rw [upd_s]
      · rw [upd_o _ _ (by omega)]; exact h0 q (by omega))
    have enw : nwT (wr s 16 (Int32.ofNat (4 * r + i)) (s.2 20 (4 * n + i))) n = nwT s n := by unfold nwT; rw [wr_o _ _ _ (by decide), wr_o _ _ _ (by decide)]
    rw [enw] at a1
    refine ⟨s', ?_, mEx_trans (mEx_wr1 _ _) a2, fun q hq => ?_, fun k hk => ?_⟩
    · rw [← a1, fm_make_88, if_neg (jK 4 4 (b := i) rfl (by omega) (by decide)), m_knownOf (mEx_refl sc s) hn (by omega), bd_s, show (4 : Int32) = Int32.ofNat 4 from rfl, jI_mul, jI_add, ck_n (by omega) (by omega), lt_d, lt_d, show (1 : Int32) = Int32.ofNat 1 from rfl, jI_add]
    · rw [a3 q hq, wr_o _ _ _ (by decide)]
    · rw [a4 k hk, wr_s _ _ (by omega), upd_o _ _ (by omega)]
theorem m_makeTo (hn : n < 4) (h7 : M.2 7 n = Int32.ofNat (mdN M n)) (hm : mdN M n < 250) (s o p v w : Int32) : ∃ M1, fm_make M (Int32.ofNat n) s o p v w = (bd (fm_apply M1 (Int32.ofNat n) (Int32.ofNat (250 * n + mdN M n))) fun S2 => some (Int32.ofNat (rNm (250 * n + mdN M n)), S2)) ∧ nwE M n (250 * n + mdN M n) s o p v w (nwT M n) (stM M n) M1 := by
  generalize hr : 250 * n + mdN M n = r
  have hr1 : r < 1000 := by omega
  unfold fm_make
  rw [ck_n hn (by omega), lt_d, rd_n _ _ (by omega), h7, show (250 : Int32) = Int32.ofNat 250 from rfl, jI_mul, jI_add, hr, ck_n hn (by omega), ck_n hn (by omega), lt_d, show (1 : Int32) = Int32.ofNat 1 from rfl, jI_add, ck_n hn (by omega), rd_n _ _ (by omega), wr_o _ _ _ (show (8 : Nat) ≠ 7 by decide)]
  have key : ∀ x : Int32, x = (if s = 0 then 1 else 0) → ∃ M1, fm_make_40 (wr M 7 (Int32.ofNat n) (Int32.ofNat (mdN M n + 1))) (Int32.ofNat n) s o p v w (Int32.ofNat r) (Int32.ofNat n) (M.2 8 n) x = (bd (fm_apply M1 (Int32.ofNat n) (Int32.ofNat r)) fun S2 => some (Int32.ofNat (rNm r), S2)) ∧ nwE M n r s o p v w (nwT M n) (stM M n) M1 := fun x hx => by
    unfold fm_make_40
    rw [ck_n hn (by omega), lt_d]
    simp only [ck_n hr1 (show r < 2147483648 by omega), lt_d]
    generalize hS6 : wr (wr (wr (wr (wr (wr (wr M 7 (Int32.ofNat n) (Int32.ofNat (mdN M n + 1))) 8 (Int32.ofNat n) (M.2 8 n + x)) 9 (Int32.ofNat r) s) 10 (Int32.ofNat r) o) 11 (Int32.ofNat r) p) 12 (Int32.ofNat r) v) 13 (Int32.ofNat r) w = S6
    have e6 : mEx (fun k => 7 ≤ k ∧ k ≤ 16) M S6 := by
      rw [← hS6]
      exact mEx_trans (mEx_wr (by simp) _ _) (mEx_trans (mEx_wr (by simp) _ _) (mEx_trans (mEx_wr (by simp) _ _) (mEx_trans (mEx_wr (by simp) _ _) (mEx_trans (mEx_wr (by simp) _ _) (mEx_trans (mEx_wr (by simp) _ _) (mEx_wr (by simp) _ _))))))
    have f7 : S6.2 7 = upd (M.2 7) n (Int32.ofNat (mdN M n + 1)) := by rw [← hS6]; rw [wr_o _ _ _ (by decide), wr_o _ _ _ (by decide), wr_o _ _ _ (by decide), wr_o _ _ _ (by decide), wr_o _ _ _ (by decide), wr_o _ _ _ (by decide), wr_s _ _ (by omega)]
    have f8 : S6.2 8 = upd (M.2 8) n (M.2 8 n + x) := by rw [← hS6]; rw [wr_o _ _ _ (by decide), wr_o _ _ _ (by decide), wr_o _ _ _ (by decide), wr_o _ _ _ (by decide), wr_o _ _ _ (by decide), wr_s _ _ (by omega), wr_o _ _ _ (by decide)]
    have f9 : S6.2 9 = upd (M.2 9) r s := by rw [← hS6]; rw [wr_o _ _ _ (by decide), wr_o _ _ _ (by decide), wr_o _ _ _ (by decide), wr_o _ _ _ (by decide), wr_s _ _ (by omega), wr_o _ _ _ (by decide), wr_o _ _ _ (by decide)]
    have f10 : S6.2 10 = upd (M.2 10) r o := by rw [← hS6]; rw [wr_o _ _ _ (by decide), wr_o _ _ _ (by decide), wr_o _ _ _ (by decide), wr_s _ _ (by omega), wr_o _ _ _ (by decide), wr_o _ _ _ (by decide), wr_o _ _ _ (by decide)]
    have f11 : S6.2 11 = upd (M.2 11) r p := by rw [← hS6]; rw [wr_o _ _ _ (by decide), wr_o _ _ _ (by decide), wr_s _ _ (by omega), wr_o _ _ _ (by decide), wr_o _ _ _ (by decide), wr_o _ _ _ (by decide), wr_o _ _ _ (by decide)]
    have f12 : S6.2 12 = upd (M.2 12) r v := by rw [← hS6]; rw [wr_o _ _ _ (by decide), wr_s _ _ (by omega), wr_o _ _ _ (by decide), wr_o _ _ _ (by decide), wr_o _ _ _ (by decide), wr_o _ _ _ (by decide), wr_o _ _ _ (by decide)]
    have f13 : S6.2 13 = upd (M.2 13) r w := by rw [← hS6]; rw [wr_s _ _ (by omega), wr_o _ _ _ (by decide), wr_o _ _ _ (by decide), wr_o _ _ _ (by decide), wr_o _ _ _ (by decide), wr_o _ _ _ (by decide), wr_o _ _ _ (by decide)]
    have fo : ∀ k, k = 14 ∨ k = 15 ∨ k = 16 → S6.2 k = M.2 k := fun k hk => by rw [← hS6]; rw [wr_o _ _ _ (by omega), wr_o _ _ _ (by omega), wr_o _ _ _ (by omega), wr_o _ _ _ (by omega), wr_o _ _ _ (by omega), wr_o _ _ _ (by omega), wr_o _ _ _ (by omega)]
    obtain ⟨T, t1, t2, t3, t4⟩ := m_makeVec hn hr1 4 0 mFU S6 (by omega) (by decide) (fun q hq => absurd hq (by omega))
    have enw : nwT S6 n = nwT M n := by unfold nwT; rw [(e6 17 (by omega)).2, (e6 18 (by omega)).2]
    have t1' : fm_make_88 mFU S6 (Int32.ofNat n) (Int32.ofNat r) 0 = fm_make_155 T (Int32.ofNat n) (Int32.ofNat r) (Int32.ofNat r) (nwT S6 n) := t1
    rw [t1', enw]
    unfold fm_make_155
    rw [ck_n hr1 (by omega), lt_d, ck_n hr1 (by omega), ck_n hn (by omega), rd_n _ _ (by omega), rd_n _ _ (by omega), wr_s _ _ (by omega), upd_s, wr_o _ _ _ (show (18 : Nat) ≠ 14 by decide), (t2 18 (by omega)).2, (e6 18 (by omega)).2]
    have fin : ∀ c : Int32, c = stM M n → ∃ M1, fm_make_190 (wr T 14 (Int32.ofNat r) (nwT M n)) (Int32.ofNat n) (Int32.ofNat r) (Int32.ofNat r) c = (bd (fm_apply M1 (Int32.ofNat n) (Int32.ofNat r)) fun S2 => some (Int32.ofNat (rNm r), S2)) ∧ nwE M n r s o p v w (nwT M n) (stM M n) M1 := fun c hc => by
      unfold fm_make_190
      rw [ck_n hr1 (by omega), lt_d]
      have fT : ∀ k, k ≠ 16 → T.2 k = S6.2 k := fun k hk => (t2 k hk).2
      refine ⟨wr (wr T 14 (Int32.ofNat r) (nwT M n)) 15 (Int32.ofNat r) c, ?_, ⟨?_, ?_⟩, ⟨?_, ?_, ?_, ?_, ?_, ?_, ?_⟩, fun q hq => ?_, fun j hj => ?_, ?_⟩
      · cases fm_apply (wr (wr T 14 (Int32.ofNat r) (nwT M n)) 15 (Int32.ofNat r) c) (Int32.ofNat n) (Int32.ofNat r) with
        | none => rfl
        | some S2 => rw [bd_s, bd_s, m_nameOf hr1, bd_s]
      · rw [wr_o _ _ _ (by decide), wr_o _ _ _ (by decide), fT 7 (by decide), f7]
      · rw [wr_o _ _ _ (by decide), wr_o _ _ _ (by decide), fT 8 (by decide), f8, hx]
      · rw [wr_o _ _ _ (by decide), wr_o _ _ _ (by decide), fT 9 (by decide), f9]
      · rw [wr_o _ _ _ (by decide), wr_o _ _ _ (by decide), fT 10 (by decide), f10]
      · rw [wr_o _ _ _ (by decide), wr_o _ _ _ (by decide), fT 11 (by decide), f11]
      · rw [wr_o _ _ _ (by decide), wr_o _ _ _ (by decide), fT 12 (by decide), f12]
      · rw [wr_o _ _ _ (by decide), wr_o _ _ _ (by decide), fT 13 (by decide), f13]
      · rw [wr_o _ _ _ (by decide), wr_s _ _ (by omega), fT 14 (by decide), fo 14 (Or.inl rfl)]
      · rw [wr_s _ _ (by omega), wr_o _ _ _ (by decide), fT 15 (by decide), fo 15 (Or.inr (Or.inl rfl)), hc]
      · rw [wr_o _ _ _ (by decide), wr_o _ _ _ (by decide), t3 q hq, (e6 20 (by omega)).2]
      · rw [wr_o _ _ _ (by decide), wr_o _ _ _ (by decide), t4 j hj, fo 16 (Or.inr (Or.inr rfl))]
      · exact mEx_trans e6 (mEx_trans (mEx_mono t2 (fun k hk => by omega)) (mEx_trans (mEx_wr (by simp) _ _) (mEx_wr (by simp) _ _)))
    unfold stM at fin ⊢
    by_cases hh : nwT M n = M.2 18 n
    · rw [if_pos hh] at fin ⊢
      rw [if_pos hh, ck_n hn (by omega), rd_n _ _ (by omega), wr_o _ _ _ (show (19 : Nat) ≠ 14 by decide), (t2 19 (by omega)).2, (e6 19 (by omega)).2]
      exact fin _ rfl
    · rw [if_neg hh] at fin ⊢
      rw [if_neg hh]
      exact fin _ rfl
  by_cases hs : s = 0
  · rw [if_pos hs]
    exact key _ (by rw [if_pos hs]; rfl)
  · rw [if_neg hs]
    exact key _ (by rw [if_neg hs])
/-- slots: twelve a node, those of its makes first -/
def slI (M : mSt) (mkO : Nat → Option Nat) : Prop := (∀ j m, mkO j = some m → rN m = j / 12) ∧ ∀ n, n < 4 → ∃ c, c ≤ 12 ∧ M.2 8 n = Int32.ofNat c ∧ ∀ i, i < 12 → (mkO (12 * n + i) = none ↔ c ≤ i)
/-- the insert that a new row names -/
def dIn (M : mSt) (l : List Nat) (o p w : Int32) (t : Nat) : Prop := t ∈ l ∧ M.2 9 t = 9 ∧ M.2 10 t = o ∧ M.2 11 t = p ∧ w = Int32.ofNat (rNm t)
/-- what is known of a row that is to be made -/
def dOk (M : mSt) (mkO : Nat → Option Nat) (n : Nat) (l : List Nat) (j : Nat) (s o p v w : Int32) : Prop :=
  (∃ k, k < 19 ∧ s = Int32.ofNat k) ∧ (s = 0 → (∃ c, c < 12 ∧ M.2 8 n = Int32.ofNat c ∧ j = 12 * n + c) ∧ ∃ kd, kd < 8 ∧ v = Int32.ofNat kd) ∧
  (tuS s → ∃ t, mde M t ∧ rN t = n ∧ w = Int32.ofNat (rNm t) ∧ cbU (M.2 9 t)) ∧
  (¬ (s = 0 ∨ s = 13 ∨ s = 14) → ∃ m kd, kd < 8 ∧ mkO j = some m ∧ m ∈ l ∧ M.2 12 m = Int32.ofNat kd ∧ o = Int32.ofNat (rNm m) ∧ (ruS s = 0 → p = 0) ∧ (ruS s ≠ 0 → ∃ p', p' < 6 ∧ p = Int32.ofNat p' ∧ M.2 6 (6 * kd + p') = ruS s)) ∧
  (s = 6 → ∃ x, x < 4 ∧ w = Int32.ofNat x) ∧ (s = 7 ∨ s = 8 ∨ s = 15 ∨ s = 16 → ∃ x, x < 64 ∧ v = Int32.ofNat x) ∧ (s = 9 → w = 0 ∨ ∃ t, dIn M l o p w t) ∧ (s = 10 → ∃ t, dIn M l o p w t) ∧
  (s = 11 → v = -1 ∨ ∃ j' m', mkO j' = some m' ∧ m' ∈ l ∧ v = Int32.ofNat (rNm m'))
end R
