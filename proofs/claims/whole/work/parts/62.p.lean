-- part 62: the reference applies a row: the middle
section R
variable {M A : mSt} {mkO : Nat → Option Nat} {sl : Nat → Int32} {n : Nat} {l : List Nat}
/-- the rows that wait at a node -/
def mWt (A : mSt) (n : Nat) (Wt : List Nat) : Prop := Wt.length ≤ 30 ∧ A.2 25 n = Int32.ofNat Wt.length ∧ ∀ i (h : i < Wt.length), A.2 26 (30 * n + i) = Int32.ofNat Wt[i] ∧ Wt[i] < 1000
def otW (A B : mSt) (n : Nat) : Prop := ∀ n', n' ≠ n → B.2 25 n' = A.2 25 n' ∧ ∀ k, k < 30 → B.2 26 (30 * n' + k) = A.2 26 (30 * n' + k)
theorem m_dropGo (hn : n < 4) {r : Nat} (hr : r < 1000) {Wt : List Nat} (hW : Wt.length ≤ 30) (hb : ∀ x ∈ Wt, x < 1000) : ∀ (j i fu : Nat) (s : mSt), i + j = Wt.length → j < fu → s.2 25 n = Int32.ofNat Wt.length → (∀ k (h : k < Wt.length), i ≤ k → s.2 26 (30 * n + k) = Int32.ofNat Wt[k]) → (∀ k (h : k < ((Wt.take i).filter (fun q => decide (q ≠ r))).length), s.2 26 (30 * n + k) = Int32.ofNat ((Wt.take i).filter (fun q => decide (q ≠ r)))[k]) → ∃ s', fm_drop_5 fu s (Int32.ofNat n) (Int32.ofNat r) (Int32.ofNat ((Wt.take i).filter (fun q => decide (q ≠ r))).length) (Int32.ofNat i) = some s' ∧ mEx (fun k => k = 25 ∨ k = 26) s s' ∧ s'.2 25 = upd (s.2 25) n (Int32.ofNat (Wt.filter (fun q => decide (q ≠ r))).length) ∧ (∀ k (h : k < (Wt.filter (fun q => decide (q ≠ r))).length), s'.2 26 (30 * n + k) = Int32.ofNat (Wt.filter (fun q => decide (q ≠ r)))[k]) ∧ ∀ k, (k < 30 * n ∨ 30 * n + 30 ≤ k) → s'.2 26 k = s.2 26 k := by
  intro j
  induction j with
  | zero =>
    intro i fu s hi hf h25 h1 h2
    obtain ⟨fu, rfl⟩ : ∃ z, fu = z + 1 := ⟨fu - 1, by omega⟩
    have hi2 : i = Wt.length := by omega
    subst hi2
    rw [List.take_length] at h2 ⊢
    refine ⟨_, ?_, mEx_wr (W := fun k => k = 25 ∨ k = 26) (k := 25) (Or.inl rfl) (Int32.ofNat n) (Int32.ofNat (Wt.filter (fun q => decide (q ≠ r))).length), ?_, fun k hk => ?_, fun k hk => ?_⟩
    · rw [fm_drop_5, ck_n hn (by omega), rd_n _ _ (by omega), h25, if_pos (Int32.le_refl _), ck_n hn (by omega), lt_d]
    · rw [wr_s _ _ (by omega)]
    · rw [wr_o _ _ _ (by decide)]; exact h2 k hk
    · rw [wr_o _ _ _ (by decide)]
  | succ j ih =>
    intro i fu s hi hf h25 h1 h2
    obtain ⟨fu, rfl⟩ : ∃ z, fu = z + 1 := ⟨fu - 1, by omega⟩
    have hil : i < Wt.length := by omega
    have en : ∀ k : Nat, Int32.ofNat k + 1 = Int32.ofNat (k + 1) := fun k => by rw [show (1 : Int32) = Int32.ofNat 1 from rfl, jI_add]
    have hx := hb _ (List.getElem_mem hil)
    have htk : (Wt.take (i + 1)).filter (fun q => decide (q ≠ r)) = (Wt.take i).filter (fun q => decide (q ≠ r)) ++ (if Wt[i] = r then [] else [Wt[i]]) := by
      rw [take_app hil, List.filter_append]
      congr 1
      by_cases h : Wt[i] = r <;> simp [h]
    have hfl : ((Wt.take i).filter (fun q => decide (q ≠ r))).length ≤ i := Nat.le_trans (List.length_filter_le _ _) (by rw [List.length_take]; omega)
    rw [fm_drop_5, ck_n hn (by omega), rd_n _ _ (by omega), h25, if_neg (fun z => absurd ((jI_le (by omega) (by omega)).mp z) (by omega)), show (30 : Int32) = Int32.ofNat 30 from rfl, jI_mul, jI_add, ck_n (by omega) (by omega), lt_d, rd_n _ _ (by omega), h1 i hil (Nat.le_refl _)]
    unfold fm_drop_55
    by_cases hr2 : Wt[i] = r
    · rw [if_pos (by rw [hr2]), lt_d, en]
      have htk2 : (Wt.take (i + 1)).filter (fun q => decide (q ≠ r)) = (Wt.take i).filter (fun q => decide (q ≠ r)) := by rw [htk, if_pos hr2, List.append_nil]
      have := ih (i + 1) fu s (by omega) (by omega) h25 (fun k hk hik => h1 k hk (by omega)) (by rw [htk2]; exact h2)
      rw [htk2] at this
      exact this
    · rw [if_neg (fun z => hr2 ((jI_inj (by omega) (by omega)).mp z)), jI_add, ck_n (by omega) (by omega), lt_d, lt_d, lt_d, en, en]
      have htk2 : (Wt.take (i + 1)).filter (fun q => decide (q ≠ r)) = (Wt.take i).filter (fun q => decide (q ≠ r)) ++ [Wt[i]] := by rw [htk, if_neg hr2]
      generalize hL : (Wt.take i).filter (fun q => decide (q ≠ r)) = L at *
      have := ih (i + 1) fu (wr s 26 (Int32.ofNat (30 * n + L.length)) (Int32.ofNat Wt[i])) (by omega) (by omega) (by rw [wr_o _ _ _ (by decide)]; exact h25) (fun k hk hik => by
        rw [wr_s _ _ (by omega), upd_o _ _ (by omega)]; exact h1 k hk (by omega)) (by
        rw [htk2]
        intro k hk
        rw [wr_s _ _ (by omega)]
        by_cases hk2 : k = L.length
        · subst hk2
          rw [upd_s, List.getElem_append_right (Nat.le_refl _)]
          simp
        · rw [List.length_append, List.length_singleton] at hk
          rw [upd_o _ _ (by omega), List.getElem_append_left (by omega)]
          exact h2 k (by omega))
      rw [htk2, List.length_append, List.length_singleton] at this
      obtain ⟨s', a1, a2, a3, a4, a5⟩ := this
      refine ⟨s', a1, mEx_trans (mEx_wr (by simp) _ _) a2, by rw [a3, wr_o _ _ _ (by decide)], a4, fun k hk => ?_⟩
      rw [a5 k hk, wr_s _ _ (by omega), upd_o _ _ (by omega)]
theorem m_drop (hn : n < 4) {r : Nat} (hr : r < 1000) {Wt : List Nat} (h : mWt A n Wt) : ∃ B, fm_drop A (Int32.ofNat n) (Int32.ofNat r) = some B ∧ mEx (fun k => k = 25 ∨ k = 26) A B ∧ mWt B n (Wt.filter (fun q => decide (q ≠ r))) ∧ otW A B n := by
  obtain ⟨h1, h2, h3⟩ := h
  unfold fm_drop
  obtain ⟨s', a1, a2, a3, a4, a5⟩ := m_dropGo hn hr h1 (fun x hx => by obtain ⟨i, hi, rfl⟩ := List.mem_iff_getElem.mp hx; exact (h3 i hi).2) Wt.length 0 mFU A (by omega) (Nat.lt_of_le_of_lt h1 (by decide)) h2 (fun k hk _ => (h3 k hk).1) (fun k hk => absurd hk (by simp))
  refine ⟨s', a1, a2, ⟨Nat.le_trans (List.length_filter_le _ _) h1, by rw [a3, upd_s], fun i hi => ⟨a4 i hi, ?_⟩⟩, fun n' hne => ⟨by rw [a3, upd_o _ _ hne], fun k hk => a5 _ (by omega)⟩⟩
  have hm := (List.mem_filter.mp (List.getElem_mem hi)).1
  obtain ⟨k, hk, e⟩ := List.mem_iff_getElem.mp hm
  rw [← e]; exact (h3 k hk).2
/-- what is left of an apply behind the dropping -/
noncomputable def apRest (S1 : mSt) (v1 v2 v3 v4 v5 v6 v7 v8 : Int32) : Option mSt :=
  if v5 = 0 then (
  if v4 = (11 : Int32) then (
  bd (fm_findParents S1 v1 (v7 + (1 : Int32))) fun S8 =>
  fm_apply_483 mFU S8 v1 v2 (0 : Int32))
  else (
  bd (fm_isThere S1 v1 v6 (v7 + (1 : Int32))) fun q_r5 => lt q_r5.1 fun r5 => lt q_r5.2 fun S4 =>
  if v8 = r5 then (
  fm_apply_559 S4 v1 v2)
  else (
  bd (fm_tell S4 v1 v2 v6 (7 : Int32)) fun S7 =>
  fm_apply_559 S7 v1 v2)))
  else (
  ck v3 1000 (
  bd (fm_look S1 v1 (v7 + (1 : Int32)) v6 (rd S1 11 v3)) fun S9 =>
  if (S9.1 49) = (S9.1 61) then (
  fm_apply_377 S9 v1 v2 v3 v6 (1 : Int32))
  else (
  fm_apply_377 S9 v1 v2 v3 v6 (0 : Int32))))
theorem ap333 (S : mSt) (v1 v2 v3 v4 v5 v6 v7 v8 : Int32) : fm_apply_333 S v1 v2 v3 v4 v5 v6 v7 v8 = bd (fm_drop S v1 v2) fun S1 => apRest S1 v1 v2 v3 v4 v5 v6 v7 v8 := rfl
/-- what an apply changes -/
def wMid : Nat → Prop := fun k => k = 18 ∨ k = 19 ∨ k = 20 ∨ k = 23 ∨ k = 24 ∨ k = 25 ∨ k = 26
/-- the rows, the counts and the last stamp at a node, behind a row -/
def apd (M B : mSt) (n r : Nat) (l : List Nat) : Prop := B.2 24 = upd (M.2 24) (1000 * n + l.length) (Int32.ofNat r) ∧ B.2 23 = upd (M.2 23) n (Int32.ofNat (l.length + 1)) ∧ B.2 20 = upd (M.2 20) (4 * n + rN r) (Int32.ofNat (rM r)) ∧ (B.2 18 n, B.2 19 n) = rsL (M.2 18 n, M.2 19 n) (M.2 14 r, M.2 15 r) ∧ ∀ n', n' ≠ n → B.2 18 n' = M.2 18 n' ∧ B.2 19 n' = M.2 19 n'
theorem m_mid (h : mR M mkO sl n l) (hls : lsM M n) (e : mEx sc M A) {r : Nat} (hr : nxt M l r) {Wt : List Nat} (hW : mWt M n Wt) (v3 v4 v5 v6 v8 : Int32) : ∃ B, fm_apply_218 A (Int32.ofNat n) (Int32.ofNat r) v3 v4 v5 v6 (Int32.ofNat l.length) v8 = apRest B (Int32.ofNat n) (Int32.ofNat r) v3 v4 v5 v6 (Int32.ofNat l.length) v8 ∧ mEx (fun k => wK k ∨ wMid k) A B ∧ apd M B n r l ∧ mWt B n (Wt.filter (fun q => decide (q ≠ r))) ∧ otW M B n ∧ ∀ q, q < 4 → inK B q (liL M n l q) := by
  have hn := h.2.2.1.1
  have hr1 := hr.1.1
  have hlen : l.length < 1000 := by
    have := cl_len (cl_app h.2.1 hr)
    rw [List.length_append, List.length_singleton] at this; omega
  have hr4 := rN_lt hr1
  have hrm := rM_le r
  obtain ⟨K, k1, k2, k3⟩ := m_keepLists h hls e
  have eK : mEx sc M K := mEx_trans e (mEx_mono k2 (fun k hk => by unfold wK wF at hk; unfold sc; omega))
  unfold fm_apply_218
  rw [k1, bd_s, show (1000 : Int32) = Int32.ofNat 1000 from rfl, jI_mul, jI_add, ck_n (by omega) (by omega), lt_d, ck_n hn (by omega), ck_n hn (by omega), lt_d, m_nodeOf hr1, bd_s, m_numberOf hr1, bd_s, show (4 : Int32) = Int32.ofNat 4 from rfl, jI_mul, jI_add, ck_n (by omega) (by omega), lt_d]
  generalize hS6 : wr (wr (wr K 24 (Int32.ofNat (1000 * n + l.length)) (Int32.ofNat r)) 23 (Int32.ofNat n) (rd (wr K 24 (Int32.ofNat (1000 * n + l.length)) (Int32.ofNat r)) 23 (Int32.ofNat n) + 1)) 20 (Int32.ofNat (4 * n + rN r)) (Int32.ofNat (rM r)) = S6
  have e6 : mEx (fun k => wK k ∨ wMid k) K S6 := by
    rw [← hS6]
    exact mEx_trans (mEx_wr (by unfold wMid; omega) _ _) (mEx_trans (mEx_wr (by unfold wMid; omega) _ _) (mEx_wr (by unfold wMid; omega) _ _))
  have f24 : S6.2 24 = upd (M.2 24) (1000 * n + l.length) (Int32.ofNat r) := by
    rw [← hS6, wr_o _ _ _ (by decide), wr_o _ _ _ (by decide), wr_s _ _ (by omega), (eK 24 (by unfold sc; omega)).2]
  have f23 : S6.2 23 = upd (M.2 23) n (Int32.ofNat (l.length + 1)) := by
    rw [← hS6, wr_o _ _ _ (by decide), wr_s _ _ (by omega), rd_n _ _ (by omega), wr_o _ _ _ (by decide), (eK 23 (by unfold sc; omega)).2, h.2.2.2, show (1 : Int32) = Int32.ofNat 1 from rfl, jI_add]
  have f20 : S6.2 20 = upd (M.2 20) (4 * n + rN r) (Int32.ofNat (rM r)) := by
    rw [← hS6, wr_s _ _ (by omega), wr_o _ _ _ (by decide), wr_o _ _ _ (by decide), (eK 20 (by unfold sc; omega)).2]
  have fo : ∀ k, k < 47 → k ≠ 24 → k ≠ 23 → k ≠ 20 → S6.2 k = M.2 k := fun k h1 h2 h3 h4 => by
    rw [← hS6, wr_o _ _ _ h4, wr_o _ _ _ h3, wr_o _ _ _ h2, (eK k (by unfold sc; omega)).2]
  have f65 : ∀ k, k = 65 ∨ k = 66 → S6.2 k = K.2 k := fun k hk => by
    rw [← hS6, wr_o _ _ _ (by omega), wr_o _ _ _ (by omega), wr_o _ _ _ (by omega)]
  have hK6 : ∀ q, q < 4 → inK S6 q (liL M n l q) := fun q hq => by
    unfold inK
    rw [f65 65 (Or.inl rfl), f65 66 (Or.inr rfl)]; exact k3 q hq
  have w6 : mWt S6 n Wt := by
    unfold mWt
    rw [fo 25 (by decide) (by decide) (by decide) (by decide), fo 26 (by decide) (by decide) (by decide) (by decide)]; exact hW
  have fin : ∀ {T : mSt}, mEx (fun k => k = 18 ∨ k = 19) S6 T → ((T.2 18 n, T.2 19 n) = rsL (M.2 18 n, M.2 19 n) (M.2 14 r, M.2 15 r) ∧ ∀ n', n' ≠ n → T.2 18 n' = M.2 18 n' ∧ T.2 19 n' = M.2 19 n') → ∃ B, fm_apply_333 T (Int32.ofNat n) (Int32.ofNat r) v3 v4 v5 v6 (Int32.ofNat l.length) v8 = apRest B (Int32.ofNat n) (Int32.ofNat r) v3 v4 v5 v6 (Int32.ofNat l.length) v8 ∧ mEx (fun k => wK k ∨ wMid k) A B ∧ apd M B n r l ∧ mWt B n (Wt.filter (fun q => decide (q ≠ r))) ∧ otW M B n ∧ ∀ q, q < 4 → inK B q (liL M n l q) := fun {T} eT hT => by
    have wT : mWt T n Wt := by
      unfold mWt
      rw [(eT 25 (by omega)).2, (eT 26 (by omega)).2]; exact w6
    obtain ⟨B, b1, b2', b3, b4⟩ := m_drop hn hr1 wT
    refine ⟨B, by rw [ap333, b1, bd_s], mEx_trans (mEx_mono k2 (fun k hk => Or.inl hk)) (mEx_trans e6 (mEx_trans (mEx_mono eT (fun k hk => by unfold wMid; omega)) (mEx_mono b2' (fun k hk => by unfold wMid; omega)))), ⟨?_, ?_, ?_, ?_, fun n' hne => ?_⟩, b3, fun n' hne => ?_, fun q hq => ?_⟩
    · rw [(b2' 24 (by omega)).2, (eT 24 (by omega)).2, f24]
    · rw [(b2' 23 (by omega)).2, (eT 23 (by omega)).2, f23]
    · rw [(b2' 20 (by omega)).2, (eT 20 (by omega)).2, f20]
    · rw [(b2' 18 (by omega)).2, (b2' 19 (by omega)).2]; exact hT.1
    · rw [(b2' 18 (by omega)).2, (b2' 19 (by omega)).2]; exact hT.2 n' hne
    · obtain ⟨x1, x2⟩ := b4 n' hne
      refine ⟨by rw [x1, (eT 25 (by omega)).2, fo 25 (by decide) (by decide) (by decide) (by decide)], fun k hk => by rw [x2 k hk, (eT 26 (by omega)).2, fo 26 (by decide) (by decide) (by decide) (by decide)]⟩
    · unfold inK
      rw [(b2' 66 (by omega)).2, (b2' 65 (by omega)).2, (eT 66 (by omega)).2, (eT 65 (by omega)).2]
      exact hK6 q hq
  have g18 : S6.2 18 = M.2 18 := fo 18 (by decide) (by decide) (by decide) (by decide)
  have g19 : S6.2 19 = M.2 19 := fo 19 (by decide) (by decide) (by decide) (by decide)
  have g14 : S6.2 14 = M.2 14 := fo 14 (by decide) (by decide) (by decide) (by decide)
  have g15 : S6.2 15 = M.2 15 := fo 15 (by decide) (by decide) (by decide) (by decide)
  have yes : rsL (M.2 18 n, M.2 19 n) (M.2 14 r, M.2 15 r) = (M.2 14 r, M.2 15 r) → ∃ B, fm_apply_309 S6 (Int32.ofNat n) (Int32.ofNat r) v3 v4 v5 v6 (Int32.ofNat l.length) v8 = apRest B (Int32.ofNat n) (Int32.ofNat r) v3 v4 v5 v6 (Int32.ofNat l.length) v8 ∧ mEx (fun k => wK k ∨ wMid k) A B ∧ apd M B n r l ∧ mWt B n (Wt.filter (fun q => decide (q ≠ r))) ∧ otW M B n ∧ ∀ q, q < 4 → inK B q (liL M n l q) := fun hy => by
    unfold fm_apply_309
    rw [ck_n hr1 (by omega), ck_n hn (by omega), lt_d, rd_n _ _ (by omega), g14, ck_n hr1 (by omega), ck_n hn (by omega), lt_d, rd_n _ _ (by omega), wr_o _ _ _ (show (15 : Nat) ≠ 18 by decide), g15]
    refine fin (mEx_trans (mEx_wr (by simp) _ _) (mEx_wr (by simp) _ _)) ⟨?_, fun n' hne => ?_⟩
    · rw [wr_o _ _ _ (by decide), wr_s _ _ (by omega), upd_s, wr_s _ _ (by omega), upd_s, hy]
    · rw [wr_o _ _ _ (show (18 : Nat) ≠ 19 by decide), wr_s _ _ (by omega), upd_o _ _ hne, wr_s _ _ (by omega), upd_o _ _ hne, wr_o _ _ _ (show (19 : Nat) ≠ 18 by decide), g18, g19]
      exact ⟨rfl, rfl⟩
  have nop : rsL (M.2 18 n, M.2 19 n) (M.2 14 r, M.2 15 r) = (M.2 18 n, M.2 19 n) → ∃ B, fm_apply_333 S6 (Int32.ofNat n) (Int32.ofNat r) v3 v4 v5 v6 (Int32.ofNat l.length) v8 = apRest B (Int32.ofNat n) (Int32.ofNat r) v3 v4 v5 v6 (Int32.ofNat l.length) v8 ∧ mEx (fun k => wK k ∨ wMid k) A B ∧ apd M B n r l ∧ mWt B n (Wt.filter (fun q => decide (q ≠ r))) ∧ otW M B n ∧ ∀ q, q < 4 → inK B q (liL M n l q) := fun hy => fin (mEx_refl _ _) ⟨by rw [g18, g19, hy], fun n' _ => by rw [g18, g19]; exact ⟨rfl, rfl⟩⟩
  rw [ck_n hr1 (by omega), ck_n hn (by omega), rd_n _ _ (by omega), rd_n _ _ (by omega), g18, g14]
  unfold rsL at yes nop
  by_cases h1 : M.2 18 n < M.2 14 r
  · rw [if_pos h1]
    rw [if_pos h1] at yes
    exact yes rfl
  · rw [if_neg h1, ck_n hr1 (by omega), ck_n hn (by omega)]
    rw [if_neg h1] at yes nop
    by_cases h2 : M.2 14 r = M.2 18 n
    · rw [if_pos h2, ck_n hr1 (by omega), ck_n hn (by omega), rd_n _ _ (by omega), rd_n _ _ (by omega), g15, g19]
      rw [if_pos h2] at yes nop
      by_cases h3 : M.2 15 r ≤ M.2 19 n
      · rw [if_pos h3]
        rw [if_pos h3] at nop
        exact nop rfl
      · rw [if_neg h3]
        rw [if_neg h3] at yes
        exact yes rfl
    · rw [if_neg h2]
      rw [if_neg h2] at nop
      exact nop rfl
end R
