-- part 140: the reference joins
section V
variable {M M' A B : mSt} {n m : Nat} {l W : List Nat}
def jnP (M A : mSt) (n m i : Nat) : Prop := A.2 21 (16 * n + i) = if i / 4 = n then M.2 21 (16 * n + i) else mxV (M.2 21 (16 * n + i)) (snV M m (i / 4) (i % 4))
theorem m_jn79 (hn : n < 4) (hm : m < 4) (hmn : n ≠ m) {a : Nat} (ha : a < 4) (han : a ≠ n) (g : mSt → Int32 → Int32 → Int32 → Option (Int32 × mSt)) : ∀ (j q fu : Nat) (A : mSt), q + j = 4 → j < fu → mEx (fun k => k = 21) M A → (∀ i, i < 4 * a + q → jnP M A n m i) → (∀ i, (i < 16 * n ∨ 16 * n + (4 * a + q) ≤ i) → A.2 21 i = M.2 21 i) → ∃ A', fm_join_79 g fu A (Int32.ofNat n) (Int32.ofNat m) (Int32.ofNat a) (Int32.ofNat q) = g A' (Int32.ofNat n) (Int32.ofNat m) (Int32.ofNat (a + 1)) ∧ mEx (fun k => k = 21) M A' ∧ (∀ i, i < 4 * (a + 1) → jnP M A' n m i) ∧ ∀ i, (i < 16 * n ∨ 16 * n + 4 * (a + 1) ≤ i) → A'.2 21 i = M.2 21 i := by
  intro j
  induction j with
  | zero =>
    intro q fu A hq hf e h1 h2
    obtain ⟨fu, rfl⟩ : ∃ q, fu = q + 1 := ⟨fu - 1, by omega⟩
    have e1 : q = 4 := by omega
    subst e1
    rw [fm_join_79, if_pos (show (4 : Int32) ≤ Int32.ofNat 4 by decide)]
    unfold fm_join_119
    rw [lt_d, show Int32.ofNat a + 1 = Int32.ofNat (a + 1) from jI_add _ 1]
    exact ⟨A, rfl, e, fun i hi => h1 i (by omega), fun i hi => h2 i (by omega)⟩
  | succ j ih =>
    intro q fu A hq hf e h1 h2
    obtain ⟨fu, rfl⟩ : ∃ q, fu = q + 1 := ⟨fu - 1, by omega⟩
    have hq4 : q < 4 := by omega
    have e1 : (16 : Int32) * Int32.ofNat m + (4 : Int32) * Int32.ofNat a + Int32.ofNat q = Int32.ofNat (16 * m + 4 * a + q) := by rw [show (16 : Int32) = Int32.ofNat 16 from rfl, show (4 : Int32) = Int32.ofNat 4 from rfl, jI_mul, jI_mul, jI_add, jI_add]
    have e2 : (16 : Int32) * Int32.ofNat n + (4 : Int32) * Int32.ofNat a + Int32.ofNat q = Int32.ofNat (16 * n + (4 * a + q)) := by rw [show (16 : Int32) = Int32.ofNat 16 from rfl, show (4 : Int32) = Int32.ofNat 4 from rfl, jI_mul, jI_mul, jI_add, jI_add, Nat.add_assoc]
    have hse : fm_seenOf A (Int32.ofNat m) (Int32.ofNat a) (Int32.ofNat q) = some (snV M m a q) := by
      unfold fm_seenOf fm_seenOf_29 snV
      by_cases c : a = m
      · rw [if_pos (by rw [c]), if_pos c]
        unfold fm_knownOf
        rw [show (4 : Int32) * Int32.ofNat m + Int32.ofNat q = Int32.ofNat (4 * m + q) by rw [show (4 : Int32) = Int32.ofNat 4 from rfl, jI_mul, jI_add], ck_n (by omega) (by omega), bd_s, rd_n _ _ (by omega), (e 20 (by decide)).2]
      · rw [if_neg (fun z => c ((jI_inj (by omega) (by omega)).mp z)), if_neg c, e1, ck_n (by omega) (by omega), rd_n _ _ (by omega), h2 _ (by omega)]
    have r21 : rd A 21 (Int32.ofNat (16 * n + (4 * a + q))) = M.2 21 (16 * n + (4 * a + q)) := by rw [rd_n _ _ (by omega)]; exact h2 _ (by omega)
    have hra : fm_raise A (Int32.ofNat (16 * n + (4 * a + q))) (snV M m a q) = some (wr A 21 (Int32.ofNat (16 * n + (4 * a + q))) (mxV (M.2 21 (16 * n + (4 * a + q))) (snV M m a q))) := by
      unfold fm_raise fm_raise_25
      rw [ck_n (by omega) (by omega), r21]
      unfold mxV
      by_cases c : snV M m a q ≤ M.2 21 (16 * n + (4 * a + q))
      · rw [if_pos c, ck_n (by omega) (by omega), ck_n (by omega) (by omega), lt_d, if_neg (Int32.not_lt.mpr c)]
      · rw [if_neg c, ck_n (by omega) (by omega), lt_d, if_pos (Int32.not_le.mp c)]
    rw [fm_join_79, if_neg (jK 4 4 rfl hq4 (by decide)), if_neg (fun z => han ((jI_inj (by omega) (by omega)).mp z)), hse, bd_s, e2, hra, bd_s, lt_d, show Int32.ofNat q + 1 = Int32.ofNat (q + 1) from jI_add _ 1]
    refine ih (q + 1) fu _ (by omega) (by omega) (mEx_trans e (mEx_wr (W := fun k => k = 21) rfl _ _)) (fun i hi => ?_) (fun i hi => ?_)
    · unfold jnP
      rw [wr_s _ _ (by omega)]
      by_cases c : i = 4 * a + q
      · subst c
        rw [upd_s, if_neg (by omega), show (4 * a + q) / 4 = a by omega, show (4 * a + q) % 4 = q by omega]
      · rw [upd_o _ _ (by omega)]; exact h1 i (by omega)
    · rw [wr_s _ _ (by omega), upd_o _ _ (by omega)]; exact h2 i (by omega)
theorem m_jn71 (hn : n < 4) (hm : m < 4) (hmn : n ≠ m) : ∀ (j a fu : Nat) (A : mSt), a + j = 4 → j < fu → mEx (fun k => k = 21) M A → (∀ i, i < 4 * a → jnP M A n m i) → (∀ i, (i < 16 * n ∨ 16 * n + 4 * a ≤ i) → A.2 21 i = M.2 21 i) → ∃ A', fm_join_71 fu A (Int32.ofNat n) (Int32.ofNat m) (Int32.ofNat a) = fm_join_127 mFU A' (Int32.ofNat n) (Int32.ofNat m) 0 ∧ mEx (fun k => k = 21) M A' ∧ (∀ i, i < 16 → jnP M A' n m i) ∧ ∀ i, (i < 16 * n ∨ 16 * n + 16 ≤ i) → A'.2 21 i = M.2 21 i := by
  intro j
  induction j with
  | zero =>
    intro a fu A ha hf e h1 h2
    obtain ⟨fu, rfl⟩ : ∃ q, fu = q + 1 := ⟨fu - 1, by omega⟩
    have e1 : a = 4 := by omega
    subst e1
    rw [fm_join_71, if_pos (show (4 : Int32) ≤ Int32.ofNat 4 by decide)]
    exact ⟨A, rfl, e, h1, h2⟩
  | succ j ih =>
    intro a fu A ha hf e h1 h2
    obtain ⟨fu, rfl⟩ : ∃ q, fu = q + 1 := ⟨fu - 1, by omega⟩
    rw [fm_join_71, if_neg (jK 4 4 rfl (by omega) (by decide))]
    by_cases c : a = n
    · subst c
      obtain ⟨f2, hf2⟩ : ∃ z, mFU = z + 1 := ⟨mFU - 1, by decide⟩
      rw [hf2, fm_join_79, if_neg (show ¬ (4 : Int32) ≤ 0 by decide), if_pos rfl, ← hf2]
      unfold fm_join_119
      rw [lt_d, show Int32.ofNat a + 1 = Int32.ofNat (a + 1) from jI_add _ 1]
      refine ih (a + 1) fu A (by omega) (by omega) e (fun i hi => ?_) (fun i hi => h2 i (by omega))
      by_cases c2 : i < 4 * a
      · exact h1 i c2
      · unfold jnP; rw [if_pos (by omega)]; exact h2 _ (by omega)
    · obtain ⟨A', x1, x2, x3, x4⟩ := m_jn79 hn hm hmn (show a < 4 by omega) c (fm_join_71 fu) 4 0 mFU A rfl (by decide) e (fun i hi => h1 i (by omega)) (fun i hi => h2 i (by omega))
      have x1' : fm_join_79 (fm_join_71 fu) mFU A (Int32.ofNat n) (Int32.ofNat m) (Int32.ofNat a) 0 = fm_join_71 fu A' (Int32.ofNat n) (Int32.ofNat m) (Int32.ofNat (a + 1)) := x1
      rw [x1']
      exact ih (a + 1) fu A' (by omega) (by omega) x2 x3 x4
theorem m_jn127 (hn : n < 4) (hm : m < 4) (hmn : n ≠ m) : ∀ (j i fu : Nat) (A : mSt), i + j = 4 → j < fu → mEx (fun k => k = 20) B A → (∀ q, q < i → A.2 20 (4 * n + q) = B.2 20 (4 * m + q)) → (∀ c, (c < 4 * n ∨ 4 * n + i ≤ c) → A.2 20 c = B.2 20 c) → ∃ A', fm_join_127 fu A (Int32.ofNat n) (Int32.ofNat m) (Int32.ofNat i) = fm_join_168 mFU (wr A' 23 (Int32.ofNat n) (B.2 23 m)) (Int32.ofNat n) (Int32.ofNat m) 0 ∧ mEx (fun k => k = 20) B A' ∧ (∀ q, q < 4 → A'.2 20 (4 * n + q) = B.2 20 (4 * m + q)) ∧ ∀ c, (c < 4 * n ∨ 4 * n + 4 ≤ c) → A'.2 20 c = B.2 20 c := by
  intro j
  induction j with
  | zero =>
    intro i fu A hi hf e h1 h2
    obtain ⟨fu, rfl⟩ : ∃ q, fu = q + 1 := ⟨fu - 1, by omega⟩
    have e1 : i = 4 := by omega
    subst e1
    rw [fm_join_127, if_pos (show (4 : Int32) ≤ Int32.ofNat 4 by decide), ck_n hm (by omega), ck_n hn (by omega), lt_d, rd_n _ _ (by omega), (e 23 (by decide)).2]
    exact ⟨A, rfl, e, h1, h2⟩
  | succ j ih =>
    intro i fu A hi hf e h1 h2
    obtain ⟨fu, rfl⟩ : ∃ q, fu = q + 1 := ⟨fu - 1, by omega⟩
    have e4 : ∀ x : Nat, (4 : Int32) * Int32.ofNat x + Int32.ofNat i = Int32.ofNat (4 * x + i) := fun x => by rw [show (4 : Int32) = Int32.ofNat 4 from rfl, jI_mul, jI_add]
    rw [fm_join_127, if_neg (jK 4 4 rfl (by omega) (by decide))]
    unfold fm_knownOf
    rw [e4, ck_n (by omega) (by omega), bd_s, rd_n _ _ (by omega), h2 _ (by omega), e4, ck_n (by omega) (by omega), lt_d, lt_d, show Int32.ofNat i + 1 = Int32.ofNat (i + 1) from jI_add _ 1]
    refine ih (i + 1) fu _ (by omega) (by omega) (mEx_trans e (mEx_wr (W := fun k => k = 20) rfl _ _)) (fun q hq => ?_) (fun c hc => ?_)
    · rw [wr_s _ _ (by omega)]
      by_cases c : q = i
      · subst c; rw [upd_s]
      · rw [upd_o _ _ (by omega)]; exact h1 q (by omega)
    · rw [wr_s _ _ (by omega), upd_o _ _ (by omega)]; exact h2 c (by omega)
theorem m_jn168 (hn : n < 4) (hm : m < 4) (hmn : n ≠ m) {N : Nat} (hN : N ≤ 1000) (h23 : B.2 23 m = Int32.ofNat N) : ∀ (j i fu : Nat) (A : mSt), i + j = N → j < fu → mEx (fun k => k = 24) B A → (∀ q, q < i → A.2 24 (1000 * n + q) = B.2 24 (1000 * m + q)) → (∀ c, (c < 1000 * n ∨ 1000 * n + i ≤ c) → A.2 24 c = B.2 24 c) → ∃ A', fm_join_168 fu A (Int32.ofNat n) (Int32.ofNat m) (Int32.ofNat i) = fm_join_228 mFU (wr (wr A' 18 (Int32.ofNat n) (B.2 18 m)) 19 (Int32.ofNat n) (B.2 19 m)) (Int32.ofNat n) 0 ∧ mEx (fun k => k = 24) B A' ∧ (∀ q, q < N → A'.2 24 (1000 * n + q) = B.2 24 (1000 * m + q)) ∧ ∀ c, (c < 1000 * n ∨ 1000 * n + 1000 ≤ c) → A'.2 24 c = B.2 24 c := by
  intro j
  induction j with
  | zero =>
    intro i fu A hi hf e h1 h2
    obtain ⟨fu, rfl⟩ : ∃ q, fu = q + 1 := ⟨fu - 1, by omega⟩
    have e1 : i = N := by omega
    subst e1
    rw [fm_join_168, ck_n hm (by omega), rd_n _ _ (by omega), (e 23 (by decide)).2, h23, if_pos (Int32.le_refl _), ck_n hm (by omega), ck_n hn (by omega), lt_d, ck_n hm (by omega), ck_n hn (by omega), lt_d, rd_n _ _ (by omega), rd_n _ _ (by omega), (e 18 (by decide)).2, wr_o _ _ _ (by decide), (e 19 (by decide)).2]
    exact ⟨A, rfl, e, h1, fun c hc => h2 c (by omega)⟩
  | succ j ih =>
    intro i fu A hi hf e h1 h2
    obtain ⟨fu, rfl⟩ : ∃ q, fu = q + 1 := ⟨fu - 1, by omega⟩
    have e4 : ∀ x : Nat, (1000 : Int32) * Int32.ofNat x + Int32.ofNat i = Int32.ofNat (1000 * x + i) := fun x => by rw [show (1000 : Int32) = Int32.ofNat 1000 from rfl, jI_mul, jI_add]
    rw [fm_join_168, ck_n hm (by omega), rd_n _ _ (by omega), (e 23 (by decide)).2, h23, if_neg (fun z => absurd ((jI_le (by omega) (by omega)).mp z) (by omega))]
    unfold fm_rowAt
    rw [e4, ck_n (by omega) (by omega), bd_s, rd_n _ _ (by omega), h2 _ (by omega), e4, ck_n (by omega) (by omega), lt_d, lt_d, show Int32.ofNat i + 1 = Int32.ofNat (i + 1) from jI_add _ 1]
    refine ih (i + 1) fu _ (by omega) (by omega) (mEx_trans e (mEx_wr (W := fun k => k = 24) rfl _ _)) (fun q hq => ?_) (fun c hc => ?_)
    · rw [wr_s _ _ (by omega)]
      by_cases c : q = i
      · subst c; rw [upd_s]
      · rw [upd_o _ _ (by omega)]; exact h1 q (by omega)
    · rw [wr_s _ _ (by omega), upd_o _ _ (by omega)]; exact h2 c (by omega)
theorem m_jn228 (hn : n < 4) : ∀ (j : Nat) (pre rest : List Nat) (A : mSt) (fu : Nat), rest.length ≤ j → j < fu → (∀ q ∈ pre, q ∉ l) → mWt A n (pre ++ rest) → knL A n l → ∃ A', fm_join_228 fu A (Int32.ofNat n) (Int32.ofNat pre.length) = some (1, pu A' 45 (A'.1 45 + 1)) ∧ mEx (fun k => k = 25 ∨ k = 26) A A' ∧ mWt A' n (pre ++ rest.filter (fun q => decide (q ∉ l))) ∧ otW A A' n := by
  intro j
  induction j with
  | zero =>
    intro pre rest A fu hl hf hp hw hk
    obtain ⟨fu, rfl⟩ : ∃ q, fu = q + 1 := ⟨fu - 1, by omega⟩
    have e : rest = [] := List.length_eq_zero_iff.mp (by omega)
    subst e
    rw [List.append_nil] at hw
    have hw1 := hw.1
    rw [fm_join_228, ck_n hn (by omega), rd_n _ _ (by omega), hw.2.1, if_pos (Int32.le_refl _), lt_d, ckz_1]
    exact ⟨A, rfl, mEx_refl _ _, by rw [List.filter_nil, List.append_nil]; exact hw, fun n' _ => ⟨rfl, fun _ _ => rfl⟩⟩
  | succ j ih =>
    intro pre rest A fu hl hf hp hw hk
    obtain ⟨fu, rfl⟩ : ∃ q, fu = q + 1 := ⟨fu - 1, by omega⟩
    have hw1 := hw.1
    cases rest with
    | nil =>
      rw [List.append_nil] at hw
      rw [fm_join_228, ck_n hn (by omega), rd_n _ _ (by omega), hw.2.1, if_pos (Int32.le_refl _), lt_d, ckz_1]
      exact ⟨A, rfl, mEx_refl _ _, by rw [List.filter_nil, List.append_nil]; exact hw, fun n' _ => ⟨rfl, fun _ _ => rfl⟩⟩
    | cons r t =>
      rw [List.length_append, List.length_cons] at hw1
      rw [List.length_cons] at hl
      have hi : pre.length < (pre ++ r :: t).length := by rw [List.length_append, List.length_cons]; omega
      have hlen : (pre ++ r :: t).length = pre.length + (t.length + 1) := by rw [List.length_append, List.length_cons]
      obtain ⟨g1, g2⟩ := hw.2.2 pre.length hi
      have gr : (pre ++ r :: t)[pre.length] = r := by rw [List.getElem_append_right (Nat.le_refl _)]; simp
      rw [gr] at g1 g2
      have e30 : (30 : Int32) * Int32.ofNat n + Int32.ofNat pre.length = Int32.ofNat (30 * n + pre.length) := by rw [show (30 : Int32) = Int32.ofNat 30 from rfl, jI_mul, jI_add]
      rw [fm_join_228, ck_n hn (by omega), rd_n _ _ (by omega), hw.2.1, if_neg (fun z => absurd ((jI_le (by omega) (by omega)).mp z) (by omega)), e30, ck_n (by omega) (by omega), rd_n _ _ (by omega), g1, lt_d, m_isApplied (mEx_refl _ _) hk g2, bd_s]
      unfold fm_join_274
      by_cases c : r ∈ l
      · rw [b2_t c, if_neg n10]
        obtain ⟨D, d1, d2, d3, d4⟩ := m_drop hn g2 hw
        rw [d1, bd_s]
        have ef : (pre ++ r :: t).filter (fun q => decide (q ≠ r)) = pre ++ t.filter (fun q => decide (q ≠ r)) := by
          rw [List.filter_append, List.filter_cons_of_neg (by simp)]
          congr 1
          exact List.filter_eq_self.mpr (fun q hq => by rw [decide_eq_true_iff]; exact fun z => hp q hq (z ▸ c))
        rw [ef] at d3
        have hkD : knL D n l := ⟨hn, fun r hr => by rw [(d2 20 (by decide)).2]; exact hk.2 r hr⟩
        obtain ⟨A', x1, x2, x3, x4⟩ := ih pre (t.filter (fun q => decide (q ≠ r))) D fu (Nat.le_trans (List.length_filter_le _ _) (by omega)) (by omega) hp d3 hkD
        refine ⟨A', x1, mEx_trans d2 x2, ?_, fun n' hn' => ⟨by rw [(x4 n' hn').1]; exact (d4 n' hn').1, fun k hk => by rw [(x4 n' hn').2 k hk]; exact (d4 n' hn').2 k hk⟩⟩
        have eg : (t.filter (fun q => decide (q ≠ r))).filter (fun q => decide (q ∉ l)) = (r :: t).filter (fun q => decide (q ∉ l)) := by
          rw [List.filter_cons_of_neg (by simp [c]), List.filter_filter]
          refine List.filter_congr (fun q _ => ?_)
          by_cases z : q ∈ l
          · simp [z]
          · have : q ≠ r := fun y => z (y ▸ c)
            simp [z, this]
        rw [← eg]; exact x3
      · rw [b2_f c, if_pos rfl, lt_d, show Int32.ofNat pre.length + 1 = Int32.ofNat (pre ++ [r]).length by rw [List.length_append]; exact jI_add _ 1]
        have hw' : mWt A n ((pre ++ [r]) ++ t) := by rw [List.append_assoc]; exact hw
        obtain ⟨A', x1, x2, x3, x4⟩ := ih (pre ++ [r]) t A fu (by omega) (by omega) (fun q hq => by
          rcases List.mem_append.mp hq with z | z
          · exact hp q z
          · rw [List.mem_singleton.mp z]; exact c) hw' hk
        refine ⟨A', x1, x2, ?_, x4⟩
        rw [List.filter_cons_of_pos (by simp [c])]
        rw [List.append_assoc] at x3; exact x3
end V
