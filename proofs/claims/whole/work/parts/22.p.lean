-- part 22: the reference's judging
def mu (M : mSt) (k : Nat) (f : Nat → Int32) : mSt := (M.1, fun j => if j = k then f else M.2 j)
theorem mu_same (M : mSt) (k : Nat) (f : Nat → Int32) : (mu M k f).2 k = f := by simp [mu]
theorem mu_ne (M : mSt) {k j : Nat} (f : Nat → Int32) (h : j ≠ k) : (mu M k f).2 j = M.2 j := by simp [mu, h]
theorem mu_1 (M : mSt) (k : Nat) (f : Nat → Int32) : (mu M k f).1 = M.1 := rfl
theorem wr_mu (M : mSt) (k : Nat) {i : Nat} (x : Int32) (h : i < 2147483648) : wr M k (Int32.ofNat i) x = mu M k (upd (M.2 k) i x) := by unfold wr mu; rw [jI_cl h]
theorem mu_mu (M : mSt) (k : Nat) (f g : Nat → Int32) : mu (mu M k f) k g = mu M k g := by
  unfold mu
  refine Prod.ext rfl (funext fun j => ?_)
  by_cases h : j = k <;> simp [h]
theorem mu_sw (M : mSt) {j k : Nat} (f g : Nat → Int32) (h : j ≠ k) : mu (mu M j f) k g = mu (mu M k g) j f := by
  unfold mu
  refine Prod.ext rfl (funext fun q => ?_)
  by_cases h1 : q = j
  · have h2 : q ≠ k := fun e => h (h1 ▸ e)
    simp [h1, h2, h]
  · by_cases h2 : q = k <;> simp [h1, h2]
    intro h3; exact absurd h3.symm h
theorem wr2a (M : mSt) {j k i : Nat} (g h : Nat → Int32) (x : Int32) (hjk : j ≠ k) (hi : i < 2147483648) : wr (mu (mu M j g) k h) j (Int32.ofNat i) x = mu (mu M j (upd g i x)) k h := by
  rw [wr_mu _ _ _ hi, mu_ne _ _ hjk, mu_same, mu_sw _ _ _ hjk.symm, mu_mu]
theorem wr2b (M : mSt) {j k i : Nat} (g h : Nat → Int32) (x : Int32) (hi : i < 2147483648) : wr (mu (mu M j g) k h) k (Int32.ofNat i) x = mu (mu M j g) k (upd h i x) := by
  rw [wr_mu _ _ _ hi, mu_same, mu_mu]
theorem upd_s (f : Nat → Int32) (i : Nat) (x : Int32) : upd f i x i = x := by simp [upd]
theorem upd_o (f : Nat → Int32) {i j : Nat} (x : Int32) (h : j ≠ i) : upd f i x j = f j := by simp [upd, h]
/-- the rows that a node has applied, in the order in which they came -/
def oR (M : mSt) (n i : Nat) : Nat := (M.2 24 (1000 * n + i)).toNatClampNeg
def oL (M : mSt) (n u : Nat) : List Nat := (List.range u).map (oR M n)
def oOk (M : mSt) (n u : Nat) : Prop := n < 4 ∧ u ≤ 1000 ∧ ∀ i, i < u → M.2 24 (1000 * n + i) = Int32.ofNat (oR M n i) ∧ oR M n i < 1000
theorem oL_succ (M : mSt) (n u : Nat) : oL M n (u + 1) = oL M n u ++ [oR M n u] := by unfold oL; rw [List.range_succ, List.map_append]; rfl
theorem oL_len (M : mSt) (n u : Nat) : (oL M n u).length = u := by simp [oL]
theorem oL_get (M : mSt) (n u i : Nat) (h : i < (oL M n u).length) : (oL M n u)[i] = oR M n i := by simp [oL]
theorem oL_mem {M : mSt} {n u r : Nat} : r ∈ oL M n u ↔ ∃ i, i < u ∧ oR M n i = r := by simp [oL]
theorem m_rowAt {M : mSt} {n u i : Nat} (h : oOk M n u) (hi : i < u) : fm_rowAt M (Int32.ofNat n) (Int32.ofNat i) = some (Int32.ofNat (oR M n i)) := by
  obtain ⟨h1, h2, h3⟩ := h
  unfold fm_rowAt
  rw [show (1000 : Int32) = Int32.ofNat 1000 from rfl, jI_mul, jI_add, ck_n (by omega) (by omega), rd_n _ _ (by omega), (h3 i hi).1]
/-- a row that undoes or redoes t; whether t is good behind the rows l, and by which number it was judged -/
def isT (M : mSt) (t r : Nat) : Bool := (decide (M.2 9 r = 13) || decide (M.2 9 r = 14)) && decide (rOf (M.2 13 r) = some t)
def gd (M : mSt) (l : List Nat) (t : Nat) : Bool := l.foldl (fun g r => if isT M t r then decide (M.2 9 r = 14) else g) true
def jd (M : mSt) (l : List Nat) (t : Nat) : Nat := l.foldl (fun g r => if isT M t r then rM r else g) 0
theorem gd_app (M : mSt) (l : List Nat) (r t : Nat) : gd M (l ++ [r]) t = if isT M t r then decide (M.2 9 r = 14) else gd M l t := by unfold gd; rw [List.foldl_append]; rfl
theorem jd_app (M : mSt) (l : List Nat) (r t : Nat) : jd M (l ++ [r]) t = if isT M t r then rM r else jd M l t := by unfold jd; rw [List.foldl_append]; rfl
/-- of the rows of a node: what undoes or redoes has its row, and comes with rising numbers -/
def jOk (M : mSt) (n u : Nat) : Prop := ∀ i, i < u → (M.2 9 (oR M n i) = 13 ∨ M.2 9 (oR M n i) = 14) → ∃ t, rOf (M.2 13 (oR M n i)) = some t ∧ jd M (oL M n i) t < rM (oR M n i)
theorem jd_le (M : mSt) (l : List Nat) (t : Nat) : jd M l t ≤ 250 := by
  unfold jd
  have key : ∀ (l : List Nat) (a : Nat), a ≤ 250 → l.foldl (fun g r => if isT M t r then rM r else g) a ≤ 250 := by
    intro l
    induction l with
    | nil => intro a h; exact h
    | cons r l ih =>
      intro a h
      rw [List.foldl_cons]
      refine ih _ ?_
      split
      · exact (rM_le r).2
      · exact h
  exact key l 0 (by decide)
theorem m_judge2 (M : mSt) (v1 v2 : Int32) : ∀ (j i fu : Nat) (g h : Nat → Int32), i + j = 1000 → j < fu → (∀ r, r < i → g r = 1) → (∀ r, r < i → h r = 0) → ∃ g' h', (∀ r, r < 1000 → g' r = 1) ∧ (∀ r, r < 1000 → h' r = 0) ∧ fm_judge_2 fu (mu (mu M 47 g) 48 h) v1 v2 (Int32.ofNat i) = fm_judge_31 mFU (mu (mu M 47 g') 48 h') v1 v2 0 := by
  intro j
  induction j with
  | zero =>
    intro i fu g h hij hf hg hh
    obtain ⟨fu, rfl⟩ : ∃ q, fu = q + 1 := ⟨fu - 1, by omega⟩
    refine ⟨g, h, fun r hr => hg r (by omega), fun r hr => hh r (by omega), ?_⟩
    rw [fm_judge_2]
    exact if_pos ((jI_le (a := 1000) (b := i) (by omega) (by omega)).mpr (by omega))
  | succ j ih =>
    intro i fu g h hij hf hg hh
    obtain ⟨fu, rfl⟩ : ∃ q, fu = q + 1 := ⟨fu - 1, by omega⟩
    obtain ⟨g', h', q1, q2, q3⟩ := ih (i + 1) fu (upd g i 1) (upd h i 0) (by omega) (by omega) (fun r hr => by
      by_cases e : r = i
      · rw [e, upd_s]
      · rw [upd_o _ _ e]; exact hg r (by omega)) (fun r hr => by
      by_cases e : r = i
      · rw [e, upd_s]
      · rw [upd_o _ _ e]; exact hh r (by omega))
    refine ⟨g', h', q1, q2, ?_⟩
    rw [← q3, fm_judge_2]
    refine (if_neg (fun q => absurd ((jI_le (a := 1000) (b := i) (by omega) (by omega)).mp q) (by omega))).trans ?_
    rw [ckz_1, ck_n (by omega) (by omega), lt_d, wr2a _ _ _ _ (by decide) (by omega), ck_n (by omega) (by omega), lt_d, wr2b _ _ _ _ (by omega), lt_d, show (1 : Int32) = Int32.ofNat 1 from rfl, jI_add]
theorem m_judge31 {M : mSt} {n u : Nat} (ho : oOk M n u) (hj : jOk M n u) : ∀ (j i fu : Nat) (g h : Nat → Int32), i + j = u → j < fu → (∀ r, r < 1000 → g r = b2 (gd M (oL M n i) r = true)) → (∀ r, r < 1000 → h r = Int32.ofNat (jd M (oL M n i) r)) →
    ∃ g' h', (∀ r, r < 1000 → g' r = b2 (gd M (oL M n u) r = true)) ∧ (∀ r, r < 1000 → h' r = Int32.ofNat (jd M (oL M n u) r)) ∧ fm_judge_31 fu (mu (mu M 47 g) 48 h) (Int32.ofNat n) (Int32.ofNat u) (Int32.ofNat i) = some (mu (mu M 47 g') 48 h') := by
  have hu := ho.2.1
  intro j
  induction j with
  | zero =>
    intro i fu g h hij hf hg hh
    obtain ⟨fu, rfl⟩ : ∃ q, fu = q + 1 := ⟨fu - 1, by omega⟩
    have e : i = u := by omega
    subst e
    refine ⟨g, h, hg, hh, ?_⟩
    rw [fm_judge_31, if_pos ((jI_le (by omega) (by omega)).mpr (Nat.le_refl _))]
  | succ j ih =>
    intro i fu g h hij hf hg hh
    obtain ⟨fu, rfl⟩ : ∃ q, fu = q + 1 := ⟨fu - 1, by omega⟩
    have hi : i < u := by omega
    have hr := (ho.2.2 i hi).2
    have hj1 := hj i hi
    have hat : fm_rowAt (mu (mu M 47 g) 48 h) (Int32.ofNat n) (Int32.ofNat i) = some (Int32.ofNat (oR M n i)) := m_rowAt (M := mu (mu M 47 g) 48 h) (n := n) (u := u) ho hi
    rw [fm_judge_31, if_neg (fun q => absurd ((jI_le (by omega) (by omega)).mp q) (by omega)), hat, bd_s]
    generalize hrr : oR M n i = r at hr hj1 hat
    have hL : oL M n (i + 1) = oL M n i ++ [r] := by rw [oL_succ, hrr]
    rw [ck_n hr (by omega), rd_n _ _ (by omega)]
    have e9 : (mu (mu M 47 g) 48 h).2 9 r = M.2 9 r := by rw [mu_ne _ _ (by decide), mu_ne _ _ (by decide)]
    have e13 : (mu (mu M 47 g) 48 h).2 13 r = M.2 13 r := by rw [mu_ne _ _ (by decide), mu_ne _ _ (by decide)]
    rw [e9]
    have skip : ¬ (M.2 9 r = 13 ∨ M.2 9 r = 14) → fm_judge_137 (fm_judge_31 fu) (mu (mu M 47 g) 48 h) (Int32.ofNat n) (Int32.ofNat u) (Int32.ofNat i) = fm_judge_31 fu (mu (mu M 47 g) 48 h) (Int32.ofNat n) (Int32.ofNat u) (Int32.ofNat (i + 1)) := fun _ => by
      unfold fm_judge_137
      rw [lt_d, show (1 : Int32) = Int32.ofNat 1 from rfl, jI_add]
    have noT : ¬ (M.2 9 r = 13 ∨ M.2 9 r = 14) → ∀ t, isT M t r = false := fun hn t => by
      unfold isT
      have h1 : ¬ M.2 9 r = 13 := fun q => hn (Or.inl q)
      have h2 : ¬ M.2 9 r = 14 := fun q => hn (Or.inr q)
      simp [h1, h2]
    have turn : (M.2 9 r = 13 ∨ M.2 9 r = 14) → ∃ g' h', (∀ r, r < 1000 → g' r = b2 (gd M (oL M n u) r = true)) ∧ (∀ r, r < 1000 → h' r = Int32.ofNat (jd M (oL M n u) r)) ∧ fm_judge_71 (fm_judge_31 fu) (mu (mu M 47 g) 48 h) (Int32.ofNat n) (Int32.ofNat u) (Int32.ofNat i) (Int32.ofNat r) = some (mu (mu M 47 g') 48 h') := by
      intro hs
      obtain ⟨t, ht, hlt⟩ := hj1 hs
      have ht4 := rOf_lt ht
      have hTt : ∀ q, isT M q r = decide (q = t) := fun q => by
        unfold isT
        rcases hs with h1 | h1
        · simp [h1, ht, eq_comm]
        · simp [h1, ht, eq_comm]
      obtain ⟨g', h', q1, q2, q3⟩ := ih (i + 1) fu (upd g t (b2 (M.2 9 r = 14))) (upd h t (Int32.ofNat (rM r))) (by omega) (by omega) (fun q hq => by
        rw [hL, gd_app, hTt]
        by_cases e : q = t
        · subst e; rw [upd_s]; simp
        · rw [upd_o _ _ e]; simp [e]; exact hg q hq) (fun q hq => by
        rw [hL, jd_app, hTt]
        by_cases e : q = t
        · subst e; rw [upd_s]; simp
        · rw [upd_o _ _ e]; simp [e]; exact hh q hq)
      refine ⟨g', h', q1, q2, ?_⟩
      have hm := rM_le r
      have hjl := jd_le M (oL M n i) t
      unfold fm_judge_71
      rw [ck_n hr (by omega), rd_n _ _ (by omega), e13, m_rowOf, bd_s, ht, m_numberOf hr, bd_s]
      show ck (Int32.ofNat t) 1000 _ = _
      rw [ck_n ht4 (by omega), show rI (some t) = Int32.ofNat t from rfl, rd_n _ _ (by omega), mu_same, hh t ht4, if_pos ((jI_lt (by omega) (by omega)).mpr hlt), bd_s, ck_n ht4 (by omega), lt_d, wr2b _ _ _ _ (by omega), ck_n hr (by omega), rd_n _ _ (by omega)]
      have e9' : (mu (mu M 47 g) 48 (upd h t (Int32.ofNat (rM r)))).2 9 r = M.2 9 r := by rw [mu_ne _ _ (by decide), mu_ne _ _ (by decide)]
      rw [e9']
      have fin : ∀ x : Int32, x = 0 ∨ x = 1 → x = b2 (M.2 9 r = 14) → fm_judge_136 (fm_judge_31 fu) (mu (mu M 47 g) 48 (upd h t (Int32.ofNat (rM r)))) (Int32.ofNat n) (Int32.ofNat u) (Int32.ofNat i) (Int32.ofNat t) x = some (mu (mu M 47 g') 48 h') := fun x hx hxx => by
        unfold fm_judge_136 fm_judge_137
        have hz : ∀ {K : Option mSt}, ckz x K = K := fun {K} => by rcases hx with h1 | h1 <;> (rw [h1]; rfl)
        rw [hz, ck_n ht4 (by omega), lt_d, lt_d, wr2a _ _ _ _ (by decide) (by omega), show (1 : Int32) = Int32.ofNat 1 from rfl, jI_add, hxx]
        exact q3
      by_cases h14 : M.2 9 r = 14
      · rw [if_pos h14]; exact fin 1 (Or.inr rfl) (b2_t h14).symm
      · rw [if_neg h14]; exact fin 0 (Or.inl rfl) (b2_f h14).symm
    by_cases h13 : M.2 9 r = 13
    · rw [if_pos h13]; exact turn (Or.inl h13)
    · rw [if_neg h13, ck_n hr (by omega)]
      by_cases h14 : M.2 9 r = 14
      · rw [if_pos h14]; exact turn (Or.inr h14)
      · rw [if_neg h14]
        have hn : ¬ (M.2 9 r = 13 ∨ M.2 9 r = 14) := fun q => q.elim h13 h14
        rw [skip hn]
        exact ih (i + 1) fu g h (by omega) (by omega) (fun q hq => by rw [hL, gd_app, noT hn]; exact hg q hq) (fun q hq => by rw [hL, jd_app, noT hn]; exact hh q hq)
/-- the judging of a node's first u rows -/
theorem m_judge {M : mSt} {n u : Nat} (ho : oOk M n u) (hj : jOk M n u) : ∃ g h, (∀ r, r < 1000 → g r = b2 (gd M (oL M n u) r = true)) ∧ (∀ r, r < 1000 → h r = Int32.ofNat (jd M (oL M n u) r)) ∧ fm_judge M (Int32.ofNat n) (Int32.ofNat u) = some (mu (mu M 47 g) 48 h) := by
  have hu := ho.2.1
  have e : M = mu (mu M 47 (M.2 47)) 48 (M.2 48) := by
    refine Prod.ext rfl (funext fun q => ?_)
    by_cases h1 : q = 48
    · subst h1; rw [mu_same]
    · rw [mu_ne _ _ h1]
      by_cases h2 : q = 47
      · subst h2; rw [mu_same]
      · rw [mu_ne _ _ h2]
  obtain ⟨g1, h1, q1, q2, q3⟩ := m_judge2 M (Int32.ofNat n) (Int32.ofNat u) 1000 0 mFU (M.2 47) (M.2 48) rfl (by decide) (fun r hr => absurd hr (by omega)) (fun r hr => absurd hr (by omega))
  obtain ⟨g2, h2, p1, p2, p3⟩ := m_judge31 ho hj u 0 mFU g1 h1 (by omega) (Nat.lt_of_le_of_lt hu (by decide)) (fun r hr => (q1 r hr).trans (b2_t rfl).symm) (fun r hr => q2 r hr)
  refine ⟨g2, h2, p1, p2, ?_⟩
  unfold fm_judge
  have q3' : fm_judge_2 mFU M (Int32.ofNat n) (Int32.ofNat u) 0 = fm_judge_31 mFU (mu (mu M 47 g1) 48 h1) (Int32.ofNat n) (Int32.ofNat u) 0 := by
    have q4 := q3
    rw [← e] at q4
    exact q4
  rw [q3']
  exact p3
