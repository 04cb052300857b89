-- part 31: the reference, reading: core and scratch
def mEx (W : Nat → Prop) (A B : mSt) : Prop := ∀ k, ¬ W k → B.1 k = A.1 k ∧ B.2 k = A.2 k
def sc : Nat → Prop := fun k => 47 ≤ k
theorem mEx_refl (W : Nat → Prop) (A : mSt) : mEx W A A := fun _ _ => ⟨rfl, rfl⟩
theorem mEx_trans {W : Nat → Prop} {A B C : mSt} (h : mEx W A B) (h' : mEx W B C) : mEx W A C := fun k hk => ⟨(h' k hk).1.trans (h k hk).1, (h' k hk).2.trans (h k hk).2⟩
theorem mEx_mono {W W' : Nat → Prop} {A B : mSt} (h : mEx W A B) (hW : ∀ k, W k → W' k) : mEx W' A B := fun k hk => h k (fun q => hk (hW k q))
theorem mEx_wr {W : Nat → Prop} {A : mSt} {k : Nat} (h : W k) (i x : Int32) : mEx W A (wr A k i x) := fun j hj => ⟨rfl, by
  have e : j ≠ k := fun e => hj (e ▸ h)
  unfold wr; simp [e]⟩
theorem mEx_pu {W : Nat → Prop} {A : mSt} {k : Nat} (h : W k) (x : Int32) : mEx W A (pu A k x) := fun j hj => ⟨by
  have e : j ≠ k := fun e => hj (e ▸ h)
  unfold pu upd; simp [e], rfl⟩
theorem mEx_mu {W : Nat → Prop} {A : mSt} {k : Nat} (h : W k) (f : Nat → Int32) : mEx W A (mu A k f) := fun j hj => ⟨rfl, by
  have e : j ≠ k := fun e => hj (e ▸ h)
  rw [mu_ne _ _ e]⟩
theorem mEx_wr1 {A : mSt} {k : Nat} (i x : Int32) : mEx (fun j => j = k) A (wr A k i x) := mEx_wr (W := fun j => j = k) (k := k) rfl i x
theorem wr_s (A : mSt) (k : Nat) {i : Nat} (hi : i < 2147483648) (x : Int32) : (wr A k (Int32.ofNat i) x).2 k = upd (A.2 k) i x := by unfold wr; rw [jI_cl hi]; simp
theorem wr_o (A : mSt) {k j : Nat} (i x : Int32) (h : j ≠ k) : (wr A k i x).2 j = A.2 j := by unfold wr; simp [h]
theorem wr_1 (A : mSt) (k : Nat) (i x : Int32) : (wr A k i x).1 = A.1 := rfl
theorem pu_s (A : mSt) (k : Nat) (x : Int32) : (pu A k x).1 k = x := by unfold pu upd; simp
theorem pu_o (A : mSt) {k j : Nat} (x : Int32) (h : j ≠ k) : (pu A k x).1 j = A.1 j := by unfold pu upd; simp [h]
theorem pu_2 (A : mSt) (k : Nat) (x : Int32) : (pu A k x).2 = A.2 := rfl
theorem rd_e {M A : mSt} (e : mEx sc M A) {k i : Nat} (hk : k < 47) (hi : i < 2147483648) : rd A k (Int32.ofNat i) = M.2 k i := by
  rw [rd_n _ _ hi, (e k (by unfold sc; omega)).2]
/-- the rows l are the first that node n applied -/
def lAt (M : mSt) (n : Nat) (l : List Nat) : Prop := n < 4 ∧ l.length ≤ 1000 ∧ ∀ i (h : i < l.length), M.2 24 (1000 * n + i) = Int32.ofNat l[i] ∧ l[i] < 1000
theorem lAt_take {M : mSt} {n : Nat} {l : List Nat} (h : lAt M n l) (u : Nat) : lAt M n (l.take u) := by
  obtain ⟨h1, h2, h3⟩ := h
  refine ⟨h1, by rw [List.length_take]; omega, fun i hi => ?_⟩
  rw [List.length_take] at hi
  rw [List.getElem_take]
  exact h3 i (by omega)
theorem m_rowAtL {M A : mSt} (e : mEx sc M A) {n : Nat} {l : List Nat} (hl : lAt M n l) {i : Nat} (hi : i < l.length) : fm_rowAt A (Int32.ofNat n) (Int32.ofNat i) = some (Int32.ofNat l[i]) := by
  obtain ⟨h1, h2, h3⟩ := hl
  unfold fm_rowAt
  rw [show (1000 : Int32) = Int32.ofNat 1000 from rfl, jI_mul, jI_add, ck_n (by omega) (by omega), rd_e e (by decide) (by omega), (h3 i hi).1]
theorem isT_e {M A : mSt} (e : mEx sc M A) : isT A = isT M := by
  funext t r
  unfold isT
  rw [(e 9 (by unfold sc; omega)).2, (e 13 (by unfold sc; omega)).2]
theorem gd_e {M A : mSt} (e : mEx sc M A) : gd A = gd M := by
  funext l t
  unfold gd
  rw [isT_e e, (e 9 (by unfold sc; omega)).2]
theorem jd_e {M A : mSt} (e : mEx sc M A) : jd A = jd M := by
  funext l t
  unfold jd
  rw [isT_e e]
theorem rK_e {M A : mSt} (e : mEx sc M A) : rK A = rK M := by
  funext r
  unfold rK
  rw [(e 14 (by unfold sc; omega)).2, (e 15 (by unfold sc; omega)).2]
def jOkL (M : mSt) (l : List Nat) : Prop := ∀ i (h : i < l.length), (M.2 9 l[i] = 13 ∨ M.2 9 l[i] = 14) → ∃ t, rOf (M.2 13 l[i]) = some t ∧ jd M (l.take i) t < rM l[i]
theorem jOkL_take {M : mSt} {l : List Nat} (h : jOkL M l) (u : Nat) : jOkL M (l.take u) := by
  intro i hi
  rw [List.length_take] at hi
  rw [List.getElem_take, List.take_take, Nat.min_eq_left (by omega)]
  exact h i (by omega)
theorem oL_take {M A : mSt} (e : mEx sc M A) {n : Nat} {l : List Nat} (hl : lAt M n l) (u : Nat) (hu : u ≤ l.length) : oL A n u = l.take u := by
  obtain ⟨h1, h2, h3⟩ := hl
  apply List.ext_getElem
  · rw [oL_len, List.length_take]; omega
  · intro i hi hi2
    rw [oL_get, List.getElem_take]
    rw [oL_len] at hi
    unfold oR
    rw [(e 24 (by unfold sc; omega)).2, (h3 i (by omega)).1, jI_cl]
    have := (h3 i (by omega)).2
    omega
theorem m_judgeL {M A : mSt} (e : mEx sc M A) {n : Nat} {l : List Nat} (hl : lAt M n l) (hj : jOkL M l) : ∃ B, fm_judge A (Int32.ofNat n) (Int32.ofNat l.length) = some B ∧ mEx (fun k => k = 47 ∨ k = 48) A B ∧ (∀ r, r < 1000 → B.2 47 r = b2 (gd M l r = true)) ∧ ∀ r, r < 1000 → B.2 48 r = Int32.ofNat (jd M l r) := by
  obtain ⟨h1, h2, h3⟩ := hl
  have o := oL_take e ⟨h1, h2, h3⟩
  have orr : ∀ i (h : i < l.length), oR A n i = l[i] := fun i h => by
    have h4 : (oL A n l.length)[i]'(by rw [oL_len]; exact h) = oR A n i := oL_get _ _ _ _ _
    rw [← h4]
    have h5 := o l.length (Nat.le_refl _)
    rw [List.take_length] at h5
    simp only [h5]
  have k1 : oOk A n l.length := ⟨h1, h2, fun i hi => by
    rw [(e 24 (by unfold sc; omega)).2, orr i hi]
    exact h3 i hi⟩
  have k2 : jOk A n l.length := fun i hi => by
    rw [orr i hi, o i (by omega), jd_e e, (e 9 (by unfold sc; omega)).2, (e 13 (by unfold sc; omega)).2]
    exact hj i hi
  obtain ⟨g, h, q1, q2, q3⟩ := m_judge k1 k2
  have h5 := o l.length (Nat.le_refl _)
  rw [List.take_length] at h5
  rw [h5, gd_e e] at q1
  rw [h5, jd_e e] at q2
  refine ⟨_, q3, mEx_trans (mEx_mu (Or.inl rfl) g) (mEx_mu (Or.inr rfl) h), ?_, ?_⟩
  · intro r hr; rw [mu_ne _ _ (by decide), mu_same]; exact q1 r hr
  · intro r hr; rw [mu_same]; exact q2 r hr
theorem m_isOf {M A : mSt} (e : mEx sc M A) {r : Nat} (hr : r < 1000) (s o p : Int32) : fm_isOf A (Int32.ofNat r) s o p = some (b2 (M.2 9 r = s ∧ M.2 10 r = o ∧ M.2 11 r = p)) := by
  unfold fm_isOf fm_isOf_35 fm_isOf_36
  rw [ck_n hr (by omega), rd_e e (by decide) (by omega)]
  by_cases h1 : M.2 9 r = s
  · rw [if_pos h1, ck_n hr (by omega), rd_e e (by decide) (by omega)]
    by_cases h2 : M.2 10 r = o
    · rw [if_pos h2, ck_n hr (by omega), rd_e e (by decide) (by omega)]
      by_cases h3 : M.2 11 r = p
      · rw [if_pos h3, b2_t ⟨h1, h2, h3⟩]; rfl
      · rw [if_neg h3, b2_f (fun q => h3 q.2.2)]; rfl
    · rw [if_neg h2, b2_f (fun q => h2 q.2.1)]; rfl
  · rw [if_neg h1, b2_f (fun q => h1 q.1)]; rfl
theorem m_knew {M A : mSt} (e : mEx sc M A) {a b : Nat} (ha : a < 1000) (hb : b < 1000) : fm_knew A (Int32.ofNat a) (Int32.ofNat b) = some (b2 (Int32.ofNat (rM b) ≤ M.2 16 (4 * a + rN b))) := by
  have hn := rN_lt hb
  unfold fm_knew fm_knew_25
  rw [m_nodeOf hb, bd_s, show (4 : Int32) = Int32.ofNat 4 from rfl, jI_mul, jI_add, ck_n (by omega) (by omega), m_numberOf hb, bd_s, rd_e e (by decide) (by omega)]
  by_cases h : M.2 16 (4 * a + rN b) < Int32.ofNat (rM b)
  · rw [if_pos h, b2_f (Int32.not_le.mpr h)]; rfl
  · rw [if_neg h, b2_t (Int32.not_lt.mp h)]; rfl
theorem m_isBeforeL {M A : mSt} (e : mEx sc M A) (ht : tOk M) {a b : Nat} (ha : a < 1000) (hb : b < 1000) : fm_isBefore A (Int32.ofNat a) (Int32.ofNat b) = some (b2 (rK M a < rK M b)) := by
  have ht' : tOk A := fun r hr => by
    rw [(e 14 (by unfold sc; omega)).2, (e 15 (by unfold sc; omega)).2]; exact ht r hr
  rw [m_isBefore ht' ha hb, rK_e e]
/-- the values that were put -/
def inP (A : mSt) (L : List (Int32 × Int32)) : Prop := A.1 49 = Int32.ofNat L.length ∧ ∀ i (h : i < L.length), A.2 50 i = L[i].1 ∧ A.2 51 i = L[i].2
def wP : Nat → Prop := fun k => k = 49 ∨ k = 50 ∨ k = 51
theorem m_putV {A : mSt} {L : List (Int32 × Int32)} (h : inP A L) (hL : L.length < 1000) (x y : Int32) : ∃ B, fm_put A x y = some B ∧ mEx wP A B ∧ inP B (L ++ [(x, y)]) := by
  obtain ⟨h1, h2⟩ := h
  unfold fm_put
  have e1 : (wr A 50 (Int32.ofNat L.length) x).1 49 = Int32.ofNat L.length := h1
  have e2 : (wr (wr A 50 (Int32.ofNat L.length) x) 51 (Int32.ofNat L.length) y).1 49 = Int32.ofNat L.length := h1
  rw [h1, ck_n hL (by omega), lt_d, e1, ck_n hL (by omega), lt_d, e2, show (1 : Int32) = Int32.ofNat 1 from rfl, jI_add, lt_d]
  refine ⟨_, rfl, mEx_trans (mEx_trans (mEx_wr (Or.inr (Or.inl rfl)) _ _) (mEx_wr (Or.inr (Or.inr rfl)) _ _)) (mEx_pu (by unfold wP; omega) _), ?_, fun i hi => ?_⟩
  · rw [pu_s, List.length_append]; rfl
  · rw [List.length_append] at hi
    have hi' : i < L.length + 1 := hi
    rw [pu_2, wr_o _ _ _ (by decide), wr_s _ _ (by omega), wr_s _ _ (by omega), wr_o _ _ _ (by decide)]
    by_cases ei : i = L.length
    · subst ei
      rw [upd_s, upd_s]
      rw [List.getElem_append_right (Nat.le_refl _)]
      simp
    · rw [upd_o _ _ ei, upd_o _ _ ei, List.getElem_append_left (by omega)]
      exact h2 i (by omega)
theorem cat_get {L : List Nat} {k r j : Nat} (hk : k ≤ L.length) (hj : j < (L.take k ++ r :: L.drop k).length) : (j < k → ∃ h : j < L.length, (L.take k ++ r :: L.drop k)[j] = L[j]) ∧ (j = k → (L.take k ++ r :: L.drop k)[j] = r) ∧ (k < j → ∃ h : j - 1 < L.length, (L.take k ++ r :: L.drop k)[j] = L[j - 1]) := by
  have hlen : (L.take k).length = k := by rw [List.length_take]; omega
  have hlen2 : (L.take k ++ r :: L.drop k).length = L.length + 1 := by simp; omega
  refine ⟨fun h => ⟨by omega, ?_⟩, fun h => ?_, fun h => ⟨by omega, ?_⟩⟩
  · rw [List.getElem_append_left (by omega), List.getElem_take]
  · subst h
    rw [List.getElem_append_right (by omega)]
    simp [hlen]
  · rw [List.getElem_append_right (by omega)]
    simp only [hlen]
    obtain ⟨d, rfl⟩ : ∃ d, j = k + 1 + d := ⟨j - k - 1, by omega⟩
    simp only [show k + 1 + d - k = d + 1 by omega, List.getElem_cons_succ, List.getElem_drop, show k + 1 + d - 1 = k + d by omega]
def inR (A : mSt) (val : Nat → Int32) (L : List Nat) : Prop := inP A (L.map (fun r => (val r, Int32.ofNat r)))
theorem inR_iff {A : mSt} {val : Nat → Int32} {L : List Nat} : inR A val L ↔ A.1 49 = Int32.ofNat L.length ∧ ∀ i (h : i < L.length), A.2 50 i = val L[i] ∧ A.2 51 i = Int32.ofNat L[i] := by
  unfold inR inP
  simp
theorem m_putGo {M : mSt} (ht : tOk M) {val : Nat → Int32} {L : List Nat} {r : Nat} (hr : r < 1000) (hL : L.length < 1000) (hb : ∀ i (h : i < L.length), L[i] < 1000) (hs : sdl (rK M) L) : ∀ (k fu : Nat) (A : mSt), mEx sc M A → A.1 49 = Int32.ofNat (L.length + 1) → k ≤ L.length → k < fu → (∀ j (h : j < L.length), j < k → A.2 50 j = val L[j] ∧ A.2 51 j = Int32.ofNat L[j]) → (∀ j (h : j < L.length), k ≤ j → A.2 50 (j + 1) = val L[j] ∧ A.2 51 (j + 1) = Int32.ofNat L[j]) → (∀ j (h : j < L.length), k ≤ j → rK M r < rK M L[j]) → ∃ B, fm_putInOrder_13 fu A (val r) (Int32.ofNat r) (Int32.ofNat k) = some B ∧ mEx wP A B ∧ inR B val (ins (rK M) r L) := by
  have fin : ∀ (k : Nat) (A : mSt), A.1 49 = Int32.ofNat (L.length + 1) → k ≤ L.length → (∀ j (h : j < L.length), j < k → A.2 50 j = val L[j] ∧ A.2 51 j = Int32.ofNat L[j]) → (∀ j (h : j < L.length), k ≤ j → A.2 50 (j + 1) = val L[j] ∧ A.2 51 (j + 1) = Int32.ofNat L[j]) → (∀ j (h : j < L.length), k ≤ j → rK M r < rK M L[j]) → (∀ (h : k - 1 < L.length), 0 < k → rK M (L[k - 1]) ≤ rK M r) → ∃ B, fm_putInOrder_67 A (val r) (Int32.ofNat r) (Int32.ofNat k) = some B ∧ mEx wP A B ∧ inR B val (ins (rK M) r L) := by
    intro k A h1 hk h2 h3 h4 h5
    unfold fm_putInOrder_67
    rw [ck_n (by omega) (by omega), lt_d, ck_n (by omega) (by omega), lt_d]
    refine ⟨_, rfl, mEx_trans (mEx_wr (Or.inr (Or.inl rfl)) _ _) (mEx_wr (Or.inr (Or.inr rfl)) _ _), ?_⟩
    rw [ins_at k hs hk h4 h5, inR_iff]
    refine ⟨?_, fun i hi => ?_⟩
    · show A.1 49 = _
      rw [h1]; congr 1; simp; omega
    · obtain ⟨c1, c2, c3⟩ := cat_get (r := r) hk hi
      rw [wr_o _ _ _ (by decide), wr_s _ _ (by omega), wr_s _ _ (by omega), wr_o _ _ _ (by decide)]
      rcases Nat.lt_trichotomy i k with c | c | c
      · obtain ⟨q1, q2⟩ := c1 c
        rw [q2, upd_o _ _ (by omega), upd_o _ _ (by omega)]
        exact h2 i q1 c
      · rw [c2 c, c, upd_s, upd_s]; exact ⟨rfl, rfl⟩
      · obtain ⟨q1, q2⟩ := c3 c
        rw [q2, upd_o _ _ (by omega), upd_o _ _ (by omega)]
        have := h3 (i - 1) q1 (by omega)
        rwa [show i - 1 + 1 = i by omega] at this
  intro k
  induction k with
  | zero =>
    intro fu A e h1 hk hf h2 h3 h4
    obtain ⟨fu, rfl⟩ : ∃ q, fu = q + 1 := ⟨fu - 1, by omega⟩
    rw [fm_putInOrder_13, if_pos (by decide)]
    exact fin 0 A h1 hk h2 h3 h4 (fun _ h => absurd h (by omega))
  | succ k ih =>
    intro fu A e h1 hk hf h2 h3 h4
    obtain ⟨fu, rfl⟩ : ∃ q, fu = q + 1 := ⟨fu - 1, by omega⟩
    have hk' : k < L.length := by omega
    have hkk : Int32.ofNat (k + 1) - (1 : Int32) = Int32.ofNat k := by show Int32.ofNat (k + 1) - Int32.ofNat 1 = _; rw [jI_sub (by omega)]; rfl
    have hkm : Int32.ofNat (k + 1) + (-1 : Int32) = Int32.ofNat k := by rw [← hkk, Int32.sub_eq_add_neg]
    have hfr := (h2 k hk' (by omega)).2
    rw [fm_putInOrder_13, if_neg (jI_p (by omega) (by omega)), hkk, ck_n (by omega) (by omega), rd_n _ _ (by omega), hfr, m_isBeforeL e ht hr (hb k hk'), bd_s]
    by_cases hlt : rK M r < rK M L[k]
    · rw [b2_t hlt, if_neg n10, ck_n (by omega) (by omega), ck_n (by omega) (by omega), lt_d, ck_n (by omega) (by omega), ck_n (by omega) (by omega), lt_d, lt_d, hkm]
      have e1 : mEx wP A (wr (wr A 50 (Int32.ofNat (k + 1)) (rd A 50 (Int32.ofNat k))) 51 (Int32.ofNat (k + 1)) (rd (wr A 50 (Int32.ofNat (k + 1)) (rd A 50 (Int32.ofNat k))) 51 (Int32.ofNat k))) := mEx_trans (mEx_wr (Or.inr (Or.inl rfl)) _ _) (mEx_wr (Or.inr (Or.inr rfl)) _ _)
      obtain ⟨B, q1, q2, q3⟩ := ih fu _ (mEx_trans e (mEx_mono e1 (fun j hj => by unfold wP at hj; unfold sc; omega))) h1 (by omega) (by omega) (fun j hj hjk => by
        rw [wr_o _ _ _ (by decide), wr_s _ _ (by omega), wr_s _ _ (by omega), wr_o _ _ _ (by decide), upd_o _ _ (by omega), upd_o _ _ (by omega)]
        exact h2 j hj (by omega)) (fun j hj hjk => by
        rw [wr_o _ _ _ (by decide), wr_s _ _ (by omega), wr_s _ _ (by omega), wr_o _ _ _ (by decide)]
        by_cases ej : j = k
        · subst ej
          rw [upd_s, upd_s, rd_n _ _ (by omega), rd_n _ _ (by omega), wr_o _ _ _ (by decide)]
          exact h2 j hj (by omega)
        · rw [upd_o _ _ (by omega), upd_o _ _ (by omega)]
          exact h3 j hj (by omega)) (fun j hj hjk => by
        by_cases ej : j = k
        · subst ej; exact hlt
        · exact h4 j hj (by omega))
      exact ⟨B, q1, mEx_trans e1 q2, q3⟩
    · rw [b2_f hlt, if_pos rfl]
      exact fin (k + 1) A h1 hk h2 h3 h4 (fun h _ => Nat.not_lt.mp hlt)
theorem m_putInOrder {M A : mSt} (ht : tOk M) (e : mEx sc M A) {val : Nat → Int32} {L : List Nat} {r : Nat} (hr : r < 1000) (hL : L.length < 1000) (hb : ∀ i (h : i < L.length), L[i] < 1000) (hs : sdl (rK M) L) (h : inR A val L) : ∃ B, fm_putInOrder A (val r) (Int32.ofNat r) = some B ∧ mEx wP A B ∧ inR B val (ins (rK M) r L) := by
  obtain ⟨B, h1, h2, h3⟩ := m_putV h (by rw [List.length_map]; exact hL) (val r) (Int32.ofNat r)
  unfold fm_putInOrder
  rw [h1, bd_s, lt_d]
  have h4 : B.1 49 = Int32.ofNat (L.length + 1) := by rw [h3.1]; congr 1; simp
  have h5 : B.1 49 - 1 = Int32.ofNat L.length := by rw [h4]; show Int32.ofNat (L.length + 1) - Int32.ofNat 1 = _; rw [jI_sub (by omega)]; rfl
  rw [h5]
  obtain ⟨C, q1, q2, q3⟩ := m_putGo ht (val := val) hr hL hb hs L.length mFU B (mEx_trans e (mEx_mono h2 (fun j hj => by unfold wP at hj; unfold sc; omega))) h4 (Nat.le_refl _) (by unfold mFU; omega) (fun j hj _ => by
    have h6 := h3.2 j (by simp; omega)
    rw [List.getElem_append_left (by rw [List.length_map]; exact hj), List.getElem_map] at h6
    exact h6) (fun j hj hjk => absurd hj (by omega)) (fun j hj hjk => absurd hj (by omega))
  exact ⟨C, q1, mEx_trans h2 q2, q3⟩
