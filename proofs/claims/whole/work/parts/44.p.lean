-- part 44: the reference: made, there, stable
section R
variable {M A : mSt} {n : Nat} {l : List Nat}
/-- what a node knows is what it has applied -/
def knL (M : mSt) (n : Nat) (l : List Nat) : Prop := n < 4 ∧ ∀ r, r < 1000 → (Int32.ofNat (rM r) ≤ M.2 20 (4 * n + rN r) ↔ r ∈ l)
theorem m_knownOf (e : mEx sc M A) (hn : n < 4) {q : Nat} (hq : q < 4) : fm_knownOf A (Int32.ofNat n) (Int32.ofNat q) = some (M.2 20 (4 * n + q)) := by
  unfold fm_knownOf
  rw [show (4 : Int32) = Int32.ofNat 4 from rfl, jI_mul, jI_add, ck_n (by omega) (by omega), rd_e e (by decide) (by omega)]
theorem m_isApplied (e : mEx sc M A) (hk : knL M n l) {r : Nat} (hr : r < 1000) : fm_isApplied A (Int32.ofNat n) (Int32.ofNat r) = some (b2 (r ∈ l)) := by
  unfold fm_isApplied fm_isApplied_25 fm_isApplied_26
  rw [if_neg (jI_ne (by omega)), m_nodeOf hr, bd_s, m_knownOf e hk.1 (rN_lt hr), bd_s, m_numberOf hr, bd_s]
  by_cases h : M.2 20 (4 * n + rN r) < Int32.ofNat (rM r)
  · rw [if_pos h, b2_f (fun q => absurd ((hk.2 r hr).mpr q) (Int32.not_le.mpr h))]; rfl
  · rw [if_neg h, b2_t ((hk.2 r hr).mp (Int32.not_lt.mp h))]; rfl
def mkN (M : mSt) (l : List Nat) (x : Int32) : Bool := match rOf x with | none => false | some r => decide (r ∈ l ∧ M.2 9 r = 0)
theorem m_isMadeNow (e : mEx sc M A) (hk : knL M n l) (x : Int32) : fm_isMadeNow A (Int32.ofNat n) x = some (b2 (mkN M l x = true)) := by
  unfold fm_isMadeNow fm_isMadeNow_27 fm_isMadeNow_28 mkN
  rw [m_rowOf, bd_s]
  cases hx : rOf x with
  | none => rfl
  | some r =>
    have hr := rOf_lt hx
    show bd (fm_isApplied A (Int32.ofNat n) (Int32.ofNat r)) _ = _
    rw [m_isApplied e hk hr, bd_s]
    by_cases h1 : r ∈ l
    · rw [b2_t h1, if_neg n10]
      show ck (Int32.ofNat r) 1000 _ = _
      rw [ck_n hr (by omega), show rI (some r) = Int32.ofNat r from rfl, rd_e e (by decide) (by omega)]
      by_cases h2 : M.2 9 r = 0
      · rw [if_pos h2, b2_t (by simp [h1, h2])]; rfl
      · rw [if_neg h2, b2_f (by simp [h2])]; rfl
    · rw [b2_f h1, if_pos rfl, b2_f (by simp [h1])]; rfl
theorem m_isMade (e : mEx sc M A) (h2 : lAt M n l) (x : Int32) : fm_isMade A (Int32.ofNat n) x (Int32.ofNat l.length) = some (b2 (mkN M l x = true)) := by
  have hle := h2.2.1
  unfold fm_isMade mkN
  rw [m_rowOf, bd_s]
  have key := loopE (σ := Unit) (β := Int32) (N := l.length) (F := fun k _ i => fm_isMade_9 A k (Int32.ofNat n) (Int32.ofNat l.length) (rI (rOf x)) (Int32.ofNat i)) (R := some (b2 ((match rOf x with | none => false | some r => decide (r ∈ l ∧ M.2 9 r = 0)) = true)))
    (fun i _ => ∀ r, rOf x = some r → r ∉ l.take i)
    (fun k _ hI => by
      rw [List.take_length] at hI
      show fm_isMade_9 A (k + 1) _ _ _ (Int32.ofNat l.length) = _
      rw [fm_isMade_9, if_pos ((jI_le (by omega) (by omega)).mpr (Nat.le_refl _))]
      cases hx : rOf x with
      | none => rfl
      | some r => rw [b2_f (by simp [hI r hx])]; rfl)
    (fun k _ i hi hI => by
      have hri := (h2.2.2 i hi).2
      have hone : Int32.ofNat i + 1 = Int32.ofNat (i + 1) := jI_add i 1
      show (∃ st', _ ∧ fm_isMade_9 A (k + 1) _ _ _ (Int32.ofNat i) = _) ∨ fm_isMade_9 A (k + 1) _ _ _ (Int32.ofNat i) = _
      rw [fm_isMade_9, if_neg (fun q => absurd ((jI_le (by omega) (by omega)).mp q) (by omega)), m_rowAtL e h2 hi, bd_s]
      cases hx : rOf x with
      | none =>
        left
        refine ⟨(), (fun r hr => by cases hr), ?_⟩
        rw [if_neg (show ¬ Int32.ofNat l[i] = rI none from jI_ne (by omega)), lt_d, hone]
      | some r =>
        have hr := rOf_lt hx
        by_cases c : l[i] = r
        · right
          rw [if_pos (show Int32.ofNat l[i] = rI (some r) by rw [c]; rfl), show rI (some r) = Int32.ofNat r from rfl, ck_n hr (by omega), rd_e e (by decide) (by omega)]
          have hm : r ∈ l := c ▸ List.getElem_mem hi
          unfold fm_isMade_42
          by_cases h9 : M.2 9 r = 0
          · rw [if_pos h9, b2_t (by simp [hm, h9])]; rfl
          · rw [if_neg h9, b2_f (by simp [h9])]; rfl
        · left
          refine ⟨(), fun r' hr' => ?_, ?_⟩
          · cases hr'
            rw [take_app hi]
            intro q
            rcases List.mem_append.mp q with q | q
            · exact hI r hx q
            · exact c (List.mem_singleton.mp q).symm
          · rw [if_neg (show ¬ Int32.ofNat l[i] = rI (some r) from fun q => c ((jI_inj (by omega) (by omega)).mp q)), lt_d, hone])
    l.length 0 mFU () (by omega) (Nat.lt_of_le_of_lt hle (by decide)) (fun r _ => by simp)
  exact key
def dpP (M : mSt) (l : List Nat) (x : Int32) (r : Nat) : Bool := decide (M.2 9 r = 12) && (decide (M.2 10 r = x) && gd M l r)
def thN (M : mSt) (l : List Nat) (x : Int32) : Bool := mkN M l x && !(l.any (dpP M l x))
def wJ : Nat → Prop := fun k => k = 47 ∨ k = 48
theorem m_isThere (e : mEx sc M A) (h2 : lAt M n l) (hj : jOkL M l) (x : Int32) : ∃ B, fm_isThere A (Int32.ofNat n) x (Int32.ofNat l.length) = some (b2 (thN M l x = true), B) ∧ mEx wJ A B := by
  have hle := h2.2.1
  unfold fm_isThere thN
  rw [m_isMade e h2, bd_s]
  cases hm : mkN M l x
  · rw [if_pos bFn, b2_f (by simp)]
    exact ⟨A, rfl, mEx_refl _ _⟩
  · obtain ⟨B, b1, b2', b3, -⟩ := m_judgeL e h2 hj
    rw [if_neg bTn, b1, bd_s]
    have eB : mEx sc M B := mEx_trans e (mEx_mono b2' (fun j hj => by unfold sc; rcases hj with hj | hj <;> omega))
    refine ⟨B, ?_, b2'⟩
    have key := loopE (σ := Unit) (β := Int32 × mSt) (N := l.length) (F := fun k _ i => fm_isThere_21 k B (Int32.ofNat n) x (Int32.ofNat l.length) (Int32.ofNat i)) (R := some (b2 ((true && !(l.any (dpP M l x))) = true), B))
      (fun i _ => (l.take i).any (dpP M l x) = false)
      (fun k _ hI => by
        rw [List.take_length] at hI
        show fm_isThere_21 (k + 1) B _ _ _ (Int32.ofNat l.length) = _
        rw [fm_isThere_21, if_pos ((jI_le (by omega) (by omega)).mpr (Nat.le_refl _)), hI]; rfl)
      (fun k _ i hi hI => by
        have hri := (h2.2.2 i hi).2
        have hone : Int32.ofNat i + 1 = Int32.ofNat (i + 1) := jI_add i 1
        show (∃ st', _ ∧ fm_isThere_21 (k + 1) B _ _ _ (Int32.ofNat i) = _) ∨ fm_isThere_21 (k + 1) B _ _ _ (Int32.ofNat i) = _
        rw [fm_isThere_21, if_neg (fun q => absurd ((jI_le (by omega) (by omega)).mp q) (by omega)), m_rowAtL eB h2 hi, bd_s, ck_n hri (by omega), rd_e eB (by decide) (by omega)]
        unfold fm_isThere_71
        simp only [lt_d, hone]
        have ok : dpP M l x l[i] = false → (l.take (i + 1)).any (dpP M l x) = false := fun hk => by rw [take_app hi, List.any_append, hI, Bool.false_or]; simp [hk]
        by_cases c1 : M.2 9 l[i] = 12
        · rw [if_pos c1, ck_n hri (by omega), rd_e eB (by decide) (by omega)]
          by_cases c2 : M.2 10 l[i] = x
          · rw [if_pos c2, ck_n hri (by omega), rd_n _ _ (by omega), b3 _ hri]
            cases c3 : gd M l l[i]
            · rw [if_pos bFn]
              exact Or.inl ⟨(), ok (by unfold dpP; rw [c3]; simp), rfl⟩
            · rw [if_neg bTn]
              right
              have : l.any (dpP M l x) = true := List.any_eq_true.mpr ⟨l[i], List.getElem_mem hi, by unfold dpP; rw [c3, decide_eq_true c1, decide_eq_true c2]; rfl⟩
              rw [this]; rfl
          · rw [if_neg c2]
            exact Or.inl ⟨(), ok (by unfold dpP; rw [decide_eq_false c2]; simp), rfl⟩
        · rw [if_neg c1]
          exact Or.inl ⟨(), ok (by unfold dpP; rw [decide_eq_false c1]; rfl), rfl⟩)
      l.length 0 mFU () (by omega) (Nat.lt_of_le_of_lt hle (by decide)) rfl
    exact key
theorem m_isThereNow (e : mEx sc M A) (h2 : lAt M n l) (hj : jOkL M l) (h23 : M.2 23 n = Int32.ofNat l.length) (x : Int32) : ∃ B, fm_isThereNow A (Int32.ofNat n) x = some (b2 (thN M l x = true), B) ∧ mEx wJ A B := by
  obtain ⟨B, b1, b2'⟩ := m_isThere e h2 hj x
  have hn := h2.1
  refine ⟨B, ?_, b2'⟩
  unfold fm_isThereNow
  rw [ck_n hn (by omega), rd_e e (by decide) (by omega), h23, b1, bd_s]
  show ckz (b2 _) _ = _
  rw [ckz_b]
theorem m_kindOf (e : mEx sc M A) {x : Int32} {r : Nat} (hx : rOf x = some r) : fm_kindOf A x = some (M.2 12 r) := by
  have hr := rOf_lt hx
  unfold fm_kindOf
  rw [m_rowOf, bd_s, hx, show rI (some r) = Int32.ofNat r from rfl, ck_n hr (by omega), rd_e e (by decide) (by omega)]
theorem m_ruleOf (e : mEx sc M A) {x : Int32} {r kd p : Nat} (hx : rOf x = some r) (hk : M.2 12 r = Int32.ofNat kd) (hkd : kd < 8) (hp : p < 6) : fm_ruleOf A x (Int32.ofNat p) = some (M.2 6 (6 * kd + p)) := by
  unfold fm_ruleOf
  rw [m_kindOf e hx, bd_s, hk, show (6 : Int32) = Int32.ofNat 6 from rfl, jI_mul, jI_add, ck_n (by omega) (by omega), rd_e e (by decide) (by omega)]
theorem m_seenOf (e : mEx sc M A) (hn : n < 4) {m q : Nat} (hm : m < 4) (hq : q < 4) : fm_seenOf A (Int32.ofNat n) (Int32.ofNat m) (Int32.ofNat q) = some (if m = n then M.2 20 (4 * n + q) else M.2 21 (16 * n + 4 * m + q)) := by
  unfold fm_seenOf fm_seenOf_29
  by_cases c : m = n
  · rw [if_pos (by rw [c]), if_pos c, m_knownOf e hn hq, bd_s]
  · rw [if_neg (fun q => c ((jI_inj (by omega) (by omega)).mp q)), if_neg c, show (16 : Int32) = Int32.ofNat 16 from rfl, show (4 : Int32) = Int32.ofNat 4 from rfl, jI_mul, jI_mul, jI_add, jI_add, ck_n (by omega) (by omega), rd_e e (by decide) (by omega)]
/-- with all, as the reference finds it -/
def sbP (M : mSt) (n r : Nat) : Bool := (List.range 4).all (fun m => decide (m = n ∨ Int32.ofNat (rM r) ≤ M.2 21 (16 * n + 4 * m + rN r)))
theorem m_isStable (e : mEx sc M A) (hn : n < 4) {r : Nat} (hr : r < 1000) : fm_isStable A (Int32.ofNat n) (Int32.ofNat r) = some (b2 (sbP M n r = true)) := by
  unfold fm_isStable sbP
  have key := loopE (σ := Unit) (β := Int32) (N := 4) (F := fun k _ i => fm_isStable_2 A k (Int32.ofNat n) (Int32.ofNat r) (Int32.ofNat i)) (R := some (b2 (((List.range 4).all (fun m => decide (m = n ∨ Int32.ofNat (rM r) ≤ M.2 21 (16 * n + 4 * m + rN r)))) = true)))
    (fun i _ => ∀ m, m < i → m = n ∨ Int32.ofNat (rM r) ≤ M.2 21 (16 * n + 4 * m + rN r))
    (fun k _ hI => by
      show fm_isStable_2 A (k + 1) _ _ (Int32.ofNat 4) = _
      rw [fm_isStable_2, if_pos (by decide), b2_t]
      · rfl
      · rw [List.all_eq_true]
        intro m hm
        exact decide_eq_true (hI m (List.mem_range.mp hm)))
    (fun k _ i hi hI => by
      have hone : Int32.ofNat i + 1 = Int32.ofNat (i + 1) := jI_add i 1
      show (∃ st', _ ∧ fm_isStable_2 A (k + 1) _ _ (Int32.ofNat i) = _) ∨ fm_isStable_2 A (k + 1) _ _ (Int32.ofNat i) = _
      rw [fm_isStable_2, if_neg (jK 4 4 (b := i) rfl (by omega) (by decide))]
      unfold fm_isStable_31
      simp only [lt_d, hone]
      by_cases c : i = n
      · rw [if_pos (by rw [c])]
        refine Or.inl ⟨(), fun m hm => ?_, rfl⟩
        by_cases em : m = i
        · exact Or.inl (em.trans c)
        · exact hI m (by omega)
      · rw [if_neg (fun q => c ((jI_inj (by omega) (by omega)).mp q)), m_nodeOf hr, bd_s, m_seenOf e hn hi (rN_lt hr), bd_s, m_numberOf hr, bd_s, if_neg c]
        by_cases d : Int32.ofNat (rM r) ≤ M.2 21 (16 * n + 4 * i + rN r)
        · rw [if_pos d]
          refine Or.inl ⟨(), fun m hm => ?_, rfl⟩
          by_cases em : m = i
          · subst em; exact Or.inr d
          · exact hI m (by omega)
        · rw [if_neg d]
          right
          rw [b2_f]
          · rfl
          · intro q
            rw [List.all_eq_true] at q
            have := of_decide_eq_true (q i (List.mem_range.mpr hi))
            exact this.elim c d)
    4 0 mFU () (by omega) (by decide) (fun m hm => absurd hm (by omega))
  exact key
end R
