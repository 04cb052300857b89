-- part 33: the reference's sets and maps
section R
variable {M A : mSt} {n : Nat} {l : List Nat}
theorem lAt_mem (h2 : lAt M n l) {r : Nat} (h : r ∈ l) : r < 1000 := by
  obtain ⟨k, hk, e⟩ := List.mem_iff_getElem.mp h
  rw [← e]; exact (h2.2.2 k hk).2
def hoT (M : mSt) (l : List Nat) (r t : Nat) : Bool := decide (isO M 8 (M.2 10 r) (M.2 11 r) t → M.2 12 t = M.2 12 r → gd M l t = true → ¬ Int32.ofNat (rM r) ≤ M.2 16 (4 * t + rN r))
def hoP (M : mSt) (l : List Nat) (r : Nat) : Bool := gd M l r && l.all (hoT M l r)
theorem m_holds (h : rdy M A n l) {r : Nat} (hr : r < 1000) : fm_holds A (Int32.ofNat n) (Int32.ofNat l.length) (Int32.ofNat r) = some (b2 (hoP M l r = true)) := by
  obtain ⟨h1, h2, h3, h4, h5⟩ := h
  have hle := h2.2.1
  unfold fm_holds hoP
  rw [ck_n hr (by omega), rd_n _ _ (by omega), h5 r hr]
  cases c0 : gd M l r
  · rw [if_pos bFn, b2_f (by simp)]; rfl
  · rw [if_neg bTn]
    have key := loopE (σ := Unit) (β := Int32) (N := l.length) (F := fun k _ i => fm_holds_14 A k (Int32.ofNat n) (Int32.ofNat l.length) (Int32.ofNat r) (Int32.ofNat i)) (R := some (b2 ((true && l.all (hoT M l r)) = true)))
      (fun i _ => (l.take i).all (hoT M l r) = true)
      (fun k _ hI => by
        rw [List.take_length] at hI
        show fm_holds_14 A (k + 1) _ _ _ (Int32.ofNat l.length) = _
        rw [fm_holds_14, if_pos ((jI_le (by omega) (by omega)).mpr (Nat.le_refl _)), hI]; rfl)
      (fun k _ i hi hI => by
        have hri := (h2.2.2 i hi).2
        have hone : Int32.ofNat i + 1 = Int32.ofNat (i + 1) := jI_add i 1
        show (∃ st', _ ∧ fm_holds_14 A (k + 1) _ _ _ (Int32.ofNat i) = _) ∨ fm_holds_14 A (k + 1) _ _ _ (Int32.ofNat i) = _
        rw [fm_holds_14, if_neg (fun q => absurd ((jI_le (by omega) (by omega)).mp q) (by omega)), m_rowAtL h1 h2 hi, bd_s, ck_n hr (by omega), ck_n hr (by omega), rd_e h1 (by decide) (by omega), rd_e h1 (by decide) (by omega), m_isOf h1 hri, bd_s]
        unfold fm_holds_90
        simp only [lt_d, hone]
        have ok : hoT M l r l[i] = true → (l.take (i + 1)).all (hoT M l r) = true := fun hk => by rw [take_app hi, List.all_append, hI, Bool.true_and]; simp [hk]
        by_cases c1 : isO M 8 (M.2 10 r) (M.2 11 r) l[i]
        · rw [b2_t c1, if_neg n10, ck_n hri (by omega), ck_n hr (by omega), rd_e h1 (by decide) (by omega), rd_e h1 (by decide) (by omega)]
          by_cases c2 : M.2 12 l[i] = M.2 12 r
          · rw [if_pos c2, ck_n hri (by omega), rd_n _ _ (by omega), h5 _ hri]
            cases c3 : gd M l l[i]
            · rw [if_pos bFn]
              exact Or.inl ⟨(), ok (by unfold hoT; exact decide_eq_true (fun _ _ q => by rw [c3] at q; cases q)), rfl⟩
            · rw [if_neg bTn, m_knew h1 hri hr, bd_s]
              by_cases c4 : Int32.ofNat (rM r) ≤ M.2 16 (4 * l[i] + rN r)
              · rw [b2_t c4, if_neg n10]
                right
                have : l.all (hoT M l r) = false := by
                  rw [List.all_eq_false]
                  exact ⟨l[i], List.getElem_mem hi, by unfold hoT; simpa [c2, c3, c4] using c1⟩
                rw [this]; rfl
              · rw [b2_f c4, if_pos rfl]
                exact Or.inl ⟨(), ok (by unfold hoT; exact decide_eq_true (fun _ _ _ q => c4 q)), rfl⟩
          · rw [if_neg c2]
            exact Or.inl ⟨(), ok (by unfold hoT; exact decide_eq_true (fun _ q => absurd q c2)), rfl⟩
        · rw [b2_f c1, if_pos rfl]
          exact Or.inl ⟨(), ok (by unfold hoT; exact decide_eq_true (fun q => absurd q c1)), rfl⟩)
      l.length 0 mFU () (by omega) (Nat.lt_of_le_of_lt hle (by decide)) rfl
    exact key
def kvL (f : Nat → Option Nat) (n : Nat) : List (Int32 × Int32) := (List.range n).filterMap (fun x => (f x).map (fun r => (Int32.ofNat x, Int32.ofNat r)))
theorem kvL_succ (f : Nat → Option Nat) (n : Nat) : kvL f (n + 1) = kvL f n ++ (match f n with | none => [] | some r => [(Int32.ofNat n, Int32.ofNat r)]) := by
  unfold kvL
  rw [List.range_succ, List.filterMap_append]
  congr 1
  cases h : f n <;> simp [h]
theorem kvL_len (f : Nat → Option Nat) (n : Nat) : (kvL f n).length ≤ n := by
  have := List.length_filterMap_le (fun x => (f x).map (fun r => (Int32.ofNat x, Int32.ofNat r))) (List.range n)
  rwa [List.length_range] at this
/-- the last enter by which x is in the set, as the reference finds it -/
def stP (M : mSt) (l : List Nat) (o p : Int32) (x r : Nat) : Bool := decide (isO M 7 o p r) && (decide (M.2 12 r = Int32.ofNat x) && hoP M l r)
def stB (M : mSt) (l : List Nat) (o p : Int32) (x : Nat) : Option Nat := bst (rK M) (l.filter (stP M l o p x))
theorem m_setIn (h : rdy M A n l) (o p : Int32) (x : Nat) (g3 : mSt → Int32 → Int32 → Int32 → Int32 → Int32 → Option mSt) : fm_set_16 g3 mFU A (Int32.ofNat n) (Int32.ofNat l.length) o p (Int32.ofNat x) (-1) 0 = (match stB M l o p x with | none => fm_set_109 g3 A (Int32.ofNat n) (Int32.ofNat l.length) o p (Int32.ofNat x) | some r => bd (fm_put A (Int32.ofNat x) (Int32.ofNat r)) fun B => fm_set_109 g3 B (Int32.ofNat n) (Int32.ofNat l.length) o p (Int32.ofNat x)) := by
  have h0 := h
  obtain ⟨h1, h2, h3, h4, h5⟩ := h
  have hle := h2.2.1
  have key := loopE (σ := Option Nat) (β := mSt) (N := l.length) (F := fun k st i => fm_set_16 g3 k A (Int32.ofNat n) (Int32.ofNat l.length) o p (Int32.ofNat x) (rI st) (Int32.ofNat i)) (R := (match stB M l o p x with | none => fm_set_109 g3 A (Int32.ofNat n) (Int32.ofNat l.length) o p (Int32.ofNat x) | some r => bd (fm_put A (Int32.ofNat x) (Int32.ofNat r)) fun B => fm_set_109 g3 B (Int32.ofNat n) (Int32.ofNat l.length) o p (Int32.ofNat x)))
    (fun i st => st = bst (rK M) ((l.take i).filter (stP M l o p x)))
    (fun k st hI => by
      rw [List.take_length] at hI
      have hI' : st = stB M l o p x := hI
      show fm_set_16 g3 (k + 1) A _ _ o p (Int32.ofNat x) (rI st) (Int32.ofNat l.length) = _
      rw [fm_set_16, if_pos ((jI_le (by omega) (by omega)).mpr (Nat.le_refl _)), ← hI']
      cases st with
      | none => rw [if_pos (show rI none = -1 from rfl)]
      | some r =>
        have hr := lAt_mem h2 (List.mem_filter.mp (bst_mem hI.symm)).1
        rw [if_neg (show ¬ rI (some r) = -1 from jI_ne (by omega))]; rfl)
    (fun k st i hi hI => Or.inl (by
      have hr := (h2.2.2 i hi).2
      show ∃ st', _ ∧ fm_set_16 g3 (k + 1) A _ _ o p (Int32.ofNat x) (rI st) (Int32.ofNat i) = _
      rw [fm_set_16, if_neg (fun q => absurd ((jI_le (by omega) (by omega)).mp q) (by omega)), m_rowAtL h1 h2 hi, bd_s, m_isOf h1 hr, bd_s, bst_step h4 _ hi]
      unfold fm_set_85 fm_set_89
      have hone : Int32.ofNat i + 1 = Int32.ofNat (i + 1) := jI_add i 1
      simp only [lt_d, hone]
      have no : stP M l o p x l[i] = false → st = if stP M l o p x l[i] = true then (match bst (rK M) ((l.take i).filter (stP M l o p x)) with | none => some l[i] | some q => if rK M q < rK M l[i] then some l[i] else some q) else bst (rK M) ((l.take i).filter (stP M l o p x)) := fun hq => by
        rw [hq, if_neg (by simp)]; exact hI
      by_cases hO : isO M 7 o p l[i]
      · rw [b2_t hO, if_neg n10, ck_n hr (by omega), rd_e h1 (by decide) (by omega)]
        by_cases hx : M.2 12 l[i] = Int32.ofNat x
        · rw [if_pos hx, m_holds h0 hr, bd_s]
          cases hg : hoP M l l[i]
          · rw [if_pos bFn]
            exact ⟨st, no (by unfold stP; rw [hg]; simp), rfl⟩
          · have hp : stP M l o p x l[i] = true := by unfold stP; rw [hg, decide_eq_true hx, decide_eq_true hO]; rfl
            rw [if_neg bTn, if_pos hp, ← hI]
            cases st with
            | none => exact ⟨some l[i], rfl, by rw [if_pos (show rI none = -1 from rfl)]; rfl⟩
            | some q =>
              have hq : q < 1000 := lAt_mem h2 (List.mem_of_mem_take (List.mem_filter.mp (bst_mem hI.symm)).1)
              rw [if_neg (show ¬ rI (some q) = -1 from jI_ne (by omega)), show rI (some q) = Int32.ofNat q from rfl, m_isBeforeL h1 h3 hq hr, bd_s]
              by_cases hlt : rK M q < rK M l[i]
              · rw [b2_t hlt, if_neg n10]
                exact ⟨some l[i], by show _ = if _ then _ else _; rw [if_pos hlt], rfl⟩
              · rw [b2_f hlt, if_pos rfl]
                exact ⟨some q, by show _ = if _ then _ else _; rw [if_neg hlt], rfl⟩
        · rw [if_neg hx]
          exact ⟨st, no (by unfold stP; rw [decide_eq_false hx]; simp), rfl⟩
      · rw [b2_f hO, if_pos rfl]
        exact ⟨st, no (by unfold stP; rw [decide_eq_false hO]; rfl), rfl⟩))
    l.length 0 mFU none (by omega) (Nat.lt_of_le_of_lt hle (by decide)) rfl
  exact key
theorem m_set (h : rdy M A n l) (hP : inP A []) (o p : Int32) : ∃ B, fm_set A (Int32.ofNat n) (Int32.ofNat l.length) o p = some B ∧ mEx wP A B ∧ inP B (kvL (stB M l o p) 64) := by
  unfold fm_set
  obtain ⟨b, q1, q2⟩ := loopI (σ := mSt) (β := mSt) (N := 64) (F := fun k B i => fm_set_3 k B (Int32.ofNat n) (Int32.ofNat l.length) o p (Int32.ofNat i)) (Q := fun B => mEx wP A B ∧ inP B (kvL (stB M l o p) 64))
    (fun i B => mEx wP A B ∧ inP B (kvL (stB M l o p) i))
    (fun k B hI => ⟨B, by
      show fm_set_3 (k + 1) B _ _ o p (Int32.ofNat 64) = _
      rw [fm_set_3]; exact if_pos (by decide), hI⟩)
    (fun k B i hi hI => Or.inl (by
      show ∃ st', _ ∧ fm_set_3 (k + 1) B _ _ o p (Int32.ofNat i) = _
      have hone : Int32.ofNat i + 1 = Int32.ofNat (i + 1) := jI_add i 1
      have hlen := kvL_len (stB M l o p) i
      rw [fm_set_3, if_neg (jK 64 64 (b := i) rfl (by omega) (by decide)), m_setIn (rdy_put h hI.1) o p i, kvL_succ]
      unfold fm_set_109
      simp only [lt_d, hone]
      cases hs : stB M l o p i with
      | none => exact ⟨B, by rw [List.append_nil]; exact hI, rfl⟩
      | some r =>
        obtain ⟨C, e1, e2, e3⟩ := m_putV hI.2 (by omega) (Int32.ofNat i) (Int32.ofNat r)
        exact ⟨C, ⟨mEx_trans hI.1 e2, e3⟩, by show bd (fm_put B _ _) _ = _; rw [e1, bd_s]⟩))
    64 0 mFU A (by omega) (by decide) ⟨mEx_refl _ _, hP⟩
  exact ⟨b, q1, q2⟩
/-- the last bind or unbind of a key, as the reference finds it -/
def kyP (M : mSt) (l : List Nat) (o p : Int32) (x r : Nat) : Bool := decide (isO M 15 o p r ∨ isO M 16 o p r) && (decide (M.2 12 r = Int32.ofNat x) && gd M l r)
def kyB (M : mSt) (l : List Nat) (o p : Int32) (x : Nat) : Option Nat := bst (rK M) (l.filter (kyP M l o p x))
def kyC (M : mSt) (l : List Nat) (o p : Int32) (x : Nat) : Option Nat := match kyB M l o p x with | none => none | some r => if M.2 9 r = 15 then some r else none
theorem m_keysIn (h : rdy M A n l) (o p : Int32) (x : Nat) (g3 : mSt → Int32 → Int32 → Int32 → Int32 → Int32 → Option mSt) : fm_keys_16 g3 mFU A (Int32.ofNat n) (Int32.ofNat l.length) o p (Int32.ofNat x) (-1) 0 = (match kyC M l o p x with | none => fm_keys_146 g3 A (Int32.ofNat n) (Int32.ofNat l.length) o p (Int32.ofNat x) | some r => bd (fm_put A (Int32.ofNat x) (Int32.ofNat r)) fun B => fm_keys_146 g3 B (Int32.ofNat n) (Int32.ofNat l.length) o p (Int32.ofNat x)) := by
  have h0 := h
  obtain ⟨h1, h2, h3, h4, h5⟩ := h
  have hle := h2.2.1
  have key := loopE (σ := Option Nat) (β := mSt) (N := l.length) (F := fun k st i => fm_keys_16 g3 k A (Int32.ofNat n) (Int32.ofNat l.length) o p (Int32.ofNat x) (rI st) (Int32.ofNat i)) (R := (match kyC M l o p x with | none => fm_keys_146 g3 A (Int32.ofNat n) (Int32.ofNat l.length) o p (Int32.ofNat x) | some r => bd (fm_put A (Int32.ofNat x) (Int32.ofNat r)) fun B => fm_keys_146 g3 B (Int32.ofNat n) (Int32.ofNat l.length) o p (Int32.ofNat x)))
    (fun i st => st = bst (rK M) ((l.take i).filter (kyP M l o p x)))
    (fun k st hI => by
      rw [List.take_length] at hI
      have hI' : kyB M l o p x = st := hI.symm
      show fm_keys_16 g3 (k + 1) A _ _ o p (Int32.ofNat x) (rI st) (Int32.ofNat l.length) = _
      unfold kyC
      rw [fm_keys_16, if_pos ((jI_le (by omega) (by omega)).mpr (Nat.le_refl _)), hI']
      cases st with
      | none => rw [if_pos (show rI none = -1 from rfl)]
      | some r =>
        have hr := lAt_mem h2 (List.mem_filter.mp (bst_mem hI.symm)).1
        rw [if_neg (show ¬ rI (some r) = -1 from jI_ne (by omega)), show rI (some r) = Int32.ofNat r from rfl, ck_n hr (by omega), rd_e h1 (by decide) (by omega)]
        by_cases c : M.2 9 r = 15
        · rw [if_pos c]; simp only [c, if_true]
        · rw [if_neg c]; simp only [c, if_false])
    (fun k st i hi hI => Or.inl (by
      have hr := (h2.2.2 i hi).2
      show ∃ st', _ ∧ fm_keys_16 g3 (k + 1) A _ _ o p (Int32.ofNat x) (rI st) (Int32.ofNat i) = _
      rw [fm_keys_16, if_neg (fun q => absurd ((jI_le (by omega) (by omega)).mp q) (by omega)), m_rowAtL h1 h2 hi, bd_s, m_isOf h1 hr, bd_s, m_isOf h1 hr, bd_s, bst_step h4 _ hi]
      have hone : Int32.ofNat i + 1 = Int32.ofNat (i + 1) := jI_add i 1
      have end0 : fm_keys_85 g3 (fm_keys_16 g3 k) A (Int32.ofNat n) (Int32.ofNat l.length) o p (Int32.ofNat x) (rI st) (Int32.ofNat i) (Int32.ofNat l[i]) = fm_keys_16 g3 k A (Int32.ofNat n) (Int32.ofNat l.length) o p (Int32.ofNat x) (rI st) (Int32.ofNat (i + 1)) := by
        unfold fm_keys_85 fm_keys_86 fm_keys_114
        rw [if_pos rfl, lt_d, hone]
      have no : kyP M l o p x l[i] = false → st = if kyP M l o p x l[i] = true then (match bst (rK M) ((l.take i).filter (kyP M l o p x)) with | none => some l[i] | some q => if rK M q < rK M l[i] then some l[i] else some q) else bst (rK M) ((l.take i).filter (kyP M l o p x)) := fun hq => by
        rw [hq, if_neg (by simp)]; exact hI
      have mid : (isO M 15 o p l[i] ∨ isO M 16 o p l[i]) → ∃ st' : Option Nat, (st' = if kyP M l o p x l[i] = true then (match bst (rK M) ((l.take i).filter (kyP M l o p x)) with | none => some l[i] | some q => if rK M q < rK M l[i] then some l[i] else some q) else bst (rK M) ((l.take i).filter (kyP M l o p x))) ∧ fm_keys_59 g3 (fm_keys_16 g3 k) A (Int32.ofNat n) (Int32.ofNat l.length) o p (Int32.ofNat x) (rI st) (Int32.ofNat i) (Int32.ofNat l[i]) = fm_keys_16 g3 k A (Int32.ofNat n) (Int32.ofNat l.length) o p (Int32.ofNat x) (rI st') (Int32.ofNat (i + 1)) := fun hO => by
        unfold fm_keys_59
        rw [ck_n hr (by omega), rd_e h1 (by decide) (by omega)]
        by_cases hx : M.2 12 l[i] = Int32.ofNat x
        · rw [if_pos hx, ck_n hr (by omega), rd_n _ _ (by omega), h5 _ hr]
          cases hg : gd M l l[i]
          · rw [if_pos bFn, end0]
            exact ⟨st, no (by unfold kyP; rw [hg]; simp), rfl⟩
          · have hp : kyP M l o p x l[i] = true := by unfold kyP; rw [hg, decide_eq_true hx, decide_eq_true hO]; rfl
            rw [if_neg bTn, if_pos hp, ← hI]
            unfold fm_keys_86 fm_keys_110 fm_keys_114
            simp only [lt_d, hone]
            rw [if_neg (by decide)]
            cases st with
            | none => exact ⟨some l[i], rfl, by rw [if_pos (show rI none = -1 from rfl)]; rfl⟩
            | some q =>
              have hq : q < 1000 := lAt_mem h2 (List.mem_of_mem_take (List.mem_filter.mp (bst_mem hI.symm)).1)
              rw [if_neg (show ¬ rI (some q) = -1 from jI_ne (by omega)), show rI (some q) = Int32.ofNat q from rfl, m_isBeforeL h1 h3 hq hr, bd_s]
              by_cases hlt : rK M q < rK M l[i]
              · rw [b2_t hlt, if_neg n10]
                exact ⟨some l[i], by show _ = if _ then _ else _; rw [if_pos hlt], rfl⟩
              · rw [b2_f hlt, if_pos rfl]
                exact ⟨some q, by show _ = if _ then _ else _; rw [if_neg hlt], rfl⟩
        · rw [if_neg hx, end0]
          exact ⟨st, no (by unfold kyP; rw [decide_eq_false hx]; simp), rfl⟩
      by_cases hO : isO M 15 o p l[i]
      · rw [b2_t hO, if_neg n10]
        exact mid (Or.inl hO)
      · rw [b2_f hO, if_pos rfl]
        by_cases hO2 : isO M 16 o p l[i]
        · rw [b2_t hO2, if_neg n10]
          exact mid (Or.inr hO2)
        · rw [b2_f hO2, if_pos rfl, end0]
          exact ⟨st, no (by unfold kyP; rw [decide_eq_false (fun q => q.elim hO hO2)]; rfl), rfl⟩))
    l.length 0 mFU none (by omega) (Nat.lt_of_le_of_lt hle (by decide)) rfl
  exact key
theorem m_keys (h : rdy M A n l) (hP : inP A []) (o p : Int32) : ∃ B, fm_keys A (Int32.ofNat n) (Int32.ofNat l.length) o p = some B ∧ mEx wP A B ∧ inP B (kvL (kyC M l o p) 64) := by
  unfold fm_keys
  obtain ⟨b, q1, q2⟩ := loopI (σ := mSt) (β := mSt) (N := 64) (F := fun k B i => fm_keys_3 k B (Int32.ofNat n) (Int32.ofNat l.length) o p (Int32.ofNat i)) (Q := fun B => mEx wP A B ∧ inP B (kvL (kyC M l o p) 64))
    (fun i B => mEx wP A B ∧ inP B (kvL (kyC M l o p) i))
    (fun k B hI => ⟨B, by
      show fm_keys_3 (k + 1) B _ _ o p (Int32.ofNat 64) = _
      rw [fm_keys_3]; exact if_pos (by decide), hI⟩)
    (fun k B i hi hI => Or.inl (by
      show ∃ st', _ ∧ fm_keys_3 (k + 1) B _ _ o p (Int32.ofNat i) = _
      have hone : Int32.ofNat i + 1 = Int32.ofNat (i + 1) := jI_add i 1
      have hlen := kvL_len (kyC M l o p) i
      rw [fm_keys_3, if_neg (jK 64 64 (b := i) rfl (by omega) (by decide)), m_keysIn (rdy_put h hI.1) o p i, kvL_succ]
      unfold fm_keys_146
      simp only [lt_d, hone]
      cases hs : kyC M l o p i with
      | none => exact ⟨B, by rw [List.append_nil]; exact hI, rfl⟩
      | some r =>
        obtain ⟨C, e1, e2, e3⟩ := m_putV hI.2 (by omega) (Int32.ofNat i) (Int32.ofNat r)
        exact ⟨C, ⟨mEx_trans hI.1 e2, e3⟩, by show bd (fm_put B _ _) _ = _; rw [e1, bd_s]⟩))
    64 0 mFU A (by omega) (by decide) ⟨mEx_refl _ _, hP⟩
  exact ⟨b, q1, q2⟩
end R
