-- part 32: the reference's latest, several, sum, shares
def bst (K : Nat → Nat) (l : List Nat) : Option Nat := (srt K l).getLast?
theorem gl_cons (e : Nat) (L : List Nat) : (e :: L).getLast? = match L.getLast? with | none => some e | some q => some q := by
  cases L with
  | nil => rfl
  | cons a L =>
    rw [List.getLast?_cons_cons]
    cases h : (a :: L).getLast? with
    | none => simp at h
    | some q => rfl
theorem ins_last {K : Nat → Nat} {r : Nat} {L : List Nat} (hs : sdl K L) (hn : ∀ q ∈ L, K q ≠ K r) : (ins K r L).getLast? = match L.getLast? with | none => some r | some q => if K q < K r then some r else some q := by
  induction L with
  | nil => rfl
  | cons e L ih =>
    have hp := List.pairwise_cons.mp hs
    rw [ins_cons]
    by_cases h : K r < K e
    · rw [if_pos h, gl_cons r (e :: L)]
      cases hq : (e :: L).getLast? with
      | none => simp at hq
      | some q =>
        have hm := List.mem_of_getLast? hq
        have : K e ≤ K q := by
          rcases List.mem_cons.mp hm with rfl | hm
          · exact Nat.le_refl _
          · exact hp.1 q hm
        show some q = if K q < K r then some r else some q
        rw [if_neg (by omega)]
    · rw [if_neg h, gl_cons, ih hp.2 (fun q hq => hn q (List.mem_cons_of_mem _ hq)), gl_cons e L]
      cases hq : L.getLast? with
      | none =>
        have := hn e List.mem_cons_self
        show some r = if K e < K r then some r else some e
        rw [if_pos (by omega)]
      | some q =>
        show (match (if K q < K r then some r else some q) with | none => some e | some q => some q) = if K q < K r then some r else some q
        split
        · rename_i h2; split at h2 <;> cases h2
        · rename_i h2; exact h2.symm
theorem bst_app {K : Nat → Nat} {l : List Nat} {r : Nat} (hn : ∀ q ∈ l, K q ≠ K r) : bst K (l ++ [r]) = match bst K l with | none => some r | some q => if K q < K r then some r else some q := by
  unfold bst
  rw [srt_app]
  exact ins_last (sdl_srt K l) (fun q hq => hn q (mem_srt.mp hq))
theorem rev_find (L : List Nat) (p : Nat → Bool) : L.reverse.find? p = (L.filter p).getLast? := by
  rw [← List.head?_filter, List.filter_reverse, List.head?_reverse]
/-- rows that are told apart by their keys -/
def kInj (M : mSt) (l : List Nat) : Prop := l.Nodup ∧ ∀ a ∈ l, ∀ b ∈ l, rK M a = rK M b → a = b
theorem kInj_take {M : mSt} {l : List Nat} (h : kInj M l) (u : Nat) : kInj M (l.take u) := ⟨h.1.sublist (List.take_sublist u l), fun a ha b hb => h.2 a (List.mem_of_mem_take ha) b (List.mem_of_mem_take hb)⟩
theorem bst_step {M : mSt} {l : List Nat} (h : kInj M l) (P : Nat → Bool) {i : Nat} (hi : i < l.length) : bst (rK M) ((l.take (i + 1)).filter P) = if P l[i] then (match bst (rK M) ((l.take i).filter P) with | none => some l[i] | some q => if rK M q < rK M l[i] then some l[i] else some q) else bst (rK M) ((l.take i).filter P) := by
  rw [take_app hi, List.filter_append]
  cases hp : P l[i]
  · simp [hp]
  · have e : List.filter P [l[i]] = [l[i]] := by simp [hp]
    rw [e, bst_app]
    · rfl
    · intro q hq hk
      have hq1 := (List.mem_filter.mp hq).1
      have := h.2 q (List.mem_of_mem_take hq1) l[i] (List.getElem_mem hi) hk
      rw [this] at hq1
      exact absurd ((mem_take h.1 hi).mp hq1) (by omega)
theorem bst_mem {K : Nat → Nat} {l : List Nat} {r : Nat} (h : bst K l = some r) : r ∈ l := mem_srt.mp (List.mem_of_getLast? h)
abbrev isO (M : mSt) (s o p : Int32) (r : Nat) : Prop := M.2 9 r = s ∧ M.2 10 r = o ∧ M.2 11 r = p
section R
variable {M A : mSt} {n : Nat} {l : List Nat}
/-- what a look stands on: the rows, what is good -/
def rdy (M A : mSt) (n : Nat) (l : List Nat) : Prop := mEx sc M A ∧ lAt M n l ∧ tOk M ∧ kInj M l ∧ ∀ r, r < 1000 → A.2 47 r = b2 (gd M l r = true)
theorem rdy_put {B : mSt} (h : rdy M A n l) (e : mEx wP A B) : rdy M B n l := by
  obtain ⟨h1, h2, h3, h4, h5⟩ := h
  refine ⟨mEx_trans h1 (mEx_mono e (fun j hj => by unfold wP at hj; unfold sc; omega)), h2, h3, h4, fun r hr => ?_⟩
  rw [(e 47 (by unfold wP; omega)).2]; exact h5 r hr
theorem rI_ne {o : Option Nat} : rI o = -1 ↔ o = none ∨ ∃ r, o = some r ∧ Int32.ofNat r = -1 := by
  cases o with
  | none => simp [rI]
  | some r => simp [rI]
theorem lFu (h : rdy M A n l) : l.length < mFU := Nat.lt_of_le_of_lt h.2.1.2.1 (by decide)
def ltB (M : mSt) (l : List Nat) (o p : Int32) : Option Nat := bst (rK M) (l.filter (fun r => decide (M.2 9 r = 1 ∧ M.2 10 r = o ∧ M.2 11 r = p) && gd M l r))
theorem m_latest (h : rdy M A n l) (hP : inP A []) (o p : Int32) : ∃ B, fm_latest A (Int32.ofNat n) (Int32.ofNat l.length) o p = some B ∧ mEx wP A B ∧ inP B [(match ltB M l o p with | none => 0 | some r => M.2 12 r, rI (ltB M l o p))] := by
  obtain ⟨h1, h2, h3, h4, h5⟩ := h
  have hle := h2.2.1
  unfold fm_latest
  obtain ⟨b, q1, q2⟩ := loopI (σ := Option Nat) (β := mSt) (N := l.length) (F := fun k st i => fm_latest_6 k A (Int32.ofNat n) (Int32.ofNat l.length) o p (rI st) (Int32.ofNat i)) (Q := fun B => mEx wP A B ∧ inP B [(match ltB M l o p with | none => 0 | some r => M.2 12 r, rI (ltB M l o p))])
    (fun i st => st = bst (rK M) ((l.take i).filter (fun r => decide (M.2 9 r = 1 ∧ M.2 10 r = o ∧ M.2 11 r = p) && gd M l r)))
    (fun k st hI => by
      rw [List.take_length] at hI
      have hI' : st = ltB M l o p := hI
      show ∃ b, fm_latest_6 (k + 1) A _ _ o p (rI st) (Int32.ofNat l.length) = some b ∧ _
      rw [fm_latest_6, if_pos ((jI_le (by omega) (by omega)).mpr (Nat.le_refl _))]
      unfold fm_latest_89
      rw [← hI']
      cases st with
      | none =>
        obtain ⟨B, e1, e2, e3⟩ := m_putV hP (by simp) 0 (-1)
        rw [if_pos (show rI none = -1 from rfl), show rI none = -1 from rfl, e1, bd_s]
        exact ⟨B, rfl, e2, e3⟩
      | some r =>
        have hr : r < 1000 := by
          have := (List.mem_filter.mp (bst_mem hI.symm)).1
          obtain ⟨i, hi, rfl⟩ := List.mem_iff_getElem.mp this
          exact (h2.2.2 i hi).2
        obtain ⟨B, e1, e2, e3⟩ := m_putV hP (by simp) (M.2 12 r) (Int32.ofNat r)
        rw [if_neg (show ¬ rI (some r) = -1 from jI_ne (by omega))]
        show ∃ b, ck (Int32.ofNat r) 1000 (bd (fm_put A (rd A 12 (Int32.ofNat r)) (Int32.ofNat r)) _) = _ ∧ _
        rw [ck_n hr (by omega), rd_e h1 (by decide) (by omega), e1, bd_s]
        exact ⟨B, rfl, e2, e3⟩)
    (fun k st i hi hI => Or.inl (by
      have hr := (h2.2.2 i hi).2
      show ∃ st', _ ∧ fm_latest_6 (k + 1) A _ _ o p (rI st) (Int32.ofNat i) = _
      rw [fm_latest_6, if_neg (fun q => absurd ((jI_le (by omega) (by omega)).mp q) (by omega)), m_rowAtL h1 h2 hi, bd_s, m_isOf h1 hr, bd_s, bst_step h4 _ hi]
      unfold fm_latest_65 fm_latest_61 fm_latest_65
      have hone : Int32.ofNat i + 1 = Int32.ofNat (i + 1) := jI_add i 1
      simp only [lt_d, hone]
      by_cases hO : M.2 9 l[i] = 1 ∧ M.2 10 l[i] = o ∧ M.2 11 l[i] = p
      · rw [b2_t hO, if_neg n10, ck_n hr (by omega), rd_n _ _ (by omega), h5 _ hr, decide_eq_true hO, Bool.true_and]
        cases hg : gd M l l[i]
        · rw [if_pos bFn]
          exact ⟨st, by rw [if_neg (by simp)]; exact hI, rfl⟩
        · rw [if_neg bTn, if_pos rfl, ← hI]
          cases st with
          | none => exact ⟨some l[i], rfl, by rw [if_pos (show rI none = -1 from rfl)]; rfl⟩
          | some q =>
            have hq : q < 1000 := by
              have := List.mem_of_mem_take (List.mem_filter.mp (bst_mem hI.symm)).1
              obtain ⟨j, hj, rfl⟩ := List.mem_iff_getElem.mp this
              exact (h2.2.2 j hj).2
            rw [if_neg (show ¬ rI (some q) = -1 from jI_ne (by omega)), show rI (some q) = Int32.ofNat q from rfl, m_isBeforeL h1 h3 hq hr, bd_s]
            by_cases hlt : rK M q < rK M l[i]
            · rw [b2_t hlt, if_neg n10]
              exact ⟨some l[i], by show _ = if _ then _ else _; rw [if_pos hlt], rfl⟩
            · rw [b2_f hlt, if_pos rfl]
              exact ⟨some q, by show _ = if _ then _ else _; rw [if_neg hlt], rfl⟩
      · rw [b2_f hO, if_pos rfl, decide_eq_false hO, Bool.false_and, if_neg (by simp)]
        exact ⟨st, hI, rfl⟩))
    l.length 0 mFU none (by omega) (Nat.lt_of_le_of_lt hle (by decide)) rfl
  exact ⟨b, q1, q2⟩
/-- the puts that none knew, as the reference finds them -/
def knP (M : mSt) (l : List Nat) (o p : Int32) (r t : Nat) : Bool := decide (t ≠ r → isO M 2 o p t → gd M l t = true → ¬ Int32.ofNat (rM r) ≤ M.2 16 (4 * t + rN r))
def svQ (M : mSt) (l : List Nat) (o p : Int32) (r : Nat) : Bool := decide (isO M 2 o p r) && (gd M l r && l.all (knP M l o p r))
theorem loopE {σ β : Type} {F : Nat → σ → Nat → Option β} {N : Nat} {R : Option β} (I : Nat → σ → Prop)
    (he : ∀ n st, I N st → F (n + 1) st N = R)
    (hs : ∀ n st i, i < N → I i st → (∃ st', I (i + 1) st' ∧ F (n + 1) st i = F n st' (i + 1)) ∨ F (n + 1) st i = R) :
    ∀ (j i fu : Nat) (st : σ), i + j = N → j < fu → I i st → F fu st i = R := by
  intro j
  induction j with
  | zero =>
    intro i fu st hi hf h
    obtain ⟨fu, rfl⟩ : ∃ q, fu = q + 1 := ⟨fu - 1, by omega⟩
    have e : i = N := by omega
    subst e
    exact he fu st h
  | succ j ih =>
    intro i fu st hi hf h
    obtain ⟨fu, rfl⟩ : ∃ q, fu = q + 1 := ⟨fu - 1, by omega⟩
    rcases hs fu st i (by omega) h with ⟨st', h1, h2⟩ | h1
    · rw [h2]; exact ih (i + 1) fu st' (by omega) (by omega) h1
    · exact h1
theorem m_severalIn (h : rdy M A n l) (o p : Int32) {r : Nat} (hr : r < 1000) (g3 : mSt → Int32 → Int32 → Int32 → Int32 → Int32 → Option mSt) (v5 : Int32) : fm_several_50 g3 mFU A (Int32.ofNat n) (Int32.ofNat l.length) o p v5 (Int32.ofNat r) 1 0 = fm_several_124 g3 A (Int32.ofNat n) (Int32.ofNat l.length) o p v5 (Int32.ofNat r) (b2 (l.all (knP M l o p r) = true)) := by
  obtain ⟨h1, h2, h3, h4, h5⟩ := h
  have hle := h2.2.1
  have key := loopE (σ := Bool) (β := mSt) (N := l.length) (F := fun k st i => fm_several_50 g3 k A (Int32.ofNat n) (Int32.ofNat l.length) o p v5 (Int32.ofNat r) (b2 (st = true)) (Int32.ofNat i)) (R := fm_several_124 g3 A (Int32.ofNat n) (Int32.ofNat l.length) o p v5 (Int32.ofNat r) (b2 (l.all (knP M l o p r) = true)))
    (fun i st => (st = true ∧ (l.take i).all (knP M l o p r) = true) ∨ (st = false ∧ l.all (knP M l o p r) = false))
    (fun k st hI => by
      show fm_several_50 g3 (k + 1) A _ _ o p v5 (Int32.ofNat r) (b2 (st = true)) (Int32.ofNat l.length) = _
      rw [fm_several_50, if_pos ((jI_le (by omega) (by omega)).mpr (Nat.le_refl _))]
      rcases hI with ⟨e1, e2⟩ | ⟨e1, e2⟩
      · rw [List.take_length] at e2; rw [e1, e2]
      · rw [e1, e2])
    (fun k st i hi hI => by
      show (∃ st', _ ∧ fm_several_50 g3 (k + 1) A _ _ o p v5 (Int32.ofNat r) (b2 (st = true)) (Int32.ofNat i) = _) ∨ fm_several_50 g3 (k + 1) A _ _ o p v5 (Int32.ofNat r) (b2 (st = true)) (Int32.ofNat i) = _
      rw [fm_several_50, if_neg (fun q => absurd ((jI_le (by omega) (by omega)).mp q) (by omega))]
      rcases hI with ⟨e1, e2⟩ | ⟨e1, e2⟩
      · left
        have hri := (h2.2.2 i hi).2
        rw [e1, if_neg (by decide), m_rowAtL h1 h2 hi, bd_s]
        unfold fm_several_111 fm_several_116
        have hone : Int32.ofNat i + 1 = Int32.ofNat (i + 1) := jI_add i 1
        simp only [lt_d, hone]
        have ok : knP M l o p r l[i] = true → ∃ st' : Bool, ((st' = true ∧ (l.take (i + 1)).all (knP M l o p r) = true) ∨ (st' = false ∧ l.all (knP M l o p r) = false)) ∧ fm_several_50 g3 k A (Int32.ofNat n) (Int32.ofNat l.length) o p v5 (Int32.ofNat r) 1 (Int32.ofNat (i + 1)) = fm_several_50 g3 k A (Int32.ofNat n) (Int32.ofNat l.length) o p v5 (Int32.ofNat r) (b2 (st' = true)) (Int32.ofNat (i + 1)) := fun hk => ⟨true, Or.inl ⟨rfl, by rw [take_app hi, List.all_append, e2, Bool.true_and]; simp [hk]⟩, rfl⟩
        by_cases c1 : l[i] = r
        · rw [if_pos (by rw [c1])]
          exact ok (by unfold knP; exact decide_eq_true (fun q => absurd c1 q))
        · rw [if_neg (fun q => c1 ((jI_inj (by omega) (by omega)).mp q)), m_isOf h1 hri, bd_s]
          by_cases c2 : isO M 2 o p l[i]
          · rw [b2_t c2, if_neg n10, ck_n hri (by omega), rd_n _ _ (by omega), h5 _ hri]
            cases c3 : gd M l l[i]
            · rw [if_pos bFn]
              exact ok (by unfold knP; exact decide_eq_true (fun _ _ q => by rw [c3] at q; cases q))
            · rw [if_neg bTn, m_knew h1 hri hr, bd_s]
              by_cases c4 : Int32.ofNat (rM r) ≤ M.2 16 (4 * l[i] + rN r)
              · rw [b2_t c4, if_neg n10]
                refine ⟨false, Or.inr ⟨rfl, ?_⟩, rfl⟩
                rw [List.all_eq_false]
                exact ⟨l[i], List.getElem_mem hi, by unfold knP; simpa [c1, c3, c4] using c2⟩
              · rw [b2_f c4, if_pos rfl]
                exact ok (by unfold knP; exact decide_eq_true (fun _ _ _ q => c4 q))
          · rw [b2_f c2, if_pos rfl]
            exact ok (by unfold knP; exact decide_eq_true (fun _ q => absurd q c2))
      · right
        rw [e1, if_pos (by decide), e2])
    l.length 0 mFU true (by omega) (Nat.lt_of_le_of_lt hle (by decide)) (Or.inl ⟨rfl, rfl⟩)
  exact key
theorem flt_lt (h2 : lAt M n l) (P : Nat → Bool) {i : Nat} : ∀ j (hj : j < (srt (rK M) ((l.take i).filter P)).length), (srt (rK M) ((l.take i).filter P))[j] < 1000 := fun j hj => by
  have := List.mem_of_mem_take (List.mem_filter.mp (mem_srt.mp (List.getElem_mem hj))).1
  obtain ⟨k, hk, e⟩ := List.mem_iff_getElem.mp this
  rw [← e]; exact (h2.2.2 k hk).2
theorem flt_len (h2 : lAt M n l) (P : Nat → Bool) {i : Nat} (hi : i < l.length) : (srt (rK M) ((l.take i).filter P)).length < 1000 := by
  rw [len_srt]
  have h := List.length_filter_le P (l.take i)
  rw [List.length_take] at h
  have := h2.2.1
  omega
theorem srt_step (P : Nat → Bool) {i : Nat} (hi : i < l.length) : srt (rK M) ((l.take (i + 1)).filter P) = if P l[i] then ins (rK M) l[i] (srt (rK M) ((l.take i).filter P)) else srt (rK M) ((l.take i).filter P) := by
  rw [take_app hi, List.filter_append]
  cases hp : P l[i]
  · simp [hp]
  · have e : List.filter P [l[i]] = [l[i]] := by simp [hp]
    rw [e, srt_app]; rfl
theorem m_several (h : rdy M A n l) (hP : inP A []) (o p : Int32) : ∃ B, fm_several A (Int32.ofNat n) (Int32.ofNat l.length) o p = some B ∧ mEx wP A B ∧ inR B (M.2 12) (srt (rK M) (l.filter (svQ M l o p))) := by
  have h0 := h
  obtain ⟨h1, h2, h3, h4, h5⟩ := h
  have hle := h2.2.1
  unfold fm_several
  obtain ⟨b, q1, q2⟩ := loopI (σ := mSt) (β := mSt) (N := l.length) (F := fun k B i => fm_several_3 k B (Int32.ofNat n) (Int32.ofNat l.length) o p (Int32.ofNat i)) (Q := fun B => mEx wP A B ∧ inR B (M.2 12) (srt (rK M) (l.filter (svQ M l o p))))
    (fun i B => mEx wP A B ∧ inR B (M.2 12) (srt (rK M) ((l.take i).filter (svQ M l o p))))
    (fun k B hI => by
      rw [List.take_length] at hI
      exact ⟨B, by
        show fm_several_3 (k + 1) B _ _ o p (Int32.ofNat l.length) = _
        rw [fm_several_3, if_pos ((jI_le (by omega) (by omega)).mpr (Nat.le_refl _))], hI⟩)
    (fun k B i hi hI => Or.inl (by
      have hB := rdy_put h0 hI.1
      obtain ⟨b1, b2', b3, b4, b5⟩ := hB
      have hr := (h2.2.2 i hi).2
      show ∃ st', _ ∧ fm_several_3 (k + 1) B _ _ o p (Int32.ofNat i) = _
      rw [fm_several_3, if_neg (fun q => absurd ((jI_le (by omega) (by omega)).mp q) (by omega)), m_rowAtL b1 h2 hi, bd_s, m_isOf b1 hr, bd_s, srt_step _ hi]
      have hone : Int32.ofNat i + 1 = Int32.ofNat (i + 1) := jI_add i 1
      have skip : ∀ C, fm_several_142 (fm_several_3 k) C (Int32.ofNat n) (Int32.ofNat l.length) o p (Int32.ofNat i) = fm_several_3 k C (Int32.ofNat n) (Int32.ofNat l.length) o p (Int32.ofNat (i + 1)) := fun C => by
        unfold fm_several_142; rw [lt_d, hone]
      have no : svQ M l o p l[i] = false → (mEx wP A B ∧ inR B (M.2 12) (if svQ M l o p l[i] = true then ins (rK M) l[i] (srt (rK M) ((l.take i).filter (svQ M l o p))) else srt (rK M) ((l.take i).filter (svQ M l o p)))) := fun hq => by
        rw [hq]; exact hI
      by_cases c1 : isO M 2 o p l[i]
      · rw [b2_t c1, if_neg n10, ck_n hr (by omega), rd_n _ _ (by omega), b5 _ hr]
        cases c2 : gd M l l[i]
        · rw [if_pos bFn, skip]
          exact ⟨B, no (by unfold svQ; rw [c2]; simp), rfl⟩
        · rw [if_neg bTn, m_severalIn ⟨b1, b2', b3, b4, b5⟩ o p hr]
          unfold fm_several_124
          cases c3 : l.all (knP M l o p l[i])
          · rw [if_pos bFn, skip]
            exact ⟨B, no (by unfold svQ; rw [c3]; simp), rfl⟩
          · rw [if_neg bTn, ck_n hr (by omega), rd_e b1 (by decide) (by omega)]
            obtain ⟨C, e1, e2, e3⟩ := m_putInOrder h3 b1 (val := M.2 12) hr (flt_len h2 _ hi) (flt_lt h2 _) (sdl_srt _ _) hI.2
            rw [e1, bd_s, skip]
            have hq : svQ M l o p l[i] = true := by unfold svQ; rw [c2, c3, decide_eq_true c1]; rfl
            rw [hq]
            exact ⟨C, ⟨mEx_trans hI.1 e2, e3⟩, rfl⟩
      · rw [b2_f c1, if_pos rfl, skip]
        exact ⟨B, no (by unfold svQ; rw [decide_eq_false c1]; rfl), rfl⟩))
    l.length 0 mFU A (by omega) (Nat.lt_of_le_of_lt hle (by decide)) ⟨mEx_refl _ _, hP⟩
  exact ⟨b, q1, q2⟩
def smB (M : mSt) (l : List Nat) (o p : Int32) : Int32 := (l.filter (fun r => decide (isO M 3 o p r) && gd M l r)).foldl (fun s r => s + M.2 12 r) 0
theorem m_sum (h : rdy M A n l) (hP : inP A []) (o p : Int32) : ∃ B, fm_sum A (Int32.ofNat n) (Int32.ofNat l.length) o p = some B ∧ mEx wP A B ∧ inP B [(smB M l o p, -1)] := by
  obtain ⟨h1, h2, h3, h4, h5⟩ := h
  have hle := h2.2.1
  unfold fm_sum
  obtain ⟨b, q1, q2⟩ := loopI (σ := Int32) (β := mSt) (N := l.length) (F := fun k st i => fm_sum_6 k A (Int32.ofNat n) (Int32.ofNat l.length) o p st (Int32.ofNat i)) (Q := fun B => mEx wP A B ∧ inP B [(smB M l o p, -1)])
    (fun i st => st = ((l.take i).filter (fun r => decide (isO M 3 o p r) && gd M l r)).foldl (fun s r => s + M.2 12 r) 0)
    (fun k st hI => by
      rw [List.take_length] at hI
      have hI' : st = smB M l o p := hI
      show ∃ b, fm_sum_6 (k + 1) A _ _ o p st (Int32.ofNat l.length) = some b ∧ _
      obtain ⟨B, e1, e2, e3⟩ := m_putV hP (by simp) st (-1)
      rw [fm_sum_6, if_pos ((jI_le (by omega) (by omega)).mpr (Nat.le_refl _)), e1, bd_s, ← hI']
      exact ⟨B, rfl, e2, e3⟩)
    (fun k st i hi hI => Or.inl (by
      have hr := (h2.2.2 i hi).2
      show ∃ st', _ ∧ fm_sum_6 (k + 1) A _ _ o p st (Int32.ofNat i) = _
      rw [fm_sum_6, if_neg (fun q => absurd ((jI_le (by omega) (by omega)).mp q) (by omega)), m_rowAtL h1 h2 hi, bd_s, m_isOf h1 hr, bd_s, take_app hi, List.filter_append, List.foldl_append, ← hI]
      unfold fm_sum_56
      have hone : Int32.ofNat i + 1 = Int32.ofNat (i + 1) := jI_add i 1
      simp only [lt_d, hone]
      by_cases c1 : isO M 3 o p l[i]
      · rw [b2_t c1, if_neg n10, ck_n hr (by omega), rd_n _ _ (by omega), h5 _ hr]
        cases c2 : gd M l l[i]
        · rw [if_pos bFn]
          exact ⟨st, by simp [c2], rfl⟩
        · rw [if_neg bTn, ck_n hr (by omega), rd_e h1 (by decide) (by omega)]
          exact ⟨_, by simp [c2, c1], rfl⟩
      · rw [b2_f c1, if_pos rfl]
        exact ⟨st, by rw [List.filter_cons, decide_eq_false c1]; rfl, rfl⟩))
    l.length 0 mFU 0 (by omega) (Nat.lt_of_le_of_lt hle (by decide)) rfl
  exact ⟨b, q1, q2⟩
/-- what a row of a part of shares adds, as the reference reckons -/
def shD (M : mSt) (q r : Nat) : Int32 := (if rN r = q then (if M.2 9 r = 4 then M.2 12 r else if M.2 9 r = 5 ∨ M.2 9 r = 6 then - M.2 12 r else 0) else 0) + (if M.2 9 r = 6 ∧ M.2 13 r = Int32.ofNat q then M.2 12 r else 0)
def shB (M : mSt) (l : List Nat) (o p : Int32) (q : Nat) : Int32 := (l.filter (fun r => decide (M.2 10 r = o ∧ M.2 11 r = p))).foldl (fun s r => s + shD M q r) 0
theorem m_sharesIn (h : rdy M A n l) (o p : Int32) {q : Nat} (hq : q < 4) (g6 : mSt → Int32 → Int32 → Int32 → Int32 → Int32 → Int32 → Option mSt) (v5 : Int32) : fm_shares_18 g6 mFU A (Int32.ofNat n) (Int32.ofNat l.length) o p v5 (Int32.ofNat q) 0 0 = bd (fm_put A (shB M l o p q) (-1)) fun B => g6 B (Int32.ofNat n) (Int32.ofNat l.length) o p (v5 + shB M l o p q) (Int32.ofNat (q + 1)) := by
  obtain ⟨h1, h2, h3, h4, h5⟩ := h
  have hle := h2.2.1
  have key := loopE (σ := Int32) (β := mSt) (N := l.length) (F := fun k st i => fm_shares_18 g6 k A (Int32.ofNat n) (Int32.ofNat l.length) o p v5 (Int32.ofNat q) st (Int32.ofNat i)) (R := bd (fm_put A (shB M l o p q) (-1)) fun B => g6 B (Int32.ofNat n) (Int32.ofNat l.length) o p (v5 + shB M l o p q) (Int32.ofNat (q + 1)))
    (fun i st => st = ((l.take i).filter (fun r => decide (M.2 10 r = o ∧ M.2 11 r = p))).foldl (fun s r => s + shD M q r) 0)
    (fun k st hI => by
      rw [List.take_length] at hI
      have hI' : st = shB M l o p q := hI
      show fm_shares_18 g6 (k + 1) A _ _ o p v5 (Int32.ofNat q) st (Int32.ofNat l.length) = _
      have hone : Int32.ofNat q + 1 = Int32.ofNat (q + 1) := jI_add q 1
      rw [fm_shares_18, if_pos ((jI_le (by omega) (by omega)).mpr (Nat.le_refl _)), hI']
      simp only [lt_d, hone])
    (fun k st i hi hI => Or.inl (by
      have hr := (h2.2.2 i hi).2
      have hn4 := rN_lt hr
      show ∃ st', _ ∧ fm_shares_18 g6 (k + 1) A _ _ o p v5 (Int32.ofNat q) st (Int32.ofNat i) = _
      rw [fm_shares_18, if_neg (fun q => absurd ((jI_le (by omega) (by omega)).mp q) (by omega)), m_rowAtL h1 h2 hi, bd_s, take_app hi, List.filter_append, List.foldl_append, ← hI]
      have hone : Int32.ofNat i + 1 = Int32.ofNat (i + 1) := jI_add i 1
      unfold fm_shares_92 fm_shares_115 fm_shares_137 fm_shares_173
      simp only [lt_d, hone, ck_n hr (show l[i] < 2147483648 by omega), rd_e h1 (show 9 < 47 by decide) (show l[i] < 2147483648 by omega), rd_e h1 (show 10 < 47 by decide) (show l[i] < 2147483648 by omega), rd_e h1 (show 11 < 47 by decide) (show l[i] < 2147483648 by omega), rd_e h1 (show 12 < 47 by decide) (show l[i] < 2147483648 by omega), rd_e h1 (show 13 < 47 by decide) (show l[i] < 2147483648 by omega), m_nodeOf hr, bd_s, jI_inj (show rN l[i] < 2147483648 by omega) (show q < 2147483648 by omega)]
      by_cases c1 : M.2 10 l[i] = o
      · by_cases c2 : M.2 11 l[i] = p
        · rw [if_pos c1, if_pos c2]
          have hf : List.filter (fun r => decide (M.2 10 r = o ∧ M.2 11 r = p)) [l[i]] = [l[i]] := by simp [c1, c2]
          rw [hf]
          refine ⟨st + shD M q l[i], rfl, ?_⟩
          unfold shD
          by_cases d4 : M.2 9 l[i] = 4
          · have d5 : ¬ M.2 9 l[i] = 5 := by rw [d4]; decide
            have d6 : ¬ M.2 9 l[i] = 6 := by rw [d4]; decide
            by_cases dq : rN l[i] = q
            · simp [d4, dq, Int32.add_zero]
            · simp [d4, dq, Int32.add_zero]
          · by_cases d5 : M.2 9 l[i] = 5
            · by_cases dq : rN l[i] = q
              · simp [d5, dq, Int32.add_zero, Int32.sub_eq_add_neg]
              · simp [d5, dq, Int32.add_zero]
            · by_cases d6 : M.2 9 l[i] = 6
              · by_cases dq : rN l[i] = q
                · by_cases dw : M.2 13 l[i] = Int32.ofNat q
                  · simp [d6, dq, dw, Int32.sub_eq_add_neg, Int32.add_assoc]
                  · simp [d6, dq, dw, Int32.add_zero, Int32.sub_eq_add_neg]
                · by_cases dw : M.2 13 l[i] = Int32.ofNat q
                  · simp [d6, dq, dw, Int32.zero_add]
                  · simp [d6, dq, dw, Int32.add_zero]
              · by_cases dq : rN l[i] = q <;> simp [d4, d5, d6, dq, Int32.add_zero]
        · rw [if_pos c1, if_neg c2]
          exact ⟨st, by simp [c2], rfl⟩
      · rw [if_neg c1]
        exact ⟨st, by simp [c1], rfl⟩))
    l.length 0 mFU 0 (by omega) (Nat.lt_of_le_of_lt hle (by decide)) rfl
  exact key
theorem m_shares (h : rdy M A n l) (hP : inP A []) (o p : Int32) : ∃ B, fm_shares A (Int32.ofNat n) (Int32.ofNat l.length) o p = some B ∧ mEx wP A B ∧ inP B [(shB M l o p 0, -1), (shB M l o p 1, -1), (shB M l o p 2, -1), (shB M l o p 3, -1), (shB M l o p 0 + shB M l o p 1 + shB M l o p 2 + shB M l o p 3, -1)] := by
  unfold fm_shares
  have st : ∀ (q k : Nat) (v5 : Int32) (B : mSt), q < 4 → mEx wP A B → fm_shares_6 (k + 1) B (Int32.ofNat n) (Int32.ofNat l.length) o p v5 (Int32.ofNat q) = bd (fm_put B (shB M l o p q) (-1)) fun C => fm_shares_6 k C (Int32.ofNat n) (Int32.ofNat l.length) o p (v5 + shB M l o p q) (Int32.ofNat (q + 1)) := fun q k v5 B hq e => by
    rw [fm_shares_6, if_neg (jK 4 4 (b := q) rfl (by omega) (by decide))]
    exact m_sharesIn (rdy_put h e) o p hq _ v5
  obtain ⟨B0, a1, a2, a3⟩ := m_putV hP (by simp) (shB M l o p 0) (-1)
  obtain ⟨B1, b1, b2', b3⟩ := m_putV a3 (by simp) (shB M l o p 1) (-1)
  obtain ⟨B2, c1, c2, c3⟩ := m_putV b3 (by simp) (shB M l o p 2) (-1)
  obtain ⟨B3, d1, d2, d3⟩ := m_putV c3 (by simp) (shB M l o p 3) (-1)
  obtain ⟨B4, f1, f2, f3⟩ := m_putV d3 (by simp) (shB M l o p 0 + shB M l o p 1 + shB M l o p 2 + shB M l o p 3) (-1)
  have s0 : fm_shares_6 mFU A (Int32.ofNat n) (Int32.ofNat l.length) o p 0 0 = _ := st 0 199999 0 A (by decide) (mEx_refl _ _)
  rw [s0, a1, bd_s]
  rw [show (199999 : Nat) = 199998 + 1 from rfl, st 1 _ _ B0 (by decide) a2, b1, bd_s]
  rw [show (199998 : Nat) = 199997 + 1 from rfl, st 2 _ _ B1 (by decide) (mEx_trans a2 b2'), c1, bd_s]
  rw [show (199997 : Nat) = 199996 + 1 from rfl, st 3 _ _ B2 (by decide) (mEx_trans (mEx_trans a2 b2') c2), d1, bd_s]
  rw [show (199996 : Nat) = 199995 + 1 from rfl, fm_shares_6, if_pos (by decide), Int32.zero_add, f1, bd_s]
  exact ⟨B4, rfl, mEx_trans (mEx_trans (mEx_trans (mEx_trans a2 b2') c2) d2) f2, f3⟩
end R
