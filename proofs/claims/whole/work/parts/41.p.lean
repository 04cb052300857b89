-- part 41: a ledger takes a row
theorem dl_ins {ra : Nat → Nat} {L : List Nat} {k r : Nat} (hk : k ≤ L.length) (hn : L.Nodup) (hr : r ∉ L) {o4 o5 o4' o5' : Nat → Option Nat} (h : ∀ i (h : i < L.length), o4 L[i] = pvL ra L i ∧ o5 L[i] = nxL ra L (i + 1))
    (a1 : o4' r = pvL ra L k) (a2 : ∀ h : k < L.length, o4' L[k] = some (ra r)) (a3 : ∀ i (h : i < L.length), i ≠ k → o4' L[i] = o4 L[i])
    (b1 : o5' r = nxL ra L k) (b2 : ∀ h : k - 1 < L.length, 0 < k → o5' L[k - 1] = some (ra r)) (b3 : ∀ i (h : i < L.length), i + 1 ≠ k → o5' L[i] = o5 L[i]) :
    ∀ i (hi : i < (L.take k ++ r :: L.drop k).length), o4' (L.take k ++ r :: L.drop k)[i] = pvL ra (L.take k ++ r :: L.drop k) i ∧ o5' (L.take k ++ r :: L.drop k)[i] = nxL ra (L.take k ++ r :: L.drop k) (i + 1) := by
  have hlen : (L.take k ++ r :: L.drop k).length = L.length + 1 := by simp; omega
  have pv : ∀ j, pvL ra (L.take k ++ r :: L.drop k) j = if j = 0 then none else if j - 1 < k then (L[j - 1]?).map ra else if j - 1 = k then some (ra r) else (L[j - 1 - 1]?).map ra := fun j => by
    unfold pvL
    by_cases c0 : j = 0
    · rw [if_pos c0, if_pos c0]
    · rw [if_neg c0, if_neg c0]
      by_cases hj : j - 1 < (L.take k ++ r :: L.drop k).length
      · obtain ⟨c1, c2, c3⟩ := cat_get (r := r) hk hj
        rw [List.getElem?_eq_getElem hj]
        by_cases d1 : j - 1 < k
        · obtain ⟨q1, q2⟩ := c1 d1
          rw [if_pos d1, q2, List.getElem?_eq_getElem q1]
        · rw [if_neg d1]
          by_cases d2 : j - 1 = k
          · rw [if_pos d2, c2 d2]; rfl
          · obtain ⟨q1, q2⟩ := c3 (by omega)
            rw [if_neg d2, q2, List.getElem?_eq_getElem q1]
      · rw [List.getElem?_eq_none (by omega), if_neg (by omega), if_neg (by omega), List.getElem?_eq_none (by omega)]
  have nx : ∀ j, nxL ra (L.take k ++ r :: L.drop k) j = if j < k then (L[j]?).map ra else if j = k then some (ra r) else (L[j - 1]?).map ra := fun j => by
    have := pv (j + 1)
    unfold pvL at this
    rw [if_neg (by omega), if_neg (by omega), Nat.add_sub_cancel] at this
    exact this
  intro i hi
  rw [hlen] at hi
  rw [pv, nx]
  obtain ⟨c1, c2, c3⟩ := cat_get (L := L) (r := r) (j := i) hk (by omega)
  rcases Nat.lt_trichotomy i k with c | c | c
  · obtain ⟨q1, q2⟩ := c1 c
    rw [q2]
    constructor
    · rw [a3 i q1 (by omega), (h i q1).1]
      unfold pvL
      by_cases c0 : i = 0
      · rw [if_pos c0, if_pos c0]
      · rw [if_neg c0, if_neg c0, if_pos (by omega)]
    · by_cases ck : i + 1 = k
      · have := b2 (by omega) (by omega)
        have e : k - 1 = i := by omega
        simp only [e] at this
        rw [this, if_neg (by omega), if_pos ck]
      · rw [b3 i q1 ck, (h i q1).2, if_pos (by omega)]; rfl
  · rw [c2 c]
    constructor
    · rw [a1]
      unfold pvL
      by_cases c0 : i = 0
      · rw [if_pos (by omega), if_pos c0]
      · rw [if_neg (by omega), if_neg c0, if_pos (by omega), c]
    · rw [b1, if_neg (by omega), if_neg (by omega)]
      unfold nxL
      rw [show i + 1 - 1 = k by omega]
  · obtain ⟨q1, q2⟩ := c3 c
    rw [q2]
    constructor
    · rw [if_neg (by omega), if_neg (by omega)]
      by_cases ck : i - 1 = k
      · have h2 : k < L.length := by omega
        have := a2 h2
        simp only [ck]
        rw [if_pos trivial]; exact this
      · rw [if_neg ck, a3 (i - 1) q1 ck, (h (i - 1) q1).1]
        unfold pvL
        rw [if_neg (by omega)]
    · rw [b3 (i - 1) q1 (by omega), (h (i - 1) q1).2, if_neg (by omega), if_neg (by omega)]
      unfold nxL
      rw [show i - 1 + 1 = i + 1 - 1 by omega]
section V
variable {M : mSt} {ra : Nat → Nat} {sl ch : Nat → Int32} {made : Nat → Prop} {mkO : Nat → Option Nat} {S S' : cSt} {bk la va ua up vb tx : Nat} {l : List Nat} {W : Nat → Prop}
theorem k_turns {r a : Nat} (h : cRow M sl ch S r a) : fk_8_turnsAnother S a = some (b2 (M.2 9 r = 13 ∨ M.2 9 r = 14)) := by
  obtain ⟨k9, ⟨k0, -⟩, -⟩ := h
  unfold fk_8_turnsAnother fk_8_turnsAnother_18 fk_8_turnsAnother_23
  simp only [ckk_y k9, k0]
  by_cases h1 : M.2 9 r = 13
  · simp [h1, b2, ckz]
  · by_cases h2 : M.2 9 r = 14
    · simp [h1, h2, b2, ckz]
    · simp [h1, h2, b2, ckz]
/-- what a row undoes or redoes is marked -/
theorem k_mark (hB : cBk M ra sl ch made mkO S bk) (h5 : kK S la = 5) (h8 : kR S la 8 = some bk) {p r : Nat} (hp : bk + 5 ≤ p ∧ p < bk + 128) (hk : kK S p = 20) (hl : kL S p = 1000) (hr : r < 1000) (hm : made r) (ht : (M.2 9 r = 13 ∨ M.2 9 r = 14) → ∃ t, rOf (M.2 13 r) = some t ∧ made t) (f : Nat → Int32) : ∃ f', fk_4_mark (sI S p f) la (ra r) p = some (sI S p f') ∧ ∀ q, f' q = if isT M q r = true then b2 (decide (M.2 9 r = 14) = false) else f q := by
  have hB' : cBk M ra sl ch made mkO (sI S p f) bk := cBk_eq (W := fun a => a = p) hB (cEq_sI f rfl) (fun a ha => by have ha' : a = p := ha; omega)
  have hrow := (hB'.2.2.1 r hr hm).2
  have k9 := hrow.1
  have k0 := hrow.2.1.1
  have k5 := hrow.2.1.2.2.2.2.1
  have x5 : kK (sI S p f) la = 5 := h5
  have x8 : kR (sI S p f) la 8 = some bk := h8
  have xk : kK (sI S p f) p = 20 := hk
  have xl : kL (sI S p f) p = 1000 := hl
  unfold fk_4_mark
  rw [ckk_y k9, k_turns hrow, bd_s]
  by_cases hs : M.2 9 r = 13 ∨ M.2 9 r = 14
  · obtain ⟨t, ht1, ht2⟩ := ht hs
    have ht4 := rOf_lt ht1
    obtain ⟨b1, j9, -, ⟨-, -, -, j12⟩, -⟩ := hB'.2.2.1 t ht4 ht2
    rw [b2_t hs, if_neg n10, ckk_y x5, x8, bd_s, ckk_y k9, ckk_y hB'.1.1, k5, k_rowNamed hB', bd_s, ht1]
    show ∃ f', cs (kO (sI S p f) (bk + 1) t) _ _ = _ ∧ _
    rw [b1]
    show ∃ f', ckk (sI S p f) (ra t) 9 _ = _ ∧ _
    rw [ckk_y j9, ckk_y k9, k0, j12]
    have hT : ∀ q, isT M q r = decide (q = t) := fun q => by
      unfold isT
      rcases hs with h1 | h1
      · simp [h1, ht1, eq_comm]
      · simp [h1, ht1, eq_comm]
    unfold fk_4_mark_43 fk_4_mark_44
    rw [ckk_y xk, xl, ck_n ht4 (by omega), ck_n ht4 (by omega), lt_d, lt_d, jI_cl (by omega), wI_sI, wI_sI]
    by_cases h13 : M.2 9 r = 13
    · rw [if_pos h13]
      refine ⟨_, rfl, fun q => ?_⟩
      rw [hT]
      by_cases e : q = t
      · subst e; rw [upd_s, h13]; simp; rfl
      · rw [upd_o _ _ e]; simp [e]
    · have h14 := hs.resolve_left h13
      rw [if_neg h13]
      refine ⟨_, ckk_y xk, fun q => ?_⟩
      rw [hT]
      by_cases e : q = t
      · subst e; rw [upd_s, h14]; simp; rfl
      · rw [upd_o _ _ e]; simp [e]
  · rw [b2_f hs, if_pos rfl]
    refine ⟨f, rfl, fun q => ?_⟩
    have : isT M q r = false := by
      unfold isT
      have h1 : ¬ M.2 9 r = 13 := fun e => hs (Or.inl e)
      have h2 : ¬ M.2 9 r = 14 := fun e => hs (Or.inr e)
      simp [h1, h2]
    rw [this, if_neg (by simp)]
end V
