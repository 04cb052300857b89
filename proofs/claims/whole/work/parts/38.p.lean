-- part 38: the reference's parents and holders
section R
variable {M A : mSt} {n : Nat} {l : List Nat} {mkO : Nat → Option Nat} {sl : Nat → Int32}
theorem m_par42 {B : mSt} (h : rdy M B n l) (hK : slK M mkO l) (h48 : (obL M l).length ≤ 48) (hO : inO B (obL M l)) (h57 : B.1 57 = 0) (hmv : ∀ r ∈ l, M.2 9 r = 11 → mvOk M mkO sl l r) (h0 : hasP mkO B (obL M l) (fun _ => none)) : ∃ C, fm_findParents_42 mFU B (Int32.ofNat n) (Int32.ofNat l.length) 0 = some C ∧ mEx wPa B C ∧ inO C (obL M l) ∧ hasP mkO C (obL M l) (paL M mkO sl (mvL M l)) := by
  have hh := h
  obtain ⟨h1, h2, h3, h4, h5⟩ := h
  have hle := h2.2.1
  obtain ⟨b, q1, q2⟩ := loopI (σ := mSt) (β := mSt) (N := l.length) (F := fun k B i => fm_findParents_42 k B (Int32.ofNat n) (Int32.ofNat l.length) (Int32.ofNat i)) (Q := fun C => mEx wPa B C ∧ inO C (obL M l) ∧ hasP mkO C (obL M l) (paL M mkO sl (mvL M l)))
    (fun i C => mEx (fun k => k = 57 ∨ k = 58) B C ∧ inV2 C (srt (rK M) ((l.take i).filter (fun r => decide (M.2 9 r = 11) && gd M l r))))
    (fun k C hI => by
      rw [List.take_length] at hI
      show ∃ b, fm_findParents_42 (k + 1) C _ _ (Int32.ofNat l.length) = some b ∧ _
      rw [fm_findParents_42, if_pos ((jI_le (by omega) (by omega)).mpr (Nat.le_refl _))]
      have eC : mEx sc M C := mEx_trans h1 (mEx_mono hI.1 (fun j hj => by unfold sc; rcases hj with hj | hj <;> omega))
      have hOC : inO C (obL M l) := ⟨by rw [(hI.1 54 (by omega)).1]; exact hO.1, by rw [(hI.1 55 (by omega)).2]; exact hO.2⟩
      obtain ⟨D, d1, d2, d3⟩ := m_par158 (B := C) (sl := sl) eC hK h48 h4.1 (fun r hr => lAt_mem h2 hr) hOC hI.2 (by rw [len_srt]; exact Nat.le_trans (List.length_filter_le _ _) hle) (fun r hr => by
        have hr2 := List.mem_filter.mp (mem_srt.mp hr)
        have h9 : M.2 9 r = 11 := by
          have := hr2.2
          simp at this
          exact this.1
        exact ⟨hr2.1, hmv r hr2.1 h9⟩) (fun k' hk' j hj => by rw [(hI.1 56 (by omega)).2]; exact h0 k' hk' j hj)
      refine ⟨D, d1, ?_, ?_, d3⟩
      · exact mEx_trans (mEx_mono hI.1 (fun j hj => by unfold wPa; rcases hj with hj | hj <;> omega)) (mEx_mono d2 (fun j hj => by unfold wPa; have hj' : j = 56 := hj; omega))
      · exact ⟨by rw [(d2 54 (by omega)).1]; exact hOC.1, by rw [(d2 55 (by omega)).2]; exact hOC.2⟩)
    (fun k C i hi hI => Or.inl (by
      have hr := (h2.2.2 i hi).2
      have eC : mEx sc M C := mEx_trans h1 (mEx_mono hI.1 (fun j hj => by unfold sc; rcases hj with hj | hj <;> omega))
      have hg47 : C.2 47 l[i] = b2 (gd M l l[i] = true) := by rw [(hI.1 47 (by omega)).2]; exact h5 _ hr
      have hone : Int32.ofNat i + 1 = Int32.ofNat (i + 1) := jI_add i 1
      have g150 : ∀ D, fm_findParents_150 (fm_findParents_42 k) D (Int32.ofNat n) (Int32.ofNat l.length) (Int32.ofNat i) = fm_findParents_42 k D (Int32.ofNat n) (Int32.ofNat l.length) (Int32.ofNat (i + 1)) := fun D => by
        unfold fm_findParents_150; rw [lt_d, hone]
      show ∃ st', _ ∧ fm_findParents_42 (k + 1) C _ _ (Int32.ofNat i) = _
      rw [fm_findParents_42, if_neg (fun q => absurd ((jI_le (by omega) (by omega)).mp q) (by omega)), m_rowAtL eC h2 hi, bd_s, ck_n hr (by omega), rd_e eC (by decide) (by omega), srt_step _ hi]
      by_cases c : M.2 9 l[i] = 11
      · rw [if_pos c, ck_n hr (by omega), rd_n _ _ (by omega), hg47, decide_eq_true c, Bool.true_and]
        cases hg : gd M l l[i]
        · rw [if_pos bFn, g150]
          exact ⟨C, hI, rfl⟩
        · rw [if_neg bTn, lt_d, hI.2.1]
          obtain ⟨D, c1, c2, c3⟩ := m_movGo (M := M) h3 (L := srt (rK M) ((l.take i).filter (fun r => decide (M.2 9 r = 11) && gd M l r))) hr (flt_len h2 _ hi) (flt_lt h2 _) (sdl_srt _ _) (fm_findParents_42 k) (Int32.ofNat n) (Int32.ofNat l.length) (Int32.ofNat i) _ mFU C eC hI.2.1 (Nat.le_refl _) (Nat.lt_trans (flt_len h2 _ hi) (by decide)) (fun j hj _ => hI.2.2 j hj) (fun j hj hd => absurd hj (by omega)) (fun j hj hd => absurd hj (by omega))
          exact ⟨D, ⟨mEx_trans hI.1 c2, c3⟩, by rw [c1, g150]⟩
      · rw [if_neg c, g150, decide_eq_false c, Bool.false_and]
        exact ⟨C, hI, rfl⟩))
    l.length 0 mFU B (by omega) (Nat.lt_of_le_of_lt hle (by decide)) ⟨mEx_refl _ _, h57, fun i hi => absurd hi (by simp [srt])⟩
  exact ⟨b, q1, q2⟩
theorem m_findParents (e : mEx sc M A) (h2 : lAt M n l) (hj : jOkL M l) (h3 : tOk M) (h4 : kInj M l) (hK : slK M mkO l) (h48 : (l.filter (mkP M)).length ≤ 48) (hmv : ∀ r ∈ l, M.2 9 r = 11 → mvOk M mkO sl l r) : ∃ B, fm_findParents A (Int32.ofNat n) (Int32.ofNat l.length) = some B ∧ mEx wPa A B ∧ inO B (obL M l) ∧ hasP mkO B (obL M l) (paL M mkO sl (mvL M l)) := by
  unfold fm_findParents
  obtain ⟨B, b1, b2', b3⟩ := m_findObjects e h2 h48
  have eB : mEx sc M B := mEx_trans e (mEx_mono b2' (fun j hj => by unfold wO at hj; unfold sc; omega))
  obtain ⟨C, c1, c2, c3, c4⟩ := m_judgeL eB h2 hj
  have eC : mEx sc M C := mEx_trans eB (mEx_mono c2 (fun j hj => by unfold sc; rcases hj with hj | hj <;> omega))
  have hOC : inO C (obL M l) := ⟨by rw [(c2 54 (by omega)).1]; exact b3.1, by rw [(c2 55 (by omega)).2]; exact b3.2⟩
  have hlen : (obL M l).length ≤ 48 := by unfold obL; rw [len_srt]; exact h48
  rw [b1, bd_s, c1, bd_s]
  have eAC : mEx wPa A C := mEx_trans (mEx_mono b2' (fun j hj => by unfold wO at hj; unfold wPa; omega)) (mEx_mono c2 (fun j hj => by unfold wPa; rcases hj with hj | hj <;> omega))
  obtain ⟨b, q1, q2⟩ := loopI (σ := mSt) (β := mSt) (N := (obL M l).length) (F := fun k B i => fm_findParents_14 k B (Int32.ofNat n) (Int32.ofNat l.length) (Int32.ofNat i)) (Q := fun D => mEx wPa A D ∧ inO D (obL M l) ∧ hasP mkO D (obL M l) (paL M mkO sl (mvL M l)))
    (fun i D => mEx (fun k => k = 56) C D ∧ ∀ k, k < i → D.2 56 k = -1)
    (fun k D hI => by
      show ∃ b, fm_findParents_14 (k + 1) D _ _ (Int32.ofNat (obL M l).length) = some b ∧ _
      have e54 : D.1 54 = Int32.ofNat (obL M l).length := by rw [(hI.1 54 (by omega)).1]; exact hOC.1
      rw [fm_findParents_14, e54, if_pos ((jI_le (by omega) (by omega)).mpr (Nat.le_refl _)), lt_d]
      have eD : mEx wPa C (pu D 57 0) := mEx_trans (mEx_mono hI.1 (fun j hj => by unfold wPa; have hj' : j = 56 := hj; omega)) (mEx_pu (by unfold wPa; omega) 0)
      have hD : rdy M (pu D 57 0) n l := ⟨mEx_trans eC (mEx_mono eD (fun j hj => by unfold wPa at hj; unfold sc; omega)), h2, h3, h4, fun r hr => by
        rw [pu_2, (hI.1 47 (by omega)).2]; exact c3 r hr⟩
      obtain ⟨E, f1, f2, f3, f4⟩ := m_par42 (sl := sl) hD hK hlen ⟨by rw [pu_o _ _ (by decide)]; exact e54, by rw [pu_2, (hI.1 55 (by omega)).2]; exact hOC.2⟩ (pu_s _ _ _) hmv (fun k' hk' j hj => by rw [pu_2]; exact hI.2 k' hk')
      exact ⟨E, f1, mEx_trans eAC (mEx_trans eD f2), f3, f4⟩)
    (fun k D i hi hI => Or.inl (by
      have e54 : D.1 54 = Int32.ofNat (obL M l).length := by rw [(hI.1 54 (by omega)).1]; exact hOC.1
      have hone : Int32.ofNat i + 1 = Int32.ofNat (i + 1) := jI_add i 1
      show ∃ st', _ ∧ fm_findParents_14 (k + 1) D _ _ (Int32.ofNat i) = _
      rw [fm_findParents_14, e54, if_neg (fun q => absurd ((jI_le (by omega) (by omega)).mp q) (by omega)), ck_n (by omega) (by omega), lt_d, lt_d, hone]
      refine ⟨_, ⟨mEx_trans hI.1 (mEx_wr1 _ _), fun k' hk' => ?_⟩, rfl⟩
      rw [wr_s _ _ (by omega)]
      by_cases ek : k' = i
      · rw [ek, upd_s]
      · rw [upd_o _ _ ek]; exact hI.2 k' (by omega)))
    (obL M l).length 0 mFU C (by omega) (Nat.lt_of_le_of_lt hlen (by decide)) ⟨mEx_refl _ _, fun k hk => absurd hk (by omega)⟩
  exact ⟨b, q1, q2⟩
/-- claims and releases of an object, in order -/
def clL (M : mSt) (l : List Nat) (o : Int32) : List Nat := srt (rK M) (l.filter (fun r => decide ((M.2 9 r = 17 ∨ M.2 9 r = 18) ∧ M.2 10 r = o)))
def nwT (M : mSt) (n : Nat) : Int32 := if M.2 17 n ≤ M.2 18 n then M.2 18 n else M.2 17 n
theorem m_nowOf (e : mEx sc M A) (hn : n < 4) : fm_nowOf A (Int32.ofNat n) = some (nwT M n) := by
  unfold fm_nowOf fm_nowOf_30 nwT
  rw [ck_n hn (by omega), ck_n hn (by omega), rd_e e (by decide) (by omega), rd_e e (by decide) (by omega)]
  split
  · rw [ck_n hn (by omega)]
  · rw [ck_n hn (by omega)]
theorem m_hol147 {B : mSt} (e : mEx sc M B) (hn : n < 4) {L : List Nat} (hH : inH B L) (hL : L.length ≤ 1000) (hb : ∀ r ∈ L, r < 1000) (hs : ∀ r ∈ L, M.2 9 r = 17 ∨ M.2 9 r = 18) : fm_holder_147 mFU B (Int32.ofNat n) (-1) 0 0 = some (hEnd (nwT M n) (L.foldl (hSt M) (-1, 0)), B) := by
  have key := loopE (σ := Int32 × Int32) (β := Int32 × mSt) (N := L.length) (F := fun k st i => fm_holder_147 k B (Int32.ofNat n) st.1 st.2 (Int32.ofNat i)) (R := some (hEnd (nwT M n) (L.foldl (hSt M) (-1, 0)), B)) (fun i st => st = (L.take i).foldl (hSt M) (-1, 0))
    (fun k st hI => by
      rw [List.take_length] at hI
      show fm_holder_147 (k + 1) B _ st.1 st.2 (Int32.ofNat L.length) = _
      rw [fm_holder_147, hH.1, if_pos ((jI_le (by omega) (by omega)).mpr (Nat.le_refl _)), ← hI]
      unfold fm_holder_354 fm_holder_355 hEnd
      by_cases h1 : st.1 = -1
      · rw [if_pos h1, if_neg (fun q => q.1 h1)]
      · rw [if_neg h1, m_nowOf e hn, bd_s]
        by_cases h2 : st.2 ≤ nwT M n
        · rw [if_pos h2, if_neg (fun q => absurd q.2 (Int32.not_lt.mpr h2))]
        · rw [if_neg h2, if_pos ⟨h1, Int32.not_le.mp h2⟩])
    (fun k st i hi hI => Or.inl (by
      have hr : L[i] < 1000 := hb _ (List.getElem_mem hi)
      have hsr := hs _ (List.getElem_mem hi)
      have hone : Int32.ofNat i + 1 = Int32.ofNat (i + 1) := jI_add i 1
      have h60 := hH.2 i hi
      show ∃ st', _ ∧ fm_holder_147 (k + 1) B _ st.1 st.2 (Int32.ofNat i) = fm_holder_147 k B _ _ _ _
      refine ⟨hSt M st L[i], by rw [take_app hi, List.foldl_append, ← hI]; rfl, ?_⟩
      rw [fm_holder_147, hH.1, if_neg (fun q => absurd ((jI_le (by omega) (by omega)).mp q) (by omega)), ck_n (by omega) (by omega), lt_d, rd_n _ _ (by omega), h60, m_nodeOf hr, bd_s]
      unfold fm_holder_190 fm_holder_191 fm_holder_210 fm_holder_215 fm_holder_246 fm_holder_296 fm_holder_329 hSt
      have hl31 : L[i] < 2147483648 := by omega
      simp only [ck_n hr hl31, rd_e e (show 9 < 47 by decide) hl31, rd_e e (show 12 < 47 by decide) hl31, rd_e e (show 14 < 47 by decide) hl31, m_nodeOf hr, bd_s, lt_d, hone]
      have hnode : Int32.ofNat (rN L[i]) ≠ -1 := jI_ne (by have := rN_lt hr; omega)
      generalize M.2 14 L[i] = tm at *
      generalize M.2 12 L[i] = vv at *
      generalize Int32.ofNat (rN L[i]) = nd at *
      obtain ⟨who, till⟩ := st
      show (if who = nd then _ else _) = _
      have tl : (till ≤ tm) ↔ ¬ tm < till := Int32.not_lt.symm
      by_cases c1 : who = nd
      · have c2 : ¬ who = -1 := c1 ▸ hnode
        by_cases c3 : tm < till
        · have c4 : ¬ till ≤ tm := fun q => tl.mp q c3
          by_cases c5 : M.2 9 L[i] = 18
          · simp [c1, c3, c4, c5, hnode]
          · by_cases c6 : tm + vv ≤ till
            · have c7 : ¬ till < tm + vv := Int32.not_lt.mpr c6
              simp [c1, c3, c4, c5, c6, c7, hnode]
            · have c7 : till < tm + vv := Int32.not_le.mp c6
              simp [c1, c3, c4, c5, c6, c7, hnode]
        · have c4 : till ≤ tm := tl.mpr c3
          by_cases c5 : M.2 9 L[i] = 18
          · simp [c1, c3, c4, c5, hnode]
          · simp [c1, c3, c4, c5, hnode]
      · by_cases c2 : who = -1
        · have c8 : ¬ (-1 : Int32) = nd := fun q => hnode q.symm
          by_cases c5 : M.2 9 L[i] = 18
          · simp [c2, c5, c8]
          · simp [c2, c5, c8]
        · by_cases c3 : tm < till
          · have c4 : ¬ till ≤ tm := fun q => tl.mp q c3
            by_cases c5 : M.2 9 L[i] = 18
            · simp [c1, c2, c3, c4, c5]
            · simp [c1, c2, c3, c4, c5]
          · have c4 : till ≤ tm := tl.mpr c3
            by_cases c5 : M.2 9 L[i] = 18
            · simp [c1, c2, c3, c4, c5]
            · simp [c1, c2, c3, c4, c5]))
    L.length 0 mFU (-1, 0) (by omega) (Nat.lt_of_le_of_lt hL (by decide)) rfl
  exact key
theorem m_holder (e : mEx sc M A) (h2 : lAt M n l) (h3 : tOk M) (h23 : M.2 23 n = Int32.ofNat l.length) (o : Int32) : ∃ B, fm_holder A (Int32.ofNat n) o = some (hEnd (nwT M n) ((clL M l o).foldl (hSt M) (-1, 0)), B) ∧ mEx (fun k => k = 59 ∨ k = 60) A B := by
  have hle := h2.2.1
  have hn4 := h2.1
  unfold fm_holder
  rw [lt_d]
  obtain ⟨b, q1, q2⟩ := loopI (σ := mSt) (β := Int32 × mSt) (N := l.length) (F := fun k B i => fm_holder_7 k B (Int32.ofNat n) o (Int32.ofNat i)) (Q := fun b => ∃ B, b = (hEnd (nwT M n) ((clL M l o).foldl (hSt M) (-1, 0)), B) ∧ mEx (fun k => k = 59 ∨ k = 60) A B)
    (fun i B => mEx (fun k => k = 59 ∨ k = 60) A B ∧ inH B (srt (rK M) ((l.take i).filter (fun r => decide ((M.2 9 r = 17 ∨ M.2 9 r = 18) ∧ M.2 10 r = o)))))
    (fun k B hI => by
      rw [List.take_length] at hI
      have eB : mEx sc M B := mEx_trans e (mEx_mono hI.1 (fun j hj => by unfold sc; rcases hj with hj | hj <;> omega))
      show ∃ b, fm_holder_7 (k + 1) B _ o (Int32.ofNat l.length) = some b ∧ _
      rw [fm_holder_7, ck_n hn4 (by omega), rd_e eB (by decide) (by omega), h23, if_pos ((jI_le (by omega) (by omega)).mpr (Nat.le_refl _)), m_hol147 eB hn4 hI.2 (by rw [len_srt]; exact Nat.le_trans (List.length_filter_le _ _) hle) (fun r hr => lAt_mem h2 (List.mem_filter.mp (mem_srt.mp hr)).1) (fun r hr => by
        have := (List.mem_filter.mp (mem_srt.mp hr)).2
        simp at this
        exact this.1)]
      exact ⟨_, rfl, B, rfl, hI.1⟩)
    (fun k B i hi hI => Or.inl (by
      have hr := (h2.2.2 i hi).2
      have eB : mEx sc M B := mEx_trans e (mEx_mono hI.1 (fun j hj => by unfold sc; rcases hj with hj | hj <;> omega))
      have hone : Int32.ofNat i + 1 = Int32.ofNat (i + 1) := jI_add i 1
      have g133 : ∀ D, fm_holder_133 (fm_holder_7 k) D (Int32.ofNat n) o (Int32.ofNat i) = fm_holder_7 k D (Int32.ofNat n) o (Int32.ofNat (i + 1)) := fun D => by
        unfold fm_holder_133; rw [lt_d, hone]
      have g49 : (M.2 9 l[i] = 17 ∨ M.2 9 l[i] = 18) → ∃ st', (mEx (fun k => k = 59 ∨ k = 60) A st' ∧ inH st' (srt (rK M) ((l.take (i + 1)).filter (fun r => decide ((M.2 9 r = 17 ∨ M.2 9 r = 18) ∧ M.2 10 r = o))))) ∧ fm_holder_49 (fm_holder_7 k) B (Int32.ofNat n) o (Int32.ofNat i) (Int32.ofNat l[i]) = fm_holder_7 k st' (Int32.ofNat n) o (Int32.ofNat (i + 1)) := fun hso => by
        unfold fm_holder_49
        rw [ck_n hr (by omega), rd_e eB (by decide) (by omega), srt_step _ hi]
        by_cases c : M.2 10 l[i] = o
        · rw [if_pos c, lt_d, hI.2.1, decide_eq_true ⟨hso, c⟩]
          obtain ⟨D, c1, c2, c3⟩ := m_holGo (M := M) h3 (L := srt (rK M) ((l.take i).filter (fun r => decide ((M.2 9 r = 17 ∨ M.2 9 r = 18) ∧ M.2 10 r = o)))) hr (flt_len h2 _ hi) (flt_lt h2 _) (sdl_srt _ _) (fm_holder_7 k) (Int32.ofNat n) o (Int32.ofNat i) _ mFU B eB hI.2.1 (Nat.le_refl _) (Nat.lt_trans (flt_len h2 _ hi) (by decide)) (fun j hj _ => hI.2.2 j hj) (fun j hj hd => absurd hj (by omega)) (fun j hj hd => absurd hj (by omega))
          exact ⟨D, ⟨mEx_trans hI.1 c2, c3⟩, by rw [c1, g133]⟩
        · rw [if_neg c, g133, decide_eq_false (fun q => c q.2)]
          exact ⟨B, hI, rfl⟩
      show ∃ st', _ ∧ fm_holder_7 (k + 1) B _ o (Int32.ofNat i) = _
      rw [fm_holder_7, ck_n hn4 (by omega), rd_e eB (by decide) (by omega), h23, if_neg (fun q => absurd ((jI_le (by omega) (by omega)).mp q) (by omega)), m_rowAtL eB h2 hi, bd_s, ck_n hr (by omega), rd_e eB (by decide) (by omega)]
      by_cases c1 : M.2 9 l[i] = 17
      · rw [if_pos c1]; exact g49 (Or.inl c1)
      · rw [if_neg c1, ck_n hr (by omega)]
        by_cases c2 : M.2 9 l[i] = 18
        · rw [if_pos c2]; exact g49 (Or.inr c2)
        · rw [if_neg c2, g133, srt_step _ hi, decide_eq_false (fun q => q.1.elim c1 c2)]
          exact ⟨B, hI, rfl⟩))
    l.length 0 mFU (pu A 59 0) (by omega) (Nat.lt_of_le_of_lt hle (by decide)) ⟨mEx_pu (by simp) _, pu_s _ _ _, fun i hi => absurd hi (by simp [srt])⟩
  obtain ⟨B, q3, q4⟩ := q2
  exact ⟨B, by rw [← q3]; exact q1, q4⟩
end R
