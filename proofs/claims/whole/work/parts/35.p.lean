-- part 35: the reference's texts, and its look
theorem rNm_inj {a b : Nat} (ha : a < 1000) (hb : b < 1000) (h : Int32.ofNat (rNm a) = Int32.ofNat (rNm b)) : a = b := by
  have h1 := rOf_nm ha
  rw [h, rOf_nm hb] at h1
  exact (Option.some.inj h1).symm
section R
variable {M A : mSt} {n : Nat} {l : List Nat}
theorem m_text66 {L : List Nat} {r k5 : Nat} {B : mSt} (e : mEx sc M B) (hr : r < 1000) (hk5 : k5 < 1000) (hL : inL B L) (hb : ∀ q ∈ L, q < 1000) (hlen : L.length < 1000) (h51 : B.2 51 k5 = Int32.ofNat r) (hw : M.2 13 r = 0 ∨ ∃ t, rOf (M.2 13 r) = some t ∧ t ∈ L) (g54 : mSt → Int32 → Int32 → Int32 → Option mSt) (v1 v2 : Int32) : ∃ pos, pos ≤ L.length ∧ fm_text_66 g54 mFU B v1 v2 (Int32.ofNat k5) 0 = fm_text_130 g54 B v1 v2 (Int32.ofNat k5) (Int32.ofNat pos) ∧ txS M L r = L.take pos ++ r :: L.drop pos := by
  have e112 : ∀ pos, fm_text_112 g54 B v1 v2 (Int32.ofNat k5) (Int32.ofNat pos) = if M.2 13 r = 0 then fm_text_130 g54 B v1 v2 (Int32.ofNat k5) (Int32.ofNat pos) else fm_text_130 g54 B v1 v2 (Int32.ofNat k5) (Int32.ofNat (pos + 1)) := fun pos => by
    have hone : Int32.ofNat pos + 1 = Int32.ofNat (pos + 1) := jI_add pos 1
    unfold fm_text_112
    rw [ck_n hk5 (by omega), rd_n _ _ (by omega), h51, ck_n hr (by omega), rd_e e (by decide) (by omega), lt_d, hone]
  rcases hw with hw | ⟨t, ht, htL⟩
  · refine ⟨0, Nat.zero_le _, ?_, ?_⟩
    · rw [show mFU = 199999 + 1 from rfl, fm_text_66, ck_n hk5 (by omega), rd_n _ _ (by omega), h51, ck_n hr (by omega), rd_e e (by decide) (by omega), if_pos hw]
      have := e112 0
      rw [if_pos hw] at this
      exact this
    · unfold txS; rw [hw, rOf_0]; rfl
  · have hw0 : ¬ M.2 13 r = 0 := fun q => by rw [q, rOf_0] at ht; cases ht
    have ewt := rOf_inv ht
    have ht4 := rOf_lt ht
    have hex : ∃ k, ∃ h : k < L.length, L[k] = t ∧ ∀ j (hj : j < k), L[j]'(by omega) ≠ t := by
      clear e112 e hL hb hlen
      induction L with
      | nil => cases htL
      | cons a L ih =>
        by_cases ea : a = t
        · exact ⟨0, by simp, ea, fun j hj => absurd hj (by omega)⟩
        · obtain ⟨k, h, h1, h2⟩ := ih (by
            rcases List.mem_cons.mp htL with h | h
            · exact absurd h.symm ea
            · exact h)
          refine ⟨k + 1, by simp; omega, h1, fun j hj => ?_⟩
          cases j with
          | zero => exact ea
          | succ j => exact h2 j (by omega)
    obtain ⟨pos, hpos, hp1, hp2⟩ := hex
    refine ⟨pos + 1, by omega, ?_, ?_⟩
    · have key := loopE (σ := Unit) (β := mSt) (N := pos) (F := fun k _ i => fm_text_66 g54 k B v1 v2 (Int32.ofNat k5) (Int32.ofNat i)) (R := fm_text_130 g54 B v1 v2 (Int32.ofNat k5) (Int32.ofNat (pos + 1))) (fun _ _ => True)
        (fun k _ _ => by
          show fm_text_66 g54 (k + 1) B v1 v2 (Int32.ofNat k5) (Int32.ofNat pos) = _
          have hq : L[pos] < 1000 := hb _ (List.getElem_mem hpos)
          have h53 := hL.2 pos hpos
          rw [fm_text_66, ck_n hk5 (by omega), rd_n _ _ (by omega), h51, ck_n hr (by omega), rd_e e (by decide) (by omega), if_neg hw0, ck_n (by omega) (by omega), rd_n _ _ (by omega), h53, m_nameOf hq, bd_s, ck_n hk5 (by omega), ck_n hr (by omega), if_pos (by rw [ewt, hp1]), e112, if_neg hw0])
        (fun k _ i hi _ => Or.inl ⟨(), trivial, by
          show fm_text_66 g54 (k + 1) B v1 v2 (Int32.ofNat k5) (Int32.ofNat i) = _
          have hone : Int32.ofNat i + 1 = Int32.ofNat (i + 1) := jI_add i 1
          have hq : L[i] < 1000 := hb _ (List.getElem_mem (by omega))
          have h53 := hL.2 i (by omega)
          rw [fm_text_66, ck_n hk5 (by omega), rd_n _ _ (by omega), h51, ck_n hr (by omega), rd_e e (by decide) (by omega), if_neg hw0, ck_n (by omega) (by omega), rd_n _ _ (by omega), h53, m_nameOf hq, bd_s, ck_n hk5 (by omega), ck_n hr (by omega), if_neg (fun q => hp2 i hi (rNm_inj hq ht4 (q.trans ewt))), lt_d, hone]⟩)
        pos 0 mFU () (by omega) (by unfold mFU; omega) trivial
      exact key
    · unfold txS
      rw [ht]
      exact insA_at hpos hp1 hp2
theorem m_text54 (h : rdy M A n l) {Li : List Nat} (hLi : inR A (fun _ => 0) Li) (hlen : Li.length ≤ 1000) (hok : txOk M Li) (h52 : A.1 52 = 0) : ∃ B, fm_text_54 mFU A (Int32.ofNat n) (Int32.ofNat l.length) 0 = some B ∧ mEx wT A B ∧ inR B (M.2 12) ((txL M Li).filter (tvP M l)) ∧ inL B (txL M Li) := by
  rw [inR_iff] at hLi
  have hbd : ∀ k, ∀ q ∈ txL M (Li.take k), q < 1000 := fun k q hq => by
    have hq2 := List.mem_of_mem_take (txL_mem.mp hq)
    obtain ⟨i, hi, rfl⟩ := List.mem_iff_getElem.mp hq2
    exact (hok i hi).1
  obtain ⟨b, q1, q2⟩ := loopI (σ := mSt) (β := mSt) (N := Li.length) (F := fun k B i => fm_text_54 k B (Int32.ofNat n) (Int32.ofNat l.length) (Int32.ofNat i)) (Q := fun B => mEx wT A B ∧ inR B (M.2 12) ((txL M Li).filter (tvP M l)) ∧ inL B (txL M Li))
    (fun i B => mEx (fun k => k = 52 ∨ k = 53) A B ∧ inL B (txL M (Li.take i)))
    (fun k B hI => by
      rw [List.take_length] at hI
      show ∃ b, fm_text_54 (k + 1) B _ _ (Int32.ofNat Li.length) = some b ∧ _
      have e49 : B.1 49 = Int32.ofNat Li.length := by rw [(hI.1 49 (by omega)).1]; exact hLi.1
      rw [fm_text_54, e49, if_pos ((jI_le (by omega) (by omega)).mpr (Nat.le_refl _)), lt_d]
      have hB : rdy M (pu B 49 0) n l := rdy_w h (mEx_trans (mEx_mono hI.1 (W' := wT) (fun j hj => by unfold wT; omega)) (mEx_pu (show wT 49 by unfold wT; omega) 0)) (fun j hj => by unfold wT at hj; omega)
      have hLB : inL (pu B 49 0) (txL M Li) := ⟨by rw [pu_o _ _ (by decide)]; exact hI.2.1, hI.2.2⟩
      have hb2 : ∀ r ∈ txL M Li, r < 1000 := by have := hbd Li.length; rwa [List.take_length] at this
      obtain ⟨C, e1, e2, e3⟩ := m_text203 hB hLB hb2 (by rw [txL_len]; exact hlen) (pu_s _ _ _)
      refine ⟨C, e1, ?_, e3, ?_, ?_⟩
      · exact mEx_trans (mEx_trans (mEx_mono hI.1 (fun j hj => by unfold wT; omega)) (mEx_pu (show wT 49 by unfold wT; omega) 0)) (mEx_mono e2 (fun j hj => by unfold wP at hj; unfold wT; omega))
      · rw [(e2 52 (by unfold wP; omega)).1]; exact hLB.1
      · rw [(e2 53 (by unfold wP; omega)).2]; exact hLB.2)
    (fun k B i hi hI => Or.inl (by
      show ∃ st', _ ∧ fm_text_54 (k + 1) B _ _ (Int32.ofNat i) = _
      have e49 : B.1 49 = Int32.ofNat Li.length := by rw [(hI.1 49 (by omega)).1]; exact hLi.1
      have e51 : B.2 51 i = Int32.ofNat Li[i] := by rw [(hI.1 51 (by omega)).2]; exact (hLi.2 i hi).2
      have eB : mEx sc M B := mEx_trans h.1 (mEx_mono hI.1 (fun j hj => by unfold sc; omega))
      have hlt : (txL M (Li.take i)).length < 1000 := by rw [txL_len, List.length_take]; omega
      obtain ⟨pos, p1, p2, p3⟩ := m_text66 (B := B) eB (hok i hi).1 (k5 := i) (by omega) hI.2 (hbd i) hlt e51 (by
        rcases (hok i hi).2 with hh | ⟨t, h1, h2⟩
        · exact Or.inl hh
        · exact Or.inr ⟨t, h1, txL_mem.mpr h2⟩) (fm_text_54 k) (Int32.ofNat n) (Int32.ofNat l.length)
      rw [fm_text_54, e49, if_neg (fun q => absurd ((jI_le (by omega) (by omega)).mp q) (by omega)), p2]
      unfold fm_text_130
      rw [lt_d, hI.2.1]
      obtain ⟨C, c1, c2, c3⟩ := m_text136 p1 hlt (hok i hi).1 (k5 := i) (by omega) (fm_text_54 k) (Int32.ofNat n) (Int32.ofNat l.length) ((txL M (Li.take i)).length - pos) mFU B (by omega) (by unfold mFU; omega) hI.2.1 e51 (fun j hj _ => hI.2.2 j hj) (fun j hj hd => absurd hj (by omega))
      rw [show pos + ((txL M (Li.take i)).length - pos) = (txL M (Li.take i)).length by omega] at c1
      refine ⟨C, ⟨mEx_trans hI.1 c2, ?_⟩, c1⟩
      rw [take_app hi, txL_app, p3]; exact c3))
    Li.length 0 mFU A (by omega) (Nat.lt_of_le_of_lt hlen (by decide)) ⟨mEx_refl _ _, h52, fun i hi => absurd hi (by simp [txL])⟩
  exact ⟨b, q1, q2⟩
theorem m_text (h : rdy M A n l) (hP : inP A []) (o p : Int32) (hok : txOk M (srt (rK M) (l.filter (fun r => decide (isO M 9 o p r))))) : ∃ B, fm_text A (Int32.ofNat n) (Int32.ofNat l.length) o p = some B ∧ mEx wT A B ∧ inR B (M.2 12) ((txL M (srt (rK M) (l.filter (fun r => decide (isO M 9 o p r))))).filter (tvP M l)) ∧ inL B (txL M (srt (rK M) (l.filter (fun r => decide (isO M 9 o p r))))) := by
  have h0 := h
  obtain ⟨h1, h2, h3, h4, h5⟩ := h
  have hle := h2.2.1
  unfold fm_text
  obtain ⟨b, q1, q2⟩ := loopI (σ := mSt) (β := mSt) (N := l.length) (F := fun k B i => fm_text_3 k B (Int32.ofNat n) (Int32.ofNat l.length) o p (Int32.ofNat i)) (Q := fun B => mEx wT A B ∧ inR B (M.2 12) ((txL M (srt (rK M) (l.filter (fun r => decide (isO M 9 o p r))))).filter (tvP M l)) ∧ inL B (txL M (srt (rK M) (l.filter (fun r => decide (isO M 9 o p r))))))
    (fun i B => mEx wP A B ∧ inR B (fun _ => 0) (srt (rK M) ((l.take i).filter (fun r => decide (isO M 9 o p r)))))
    (fun k B hI => by
      rw [List.take_length] at hI
      show ∃ b, fm_text_3 (k + 1) B _ _ o p (Int32.ofNat l.length) = some b ∧ _
      rw [fm_text_3, if_pos ((jI_le (by omega) (by omega)).mpr (Nat.le_refl _)), lt_d]
      have e1 : mEx wT A (pu B 52 0) := mEx_trans (mEx_mono hI.1 (fun j hj => by unfold wP at hj; unfold wT; omega)) (mEx_pu (show wT 52 by unfold wT; omega) 0)
      obtain ⟨C, c1, c2, c3, c4⟩ := m_text54 (A := pu B 52 0) (rdy_w h0 e1 (fun j hj => by unfold wT at hj; omega)) (Li := srt (rK M) (l.filter (fun r => decide (isO M 9 o p r)))) (by
        have := inR_iff.mp hI.2
        exact inR_iff.mpr ⟨by rw [pu_o _ _ (by decide)]; exact this.1, this.2⟩) (by
        rw [len_srt]
        exact Nat.le_trans (List.length_filter_le _ _) hle) hok (pu_s _ _ _)
      exact ⟨C, c1, mEx_trans e1 c2, c3, c4⟩)
    (fun k B i hi hI => Or.inl (by
      have hB := rdy_put h0 hI.1
      obtain ⟨b1, b2', b3, b4, b5⟩ := hB
      have hr := (h2.2.2 i hi).2
      show ∃ st', _ ∧ fm_text_3 (k + 1) B _ _ o p (Int32.ofNat i) = _
      rw [fm_text_3, if_neg (fun q => absurd ((jI_le (by omega) (by omega)).mp q) (by omega)), m_rowAtL b1 h2 hi, bd_s, m_isOf b1 hr, bd_s, srt_step _ hi]
      have hone : Int32.ofNat i + 1 = Int32.ofNat (i + 1) := jI_add i 1
      unfold fm_text_40
      simp only [lt_d, hone]
      by_cases c1 : isO M 9 o p l[i]
      · rw [b2_t c1, if_neg n10, bd_s, decide_eq_true c1]
        obtain ⟨C, e1, e2, e3⟩ := m_putInOrder h3 b1 (val := fun _ => 0) hr (flt_len h2 _ hi) (flt_lt h2 _) (sdl_srt _ _) hI.2
        rw [e1, bd_s]
        exact ⟨C, ⟨mEx_trans hI.1 e2, e3⟩, rfl⟩
      · rw [b2_f c1, if_pos rfl, decide_eq_false c1]
        exact ⟨B, hI, rfl⟩))
    l.length 0 mFU A (by omega) (Nat.lt_of_le_of_lt hle (by decide)) ⟨mEx_refl _ _, hP⟩
  exact ⟨b, q1, q2⟩
/-- what a look puts, by the rule of the part -/
def txR (M : mSt) (l : List Nat) (o p : Int32) : List Nat := txL M (srt (rK M) (l.filter (fun r => decide (isO M 9 o p r))))
def vaL (M : mSt) (l : List Nat) (o p rl : Int32) : List (Int32 × Int32) :=
  if rl = 65 then kvL (stB M l o p) 64
  else if rl = 66 then [(shB M l o p 0, -1), (shB M l o p 1, -1), (shB M l o p 2, -1), (shB M l o p 3, -1), (shB M l o p 0 + shB M l o p 1 + shB M l o p 2 + shB M l o p 3, -1)]
  else if rl = 67 then [(smB M l o p, -1)]
  else if rl = 76 then [(match ltB M l o p with | none => 0 | some r => M.2 12 r, rI (ltB M l o p))]
  else if rl = 77 then kvL (kyC M l o p) 64
  else if rl = 83 then (srt (rK M) (l.filter (svQ M l o p))).map (fun r => (M.2 12 r, Int32.ofNat r))
  else ((txR M l o p).filter (tvP M l)).map (fun r => (M.2 12 r, Int32.ofNat r))
def wL : Nat → Prop := fun k => k = 47 ∨ k = 48 ∨ k = 49 ∨ k = 50 ∨ k = 51 ∨ k = 52 ∨ k = 53
theorem m_look (e : mEx sc M A) (h2 : lAt M n l) (hj : jOkL M l) (h3 : tOk M) (h4 : kInj M l) {o p rl : Int32} (hrl : ∀ B, mEx sc M B → fm_ruleOf B o p = some rl) (hrs : rl = 65 ∨ rl = 66 ∨ rl = 67 ∨ rl = 76 ∨ rl = 77 ∨ rl = 83 ∨ rl = 84) (hok : rl = 84 → txOk M (srt (rK M) (l.filter (fun r => decide (isO M 9 o p r))))) : ∃ B, fm_look A (Int32.ofNat n) (Int32.ofNat l.length) o p = some B ∧ mEx wL A B ∧ inP B (vaL M l o p rl) ∧ (∀ r, r < 1000 → B.2 47 r = b2 (gd M l r = true)) ∧ (rl = 84 → inL B (txR M l o p)) := by
  unfold fm_look
  have e0 : mEx wL A (pu A 49 0) := mEx_pu (by unfold wL; omega) 0
  have e0' : mEx sc M (pu A 49 0) := mEx_trans e (mEx_pu (by unfold sc; omega) 0)
  obtain ⟨B, b1, b2', b3, b4⟩ := m_judgeL e0' h2 hj
  have eB : mEx wL A B := mEx_trans e0 (mEx_mono b2' (fun j hj => by unfold wL; omega))
  have eB' : mEx sc M B := mEx_trans e (mEx_mono eB (fun j hj => by unfold wL at hj; unfold sc; omega))
  have hR : rdy M B n l := ⟨eB', h2, h3, h4, b3⟩
  have hP : inP B [] := ⟨by rw [(b2' 49 (by omega)).1, pu_s]; rfl, fun i hi => absurd hi (by simp)⟩
  rw [lt_d, b1, bd_s, hrl B eB', bd_s]
  have fin : ∀ {C : mSt} {L : List (Int32 × Int32)} {W : Nat → Prop}, mEx W B C → (∀ k, W k → wL k ∧ k ≠ 47) → inP C L → L = vaL M l o p rl → rl ≠ 84 → ∃ D, bd (some C) (fun S5 => fm_look_189 S5) = some D ∧ mEx wL A D ∧ inP D (vaL M l o p rl) ∧ (∀ r, r < 1000 → D.2 47 r = b2 (gd M l r = true)) ∧ (rl = 84 → inL D (txR M l o p)) := by
    intro C L W e1 hW hc hL hne
    refine ⟨C, rfl, mEx_trans eB (mEx_mono e1 (fun k hk => (hW k hk).1)), hL ▸ hc, fun r hr => ?_, fun q => absurd q hne⟩
    rw [(e1 47 (fun q => (hW 47 q).2 rfl)).2]; exact b3 r hr
  have hw : ∀ k, wP k → wL k ∧ k ≠ 47 := fun k hk => by unfold wP at hk; unfold wL; omega
  rcases hrs with r0 | r0 | r0 | r0 | r0 | r0 | r0
  · subst r0
    obtain ⟨C, c1, c2, c3⟩ := m_set hR hP o p
    rw [if_pos (by decide), c1]
    exact fin c2 hw c3 rfl (by decide)
  · subst r0
    obtain ⟨C, c1, c2, c3⟩ := m_shares hR hP o p
    rw [if_neg (by decide), if_pos (by decide), c1]
    exact fin c2 hw c3 rfl (by decide)
  · subst r0
    obtain ⟨C, c1, c2, c3⟩ := m_sum hR hP o p
    rw [if_neg (by decide), if_neg (by decide), if_pos (by decide), c1]
    exact fin c2 hw c3 rfl (by decide)
  · subst r0
    obtain ⟨C, c1, c2, c3⟩ := m_latest hR hP o p
    simp only [show ¬ ((76 : Int32) = 65) by decide, show ¬ ((76 : Int32) = 66) by decide, show ¬ ((76 : Int32) = 67) by decide, show ¬ ((76 : Int32) = 68) by decide, show ¬ ((76 : Int32) = 69) by decide, show ¬ ((76 : Int32) = 70) by decide, show ¬ ((76 : Int32) = 71) by decide, show ¬ ((76 : Int32) = 72) by decide, show ¬ ((76 : Int32) = 73) by decide, show ¬ ((76 : Int32) = 74) by decide, show ¬ ((76 : Int32) = 75) by decide, if_false, if_true, c1]
    exact fin c2 hw c3 rfl (by decide)
  · subst r0
    obtain ⟨C, c1, c2, c3⟩ := m_keys hR hP o p
    simp only [show ¬ ((77 : Int32) = 65) by decide, show ¬ ((77 : Int32) = 66) by decide, show ¬ ((77 : Int32) = 67) by decide, show ¬ ((77 : Int32) = 68) by decide, show ¬ ((77 : Int32) = 69) by decide, show ¬ ((77 : Int32) = 70) by decide, show ¬ ((77 : Int32) = 71) by decide, show ¬ ((77 : Int32) = 72) by decide, show ¬ ((77 : Int32) = 73) by decide, show ¬ ((77 : Int32) = 74) by decide, show ¬ ((77 : Int32) = 75) by decide, show ¬ ((77 : Int32) = 76) by decide, if_false, if_true, c1]
    exact fin c2 hw c3 rfl (by decide)
  · subst r0
    obtain ⟨C, c1, c2, c3⟩ := m_several hR hP o p
    simp only [show ¬ ((83 : Int32) = 65) by decide, show ¬ ((83 : Int32) = 66) by decide, show ¬ ((83 : Int32) = 67) by decide, show ¬ ((83 : Int32) = 68) by decide, show ¬ ((83 : Int32) = 69) by decide, show ¬ ((83 : Int32) = 70) by decide, show ¬ ((83 : Int32) = 71) by decide, show ¬ ((83 : Int32) = 72) by decide, show ¬ ((83 : Int32) = 73) by decide, show ¬ ((83 : Int32) = 74) by decide, show ¬ ((83 : Int32) = 75) by decide, show ¬ ((83 : Int32) = 76) by decide, show ¬ ((83 : Int32) = 77) by decide, show ¬ ((83 : Int32) = 78) by decide, show ¬ ((83 : Int32) = 79) by decide, show ¬ ((83 : Int32) = 80) by decide, show ¬ ((83 : Int32) = 81) by decide, show ¬ ((83 : Int32) = 82) by decide, if_false, if_true, c1]
    exact fin c2 hw c3 rfl (by decide)
  · subst r0
    obtain ⟨C, c1, c2, c3, c4⟩ := m_text hR hP o p (hok rfl)
    simp only [show ¬ ((84 : Int32) = 65) by decide, show ¬ ((84 : Int32) = 66) by decide, show ¬ ((84 : Int32) = 67) by decide, show ¬ ((84 : Int32) = 68) by decide, show ¬ ((84 : Int32) = 69) by decide, show ¬ ((84 : Int32) = 70) by decide, show ¬ ((84 : Int32) = 71) by decide, show ¬ ((84 : Int32) = 72) by decide, show ¬ ((84 : Int32) = 73) by decide, show ¬ ((84 : Int32) = 74) by decide, show ¬ ((84 : Int32) = 75) by decide, show ¬ ((84 : Int32) = 76) by decide, show ¬ ((84 : Int32) = 77) by decide, show ¬ ((84 : Int32) = 78) by decide, show ¬ ((84 : Int32) = 79) by decide, show ¬ ((84 : Int32) = 80) by decide, show ¬ ((84 : Int32) = 81) by decide, show ¬ ((84 : Int32) = 82) by decide, show ¬ ((84 : Int32) = 83) by decide, if_false]
    unfold fm_look_180
    rw [c1]
    refine ⟨C, rfl, mEx_trans eB (mEx_mono c2 (fun k hk => by unfold wT at hk; unfold wL; omega)), c3, fun r hr => ?_, fun _ => c4⟩
    rw [(c2 47 (by unfold wT; omega)).2]; exact b3 r hr
end R
