-- part 57: the reference's standing lists
section R
variable {M A : mSt} {mkO : Nat → Option Nat} {sl : Nat → Int32} {n : Nat} {l : List Nat}
/-- all that the reference's looks stand on -/
def mR (M : mSt) (mkO : Nat → Option Nat) (sl : Nat → Int32) (n : Nat) (l : List Nat) : Prop := rA M mkO sl ∧ cl M l ∧ lAt M n l ∧ M.2 23 n = Int32.ofNat l.length
def lsM (M : mSt) (n : Nat) : Prop := ∀ q, q < 4 → M.2 32 (4 * n + q) = 0 ∨ (M.2 32 (4 * n + q) = 1 ∧ ∃ kd p, kd < 8 ∧ p < 6 ∧ M.2 33 (4 * n + q) = Int32.ofNat kd ∧ M.2 34 (4 * n + q) = Int32.ofNat p ∧ M.2 6 (6 * kd + p) = 76)
theorem m_lookR (h : mR M mkO sl n l) (e : mEx sc M A) {j m kd p : Nat} {rl : Int32} (hp : ptO M mkO j m kd p rl) (hrs : rl = 65 ∨ rl = 66 ∨ rl = 67 ∨ rl = 76 ∨ rl = 77 ∨ rl = 83 ∨ rl = 84) (up : Nat) (hup : up ≤ l.length) : ∃ B, fm_look A (Int32.ofNat n) (Int32.ofNat up) (Int32.ofNat (rNm m)) (Int32.ofNat p) = some B ∧ mEx wL A B ∧ inP B (vaL M (l.take up) (Int32.ofNat (rNm m)) (Int32.ofNat p) rl) ∧ (∀ r, r < 1000 → B.2 47 r = b2 (gd M (l.take up) r = true)) ∧ (rl = 84 → inL B (txR M (l.take up) (Int32.ofNat (rNm m)) (Int32.ofNat p))) := by
  obtain ⟨hA, hc, h2, h23⟩ := h
  have hm := (hA.2.1.1 j m hp.1).2.1
  have hcu := cl_take hc up
  have hl : (l.take up).length = up := by rw [List.length_take]; omega
  have := m_look (n := n) (l := l.take up) e (lAt_take h2 up) (jOkL_cl hA hcu) hA.2.2.2 (kInj_cl hA hcu) (o := Int32.ofNat (rNm m)) (p := Int32.ofNat p) (rl := rl) (fun B eB => by rw [m_ruleOf eB (rOf_nm hm.1) hp.2.1 hp.2.2.1 hp.2.2.2.1, hp.2.2.2.2.1]) hrs (fun _ => txOk_cl hA hcu _ _)
  rwa [hl] at this
theorem m_latestOf (h : mR M mkO sl n l) (e : mEx sc M A) {j m kd p : Nat} (hp : ptO M mkO j m kd p 76) : ∃ B, fm_latestOf A (Int32.ofNat n) (Int32.ofNat (rNm m)) (Int32.ofNat p) = some (ltV M l (Int32.ofNat (rNm m)) (Int32.ofNat p), B) ∧ mEx wL A B := by
  have hn := h.2.2.1.1
  obtain ⟨B, b1, b2', b3, -⟩ := m_lookR h e hp (Or.inr (Or.inr (Or.inr (Or.inl rfl)))) l.length (Nat.le_refl _)
  rw [List.take_length] at b3
  have ev : vaL M l (Int32.ofNat (rNm m)) (Int32.ofNat p) 76 = [(ltV M l (Int32.ofNat (rNm m)) (Int32.ofNat p), rI (ltB M l (Int32.ofNat (rNm m)) (Int32.ofNat p)))] := by unfold vaL ltV oV; simp; cases ltB M l (Int32.ofNat (rNm m)) (Int32.ofNat p) <;> rfl
  rw [ev] at b3
  refine ⟨B, ?_, b2'⟩
  unfold fm_latestOf
  rw [ck_n hn (by omega), rd_e e (by decide) (by omega), h.2.2.2, b1, bd_s]
  have h0 := (b3.2 0 (by simp)).1
  refine (ck_n (i := 0) (by decide) (by decide)).trans ?_
  have : rd B 50 (0 : Int32) = B.2 50 0 := rd_n B 50 (i := 0) (by decide)
  rw [this, h0]; rfl
/-- the members of a list, in the order of their names -/
def liL (M : mSt) (n : Nat) (l : List Nat) (q : Nat) : List Nat := (obL M l).filter (inLs M n l q)
def inI (B : mSt) (L : List Nat) : Prop := B.1 67 = Int32.ofNat L.length ∧ ∀ i (h : i < L.length), B.2 68 i = Int32.ofNat (rNm L[i])
def wF : Nat → Prop := fun k => (47 ≤ k ∧ k ≤ 55) ∨ k = 67 ∨ k = 68
theorem inO_e {B : mSt} {W : Nat → Prop} {L : List Nat} (h : inO A L) (e : mEx W A B) (h1 : ¬ W 54) (h2 : ¬ W 55) : inO B L := by
  unfold inO
  rw [(e 54 h1).1, (e 55 h2).2]; exact h
theorem inI_e {B : mSt} {W : Nat → Prop} {L : List Nat} (h : inI A L) (e : mEx W A B) (h1 : ¬ W 67) (h2 : ¬ W 68) : inI B L := by
  unfold inI
  rw [(e 67 h1).1, (e 68 h2).2]; exact h
theorem m_findList (h : mR M mkO sl n l) (hls : lsM M n) (e : mEx sc M A) {q : Nat} (hq : q < 4) : ∃ B, fm_findList A (Int32.ofNat n) (Int32.ofNat q) = some B ∧ mEx wF A B ∧ inI B (liL M n l q) := by
  have h' := h
  obtain ⟨hA, hc, h2, h23⟩ := h
  have hn := h2.1
  have hle := h2.2.1
  unfold fm_findList
  have e1 : mEx sc M (pu A 67 0) := mEx_trans e (mEx_pu (by unfold sc; omega) 0)
  have f1 : mEx wF A (pu A 67 0) := mEx_pu (by unfold wF; omega) 0
  rw [lt_d, lt_d, show (4 : Int32) = Int32.ofNat 4 from rfl, jI_mul, jI_add, ck_n (by omega) (by omega), rd_e e1 (by decide) (by omega)]
  rcases hls q hq with s0 | ⟨s1, kd, p, c1, c2, c3, c4, c5⟩
  · rw [if_pos s0]
    have hnil : liL M n l q = [] := by
      unfold liL
      rw [List.filter_eq_nil_iff]
      intro m _
      unfold inLs
      rw [s0]; simp
    rw [hnil]
    exact ⟨_, rfl, f1, by rw [pu_s]; rfl, fun i hi => absurd hi (by simp)⟩
  · rw [if_neg (by rw [s1]; decide), ck_n hn (by omega), rd_e e1 (by decide) (by omega), h23]
    obtain ⟨B, b1, b2', b3⟩ := m_findObjects e1 h2 (ob48 hA hc)
    rw [b1, bd_s]
    have h48 : (obL M l).length ≤ 48 := by rw [obL_obS hA hc]; exact obS_len l 48
    have eB : mEx sc M B := mEx_trans e1 (mEx_mono b2' (fun k hk => by unfold wO at hk; unfold sc; omega))
    have fB : mEx wF A B := mEx_trans f1 (mEx_mono b2' (fun k hk => by unfold wO at hk; unfold wF; omega))
    obtain ⟨b, r1, r2, r3⟩ := loopI (σ := mSt) (β := mSt) (N := (obL M l).length) (F := fun k s i => fm_findList_35 k s (Int32.ofNat n) (Int32.ofNat (4 * n + q)) (Int32.ofNat i)) (Q := fun b => mEx wF A b ∧ inI b (liL M n l q))
      (fun i s => mEx wF A s ∧ inO s (obL M l) ∧ inI s (((obL M l).take i).filter (inLs M n l q)))
      (fun k s hs => ⟨s, by
        show fm_findList_35 (k + 1) s (Int32.ofNat n) (Int32.ofNat (4 * n + q)) (Int32.ofNat (obL M l).length) = _
        rw [fm_findList_35, hs.2.1.1]
        exact if_pos (Int32.le_refl _), hs.1, by rw [List.take_length] at hs; exact hs.2.2⟩)
      (fun k s i hi hs => Or.inl (by
        obtain ⟨g1, g2, g3⟩ := hs
        have es : mEx sc M s := mEx_trans e (mEx_mono g1 (fun k hk => by unfold wF at hk; unfold sc; omega))
        show ∃ s', _ ∧ fm_findList_35 (k + 1) s (Int32.ofNat n) (Int32.ofNat (4 * n + q)) (Int32.ofNat i) = _
        rw [fm_findList_35]
        unfold fm_findList_136
        have hmem := List.getElem_mem hi
        have hml := obL_mem.mp hmem
        have hmd := cl_mem hc hml.1
        obtain ⟨⟨j, j1, j2, -⟩, -⟩ := (hA.1 _ hmd).2.2.2.2.1 hml.2
        obtain ⟨-, kd', kd8, kde⟩ := (hA.1 _ hmd).2.2.2.2.1 hml.2
        have en : Int32.ofNat i + 1 = Int32.ofNat (i + 1) := by rw [show (1 : Int32) = Int32.ofNat 1 from rfl, jI_add]
        have hfil : ((obL M l).take (i + 1)).filter (inLs M n l q) = ((obL M l).take i).filter (inLs M n l q) ++ (if inLs M n l q (obL M l)[i] then [(obL M l)[i]] else []) := by
          rw [take_app hi, List.filter_append]
          congr 1
          cases hin : inLs M n l q (obL M l)[i] <;> simp [hin]
        have no : ∀ {T : mSt}, mEx wF A T → inO T (obL M l) → inI T (((obL M l).take i).filter (inLs M n l q)) → inLs M n l q (obL M l)[i] = false → ∃ s', (mEx wF A s' ∧ inO s' (obL M l) ∧ inI s' (((obL M l).take (i + 1)).filter (inLs M n l q))) ∧ fm_findList_35 k T (Int32.ofNat n) (Int32.ofNat (4 * n + q)) (Int32.ofNat (i + 1)) = fm_findList_35 k s' (Int32.ofNat n) (Int32.ofNat (4 * n + q)) (Int32.ofNat (i + 1)) := fun {T} t1 t2 t3 hin => ⟨T, ⟨t1, t2, by rw [hfil, hin]; simpa using t3⟩, rfl⟩
        rw [g2.1, if_neg (fun z => absurd ((jI_le (by omega) (by omega)).mp z) (by omega)), ck_n (by omega) (by omega), lt_d, rd_n _ _ (by omega), g2.2 i hi, m_kindOf es (rOf_nm hmd.1), bd_s, ck_n (by omega) (by omega), rd_e es (by decide) (by omega), c3, kde]
        by_cases hk : kd' = kd
        · subst hk
          have hpt : ptO M mkO j (obL M l)[i] kd' p 76 := ⟨j2, kde, kd8, c2, c5, by decide⟩
          obtain ⟨T, t1, t2⟩ := m_isThereNow es h2 (jOkL_cl hA hc) h23 (Int32.ofNat (rNm (obL M l)[i]))
          have eT : mEx wF A T := mEx_trans g1 (mEx_mono t2 (fun k hk => by unfold wJ at hk; unfold wF; omega))
          have esT : mEx sc M T := mEx_trans e (mEx_mono eT (fun k hk => by unfold wF at hk; unfold sc; omega))
          have oT := inO_e g2 t2 (by unfold wJ; omega) (by unfold wJ; omega)
          have iT := inI_e g3 t2 (by unfold wJ; omega) (by unfold wJ; omega)
          rw [if_pos rfl, t1, bd_s, lt_d, lt_d]
          have hin : inLs M n l q (obL M l)[i] = (thN M l (Int32.ofNat (rNm (obL M l)[i])) && decide (M.2 35 (4 * n + q) ≤ ltV M l (Int32.ofNat (rNm (obL M l)[i])) (Int32.ofNat p) ∧ ltV M l (Int32.ofNat (rNm (obL M l)[i])) (Int32.ofNat p) ≤ M.2 36 (4 * n + q))) := by
            unfold inLs
            rw [decide_eq_true s1, c3, kde, decide_eq_true rfl, c4]; rfl
          cases hth : thN M l (Int32.ofNat (rNm (obL M l)[i])) with
          | false =>
            rw [if_pos bFn, lt_d, en]
            exact no eT oT iT (by rw [hin, hth]; rfl)
          | true =>
            obtain ⟨U, u1, u2⟩ := m_latestOf h' esT hpt
            have eU : mEx wF A U := mEx_trans eT (mEx_mono u2 (fun k hk => by unfold wL at hk; unfold wF; omega))
            have esU : mEx sc M U := mEx_trans e (mEx_mono eU (fun k hk => by unfold wF at hk; unfold sc; omega))
            have oU := inO_e oT u2 (by unfold wL; omega) (by unfold wL; omega)
            have iU := inI_e iT u2 (by unfold wL; omega) (by unfold wL; omega)
            rw [if_neg bTn, ck_n (by omega) (by omega), rd_e esT (by decide) (by omega), c4, u1, bd_s, lt_d, lt_d, ck_n (by omega) (by omega), ck_n (by omega) (by omega), rd_e esU (by decide) (by omega), rd_e esU (by decide) (by omega), m_within, bd_s]
            by_cases hw : M.2 35 (4 * n + q) ≤ ltV M l (Int32.ofNat (rNm (obL M l)[i])) (Int32.ofNat p) ∧ ltV M l (Int32.ofNat (rNm (obL M l)[i])) (Int32.ofNat p) ≤ M.2 36 (4 * n + q)
            · have hlen : (((obL M l).take i).filter (inLs M n l q)).length ≤ i := Nat.le_trans (List.length_filter_le _ _) (by rw [List.length_take]; omega)
              rw [if_neg (by rw [b2_t hw]; decide), iU.1, ck_n (by omega) (by omega), lt_d, lt_d, lt_d, en]
              refine ⟨_, ⟨mEx_trans eU (mEx_trans (mEx_wr (by unfold wF; omega) _ _) (mEx_pu (by unfold wF; omega) _)), ?_, ?_⟩, rfl⟩
              · refine ⟨?_, ?_⟩
                · rw [pu_o _ _ (by decide), wr_1]; exact oU.1
                · rw [pu_2, wr_o _ _ _ (by decide)]; exact oU.2
              · rw [hfil, hin, hth, decide_eq_true hw]
                simp only [Bool.and_self, if_true]
                refine ⟨?_, fun k hk => ?_⟩
                · rw [pu_s, wr_1, iU.1, show (1 : Int32) = Int32.ofNat 1 from rfl, jI_add, List.length_append, List.length_singleton]
                · rw [pu_2, wr_s _ _ (by omega)]
                  by_cases hkk : k = (((obL M l).take i).filter (inLs M n l q)).length
                  · subst hkk
                    rw [upd_s, List.getElem_append_right (Nat.le_refl _)]
                    simp
                  · rw [List.length_append, List.length_singleton] at hk
                    rw [upd_o _ _ hkk, List.getElem_append_left (by omega)]
                    exact iU.2 k (by omega)
            · rw [if_pos (b2_f hw), lt_d, en]
              exact no eU oU iU (by rw [hin, decide_eq_false hw]; simp)
        · rw [if_neg (fun z => hk ((jI_inj (by omega) (by omega)).mp z)), lt_d, en]
          exact no g1 g2 g3 (by unfold inLs; rw [c3, kde, decide_eq_false (fun z => hk ((jI_inj (by omega) (by omega)).mp z))]; simp)))
      (obL M l).length 0 mFU B (by omega) (Nat.lt_of_le_of_lt h48 (by decide)) ⟨fB, b3, by
        refine ⟨?_, fun i hi => absurd hi (by simp)⟩
        rw [(b2' 67 (by unfold wO; omega)).1, pu_s]; rfl⟩
    exact ⟨b, r1, r2, r3⟩
/-- the lists as they were kept -/
def inK (B : mSt) (q : Nat) (L : List Nat) : Prop := B.2 66 q = Int32.ofNat L.length ∧ ∀ i (h : i < L.length), B.2 65 (48 * q + i) = Int32.ofNat (rNm L[i])
def wK : Nat → Prop := fun k => wF k ∨ k = 65 ∨ k = 66
theorem m_keepIn {L : List Nat} {q : Nat} (hq : q < 4) (hL : L.length ≤ 48) (g2 : mSt → Int32 → Int32 → Option mSt) (v1 : Int32) : ∀ (j i fu : Nat) (s : mSt), i + j = L.length → j < fu → inI s L → (∀ k (h : k < L.length), k < i → s.2 65 (48 * q + k) = Int32.ofNat (rNm L[k])) → ∃ s', fm_keepLists_25 g2 fu s v1 (Int32.ofNat q) (Int32.ofNat i) = g2 s' v1 (Int32.ofNat (q + 1)) ∧ mEx (fun k => k = 65) s s' ∧ (∀ k (h : k < L.length), s'.2 65 (48 * q + k) = Int32.ofNat (rNm L[k])) ∧ ∀ k, k < 48 * q ∨ 48 * q + 48 ≤ k → s'.2 65 k = s.2 65 k := by
  intro j
  induction j with
  | zero =>
    intro i fu s hi hf hI h0
    obtain ⟨fu, rfl⟩ : ∃ z, fu = z + 1 := ⟨fu - 1, by omega⟩
    refine ⟨s, ?_, mEx_refl _ _, fun k hk => h0 k hk (by omega), fun _ _ => rfl⟩
    rw [fm_keepLists_25, hI.1, if_pos ((jI_le (by omega) (by omega)).mpr (by omega)), lt_d, show (1 : Int32) = Int32.ofNat 1 from rfl, jI_add]
  | succ j ih =>
    intro i fu s hi hf hI h0
    obtain ⟨fu, rfl⟩ : ∃ z, fu = z + 1 := ⟨fu - 1, by omega⟩
    have hil : i < L.length := by omega
    obtain ⟨s', a1, a2, a3, a4⟩ := ih (i + 1) fu (wr s 65 (Int32.ofNat (48 * q + i)) (Int32.ofNat (rNm L[i]))) (by omega) (by omega) (inI_e hI (mEx_wr (W := fun k => k = 65) rfl _ _) (by omega) (by omega)) (fun k hk hki => by
      rw [wr_s _ _ (by omega)]
      by_cases e : k = i
      · subst e; rw [upd_s]
      · rw [upd_o _ _ (by omega)]; exact h0 k hk (by omega))
    refine ⟨s', ?_, mEx_trans (mEx_wr1 _ _) a2, a3, fun k hk => ?_⟩
    · rw [← a1, fm_keepLists_25, hI.1, if_neg (fun z => absurd ((jI_le (by omega) (by omega)).mp z) (by omega)), ck_n (by omega) (by omega), show (48 : Int32) = Int32.ofNat 48 from rfl, jI_mul, jI_add, ck_n (by omega) (by omega), lt_d, lt_d, rd_n _ _ (by omega), hI.2 i hil, show (1 : Int32) = Int32.ofNat 1 from rfl, jI_add]
    · rw [a4 k hk, wr_s _ _ (by omega), upd_o _ _ (by omega)]
theorem liL_len (hA : rA M mkO sl) (hc : cl M l) (q : Nat) : (liL M n l q).length ≤ 48 := by
  unfold liL
  refine Nat.le_trans (List.length_filter_le _ _) ?_
  rw [obL_obS hA hc]; exact obS_len l 48
theorem m_keepLists (h : mR M mkO sl n l) (hls : lsM M n) (e : mEx sc M A) : ∃ B, fm_keepLists A (Int32.ofNat n) = some B ∧ mEx wK A B ∧ ∀ q, q < 4 → inK B q (liL M n l q) := by
  unfold fm_keepLists
  obtain ⟨b, h1, h2⟩ := loopI (σ := mSt) (β := mSt) (N := 4) (F := fun k s i => fm_keepLists_2 k s (Int32.ofNat n) (Int32.ofNat i)) (Q := fun b => mEx wK A b ∧ ∀ q, q < 4 → inK b q (liL M n l q))
    (fun i s => mEx wK A s ∧ ∀ q, q < i → inK s q (liL M n l q))
    (fun k s hs => ⟨s, by
      show fm_keepLists_2 (k + 1) s (Int32.ofNat n) (Int32.ofNat 4) = _
      rw [fm_keepLists_2]
      exact if_pos (by decide), hs⟩)
    (fun k s i hi hs => Or.inl (by
      have es : mEx sc M s := mEx_trans e (mEx_mono hs.1 (fun k hk => by unfold wK wF at hk; unfold sc; omega))
      show ∃ s', _ ∧ fm_keepLists_2 (k + 1) s (Int32.ofNat n) (Int32.ofNat i) = _
      rw [fm_keepLists_2]
      obtain ⟨B, b1, b2', b3⟩ := m_findList h hls es hi
      have hlen := liL_len (n := n) h.1 h.2.1 i
      have iB := inI_e (B := wr B 66 (Int32.ofNat i) (B.1 67)) b3 (mEx_wr (W := fun k => k = 66) rfl _ _) (by omega) (by omega)
      obtain ⟨s', a1, a2, a3, a4⟩ := m_keepIn hi hlen (fm_keepLists_2 k) (Int32.ofNat n) (liL M n l i).length 0 mFU (wr B 66 (Int32.ofNat i) (B.1 67)) (by omega) (Nat.lt_of_le_of_lt hlen (by decide)) iB (fun k _ hk => absurd hk (by omega))
      refine ⟨s', ⟨mEx_trans hs.1 (mEx_trans (mEx_mono b2' (fun k hk => Or.inl hk)) (mEx_trans (mEx_wr (by unfold wK; omega) _ _) (mEx_mono a2 (fun k hk => by unfold wK; omega)))), fun q hq => ?_⟩, ?_⟩
      · unfold inK
        rw [(a2 66 (by decide)).2, wr_s _ _ (by omega)]
        by_cases e : q = i
        · subst e
          rw [upd_s]
          exact ⟨b3.1, a3⟩
        · rw [upd_o _ _ e]
          obtain ⟨o1, o2⟩ := hs.2 q (by omega)
          have hlq := liL_len (n := n) h.1 h.2.1 q
          refine ⟨by rw [(b2' 66 (by unfold wF; omega)).2]; exact o1, fun k hk => ?_⟩
          rw [a4 _ (by omega), wr_o _ _ _ (by decide), (b2' 65 (by unfold wF; omega)).2]
          exact o2 k hk
      · rw [if_neg (jK 4 4 (b := i) rfl (by omega) (by decide)), b1, bd_s, ck_n hi (by omega), lt_d]
        exact a1))
    4 0 mFU A (by omega) (by decide) ⟨mEx_refl _ _, fun q hq => absurd hq (by omega)⟩
  exact ⟨b, h1, h2⟩
end R
