-- part 116: redo
section V
variable {S S' : cSt} {M A : mSt} {ra : Nat → Nat} {sl : Nat → Int32} {mkO : Nat → Option Nat} {L Wt : Nat → List Nat} {x0 n Bt : Nat} {l : List Nat}
theorem own_row (hA : rA M mkO sl) {r : Nat} (hr : mde M r) (hn : rN r = n) : ∃ i, i < mdN M n ∧ r = 250 * n + i := by
  refine ⟨rM r - 1, ?_, ?_⟩
  · have := hr.2; rw [hn] at this; have := (rM_le r).1; omega
  · have := hr.1; unfold rN at hn; unfold rM; omega
theorem tgt (hA : rA M mkO sl) {r : Nat} (hr : mde M r) (hn : rN r = n) (hs : M.2 9 r = 13) : ∃ i, i < mdN M n ∧ M.2 13 r = Int32.ofNat (rNm (250 * n + i)) ∧ cbU (M.2 9 (250 * n + i)) := by
  obtain ⟨t, t1, t2, t3, t4, t5⟩ := (hA.1 r hr).2.2.2.2.2.1 (Or.inl hs)
  obtain ⟨i, i1, rfl⟩ := own_row hA t1 (t2.trans hn)
  exact ⟨i, i1, t4, t5⟩
/-- an own row that undoes what is undone -/
def rdQ (M : mSt) (n : Nat) (l : List Nat) (i i' : Nat) : Prop := M.2 9 (250 * n + i) = 13 ∧ i' < mdN M n ∧ M.2 13 (250 * n + i) = Int32.ofNat (rNm (250 * n + i')) ∧ gd M l (250 * n + i') = false
theorem k_redoGo (hA : rA M mkO sl) (hn : n < 4) (h : ownI S M ra x0 n l) : ∀ k fu, k ≤ mdN M n → k < fu → ((∀ i i', i < k → ¬ rdQ M n l i i') ∧ fk_7_redoable_9 S fu (sN x0 n) (Int32.ofNat k) = some (-1)) ∨ ∃ i i', i < k ∧ rdQ M n l i i' ∧ (∀ q q', i < q → q < k → ¬ rdQ M n l q q') ∧ fk_7_redoable_9 S fu (sN x0 n) (Int32.ofNat k) = some (Int32.ofNat (rNm (250 * n + i'))) := by
  have hmd := hA.2.2.1 n hn
  obtain ⟨y8, y12, y0, b1, y2, v11, ho⟩ := h
  intro k
  induction k with
  | zero =>
    intro fu _ hf
    obtain ⟨fu, rfl⟩ : ∃ q, fu = q + 1 := ⟨fu - 1, by omega⟩
    left
    refine ⟨fun i i' hi => absurd hi (by omega), ?_⟩
    rw [fk_7_redoable_9, if_pos (show Int32.ofNat 0 ≤ 0 by decide)]
  | succ k ih =>
    intro fu hk hf
    obtain ⟨fu, rfl⟩ : ∃ q, fu = q + 1 := ⟨fu - 1, by omega⟩
    obtain ⟨hin, e3, k9, r0, r5, r11, hrn, hg, hst⟩ := ho k (by omega)
    have next : ∀ X, X = fk_7_redoable_9 S fu (sN x0 n) (Int32.ofNat k) → (∀ i', ¬ rdQ M n l k i') → ((∀ i i', i < k + 1 → ¬ rdQ M n l i i') ∧ X = some (-1)) ∨ ∃ i i', i < k + 1 ∧ rdQ M n l i i' ∧ (∀ q q', i < q → q < k + 1 → ¬ rdQ M n l q q') ∧ X = some (Int32.ofNat (rNm (250 * n + i'))) := fun X hX hno => by
      subst hX
      rcases ih fu (by omega) (by omega) with ⟨q1, q2⟩ | ⟨i, i', q1, q2, q3, q4⟩
      · left
        refine ⟨fun i i' hi => ?_, q2⟩
        by_cases e : i = k
        · rw [e]; exact hno i'
        · exact q1 i i' (by omega)
      · right
        refine ⟨i, i', by omega, q2, fun q q' h1 h2 => ?_, q4⟩
        by_cases e : q = k
        · rw [e]; exact hno q'
        · exact q3 q q' h1 (by omega)
    have hs1 := jPre k
    rw [fk_7_redoable_9, if_neg (jI_p (by omega) (by omega)), ckk_y y8, y12, bd_s, ckk_y y8, y0, ckk_y b1, nmE (by omega), hrn, bd_s, cs_S, ckk_y k9, r0]
    unfold fk_7_redoable_76
    rw [hs1]
    by_cases c : M.2 9 (250 * n + k) = 13
    · obtain ⟨i', j1, j2, j3⟩ := tgt (n := n) hA e3 (by unfold rN; omega) c
      obtain ⟨hin', e3', k9', r0', r5', r11', hrn', hg', hst'⟩ := ho i' j1
      rw [if_pos c, ckk_y y8, bd_s, ckk_y k9, ckk_y b1, r5, j2, hrn', bd_s, cs_S, ckk_y y8, y2, bd_s, ckk_y v11, hg', bd_s]
      cases hgi : gd M l (250 * n + i') with
      | false =>
        right
        rw [if_pos bFn, ckk_y k9', r11']
        exact ⟨k, i', by omega, ⟨c, j1, j2, hgi⟩, fun q q' h1 h2 => absurd h1 (by omega), rfl⟩
      | true =>
        rw [if_neg bTn, lt_d]
        refine next _ rfl (fun q' hq => ?_)
        have e := rNm_inj (by omega) (by have := hq.2.1; omega) (j2.symm.trans hq.2.2.1)
        have e' : i' = q' := by omega
        subst e'
        have h4 := hq.2.2.2
        rw [hgi] at h4; cases h4
    · rw [if_neg c, lt_d]; exact next _ rfl (fun q' hq => c hq.1)
theorem m_redoGo (hA : rA M mkO sl) {B : mSt} (e : mEx sc M B) (hn : n < 4) (hg : ∀ r, r < 1000 → B.2 47 r = b2 (gd M l r = true)) (hjd : ∀ r, r < 1000 → B.2 48 r = Int32.ofNat (jd M l r)) : ∀ (j i fu : Nat) (o : Option Nat), i + j = mdN M n → j < fu → ((o = none ∧ ∀ q, q < i → gd M l (250 * n + q) = true) ∨ ∃ q, o = some (250 * n + q) ∧ q < i ∧ gd M l (250 * n + q) = false ∧ ∀ q', q' < i → gd M l (250 * n + q') = false → jd M l (250 * n + q') ≤ jd M l (250 * n + q)) →
    ((∀ q, q < mdN M n → gd M l (250 * n + q) = true) ∧ fm_findUndone_15 fu B (Int32.ofNat n) (rI o) (Int32.ofNat i) = some (5, B)) ∨ ∃ q, q < mdN M n ∧ gd M l (250 * n + q) = false ∧ (∀ q', q' < mdN M n → gd M l (250 * n + q') = false → jd M l (250 * n + q') ≤ jd M l (250 * n + q)) ∧ fm_findUndone_15 fu B (Int32.ofNat n) (rI o) (Int32.ofNat i) = some (0, pu B 70 (Int32.ofNat (rNm (250 * n + q)))) := by
  have hmd := hA.2.2.1 n hn
  intro j
  induction j with
  | zero =>
    intro i fu o hi hf ho
    obtain ⟨fu, rfl⟩ : ∃ q, fu = q + 1 := ⟨fu - 1, by omega⟩
    have ei : i = mdN M n := by omega
    subst ei
    rw [fm_findUndone_15, ck_n hn (by omega), rd_e e (by decide) (by omega), hmd.2, if_pos (Int32.le_refl _)]
    rcases ho with ⟨rfl, h1⟩ | ⟨q, rfl, h1, h2, h3⟩
    · left
      refine ⟨h1, ?_⟩
      rw [if_pos (show rI none = -1 from rfl)]
    · right
      refine ⟨q, h1, h2, h3, ?_⟩
      have hr : 250 * n + q < 1000 := by omega
      rw [show rI (some (250 * n + q)) = Int32.ofNat (250 * n + q) from rfl, if_neg (jI_ne (by omega)), m_nameOf hr, bd_s, lt_d]
  | succ j ih =>
    intro i fu o hi hf ho
    obtain ⟨fu, rfl⟩ : ∃ q, fu = q + 1 := ⟨fu - 1, by omega⟩
    have hr : 250 * n + i < 1000 := by omega
    have jle := jd_le M l
    rw [fm_findUndone_15, ck_n hn (by omega), rd_e e (by decide) (by omega), hmd.2, if_neg (fun q => absurd ((jI_le (by omega) (by omega)).mp q) (by omega)), lt_d, show (250 : Int32) = Int32.ofNat 250 from rfl, jI_mul, jI_add, ck_n hr (by omega), rd_n _ _ (by omega), hg _ hr]
    unfold fm_findUndone_65 fm_findUndone_68
    rw [lt_d, lt_d, show Int32.ofNat i + 1 = Int32.ofNat (i + 1) from jI_add _ 1]
    cases hg' : gd M l (250 * n + i) with
    | true =>
      rw [if_neg bTn]
      refine ih (i + 1) fu o (by omega) (by omega) ?_
      rcases ho with ⟨h0, h1⟩ | ⟨q, h0, h1, h2, h3⟩
      · refine Or.inl ⟨h0, fun q hq => ?_⟩
        by_cases e : q = i
        · rw [e]; exact hg'
        · exact h1 q (by omega)
      · refine Or.inr ⟨q, h0, by omega, h2, fun q' a b => ?_⟩
        by_cases e : q' = i
        · rw [e, hg'] at b; cases b
        · exact h3 q' (by omega) b
    | false =>
      rw [if_pos bFn]
      rcases ho with ⟨h0, h1⟩ | ⟨q, h0, h1, h2, h3⟩
      · subst h0
        rw [if_pos (show rI none = -1 from rfl)]
        refine ih (i + 1) fu (some (250 * n + i)) (by omega) (by omega) (Or.inr ⟨i, rfl, by omega, hg', fun q' a b => ?_⟩)
        by_cases e : q' = i
        · rw [e]; exact Nat.le_refl _
        · have := h1 q' (by omega); rw [this] at b; cases b
      · subst h0
        have hq : 250 * n + q < 1000 := by omega
        have j1 := jle (250 * n + i)
        have j2 := jle (250 * n + q)
        rw [show rI (some (250 * n + q)) = Int32.ofNat (250 * n + q) from rfl, if_neg (jI_ne (by omega)), ck_n hr (by omega), ck_n hq (by omega), rd_n _ _ (by omega), rd_n _ _ (by omega), hjd _ hr, hjd _ hq]
        by_cases c : jd M l (250 * n + i) ≤ jd M l (250 * n + q)
        · rw [if_pos ((jI_le (by omega) (by omega)).mpr c)]
          refine ih (i + 1) fu (some (250 * n + q)) (by omega) (by omega) (Or.inr ⟨q, rfl, by omega, h2, fun q' a b => ?_⟩)
          by_cases e : q' = i
          · rw [e]; exact c
          · exact h3 q' (by omega) b
        · rw [if_neg (fun q => c ((jI_le (by omega) (by omega)).mp q))]
          refine ih (i + 1) fu (some (250 * n + i)) (by omega) (by omega) (Or.inr ⟨i, rfl, by omega, hg', fun q' a b => ?_⟩)
          by_cases e : q' = i
          · rw [e]; exact Nat.le_refl _
          · have := h3 q' (by omega) b; omega
/-- what is undone has its undo -/
theorem un_row (hA : rA M mkO sl) (hc : cl M l) (hn : n < 4) {q : Nat} (hq : q < mdN M n) (hg : gd M l (250 * n + q) = false) : ∃ i, i < mdN M n ∧ rdQ M n l i q ∧ jd M l (250 * n + q) = i + 1 := by
  have hmd := hA.2.2.1 n hn
  have h1 := gd_nu (M := M) (l := l) (t := 250 * n + q) l.length (Nat.le_refl _)
  rw [List.take_length] at h1
  obtain ⟨i, hi, -, h2, h3, h4⟩ := h1 hg
  have hmi := cl_mem hc (List.getElem_mem hi)
  unfold isT at h2
  rw [Bool.and_eq_true] at h2
  have h5 := rOf_inv (of_decide_eq_true h2.2)
  obtain ⟨t, t1, t2, t3, t4, t5⟩ := (hA.1 _ hmi).2.2.2.2.2.1 (Or.inl h3)
  have e := rNm_inj (by omega) t1.1 (h5.symm.trans t4)
  have e1 : rN (250 * n + q) = n := by unfold rN; omega
  obtain ⟨i', i1, i2⟩ := own_row (n := n) hA hmi (by rw [← t2, ← e, e1])
  refine ⟨i', i1, ?_, ?_⟩
  · rw [i2] at h3 h5
    exact ⟨h3, hq, h5, hg⟩
  · rw [h4, i2]; unfold rM; omega
theorem fit_14 (hh : hsI x0 S M) (h : core x0 Bt S M ra sl mkO L Wt) (hnu : nuI M mkO Bt) (hn : n < 4) (e : mEx sc M A) (o p v5 v6 : Int32) (hd0 : kF S (x0 + 19) 0 = 14) (hd4 : kF S (x0 + 19) 4 = 0) : fitR x0 n S M A mkO (L n) 14 o p v5 v6 := by
  have k2 := hh.2.2.2.1.1
  have k6 := hh.1.2.2.2.2.2.2.2.1
  obtain ⟨hown, hkn⟩ := own_of h hnu hn
  obtain ⟨⟨hA, hsl, -, -⟩, ⟨hB, -⟩, hN, -⟩ := h
  obtain ⟨⟨hM1, -⟩, -⟩ := hN n hn
  have hcl := hM1.1.2.1
  have hmd := hA.2.2.1 n hn
  have e2 : mEx sc M (pu (pu A 69 0) 70 0) := mEx_trans (mEx_trans e (mEx_pu (by unfold sc; omega) _)) (mEx_pu (by unfold sc; omega) _)
  obtain ⟨B, b1, b2', b3, b4⟩ := m_judgeL e2 hM1.1.2.2.1 (jOkL_cl hA hcl)
  have eB : mEx sc M B := mEx_trans e2 (mEx_mono b2' (fun k hk => by unfold sc; omega))
  have B69 : B.1 69 = 0 := by rw [(b2' 69 (by omega)).1, pu_o _ _ (by decide), pu_s]
  have hcls : ∀ r : Int32, fk_7_redoable_9 S mFU (sN x0 n) (Int32.ofNat (mdN M n)) = some r → fk_11_fits S x0 (sN x0 n) v5 v6 = some (if r < 0 then 0 else 1, cPi S (x0 + 19) 5 r) := fun r hr => by
    have g6 : kR (cPi S (x0 + 19) 5 r) x0 6 = some (x0 + 19) := k6
    have gk : kK (cPi S (x0 + 19) 5 r) (x0 + 19) = 2 := k2
    have g12 : kK (cPi S (x0 + 19) 5 r) x0 = 12 := hh.1.1
    unfold fk_11_fits fk_11_fits_140 fk_7_redoable
    rw [ckk_y hh.1.1, k6, bd_s, ckk_y k2, hd0, if_neg (by decide), if_neg (by decide), if_neg (by decide), if_neg (by decide), if_neg (by decide), if_neg (by decide), if_neg (by decide), if_neg (by decide), if_pos rfl, ckk_y hh.1.1, bd_s, ckk_y hown.1, ckk_y hown.1, ckk_y hown.1, hown.2.2.1, hkn, bd_s, hr, bd_s, ckk_y k2, lt_d, ckk_y g12, g6, bd_s, ckk_y gk, fP, upd_s, ckz_0, ckz_1]
    by_cases c : r < 0
    · rw [if_pos c, if_pos c]
    · rw [if_neg c, if_neg c]
  have hun : fm_refusal A (Int32.ofNat n) 14 o p v5 v6 = fm_findUndone_15 mFU B (Int32.ofNat n) (-1) 0 := by
    unfold fm_refusal fm_refusal_509 fm_refusal_528 fm_findUndone
    simp only [lt_d]
    rw [if_neg (by decide), if_neg (by decide), if_neg (by decide), if_neg (by decide), if_neg (by decide), if_neg (by decide), if_neg (by decide), if_neg (by decide), if_neg (by decide), if_neg (by decide), if_neg (by decide), if_neg (by decide), if_neg (by decide), if_neg (by decide), if_pos trivial, if_neg (by decide), ck_n hn (by omega), rd_e e2 (by decide) (by omega), hM1.1.2.2.2, b1, bd_s]
    cases fm_findUndone_15 mFU B (Int32.ofNat n) (-1) 0 <;> rfl
  have hfu : mdN M n < mFU := Nat.lt_of_le_of_lt hmd.1 (by decide)
  rcases m_redoGo hA eB hn b3 b4 (mdN M n) 0 mFU none (by omega) hfu (Or.inl ⟨rfl, fun q hq => absurd hq (by omega)⟩) with ⟨q1, q2⟩ | ⟨q, q1, q2, q3, q4⟩
  · rcases k_redoGo hA hn hown (mdN M n) mFU (Nat.le_refl _) hfu with ⟨p1, p2⟩ | ⟨i, i', p1, p2, p3, p4⟩
    · refine ⟨false, _, 5, B, hcls _ p2, lkE_P _ _, fun i hi => ?_, by rw [hun]; exact q2, by decide, eB, fun q => by cases q⟩
      rw [fP]; exact upd_o _ _ (by omega)
    · have := p2.2.2.2; rw [q1 i' p2.2.1] at this; cases this
  · obtain ⟨iq, u1, u2, u3⟩ := un_row hA hcl hn q1 q2
    rcases k_redoGo hA hn hown (mdN M n) mFU (Nat.le_refl _) hfu with ⟨p1, p2⟩ | ⟨i, i', p1, p2, p3, p4⟩
    · exact absurd u2 (p1 iq q u1)
    · have hle : iq ≤ i := by
        by_cases c : i < iq
        · exact absurd u2 (p3 iq q c u1)
        · omega
      have hri := hown.2.2.2.2.2.2 i p1
      have hri' := hown.2.2.2.2.2.2 i' p2.2.1
      have hj : i + 1 ≤ jd M (L n) (250 * n + i') := by
        obtain ⟨x, x1, x2⟩ := List.mem_iff_getElem.mp hri.1
        have := jd_ge (jOkL_cl hA hcl) (t := 250 * n + i') (L n).length (Nat.le_refl _) x x1 x1 (by
          rw [x2]; unfold isT
          rw [p2.1, p2.2.2.1, rOf_nm hri'.2.1.1]; simp)
        rw [List.take_length, x2] at this
        unfold rM at this; omega
      have hj2 := q3 i' p2.2.1 p2.2.2.2
      have ei : iq = i := by omega
      subst ei
      have e5 := rNm_inj (by omega) hri'.2.1.1 (u2.2.2.1.symm.trans p2.2.2.1)
      have e6 : q = i' := by omega
      subst e6
      obtain ⟨t, t1, t2, t3⟩ := tgt (n := n) hA hri.2.1 (by unfold rN; omega) p2.1
      have e7 := rNm_inj (by omega) hri'.2.1.1 (t2.symm.trans p2.2.2.1)
      have hnn : ¬ Int32.ofNat (rNm (250 * n + q)) < 0 := jI_nn (by unfold rNm rN rM; omega)
      refine ⟨true, _, 0, _, ?_, lkE_P 5 (Int32.ofNat (rNm (250 * n + q))), fun i hi => ?_, ?_, by decide, mEx_trans eB (mEx_pu (k := 70) (by unfold sc; omega) (Int32.ofNat (rNm (250 * n + q)))), fun _ => ⟨?_, ?_, ?_⟩⟩
      · rw [hcls _ p4, if_neg hnn]; rfl
      · rw [fP]; exact upd_o _ _ (by omega)
      · rw [hun]; exact q4
      · rw [fP, upd_o _ _ (by decide), hd4, pu_o _ _ (by decide), B69]
      · rw [fP, upd_s, pu_s]
      · rw [pu_s]
        refine ⟨fun _ => ⟨250 * n + q, hri'.2.1, by unfold rN; omega, rfl, by rw [← e7]; exact t3⟩, fun q => ?_, fun q => ?_, fun q => ?_, fun q => ?_, fun q => ?_⟩ <;> exfalso <;> revert q <;> decide
end V
