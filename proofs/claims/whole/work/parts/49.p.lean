-- part 49: what rests on the rows alone; what a row changes
def rEq (M M' : mSt) : Prop := ∀ k, 5 ≤ k → k ≤ 16 → M'.2 k = M.2 k
theorem rEq_refl (M : mSt) : rEq M M := fun _ _ _ => rfl
theorem rEq_trans {A B C : mSt} (h : rEq A B) (h' : rEq B C) : rEq A C := fun k h1 h2 => (h' k h1 h2).trans (h k h1 h2)
theorem rEq_mEx {A B : mSt} {W : Nat → Prop} (h : mEx W A B) (hW : ∀ k, W k → 16 < k) : rEq A B := fun k _ h2 => (h k (fun q => absurd (hW k q) (by omega))).2
section Q
variable {M M' : mSt}
theorem isT_r (e : rEq M M') : isT M' = isT M := by funext t r; unfold isT; rw [e 9 (by decide) (by decide), e 13 (by decide) (by decide)]
theorem gd_r (e : rEq M M') : gd M' = gd M := by funext l t; unfold gd; rw [isT_r e, e 9 (by decide) (by decide)]
theorem jd_r (e : rEq M M') : jd M' = jd M := by funext l t; unfold jd; rw [isT_r e]
theorem rK_r (e : rEq M M') : rK M' = rK M := by funext r; unfold rK; rw [e 14 (by decide) (by decide), e 15 (by decide) (by decide)]
theorem gv_r (e : rEq M M') : gv M' = gv M := by funext l u r; unfold gv; rw [gd_r e]
theorem txL_r (e : rEq M M') : txL M' = txL M := by
  have h : txS M' = txS M := by funext L r; unfold txS; rw [e 13 (by decide) (by decide)]
  funext L; unfold txL; rw [h]
theorem tOk_r (e : rEq M M') (h : tOk M) : tOk M' := by unfold tOk; rw [e 14 (by decide) (by decide), e 15 (by decide) (by decide)]; exact h
theorem kInj_r {l : List Nat} (e : rEq M M') (h : kInj M l) : kInj M' l := by unfold kInj; rw [rK_r e]; exact h
theorem jOkL_r {l : List Nat} (e : rEq M M') (h : jOkL M l) : jOkL M' l := by unfold jOkL; rw [jd_r e, e 9 (by decide) (by decide), e 13 (by decide) (by decide)]; exact h
theorem tvP_r (e : rEq M M') : tvP M' = tvP M := by
  have h : erP M' = erP M := by funext l r t; unfold erP; rw [gd_r e, e 9 (by decide) (by decide), e 13 (by decide) (by decide)]
  funext l r; unfold tvP; rw [h, gd_r e]
theorem txR_r (e : rEq M M') : txR M' = txR M := by
  funext l o p; unfold txR; simp only [isO, e 9 (by decide) (by decide), e 10 (by decide) (by decide), e 11 (by decide) (by decide), rK_r e, txL_r e]
theorem ltB_r (e : rEq M M') : ltB M' = ltB M := by
  funext l o p; unfold ltB; simp only [e 9 (by decide) (by decide), e 10 (by decide) (by decide), e 11 (by decide) (by decide), rK_r e, gd_r e]
theorem smB_r (e : rEq M M') : smB M' = smB M := by
  funext l o p; unfold smB; simp only [isO, e 9 (by decide) (by decide), e 10 (by decide) (by decide), e 11 (by decide) (by decide), e 12 (by decide) (by decide), gd_r e]
theorem shB_r (e : rEq M M') : shB M' = shB M := by
  funext l o p q; unfold shB shD; simp only [e 9 (by decide) (by decide), e 10 (by decide) (by decide), e 11 (by decide) (by decide), e 12 (by decide) (by decide), e 13 (by decide) (by decide)]
theorem hoP_r (e : rEq M M') : hoP M' = hoP M := by
  funext l r; unfold hoP hoT; simp only [isO, e 9 (by decide) (by decide), e 10 (by decide) (by decide), e 11 (by decide) (by decide), e 12 (by decide) (by decide), e 16 (by decide) (by decide), gd_r e]
theorem stB_r (e : rEq M M') : stB M' = stB M := by
  funext l o p x; unfold stB stP; simp only [isO, e 9 (by decide) (by decide), e 10 (by decide) (by decide), e 11 (by decide) (by decide), e 12 (by decide) (by decide), rK_r e, hoP_r e]
theorem kyC_r (e : rEq M M') : kyC M' = kyC M := by
  funext l o p x; unfold kyC kyB kyP; simp only [isO, e 9 (by decide) (by decide), e 10 (by decide) (by decide), e 11 (by decide) (by decide), e 12 (by decide) (by decide), rK_r e, gd_r e]
theorem svQ_r (e : rEq M M') : svQ M' = svQ M := by
  funext l o p r; unfold svQ knP; simp only [isO, e 9 (by decide) (by decide), e 10 (by decide) (by decide), e 11 (by decide) (by decide), e 16 (by decide) (by decide), gd_r e]
theorem vaL_r (e : rEq M M') : vaL M' = vaL M := by
  funext l o p rl; unfold vaL; simp only [stB_r e, shB_r e, smB_r e, ltB_r e, kyC_r e, svQ_r e, txR_r e, tvP_r e, rK_r e, e 12 (by decide) (by decide)]
theorem mkN_r (e : rEq M M') : mkN M' = mkN M := by funext l x; unfold mkN; rw [e 9 (by decide) (by decide)]
theorem thN_r (e : rEq M M') : thN M' = thN M := by
  funext l x; unfold thN dpP; simp only [mkN_r e, gd_r e, e 9 (by decide) (by decide), e 10 (by decide) (by decide)]
theorem obL_r (e : rEq M M') : obL M' = obL M := by
  funext l; unfold obL
  have h : mkP M' = mkP M := by funext r; unfold mkP; rw [e 9 (by decide) (by decide)]
  rw [h]
theorem mvL_r (e : rEq M M') : mvL M' = mvL M := by funext l; unfold mvL; simp only [gd_r e, rK_r e, e 9 (by decide) (by decide)]
theorem paL_r (e : rEq M M') : paL M' = paL M := by
  have h : pSt M' = pSt M := by funext mkO sl pr r; unfold pSt; rw [e 12 (by decide) (by decide)]
  funext mkO sl L; unfold paL; rw [h]
theorem clL_r (e : rEq M M') : clL M' = clL M := by funext l o; unfold clL; simp only [rK_r e, e 9 (by decide) (by decide), e 10 (by decide) (by decide)]
theorem mdN_r (e : rEq M M') : mdN M' = mdN M := by funext n; unfold mdN; rw [e 7 (by decide) (by decide)]
theorem mde_r (e : rEq M M') : mde M' = mde M := by funext r; unfold mde; rw [mdN_r e]
theorem kn_r (e : rEq M M') : kn M' = kn M := by funext r t; unfold kn; rw [e 16 (by decide) (by decide)]
theorem rF_r (e : rEq M M') : rF M' = rF M := by
  funext mkO sl r
  unfold rF rFb rOb rIn
  simp only [mdN_r e, mde_r e, kn_r e, rK_r e, e 6 (by decide) (by decide), e 9 (by decide) (by decide), e 10 (by decide) (by decide), e 11 (by decide) (by decide), e 12 (by decide) (by decide), e 13 (by decide) (by decide), e 16 (by decide) (by decide)]
theorem rA_r {mkO : Nat → Option Nat} {sl : Nat → Int32} (e : rEq M M') (h : rA M mkO sl) : rA M' mkO sl := by
  obtain ⟨h1, h2, h3, h4⟩ := h
  refine ⟨fun r hr => ?_, ?_, fun n hn => ?_, tOk_r e h4⟩
  · rw [mde_r e] at hr; rw [rF_r e]; exact h1 r hr
  · unfold mO; rw [mde_r e, e 9 (by decide) (by decide)]; exact h2
  · rw [mdN_r e, e 7 (by decide) (by decide)]; exact h3 n hn
theorem cl_r {l : List Nat} (e : rEq M M') (h : cl M l) : cl M' l := by unfold cl; rw [mde_r e, kn_r e]; exact h
theorem chF_r (e : rEq M M') : chF M' = chF M := by funext sl r; unfold chF; rw [e 9 (by decide) (by decide), e 11 (by decide) (by decide)]
theorem cRow_r {sl ch : Nat → Int32} {S : cSt} {r a : Nat} (e : rEq M M') (h : cRow M sl ch S r a) : cRow M' sl ch S r a := by
  unfold cRow
  rw [e 9 (by decide) (by decide), e 10 (by decide) (by decide), e 11 (by decide) (by decide), e 12 (by decide) (by decide), e 13 (by decide) (by decide), e 14 (by decide) (by decide), e 15 (by decide) (by decide), e 16 (by decide) (by decide)]
  exact h
theorem chL_r (e : rEq M M') : chL M' = chL M := by funext ch l c; unfold chL; rw [rK_r e]
end Q
section C
variable {M : mSt} {mkO : Nat → Option Nat} {sl : Nat → Int32} {l : List Nat} {r : Nat}
/-- a row that can be applied next -/
def nxt (M : mSt) (l : List Nat) (r : Nat) : Prop := mde M r ∧ r ∉ l ∧ ∀ t, mde M t → kn M r t → t ∈ l
theorem cl_app (hc : cl M l) (hr : nxt M l r) : cl M (l ++ [r]) := by
  intro i hi
  by_cases h : i < l.length
  · have e1 : (l ++ [r])[i] = l[i] := List.getElem_append_left h
    have e2 : (l ++ [r]).take i = l.take i := List.take_append_of_le_length (by omega)
    rw [e1, e2]; exact hc i h
  · have hi2 : i = l.length := by rw [List.length_append, List.length_singleton] at hi; omega
    subst hi2
    have e1 : (l ++ [r])[l.length] = r := by rw [List.getElem_append_right (Nat.le_refl _)]; simp
    have e2 : (l ++ [r]).take l.length = l := by rw [List.take_append_of_le_length (Nat.le_refl _), List.take_length]
    rw [e1, e2]; exact hr
/-- what a row is about: what it turns, or itself -/
def sbj (M : mSt) (r : Nat) : Nat := if M.2 9 r = 13 ∨ M.2 9 r = 14 then (rOf (M.2 13 r)).getD 0 else r
theorem sbj_tu (hA : rA M mkO sl) (hr : mde M r) (hs : tuS (M.2 9 r)) : mde M (sbj M r) ∧ rOf (M.2 13 r) = some (sbj M r) ∧ cbU (M.2 9 (sbj M r)) ∧ kn M r (sbj M r) := by
  obtain ⟨t, t1, t2, t3, t4, t5⟩ := tu_tg hA hr hs
  unfold sbj
  rw [if_pos (show M.2 9 r = 13 ∨ M.2 9 r = 14 from hs), t4]
  exact ⟨t1, rfl, t5, (kn_own (hA.1 r hr) t2).mpr t3⟩
theorem sbj_no (hs : ¬ tuS (M.2 9 r)) : sbj M r = r := if_neg hs
theorem sbj_md (hA : rA M mkO sl) (hr : mde M r) : mde M (sbj M r) := by
  by_cases hs : tuS (M.2 9 r)
  · exact (sbj_tu hA hr hs).1
  · rw [sbj_no hs]; exact hr
theorem sbj_in (hA : rA M mkO sl) (hr : nxt M l r) : sbj M r ∈ l ++ [r] := by
  by_cases hs : tuS (M.2 9 r)
  · obtain ⟨t1, _, _, t4⟩ := sbj_tu hA hr.1 hs
    exact List.mem_append_left _ (hr.2.2 _ t1 t4)
  · rw [sbj_no hs]; simp
theorem sbj_nt (hA : rA M mkO sl) (hr : mde M r) : ¬ tuS (M.2 9 (sbj M r)) := by
  by_cases hs : tuS (M.2 9 r)
  · obtain ⟨_, _, t3, _⟩ := sbj_tu hA hr hs
    intro h
    unfold cbU at t3
    rcases h with h | h <;> (rw [h] at t3; revert t3; decide)
  · rw [sbj_no hs]; exact hs
/-- seen as good -/
def G (M : mSt) (l : List Nat) (q : Nat) : Bool := decide (q ∈ l) && gd M l q
/-- all but its subject is as it was -/
theorem G_eq (hA : rA M mkO sl) (hr : nxt M l r) {q : Nat} (hq : q ≠ sbj M r) (hs : ¬ tuS (M.2 9 q)) : G M (l ++ [r]) q = G M l q := by
  unfold G
  have h1 : gd M (l ++ [r]) q = gd M l q := gd_new (fun h => by
    refine hq ?_
    have := (sbj_tu hA hr.1 h.1).2.1
    rw [h.2] at this
    exact Option.some.inj this)
  rw [h1]
  congr 1
  rw [decide_eq_decide, List.mem_append, List.mem_singleton]
  constructor
  · rintro (h | h)
    · exact h
    · subst h
      exact absurd (sbj_no hs).symm hq
  · exact Or.inl
theorem G_l (u : List Nat) {q : Nat} (h : q ∈ u) : G M u q = gd M u q := by unfold G; rw [decide_eq_true h, Bool.true_and]
/-- filters that look at good rows other than the subject -/
theorem flt_app (hr : nxt M l r) {P P' : Nat → Bool} (h1 : P' r = false) (h2 : ∀ q ∈ l, P' q = P q) : (l ++ [r]).filter P' = l.filter P := by
  rw [List.filter_append, List.filter_cons, h1]
  simp only [Bool.false_eq_true, if_false, List.filter_nil, List.append_nil]
  exact List.filter_congr h2
end C
