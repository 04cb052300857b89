-- part 51: a text, and when it shows otherwise
theorem flt_one {P P' : Nat → Bool} : ∀ {L : List Nat} {x : Nat}, L.Nodup → x ∈ L → P x ≠ P' x → (∀ y ∈ L, y ≠ x → P y = P' y) → (L.filter P).length ≠ (L.filter P').length := by
  intro L
  induction L with
  | nil => intro x _ hx; cases hx
  | cons a L ih =>
    intro x hn hx hne hs
    obtain ⟨n1, n2⟩ := List.nodup_cons.mp hn
    rw [List.filter_cons, List.filter_cons]
    by_cases e : a = x
    · subst e
      have he : L.filter P = L.filter P' := List.filter_congr fun y hy => hs y (List.mem_cons_of_mem _ hy) (fun q => n1 (q ▸ hy))
      rw [he]
      cases hp : P a <;> cases hp' : P' a
      · exact absurd (hp.trans hp'.symm) hne
      · simp
      · simp
      · exact absurd (hp.trans hp'.symm) hne
    · have hx2 : x ∈ L := (List.mem_cons.mp hx).resolve_left (fun q => e q.symm)
      have h1 := ih n2 hx2 hne (fun y hy => hs y (List.mem_cons_of_mem _ hy))
      rw [hs a List.mem_cons_self e]
      cases P' a <;> simp [h1]
section C
variable {M : mSt} {mkO : Nat → Option Nat} {sl : Nat → Int32} {l u : List Nat} {r : Nat} {o p : Int32}
/-- an insert stands -/
def st (M : mSt) (u : List Nat) (q : Nat) : Bool := decide (q ∈ u) && tvP M u q
/-- the insert that an insert or erase is about -/
def inO9 (M : mSt) (t : Nat) : Nat := if M.2 9 t = 9 then t else (rOf (M.2 13 t)).getD 0
theorem inO9_of (hA : rA M mkO sl) {t : Nat} (ht : mde M t) (hs : M.2 9 t = 9 ∨ M.2 9 t = 10) : mde M (inO9 M t) ∧ M.2 9 (inO9 M t) = 9 ∧ M.2 10 (inO9 M t) = M.2 10 t ∧ M.2 11 (inO9 M t) = M.2 11 t ∧ (M.2 9 t = 10 → rOf (M.2 13 t) = some (inO9 M t) ∧ M.2 13 t = Int32.ofNat (rNm (inO9 M t)) ∧ kn M t (inO9 M t)) := by
  unfold inO9
  by_cases h9 : M.2 9 t = 9
  · rw [if_pos h9]
    exact ⟨ht, h9, rfl, rfl, fun h => by rw [h9] at h; exact absurd h (by decide)⟩
  · rw [if_neg h9]
    obtain ⟨q, q1, q2, q3, q4, q5, q6⟩ := (hA.1 t ht).2.2.2.2.2.2.2.2.2.2.1 (hs.resolve_left h9)
    have e : rOf (M.2 13 t) = some q := by rw [q5]; exact rOf_nm q1.1
    rw [e]
    exact ⟨q1, q2, q3, q4, fun _ => ⟨rfl, q5, q6⟩⟩
theorem nt9 {q : Nat} (h : M.2 9 q = 9 ∨ M.2 9 q = 10) : ¬ tuS (M.2 9 q) := fun h2 => by
  rcases h with h | h <;> (rw [h] at h2; revert h2; unfold tuS; decide)
theorem txR_nd (hn : u.Nodup) : (txR M u o p).Nodup := by
  unfold txR
  exact (txL_perm M _).nodup_iff.mpr ((perm_srt _ _).nodup_iff.mpr (hn.sublist List.filter_sublist))
/-- nobody erases a row that isn't there -/
theorem no_erase (hA : rA M mkO sl) (hc : cl M l) {q : Nat} (hq : mde M q) (hn : q ∉ l) : l.any (erP M l q) = false := by
  rw [List.any_eq_false]
  intro e he h
  unfold erP at h
  simp only [Bool.and_eq_true, decide_eq_true_iff] at h
  have hme := cl_mem hc he
  obtain ⟨t, t1, t2, t3, t4, t5, t6⟩ := (hA.1 e hme).2.2.2.2.2.2.2.2.2.2.1 h.1
  have : t = q := rNm_inj t1.1 hq.1 (t5.symm.trans h.2.1)
  subst this
  exact hn (cl_kn hc he t1 t6)
/-- other inserts stand as they stood -/
theorem tvP_same (hA : rA M mkO sl) (hr : nxt M l r) (hs : M.2 9 (sbj M r) = 9 ∨ M.2 9 (sbj M r) = 10) {q : Nat} (hq : q ∈ l) (h9 : M.2 9 q = 9) (hmq : q < 1000) (hne : q ≠ inO9 M (sbj M r)) : tvP M (l ++ [r]) q = tvP M l q := by
  have hmt := sbj_md hA hr.1
  obtain ⟨i1, i2, i3, i4, i5⟩ := inO9_of hA hmt hs
  have hqs : q ≠ sbj M r := fun e => by
    subst e
    exact hne (by unfold inO9; rw [if_pos h9])
  have hgd : gd M (l ++ [r]) q = gd M l q := by
    have := G_eq hA hr hqs (nt9 (Or.inl h9))
    rwa [G_l _ (List.mem_append_left _ hq), G_l _ hq] at this
  unfold tvP
  rw [hgd]
  congr 2
  rw [List.any_append, Bool.eq_iff_iff, Bool.or_eq_true, List.any_eq_true, List.any_eq_true, List.any_eq_true]
  have key : ∀ e, M.2 9 e = 10 → M.2 13 e = Int32.ofNat (rNm q) → e ≠ sbj M r := fun e h1 h2 he => by
    subst he
    refine hne (rNm_inj hmq i1.1 ?_)
    rw [← h2, (i5 h1).2.1]
  constructor
  · rintro (⟨e, he, h⟩ | ⟨e, he, h⟩)
    · refine ⟨e, he, ?_⟩
      unfold erP at h ⊢
      simp only [Bool.and_eq_true, decide_eq_true_iff] at h ⊢
      refine ⟨h.1, h.2.1, ?_⟩
      have := G_eq hA hr (key e h.1 h.2.1) (nt9 (Or.inr h.1))
      rw [G_l _ (List.mem_append_left _ he), G_l _ he] at this
      rw [← this]; exact h.2.2
    · have he : e = r := List.mem_singleton.mp he
      subst he
      unfold erP at h
      simp only [Bool.and_eq_true, decide_eq_true_iff] at h
      exact absurd (sbj_no (nt9 (Or.inr h.1))).symm (key e h.1 h.2.1)
  · rintro ⟨e, he, h⟩
    refine Or.inl ⟨e, he, ?_⟩
    unfold erP at h ⊢
    simp only [Bool.and_eq_true, decide_eq_true_iff] at h ⊢
    refine ⟨h.1, h.2.1, ?_⟩
    have := G_eq hA hr (key e h.1 h.2.1) (nt9 (Or.inr h.1))
    rw [G_l _ (List.mem_append_left _ he), G_l _ he] at this
    rw [this]; exact h.2.2
/-- a text shows otherwise just when the insert in question stands otherwise -/
theorem t_news (hA : rA M mkO sl) (hc : cl M l) (hr : nxt M l r) (hs : M.2 9 (sbj M r) = 9 ∨ M.2 9 (sbj M r) = 10) : ((txR M l (M.2 10 (sbj M r)) (M.2 11 (sbj M r))).filter (tvP M l)).map (fun q => (M.2 12 q, (0 : Int32))) = ((txR M (l ++ [r]) (M.2 10 (sbj M r)) (M.2 11 (sbj M r))).filter (tvP M (l ++ [r]))).map (fun q => (M.2 12 q, (0 : Int32))) ↔ st M l (inO9 M (sbj M r)) = st M (l ++ [r]) (inO9 M (sbj M r)) := by
  have hmt := sbj_md hA hr.1
  have hcl := cl_app hc hr
  obtain ⟨i1, i2, i3, i4, i5⟩ := inO9_of hA hmt hs
  generalize ho : M.2 10 (sbj M r) = o at *
  generalize hp : M.2 11 (sbj M r) = p at *
  by_cases h9 : M.2 9 r = 9
  · have e1 : sbj M r = r := sbj_no (nt9 (Or.inl h9))
    have e2 : inO9 M (sbj M r) = r := by rw [e1]; unfold inO9; rw [if_pos h9]
    rw [e1] at ho hp
    have hfr : gd M (l ++ [r]) r = true := by
      have h1 : gd M (l ++ [r]) r = gd M l r := gd_new (fun h => nt9 (Or.inl h9) h.1)
      rw [h1]; exact gd_fresh hA hc hr.1 hr.2.1
    have hst : tvP M (l ++ [r]) r = true := by
      unfold tvP
      rw [hfr, List.any_append]
      have h2 : l.any (erP M (l ++ [r]) r) = false := by
        rw [List.any_eq_false]
        intro e he h
        unfold erP at h
        simp only [Bool.and_eq_true, decide_eq_true_iff] at h
        obtain ⟨t, t1, t2, t3, t4, t5, t6⟩ := (hA.1 e (cl_mem hc he)).2.2.2.2.2.2.2.2.2.2.1 h.1
        have : t = r := rNm_inj t1.1 hr.1.1 (t5.symm.trans h.2.1)
        subst this
        exact hr.2.1 (cl_kn hc he t1 t6)
      have h3 : [r].any (erP M (l ++ [r]) r) = false := by
        rw [List.any_eq_false]
        intro e he h
        have he : e = r := List.mem_singleton.mp he
        subst he
        unfold erP at h
        simp only [Bool.and_eq_true, decide_eq_true_iff] at h
        rw [h9] at h
        exact absurd h.1 (by decide)
      rw [h2, h3]; rfl
    rw [e2]
    have s1 : st M l r = false := by unfold st; rw [decide_eq_false hr.2.1]; rfl
    have s2 : st M (l ++ [r]) r = true := by unfold st; rw [decide_eq_true (by simp), hst]; rfl
    rw [s1, s2]
    refine ⟨fun h => absurd (congrArg List.length h) ?_, fun h => by cases h⟩
    rw [List.length_map, List.length_map]
    have hP : ((txR M (l ++ [r]) o p).filter (tvP M (l ++ [r]))).Perm (r :: (txR M l o p).filter (tvP M l)) := by
      have p1 : (txR M (l ++ [r]) o p).Perm (r :: txR M l o p) := by
        unfold txR
        refine (txL_perm M _).trans ((perm_srt _ _).trans ?_)
        refine List.Perm.trans ?_ (List.Perm.cons r ((txL_perm M _).trans (perm_srt _ _)).symm)
        rw [List.filter_append, List.filter_cons, decide_eq_true (show isO M 9 o p r from ⟨h9, ho, hp⟩)]
        simp only [if_true, List.filter_nil]
        exact List.perm_append_comm
      refine (p1.filter _).trans ?_
      rw [List.filter_cons, hst]
      simp only [if_true]
      refine List.Perm.cons r (List.Perm.of_eq (List.filter_congr fun q hq => ?_))
      obtain ⟨q1, q2⟩ := txR_mem.mp hq
      exact tvP_same hA hr hs q1 q2.1 (cl_mem hc q1).1 (fun e => by rw [e2] at e; subst e; exact hr.2.1 q1)
    rw [hP.length_eq, List.length_cons]
    omega
  · have hL : txR M (l ++ [r]) o p = txR M l o p := by
      unfold txR
      rw [List.filter_append, List.filter_cons, decide_eq_false (fun h : isO M 9 o p r => h9 h.1)]
      simp
    have hin : inO9 M (sbj M r) ∈ l := by
      by_cases ht : tuS (M.2 9 r)
      · obtain ⟨t1, _, _, t4⟩ := sbj_tu hA hr.1 ht
        have hsl := hr.2.2 _ t1 t4
        by_cases hs9 : M.2 9 (sbj M r) = 9
        · have e : inO9 M (sbj M r) = sbj M r := by unfold inO9; rw [if_pos hs9]
          rw [e]; exact hsl
        · exact cl_kn hc hsl i1 (i5 (hs.resolve_left hs9)).2.2
      · have e := sbj_no ht
        rw [e] at hs i5 i1 ⊢
        exact hr.2.2 _ i1 (i5 (hs.resolve_left h9)).2.2
    have hix : inO9 M (sbj M r) ∈ txR M l o p := txR_mem.mpr ⟨hin, i2, i3, i4⟩
    have hrest : ∀ y ∈ txR M l o p, y ≠ inO9 M (sbj M r) → tvP M l y = tvP M (l ++ [r]) y := fun y hy hne => by
      obtain ⟨q1, q2⟩ := txR_mem.mp hy
      exact (tvP_same hA hr hs q1 q2.1 (cl_mem hc q1).1 hne).symm
    rw [hL]
    have s1 : st M l (inO9 M (sbj M r)) = tvP M l (inO9 M (sbj M r)) := by unfold st; rw [decide_eq_true hin, Bool.true_and]
    have s2 : st M (l ++ [r]) (inO9 M (sbj M r)) = tvP M (l ++ [r]) (inO9 M (sbj M r)) := by unfold st; rw [decide_eq_true (List.mem_append_left _ hin), Bool.true_and]
    rw [s1, s2]
    constructor
    · intro h
      refine Classical.byContradiction fun hne => ?_
      have := congrArg List.length h
      rw [List.length_map, List.length_map] at this
      exact flt_one (txR_nd (cl_nd hc)) hix hne hrest this
    · intro h
      congr 1
      refine List.filter_congr fun y hy => ?_
      by_cases e : y = inO9 M (sbj M r)
      · rw [e]; exact h
      · exact hrest y hy e
/-- an insert stands, as a view finds it -/
theorem st_vw (hA : rA M mkO sl) (hc : cl M l) {j m kd p : Nat} (hp : ptO M mkO j m kd p 84) (up : Nat) {q : Nat} (hq : mde M q) (hi : isO M 9 (Int32.ofNat (rNm m)) (Int32.ofNat p) q) : (gv M l up q = true ∧ erR M (chF M sl) l up (8 * j + p) q = none) ↔ st M (l.take up) q = true := by
  unfold st tvP gv erR
  rw [List.find?_eq_none]
  simp only [Bool.and_eq_true, decide_eq_true_iff, Bool.not_eq_true', List.any_eq_false, List.mem_reverse]
  constructor
  · rintro ⟨⟨h1, h2⟩, h3⟩
    refine ⟨h1, h2, fun e he h => ?_⟩
    unfold erP at h
    simp only [Bool.and_eq_true, decide_eq_true_iff] at h
    have hme := mem_u hc he
    obtain ⟨t, t1, t2, t3, t4, t5, t6⟩ := (hA.1 e hme).2.2.2.2.2.2.2.2.2.2.1 h.1
    have : t = q := rNm_inj t1.1 hq.1 (t5.symm.trans h.2.1)
    subst this
    have := (chL_gm hA hc hp up (t := e)).mpr ⟨he, ⟨(ru_of hA hme).2.2.2.2.2.1.mpr (Or.inr h.1), by rw [← t3, hi.2.1], by rw [← t4, hi.2.2]⟩, h.2.2⟩
    refine h3 e this.1 ⟨h.1, h.2.1, ?_⟩
    exact this.2
  · rintro ⟨h1, h2, h3⟩
    refine ⟨⟨h1, h2⟩, fun e he h => ?_⟩
    have hg := h.2.2
    unfold gv at hg
    rw [Bool.and_eq_true, decide_eq_true_iff] at hg
    refine h3 e hg.1 ?_
    unfold erP
    simp only [Bool.and_eq_true, decide_eq_true_iff]
    exact ⟨h.1, h.2.1, hg.2⟩
end C
