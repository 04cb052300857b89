-- part 47: a part as the class and as the reference see it
section C
variable {M : mSt} {mkO : Nat → Option Nat} {sl : Nat → Int32} {l : List Nat}
/-- a part p, of the rule rl, of the object of slot j -/
def ptO (M : mSt) (mkO : Nat → Option Nat) (j m kd p : Nat) (rl : Int32) : Prop := mkO j = some m ∧ M.2 12 m = Int32.ofNat kd ∧ kd < 8 ∧ p < 6 ∧ M.2 6 (6 * kd + p) = rl ∧ rl ≠ 0
theorem chR (hA : rA M mkO sl) {j m kd p : Nat} {rl : Int32} (hp : ptO M mkO j m kd p rl) {r : Nat} (hr : mde M r) : chF M sl r = Int32.ofNat (8 * j + p) ↔ ruS (M.2 9 r) = rl ∧ M.2 10 r = Int32.ofNat (rNm m) ∧ M.2 11 r = Int32.ofNat p := by
  obtain ⟨h1, h2, h3, h4, h5, h6⟩ := hp
  rw [chE hA h1 h2 h3 h4 hr]
  constructor
  · intro q; exact ⟨(ruE hA h1 h2 h3 h4 hr q).trans h5, q.2⟩
  · intro q; exact ⟨by rw [q.1]; exact h6, q.2⟩
theorem ptO_c {j m kd p : Nat} {rl : Int32} (hA : rA M mkO sl) (hp : ptO M mkO j m kd p rl) : 8 * j + p < 385 := by
  have := (hA.2.1.1 j m hp.1).1
  have := hp.2.2.2.1
  omega
theorem dec_and {a b : Prop} [Decidable a] [Decidable b] : decide (a ∧ b) = (decide a && decide b) := by by_cases h : a <;> by_cases h2 : b <;> simp [h, h2]
theorem lk_L (hA : rA M mkO sl) (hc : cl M l) {j m kd p : Nat} (hp : ptO M mkO j m kd p 76) (up : Nat) : lgR M (chF M sl) l up (8 * j + p) = ltB M (l.take up) (Int32.ofNat (rNm m)) (Int32.ofNat p) := by
  rw [lgR_bst (cl_nd hc)]
  unfold ltB
  congr 1
  refine List.filter_congr fun r hr => ?_
  congr 1
  rw [decide_eq_decide, chR hA hp (mem_u hc hr), (ru_of hA (mem_u hc hr)).1]
theorem lk_C (hA : rA M mkO sl) (hc : cl M l) {j m kd p : Nat} (hp : ptO M mkO j m kd p 67) (up : Nat) : (chL M (chF M sl) l (8 * j + p)).reverse.foldl (fun s r => if gv M l up r then s + M.2 12 r else s) 0 = smB M (l.take up) (Int32.ofNat (rNm m)) (Int32.ofNat p) := by
  rw [← List.foldl_filter, List.filter_reverse]
  have e := chL_gv1 (M := M) (cl_nd hc) (chF M sl) up (8 * j + p)
  have e1 : (chL M (chF M sl) l (8 * j + p)).filter (fun r => gv M l up r) = srt (rK M) ((l.take up).filter (fun r => decide (isO M 3 (Int32.ofNat (rNm m)) (Int32.ofNat p) r) && gd M (l.take up) r)) := by
    refine e.trans ?_
    congr 1
    refine List.filter_congr fun r hr => ?_
    congr 1
    rw [decide_eq_decide, chR hA hp (mem_u hc hr), (ru_of hA (mem_u hc hr)).2.2.1]
  rw [e1]
  unfold smB
  exact sum_perm ((List.reverse_perm _).trans (perm_srt _ _)) 0
theorem fold_zero {f : Nat → Int32} (P Q : Nat → Bool) : ∀ (L : List Nat) (a : Int32), (∀ r ∈ L, P r = true → Q r = false → f r = 0) → (∀ r ∈ L, Q r = true → P r = true) → (L.filter P).foldl (fun s r => s + f r) a = (L.filter Q).foldl (fun s r => s + f r) a := by
  intro L
  induction L with
  | nil => intro a _ _; rfl
  | cons r L ih =>
    intro a h1 h2
    have i1 : ∀ r ∈ L, P r = true → Q r = false → f r = 0 := fun q hq => h1 q (List.mem_cons_of_mem _ hq)
    have i2 : ∀ r ∈ L, Q r = true → P r = true := fun q hq => h2 q (List.mem_cons_of_mem _ hq)
    rw [List.filter_cons, List.filter_cons]
    cases hq : Q r with
    | true =>
      have hp := h2 r List.mem_cons_self hq
      simp only [hp, if_true, List.foldl_cons]
      exact ih _ i1 i2
    | false =>
      cases hp : P r with
      | false => simp only [Bool.false_eq_true, if_false]; exact ih _ i1 i2
      | true =>
        simp only [if_true, Bool.false_eq_true, if_false, List.foldl_cons]
        rw [h1 r List.mem_cons_self hp hq, Int32.add_zero]
        exact ih _ i1 i2
theorem lk_B (hA : rA M mkO sl) (hc : cl M l) {j m kd p : Nat} (hp : ptO M mkO j m kd p 66) (up q : Nat) : shN M (chF M sl) l up (8 * j + p) q = shB M (l.take up) (Int32.ofNat (rNm m)) (Int32.ofNat p) q := by
  unfold shN shB
  rw [← List.foldl_filter, List.filter_reverse]
  have hng : ∀ r ∈ l.take up, (M.2 9 r = 4 ∨ M.2 9 r = 5 ∨ M.2 9 r = 6) → gd M (l.take up) r = true := fun r hr hs => gd_no hA (fun q hq => mem_u hc hq) (fun h => by
    unfold cbU at h
    rcases hs with s | s | s <;> (rw [s] at h; revert h; decide))
  have e1 : (chL M (chF M sl) l (8 * j + p)).filter (fun r => gv M l up r) = srt (rK M) ((l.take up).filter (fun r => decide (chF M sl r = Int32.ofNat (8 * j + p)))) := by
    refine (chL_gv1 (M := M) (cl_nd hc) (chF M sl) up (8 * j + p)).trans ?_
    congr 1
    refine List.filter_congr fun r hr => ?_
    by_cases h : chF M sl r = Int32.ofNat (8 * j + p)
    · rw [decide_eq_true h, Bool.true_and]
      exact hng r hr ((ru_of hA (mem_u hc hr)).2.2.2.1.mp ((chR hA hp (mem_u hc hr)).mp h).1)
    · rw [decide_eq_false h]; rfl
  rw [e1]
  have e2 : ∀ (L : List Nat) (a : Int32), (∀ r ∈ L, M.2 9 r = 4 ∨ M.2 9 r = 5 ∨ M.2 9 r = 6) → L.foldl (fun s r => s + shC M q r) a = L.foldl (fun s r => s + shD M q r) a := by
    intro L
    induction L with
    | nil => intro a _; rfl
    | cons r L ih =>
      intro a h
      rw [List.foldl_cons, List.foldl_cons, ih _ (fun x hx => h x (List.mem_cons_of_mem _ hx))]
      congr 1
      unfold shC shD
      rcases h r List.mem_cons_self with s | s | s <;> simp [s]
  rw [e2 _ _ (fun r hr => by
    rw [List.mem_reverse, mem_srt, List.mem_filter] at hr
    exact (ru_of hA (mem_u hc hr.1)).2.2.2.1.mp ((chR hA hp (mem_u hc hr.1)).mp (of_decide_eq_true hr.2)).1)]
  refine (sum_perm ((List.reverse_perm _).trans (perm_srt _ _)) 0).trans ?_
  refine (fold_zero _ _ _ _ (fun r hr h1 h2 => ?_) (fun r hr h1 => ?_)).symm
  · have h3 := of_decide_eq_true h1
    have h4 := of_decide_eq_false h2
    rw [chR hA hp (mem_u hc hr)] at h4
    have h5 : ¬ (M.2 9 r = 4 ∨ M.2 9 r = 5 ∨ M.2 9 r = 6) := fun h => h4 ⟨(ru_of hA (mem_u hc hr)).2.2.2.1.mpr h, h3⟩
    unfold shD
    have n4 : ¬ M.2 9 r = 4 := fun h => h5 (Or.inl h)
    have n5 : ¬ M.2 9 r = 5 := fun h => h5 (Or.inr (Or.inl h))
    have n6 : ¬ M.2 9 r = 6 := fun h => h5 (Or.inr (Or.inr h))
    simp [n4, n5, n6]
  · exact decide_eq_true ((chR hA hp (mem_u hc hr)).mp (of_decide_eq_true h1)).2
/-- the good rows of a part's chain: who they are -/
theorem chL_gm (hA : rA M mkO sl) (hc : cl M l) {j m kd p : Nat} {rl : Int32} (hp : ptO M mkO j m kd p rl) (up : Nat) {t : Nat} : (t ∈ chL M (chF M sl) l (8 * j + p) ∧ gv M l up t = true) ↔ (t ∈ l.take up ∧ (ruS (M.2 9 t) = rl ∧ M.2 10 t = Int32.ofNat (rNm m) ∧ M.2 11 t = Int32.ofNat p) ∧ gd M (l.take up) t = true) := by
  rw [chL_mem]
  unfold gv
  rw [Bool.and_eq_true, decide_eq_true_iff]
  constructor
  · rintro ⟨⟨h1, h2⟩, h3, h4⟩
    exact ⟨h3, (chR hA hp (cl_mem hc h1)).mp h2, h4⟩
  · rintro ⟨h3, h2, h4⟩
    have h1 := List.mem_of_mem_take h3
    exact ⟨⟨h1, (chR hA hp (cl_mem hc h1)).mpr h2⟩, h3, h4⟩
theorem kn_self (hA : rA M mkO sl) {r : Nat} (hr : mde M r) : ¬ kn M r r := fun h => absurd ((kn_own (hA.1 r hr) rfl).mp h) (Nat.lt_irrefl _)
theorem lk_S (hA : rA M mkO sl) (hc : cl M l) {j m kd p : Nat} (hp : ptO M mkO j m kd p 83) (up : Nat) : svL M (chF M sl) l up (8 * j + p) = srt (rK M) ((l.take up).filter (svQ M (l.take up) (Int32.ofNat (rNm m)) (Int32.ofNat p))) := by
  unfold svL chL
  rw [flt_srt, List.filter_filter]
  congr 1
  rw [← flt_ap (cl_nd hc) up]
  refine List.filter_congr fun r hr => ?_
  have hmr := cl_mem hc hr
  rw [Bool.eq_iff_iff]
  unfold svP svQ
  simp only [Bool.and_eq_true, decide_eq_true_iff, List.all_eq_true]
  constructor
  · rintro ⟨⟨h1, h2⟩, h3⟩
    unfold gv at h1
    rw [Bool.and_eq_true, decide_eq_true_iff] at h1
    have h3' := (chR hA hp hmr).mp h3
    refine ⟨⟨⟨(ru_of hA hmr).2.1.mp h3'.1, h3'.2⟩, h1.2, fun t ht => ?_⟩, h1.1⟩
    unfold knP
    refine decide_eq_true fun _ hi hg => ?_
    have := (chL_gm hA hc hp up (t := t)).mpr ⟨ht, ⟨(ru_of hA (mem_u hc ht)).2.1.mpr hi.1, hi.2⟩, hg⟩
    exact h2 t this.1 this.2
  · rintro ⟨⟨h1, h2, h3⟩, h4⟩
    refine ⟨⟨?_, fun t ht hg => ?_⟩, (chR hA hp hmr).mpr ⟨(ru_of hA hmr).2.1.mpr h1.1, h1.2⟩⟩
    · unfold gv
      rw [decide_eq_true h4, h2]; rfl
    · obtain ⟨g1, ⟨g2, g3⟩, g4⟩ := (chL_gm hA hc hp up (t := t)).mp ⟨ht, hg⟩
      by_cases e : t = r
      · subst e; exact kn_self hA hmr
      · have h5 := h3 t g1
        unfold knP at h5
        exact of_decide_eq_true h5 e ⟨(ru_of hA (mem_u hc g1)).2.1.mp g2, g3⟩ g4
theorem lk_A (hA : rA M mkO sl) (hc : cl M l) {j m kd p : Nat} (hp : ptO M mkO j m kd p 65) (up x : Nat) : enR M (chF M sl) l up (8 * j + p) x = stB M (l.take up) (Int32.ofNat (rNm m)) (Int32.ofNat p) x := by
  unfold enR stB bst
  rw [rev_find]
  unfold chL
  rw [flt_srt, List.filter_filter]
  congr 2
  rw [← flt_ap (cl_nd hc) up]
  refine List.filter_congr fun r hr => ?_
  have hmr := cl_mem hc hr
  unfold enP stP
  by_cases hu : r ∈ l.take up
  · have eg : gv M l up r = gd M (l.take up) r := by unfold gv; rw [decide_eq_true hu, Bool.true_and]
    rw [eg, decide_eq_true hu, Bool.and_true]
    by_cases h7 : M.2 9 r = 7
    · have e1 : decide (chF M sl r = Int32.ofNat (8 * j + p)) = decide (isO M 7 (Int32.ofNat (rNm m)) (Int32.ofNat p) r) := by
        rw [decide_eq_decide, chR hA hp hmr, (ru_of hA hmr).2.2.2.2.1]
        exact ⟨fun q => ⟨h7, q.2⟩, fun q => ⟨Or.inl h7, q.2⟩⟩
      rw [e1, decide_eq_true h7, Bool.true_and]
      by_cases hi : isO M 7 (Int32.ofNat (rNm m)) (Int32.ofNat p) r
      · rw [decide_eq_true hi, Bool.true_and, Bool.and_true]
        congr 1
        unfold hoP
        congr 1
        rw [Bool.eq_iff_iff, decide_eq_true_iff, List.all_eq_true]
        unfold hoT
        constructor
        · intro h t ht
          refine decide_eq_true fun hi2 hv hg => ?_
          have := (chL_gm hA hc hp up (t := t)).mpr ⟨ht, ⟨(ru_of hA (mem_u hc ht)).2.2.2.2.1.mpr (Or.inr hi2.1), by rw [hi2.2.1, hi.2.1], by rw [hi2.2.2, hi.2.2]⟩, hg⟩
          exact h t this.1 hi2.1 this.2 hv
        · intro h t ht h8 hg hv
          obtain ⟨h1, ⟨h2, h3⟩, h4⟩ := (chL_gm hA hc hp up (t := t)).mp ⟨ht, hg⟩
          exact of_decide_eq_true (h t h1) ⟨h8, by rw [h3.1, hi.2.1], by rw [h3.2, hi.2.2]⟩ hv h4
      · rw [decide_eq_false hi]; simp
    · rw [decide_eq_false h7, decide_eq_false (fun q : isO M 7 (Int32.ofNat (rNm m)) (Int32.ofNat p) r => h7 q.1)]; simp
  · have eg : gv M l up r = false := by unfold gv; rw [decide_eq_false hu, Bool.false_and]
    rw [eg, decide_eq_false hu]; simp
theorem lk_M0 (hA : rA M mkO sl) (hc : cl M l) {j m kd p : Nat} (hp : ptO M mkO j m kd p 77) (up x : Nat) : bdR M (chF M sl) l up (8 * j + p) (Int32.ofNat x) = kyB M (l.take up) (Int32.ofNat (rNm m)) (Int32.ofNat p) x := by
  unfold bdR kyB bst
  rw [rev_find, chL_gv (cl_nd hc)]
  congr 2
  refine List.filter_congr fun r hr => ?_
  unfold kyP
  have e1 : decide (chF M sl r = Int32.ofNat (8 * j + p)) = decide (isO M 15 (Int32.ofNat (rNm m)) (Int32.ofNat p) r ∨ isO M 16 (Int32.ofNat (rNm m)) (Int32.ofNat p) r) := by
    rw [decide_eq_decide, chR hA hp (mem_u hc hr), (ru_of hA (mem_u hc hr)).2.2.2.2.2.2.1]
    constructor
    · rintro ⟨h | h, h2⟩
      · exact Or.inl ⟨h, h2⟩
      · exact Or.inr ⟨h, h2⟩
    · rintro (h | h)
      · exact ⟨Or.inl h.1, h.2⟩
      · exact ⟨Or.inr h.1, h.2⟩
  rw [e1, Bool.and_assoc]
theorem lk_M (hA : rA M mkO sl) (hc : cl M l) {j m kd p : Nat} (hp : ptO M mkO j m kd p 77) (up x : Nat) : bnR M (chF M sl) l up (8 * j + p) x = kyC M (l.take up) (Int32.ofNat (rNm m)) (Int32.ofNat p) x := by
  unfold bnR kyC
  rw [lk_M0 hA hc hp]
  cases kyB M (l.take up) (Int32.ofNat (rNm m)) (Int32.ofNat p) x <;> rfl
theorem lk_T0 (hA : rA M mkO sl) (hc : cl M l) {j m kd p : Nat} (hp : ptO M mkO j m kd p 84) (up : Nat) : tlL M (chF M sl) l up (8 * j + p) = txR M (l.take up) (Int32.ofNat (rNm m)) (Int32.ofNat p) := by
  unfold tlL txR tcL chL
  congr 1
  rw [flt_srt, flt_srt, List.filter_filter, List.filter_filter]
  congr 1
  rw [← flt_ap (cl_nd hc) up]
  refine List.filter_congr fun r hr => ?_
  have hmr := cl_mem hc hr
  unfold inP9 apP
  by_cases h9 : M.2 9 r = 9
  · have e1 : decide (chF M sl r = Int32.ofNat (8 * j + p)) = decide (isO M 9 (Int32.ofNat (rNm m)) (Int32.ofNat p) r) := by
      rw [decide_eq_decide, chR hA hp hmr, (ru_of hA hmr).2.2.2.2.2.1]
      exact ⟨fun q => ⟨h9, q.2⟩, fun q => ⟨Or.inl h9, q.2⟩⟩
    rw [e1, decide_eq_true h9]
    cases decide (isO M 9 (Int32.ofNat (rNm m)) (Int32.ofNat p) r) <;> cases decide (r ∈ l.take up) <;> rfl
  · rw [decide_eq_false h9, decide_eq_false (fun q : isO M 9 (Int32.ofNat (rNm m)) (Int32.ofNat p) r => h9 q.1)]; simp
theorem txR_mem {o p : Int32} {r : Nat} {u : List Nat} : r ∈ txR M u o p ↔ r ∈ u ∧ isO M 9 o p r := by
  unfold txR
  rw [txL_mem, mem_srt, List.mem_filter, decide_eq_true_iff]
theorem lk_T (hA : rA M mkO sl) (hc : cl M l) {j m kd p : Nat} (hp : ptO M mkO j m kd p 84) (up : Nat) : tsL M (chF M sl) l up (8 * j + p) = (txR M (l.take up) (Int32.ofNat (rNm m)) (Int32.ofNat p)).filter (tvP M (l.take up)) := by
  unfold tsL
  rw [lk_T0 hA hc hp]
  refine List.filter_congr fun r hr => ?_
  obtain ⟨hu, hi⟩ := txR_mem.mp hr
  unfold sdP tvP
  have eg : gv M l up r = gd M (l.take up) r := by unfold gv; rw [decide_eq_true hu, Bool.true_and]
  rw [eg]
  congr 2
  rw [Bool.eq_iff_iff, List.any_eq_true, List.any_eq_true]
  constructor
  · rintro ⟨e, he, h⟩
    unfold tcL at he
    obtain ⟨h1, h2⟩ := List.mem_filter.mp he
    simp only [Bool.and_eq_true, decide_eq_true_iff] at h
    obtain ⟨h3, h4, h5⟩ := h
    obtain ⟨h6, h7, h8⟩ := (chL_gm hA hc hp up (t := e)).mp ⟨h1, h5⟩
    refine ⟨e, h6, ?_⟩
    unfold erP
    rw [decide_eq_true h3, decide_eq_true h4, h8]; rfl
  · rintro ⟨e, he, h⟩
    unfold erP at h
    simp only [Bool.and_eq_true, decide_eq_true_iff] at h
    obtain ⟨h3, h4, h5⟩ := h
    have hme := mem_u hc he
    obtain ⟨t, t1, t2, t3, t4, t5, t6⟩ := (hA.1 e hme).2.2.2.2.2.2.2.2.2.2.1 h3
    have ht : t = r := rNm_inj t1.1 (mem_u hc hu).1 (t5.symm.trans h4)
    subst ht
    have := (chL_gm hA hc hp up (t := e)).mpr ⟨he, ⟨(ru_of hA hme).2.2.2.2.2.1.mpr (Or.inr h3), by rw [← t3, hi.2.1], by rw [← t4, hi.2.2]⟩, h5⟩
    refine ⟨e, ?_, ?_⟩
    · unfold tcL
      refine List.mem_filter.mpr ⟨this.1, ?_⟩
      unfold apP
      exact decide_eq_true he
    · rw [decide_eq_true h3, decide_eq_true h4, this.2]; rfl
end C
