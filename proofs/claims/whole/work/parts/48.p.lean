-- part 48: there, leases, moves, texts in order, objects by slots
section C
variable {M : mSt} {mkO : Nat → Option Nat} {sl : Nat → Int32} {l : List Nat}
theorem mkN_mk (hA : rA M mkO sl) {j m : Nat} (hm : mkO j = some m) (u : List Nat) : mkN M u (Int32.ofNat (rNm m)) = decide (m ∈ u) := by
  obtain ⟨h1, h2, h3⟩ := hA.2.1.1 j m hm
  unfold mkN
  rw [rOf_nm h2.1]
  show decide (m ∈ u ∧ M.2 9 m = 0) = _
  rw [decide_eq_decide]
  exact ⟨fun q => q.1, fun q => ⟨q, h3⟩⟩
theorem lk_there (hA : rA M mkO sl) (hc : cl M l) {j m : Nat} (hm : mkO j = some m) (up : Nat) : vTh M (chF M sl) mkO l up j = thN M (l.take up) (Int32.ofNat (rNm m)) := by
  unfold vTh thN vMd
  rw [mkN_mk hA hm, hm]
  show (decide (m ∈ l.take up) && _) = _
  congr 1
  rw [Bool.eq_iff_iff]
  rw [Option.isNone_iff_eq_none]
  unfold lgR
  rw [List.find?_eq_none]
  simp only [Bool.not_eq_true', List.any_eq_false, List.mem_reverse]
  constructor
  · intro h r hr h2
    unfold dpP at h2
    simp only [Bool.and_eq_true, decide_eq_true_iff] at h2
    refine h r (chL_mem.mpr ⟨List.mem_of_mem_take hr, (chE6 hA hm (mem_u hc hr)).mpr ⟨h2.1, h2.2.1⟩⟩) ?_
    unfold gv
    rw [decide_eq_true hr, h2.2.2]; rfl
  · intro h r hr h2
    obtain ⟨h3, h4⟩ := chL_mem.mp hr
    unfold gv at h2
    rw [Bool.and_eq_true, decide_eq_true_iff] at h2
    obtain ⟨h5, h6⟩ := (chE6 hA hm (cl_mem hc h3)).mp h4
    refine h r h2.1 ?_
    unfold dpP
    rw [decide_eq_true h5, decide_eq_true h6, h2.2]; rfl
theorem lk_hold (hA : rA M mkO sl) (hc : cl M l) {j m : Nat} (hm : mkO j = some m) : chL M (chF M sl) l (8 * j + 7) = clL M l (Int32.ofNat (rNm m)) := by
  unfold chL clL
  congr 1
  refine List.filter_congr fun r hr => ?_
  rw [decide_eq_decide, chE7 hA hm (cl_mem hc hr)]
theorem lk_move (hA : rA M mkO sl) (hc : cl M l) (up : Nat) : (chL M (chF M sl) l 384).filter (gv M l up) = mvL M (l.take up) := by
  rw [chL_gv1 (cl_nd hc)]
  unfold mvL
  congr 1
  refine List.filter_congr fun r hr => ?_
  congr 1
  rw [decide_eq_decide, chE11 hA (mem_u hc hr)]
theorem lk_par (hA : rA M mkO sl) (hc : cl M l) (up : Nat) : paF M (chF M sl) sl mkO l up = paL M mkO sl (mvL M (l.take up)) := by unfold paF; rw [lk_move hA hc]
/-- at most four puts stand beside each other -/
theorem sv_le (hA : rA M mkO sl) (hc : cl M l) (up c : Nat) : (svL M (chF M sl) l up c).length ≤ 4 := by
  have hnd : (svL M (chF M sl) l up c).Nodup := (chL_nd (cl_nd hc) c).sublist List.filter_sublist
  have hin : ∀ r ∈ svL M (chF M sl) l up c, r ∈ chL M (chF M sl) l c ∧ svP M (chF M sl) l up c r = true := fun r hr => List.mem_filter.mp hr
  have h1 : ((svL M (chF M sl) l up c).map rN).Nodup := by
    rw [List.nodup_iff_pairwise_ne, List.pairwise_map]
    rw [List.nodup_iff_pairwise_ne] at hnd
    refine hnd.imp_of_mem fun {a b} ha hb hne e => hne ?_
    obtain ⟨a1, a2⟩ := hin a ha
    obtain ⟨b1, b2'⟩ := hin b hb
    have ma := cl_mem hc (chL_mem.mp a1).1
    have mb := cl_mem hc (chL_mem.mp b1).1
    unfold svP at a2 b2'
    rw [Bool.and_eq_true, decide_eq_true_iff] at a2 b2'
    rcases Nat.lt_trichotomy (rM a) (rM b) with q | q | q
    · exact absurd ((kn_own (hA.1 b mb) e).mpr q) (a2.2 b b1 b2'.1)
    · exact row_eq e q
    · exact absurd ((kn_own (hA.1 a ma) e.symm).mpr q) (b2'.2 a a1 a2.1)
  have h2 := nd48 4 _ h1 (fun x hx => by
    obtain ⟨r, hr, rfl⟩ := List.mem_map.mp hx
    exact rN_lt (cl_mem hc (chL_mem.mp (hin r hr).1).1).1)
  rwa [List.length_map] at h2
/-- in an ordered list what is less stands earlier -/
theorem sdl_take {K : Nat → Nat} {L : List Nat} (hs : sdl K L) {k t : Nat} (hk : k < L.length) (ht : t ∈ L) (hlt : K t < K L[k]) : t ∈ L.take k := by
  obtain ⟨i, hi, rfl⟩ := List.mem_iff_getElem.mp ht
  have hik : i < k := by
    rcases Nat.lt_trichotomy i k with q | q | q
    · exact q
    · subst q; omega
    · have := (List.pairwise_iff_getElem.mp hs) k i hk hi q
      omega
  have h2 : i < (L.take k).length := by rw [List.length_take]; omega
  have h3 : (L.take k)[i] = L[i] := List.getElem_take
  rw [← h3]; exact List.getElem_mem h2
theorem txOk_cl (hA : rA M mkO sl) {u : List Nat} (hc : cl M u) (o p : Int32) : txOk M (srt (rK M) (u.filter (fun r => decide (isO M 9 o p r)))) := by
  intro k hk
  have hm := List.mem_filter.mp (mem_srt.mp (List.getElem_mem hk))
  have hi : isO M 9 o p _ := of_decide_eq_true hm.2
  have hmd := cl_mem hc hm.1
  refine ⟨hmd.1, ?_⟩
  rcases (hA.1 _ hmd).2.2.2.2.2.2.2.2.2.1 hi.1 with h0 | ⟨t, t1, t2, t3, t4, t5, t6⟩
  · exact Or.inl h0
  · refine Or.inr ⟨t, by rw [t5]; exact rOf_nm t1.1, sdl_take (sdl_srt _ _) hk ?_ ((hA.1 _ hmd).2.2.2.1 t t1 t6)⟩
    exact mem_srt.mpr (List.mem_filter.mpr ⟨cl_kn hc hm.1 t1 t6, decide_eq_true ⟨t2, by rw [t3]; exact hi.2.1, by rw [t4]; exact hi.2.2⟩⟩)
theorem tcOk_cl (hA : rA M mkO sl) (hc : cl M l) {j m kd p : Nat} (hp : ptO M mkO j m kd p 84) (up : Nat) : tcOk M (chF M sl) l up (8 * j + p) := by
  intro i hi hap
  have hap' := of_decide_eq_true hap
  have hmd := mem_u hc hap'
  have hch := (chL_mem.mp (List.getElem_mem hi)).2
  obtain ⟨r1, r2⟩ := (chR hA hp hmd).mp hch
  have key : ∀ t, rIn M (chL M (chF M sl) l (8 * j + p))[i] t → rOf (M.2 13 (chL M (chF M sl) l (8 * j + p))[i]) = some t ∧ t ∈ ((chL M (chF M sl) l (8 * j + p)).take i).filter (apP l up) ∧ M.2 9 t = 9 := by
    rintro t ⟨t1, t2, t3, t4, t5, t6⟩
    have htu := cl_kn (cl_take hc up) hap' t1 t6
    refine ⟨by rw [t5]; exact rOf_nm t1.1, List.mem_filter.mpr ⟨sdl_take (sdl_srt _ _) hi ?_ ((hA.1 _ hmd).2.2.2.1 t t1 t6), decide_eq_true htu⟩, t2⟩
    exact chL_mem.mpr ⟨List.mem_of_mem_take htu, (chR hA hp t1).mpr ⟨(ru_of hA t1).2.2.2.2.2.1.mpr (Or.inl t2), by rw [t3]; exact r2.1, by rw [t4]; exact r2.2⟩⟩
  rcases (ru_of hA hmd).2.2.2.2.2.1.mp r1 with h9 | h10
  · refine Or.inl ⟨h9, ?_⟩
    rcases (hA.1 _ hmd).2.2.2.2.2.2.2.2.2.1 h9 with h0 | ⟨t, ht⟩
    · exact Or.inl h0
    · exact Or.inr ⟨t, key t ht⟩
  · refine Or.inr ⟨h10, ?_⟩
    obtain ⟨t, ht⟩ := (hA.1 _ hmd).2.2.2.2.2.2.2.2.2.2.1 h10
    exact ⟨t, key t ht⟩
theorem ky_rng (hA : rA M mkO sl) (hc : cl M l) {j m kd p : Nat} {rl : Int32} (hp : ptO M mkO j m kd p rl) (hr : rl = 65 ∨ rl = 77) : ∀ r ∈ chL M (chF M sl) l (8 * j + p), ∃ x, x < 64 ∧ M.2 12 r = Int32.ofNat x := by
  intro r hm
  obtain ⟨h1, h2⟩ := chL_mem.mp hm
  have hmd := cl_mem hc h1
  have h3 := ((chR hA hp hmd).mp h2).1
  refine (hA.1 r hmd).2.2.2.2.2.2.2.2.1 ?_
  rcases hr with e | e
  · rw [e] at h3
    rcases (ru_of hA hmd).2.2.2.2.1.mp h3 with h | h
    · exact Or.inl h
    · exact Or.inr (Or.inl h)
  · rw [e] at h3
    exact Or.inr (Or.inr ((ru_of hA hmd).2.2.2.2.2.2.1.mp h3))
theorem ln_rng (hA : rA M mkO sl) (hc : cl M l) (c : Nat) : ∀ r ∈ chL M (chF M sl) l c, M.2 9 r = 6 → ∃ x, x < 4 ∧ M.2 13 r = Int32.ofNat x := fun r hm h6 => (hA.1 r (cl_mem hc (chL_mem.mp hm).1)).2.2.2.2.2.2.2.1 h6
theorem mv_rng (hA : rA M mkO sl) (hc : cl M l) : ∀ r ∈ chL M (chF M sl) l 384, ∃ s, s < 48 ∧ sl r = Int32.ofNat s := by
  intro r hm
  obtain ⟨h1, h2⟩ := chL_mem.mp hm
  have hmd := cl_mem hc h1
  have h11 := (chE11 hA hmd).mp h2
  obtain ⟨j, m, kd, a1, a2, a3, a4, a5, a6, a7, a8, _⟩ := (hA.1 r hmd).2.2.2.2.2.2.1 (by rw [h11]; decide)
  exact ⟨j, a1, a8⟩
theorem mvOk_cl (hA : rA M mkO sl) {u : List Nat} (hc : cl M u) : ∀ r ∈ u, M.2 9 r = 11 → mvOk M mkO sl u r := by
  intro r hr h11
  have hmd := cl_mem hc hr
  obtain ⟨j, m, kd, a1, a2, a3, a4, a5, a6, a7, a8, a9, _⟩ := (hA.1 r hmd).2.2.2.2.2.2.1 (by rw [h11]; decide)
  refine ⟨j, m, a3, cl_kn hc hr a4 a9, a5, a7, a8, a1, ?_⟩
  rcases (hA.1 r hmd).2.2.2.2.2.2.2.2.2.2.2 h11 with h | ⟨j', m', b1, b2', b3, b4, b5⟩
  · exact Or.inl h
  · exact Or.inr ⟨j', m', b1, cl_kn hc hr b2' b5, b3, b4⟩
theorem slK_cl (hA : rA M mkO sl) {u : List Nat} (hc : cl M u) : slK M mkO u := by
  refine ⟨fun j m h => ⟨(hA.2.1.1 j m h).1, (hA.2.1.1 j m h).2.1.1⟩, hA.2.1.2.1, fun m hm h0 => ?_⟩
  obtain ⟨⟨j, _, h, _⟩, _⟩ := (hA.1 m (cl_mem hc hm)).2.2.2.2.1 h0
  exact ⟨j, h⟩
/-- ordered lists of the same rows -/
theorem ord_ext {K : Nat → Nat} : ∀ {L L' : List Nat}, L.Pairwise (fun a b => K a < K b) → L'.Pairwise (fun a b => K a < K b) → (∀ x, x ∈ L ↔ x ∈ L') → L = L' := by
  intro L
  induction L with
  | nil =>
    intro L' _ _ h
    cases L' with
    | nil => rfl
    | cons a L' => exact absurd ((h a).mpr List.mem_cons_self) (by simp)
  | cons a L ih =>
    intro L' h1 h2 h
    cases L' with
    | nil => exact absurd ((h a).mp List.mem_cons_self) (by simp)
    | cons b L' =>
      obtain ⟨p1, p2⟩ := List.pairwise_cons.mp h1
      obtain ⟨q1, q2⟩ := List.pairwise_cons.mp h2
      have e : a = b := by
        rcases List.mem_cons.mp ((h a).mp List.mem_cons_self) with h3 | h3
        · exact h3
        · rcases List.mem_cons.mp ((h b).mpr List.mem_cons_self) with h4 | h4
          · exact h4.symm
          · have := p1 b h4
            have := q1 a h3
            omega
      subst e
      congr 1
      refine ih p2 q2 fun x => ?_
      constructor
      · intro hx
        rcases List.mem_cons.mp ((h x).mp (List.mem_cons_of_mem _ hx)) with h3 | h3
        · subst h3; exact absurd (p1 x hx) (Nat.lt_irrefl _)
        · exact h3
      · intro hx
        rcases List.mem_cons.mp ((h x).mpr (List.mem_cons_of_mem _ hx)) with h3 | h3
        · subst h3; exact absurd (q1 x hx) (Nat.lt_irrefl _)
        · exact h3
/-- the objects of the rows u, by slots -/
def obS (mkO : Nat → Option Nat) (u : List Nat) (n : Nat) : List Nat := (List.range n).filterMap (fun j => match mkO j with | none => none | some m => if m ∈ u then some m else none)
theorem obS_succ (u : List Nat) (n : Nat) : obS mkO u (n + 1) = obS mkO u n ++ (match mkO n with | none => [] | some m => if m ∈ u then [m] else []) := by
  unfold obS
  rw [List.range_succ, List.filterMap_append]
  congr 1
  cases h : mkO n with
  | none => simp [h]
  | some m => by_cases h2 : m ∈ u <;> simp [h, h2]
theorem obS_mem {u : List Nat} {n x : Nat} : x ∈ obS mkO u n ↔ ∃ j, j < n ∧ mkO j = some x ∧ x ∈ u := by
  unfold obS
  rw [List.mem_filterMap]
  constructor
  · rintro ⟨j, h1, h2⟩
    refine ⟨j, List.mem_range.mp h1, ?_⟩
    cases h : mkO j with
    | none => rw [h] at h2; cases h2
    | some m =>
      rw [h] at h2
      by_cases h3 : m ∈ u
      · have : m = x := by simpa [h3] using h2
        subst this
        exact ⟨rfl, h3⟩
      · simp [h3] at h2
  · rintro ⟨j, h1, h2, h3⟩
    exact ⟨j, List.mem_range.mpr h1, by rw [h2]; simp [h3]⟩
theorem obS_ord (hA : rA M mkO sl) (u : List Nat) : ∀ n, (obS mkO u n).Pairwise (fun a b => rNm a < rNm b) := by
  intro n
  induction n with
  | zero => exact List.Pairwise.nil
  | succ n ih =>
    rw [obS_succ, List.pairwise_append]
    refine ⟨ih, ?_, ?_⟩
    · cases mkO n with
      | none => exact List.Pairwise.nil
      | some m => show List.Pairwise _ (if m ∈ u then [m] else []); split <;> simp
    · intro a ha b hb
      obtain ⟨j, j1, j2, _⟩ := obS_mem.mp ha
      cases h : mkO n with
      | none => rw [h] at hb; cases hb
      | some m =>
        rw [h] at hb
        have : b = m := by
          by_cases h3 : m ∈ u
          · simpa [h3] using hb
          · simp [h3] at hb
        subst this
        exact hA.2.1.2.2 j n a b j1 j2 h
theorem obL_obS (hA : rA M mkO sl) {u : List Nat} (hc : cl M u) : obL M u = obS mkO u 48 := by
  refine ord_ext (K := rNm) ?_ (obS_ord hA u 48) fun x => ?_
  · have h1 : sdl rNm (obL M u) := sdl_srt _ _
    have h2 : (obL M u).Nodup := ((perm_srt rNm _).nodup_iff).mpr ((cl_nd hc).sublist List.filter_sublist)
    refine (List.pairwise_and_iff.mpr ⟨h1, List.nodup_iff_pairwise_ne.mp h2⟩).imp_of_mem fun {a b} ha hb h => ?_
    have ma := cl_mem hc (obL_mem.mp ha).1
    have mb := cl_mem hc (obL_mem.mp hb).1
    rcases Nat.lt_or_eq_of_le h.1 with q | q
    · exact q
    · exact absurd (rNm_inj ma.1 mb.1 (by rw [q])) h.2
  · rw [obL_mem, obS_mem]
    constructor
    · rintro ⟨h1, h2⟩
      obtain ⟨⟨j, j1, j2, _⟩, _⟩ := (hA.1 x (cl_mem hc h1)).2.2.2.2.1 h2
      exact ⟨j, j1, j2, h1⟩
    · rintro ⟨j, _, j2, h1⟩
      exact ⟨h1, (hA.2.1.1 j x j2).2.2⟩
theorem obS_len (u : List Nat) (n : Nat) : (obS mkO u n).length ≤ n := by
  have := List.length_filterMap_le (fun j => match mkO j with | none => none | some m => if m ∈ u then some m else none) (List.range n)
  rwa [List.length_range] at this
theorem ob48 (hA : rA M mkO sl) {u : List Nat} (hc : cl M u) : (u.filter (mkP M)).length ≤ 48 := by
  have h1 : (obL M u).length = (u.filter (mkP M)).length := len_srt _ _
  rw [← h1, obL_obS hA hc]
  exact obS_len u 48
end C
