-- part 46: chains and what the reference looks for
theorem ruS_cases {s : Int32} {n : Nat} (hn : n < 19) (h : s = Int32.ofNat n) : (ruS s = 76 ↔ s = 1) ∧ (ruS s = 83 ↔ s = 2) ∧ (ruS s = 67 ↔ s = 3) ∧ (ruS s = 66 ↔ s = 4 ∨ s = 5 ∨ s = 6) ∧ (ruS s = 65 ↔ s = 7 ∨ s = 8) ∧ (ruS s = 84 ↔ s = 9 ∨ s = 10) ∧ (ruS s = 77 ↔ s = 15 ∨ s = 16) ∧ (ruS s = 0 ↔ s = 0 ∨ s = 11 ∨ s = 12 ∨ s = 13 ∨ s = 14 ∨ s = 17 ∨ s = 18) := by
  subst h
  have key : ∀ n, n < 19 → ((ruS (Int32.ofNat n) = 76 ↔ Int32.ofNat n = 1) ∧ (ruS (Int32.ofNat n) = 83 ↔ Int32.ofNat n = 2) ∧ (ruS (Int32.ofNat n) = 67 ↔ Int32.ofNat n = 3) ∧ (ruS (Int32.ofNat n) = 66 ↔ Int32.ofNat n = 4 ∨ Int32.ofNat n = 5 ∨ Int32.ofNat n = 6) ∧ (ruS (Int32.ofNat n) = 65 ↔ Int32.ofNat n = 7 ∨ Int32.ofNat n = 8) ∧ (ruS (Int32.ofNat n) = 84 ↔ Int32.ofNat n = 9 ∨ Int32.ofNat n = 10) ∧ (ruS (Int32.ofNat n) = 77 ↔ Int32.ofNat n = 15 ∨ Int32.ofNat n = 16) ∧ (ruS (Int32.ofNat n) = 0 ↔ Int32.ofNat n = 0 ∨ Int32.ofNat n = 11 ∨ Int32.ofNat n = 12 ∨ Int32.ofNat n = 13 ∨ Int32.ofNat n = 14 ∨ Int32.ofNat n = 17 ∨ Int32.ofNat n = 18)) := by decide +kernel
  exact key n hn
section C
variable {M : mSt} {mkO : Nat → Option Nat} {sl : Nat → Int32} {l : List Nat}
theorem ru_of (hA : rA M mkO sl) {r : Nat} (hr : mde M r) : (ruS (M.2 9 r) = 76 ↔ M.2 9 r = 1) ∧ (ruS (M.2 9 r) = 83 ↔ M.2 9 r = 2) ∧ (ruS (M.2 9 r) = 67 ↔ M.2 9 r = 3) ∧ (ruS (M.2 9 r) = 66 ↔ M.2 9 r = 4 ∨ M.2 9 r = 5 ∨ M.2 9 r = 6) ∧ (ruS (M.2 9 r) = 65 ↔ M.2 9 r = 7 ∨ M.2 9 r = 8) ∧ (ruS (M.2 9 r) = 84 ↔ M.2 9 r = 9 ∨ M.2 9 r = 10) ∧ (ruS (M.2 9 r) = 77 ↔ M.2 9 r = 15 ∨ M.2 9 r = 16) ∧ (ruS (M.2 9 r) = 0 ↔ M.2 9 r = 0 ∨ M.2 9 r = 11 ∨ M.2 9 r = 12 ∨ M.2 9 r = 13 ∨ M.2 9 r = 14 ∨ M.2 9 r = 17 ∨ M.2 9 r = 18) := by
  obtain ⟨s, hs, es⟩ := (hA.1 r hr).1
  exact ruS_cases hs es
theorem sl8 (j k : Nat) : Int32.ofNat j * 8 + Int32.ofNat k = Int32.ofNat (8 * j + k) := by
  rw [show (8 : Int32) = Int32.ofNat 8 from rfl, jI_mul, jI_add, Nat.mul_comm]
/-- where a row stands, by its chain -/
theorem chF_cases (hA : rA M mkO sl) {r : Nat} (hr : mde M r) : ((M.2 9 r = 0 ∨ M.2 9 r = 13 ∨ M.2 9 r = 14) ∧ chF M sl r = -1) ∨ (M.2 9 r = 11 ∧ chF M sl r = Int32.ofNat 384) ∨
    ∃ j m kd, j < 48 ∧ kd < 8 ∧ mkO j = some m ∧ mde M m ∧ M.2 9 m = 0 ∧ M.2 12 m = Int32.ofNat kd ∧ M.2 10 r = Int32.ofNat (rNm m) ∧ sl r = Int32.ofNat j ∧
      ((M.2 9 r = 12 ∧ ruS (M.2 9 r) = 0 ∧ chF M sl r = Int32.ofNat (8 * j + 6)) ∨ ((M.2 9 r = 17 ∨ M.2 9 r = 18) ∧ ruS (M.2 9 r) = 0 ∧ chF M sl r = Int32.ofNat (8 * j + 7)) ∨ (ruS (M.2 9 r) ≠ 0 ∧ ∃ p, p < 6 ∧ M.2 11 r = Int32.ofNat p ∧ M.2 6 (6 * kd + p) = ruS (M.2 9 r) ∧ chF M sl r = Int32.ofNat (8 * j + p))) := by
  have hF := hA.1 r hr
  have hru := (ru_of hA hr).2.2.2.2.2.2.2
  unfold chF
  by_cases h1 : M.2 9 r = 0 ∨ M.2 9 r = 13 ∨ M.2 9 r = 14
  · exact Or.inl ⟨h1, if_pos h1⟩
  · obtain ⟨j, m, kd, a1, a2, a3, a4, a5, a6, a7, a8, a9, a10, a11⟩ := hF.2.2.2.2.2.2.1 h1
    rw [if_neg h1]
    by_cases h2 : M.2 9 r = 11
    · exact Or.inr (Or.inl ⟨h2, if_pos h2⟩)
    · refine Or.inr (Or.inr ⟨j, m, kd, a1, a2, a3, a4, a5, a6, a7, a8, ?_⟩)
      rw [if_neg h2]
      by_cases h3 : M.2 9 r = 12
      · refine Or.inl ⟨h3, hru.mpr (Or.inr (Or.inr (Or.inl h3))), ?_⟩
        rw [if_pos h3, a8]; exact sl8 j 6
      · rw [if_neg h3]
        by_cases h4 : M.2 9 r = 17 ∨ M.2 9 r = 18
        · refine Or.inr (Or.inl ⟨h4, hru.mpr ?_, ?_⟩)
          · rcases h4 with h | h
            · exact Or.inr (Or.inr (Or.inr (Or.inr (Or.inr (Or.inl h)))))
            · exact Or.inr (Or.inr (Or.inr (Or.inr (Or.inr (Or.inr h)))))
          · rw [if_pos h4, a8]; exact sl8 j 7
        · have hne : ruS (M.2 9 r) ≠ 0 := fun q => by
            rcases hru.mp q with h | h | h | h | h | h | h
            · exact h1 (Or.inl h)
            · exact h2 h
            · exact h3 h
            · exact h1 (Or.inr (Or.inl h))
            · exact h1 (Or.inr (Or.inr h))
            · exact h4 (Or.inl h)
            · exact h4 (Or.inr h)
          obtain ⟨p, p1, p2, p3⟩ := a11 hne
          refine Or.inr (Or.inr ⟨hne, p, p1, p2, p3, ?_⟩)
          rw [if_neg h4, a8, p2]; exact sl8 j p
theorem chF_rng (hA : rA M mkO sl) {r : Nat} (hr : mde M r) : chF M sl r = -1 ∨ ∃ c, c < 385 ∧ chF M sl r = Int32.ofNat c := by
  rcases chF_cases hA hr with ⟨_, h⟩ | ⟨_, h⟩ | ⟨j, m, kd, a1, a2, a3, a4, a5, a6, a7, a8, h⟩
  · exact Or.inl h
  · exact Or.inr ⟨384, by decide, h⟩
  · rcases h with ⟨_, _, h⟩ | ⟨_, _, h⟩ | ⟨_, p, p1, _, _, h⟩
    · exact Or.inr ⟨8 * j + 6, by omega, h⟩
    · exact Or.inr ⟨8 * j + 7, by omega, h⟩
    · exact Or.inr ⟨8 * j + p, by omega, h⟩
theorem mk_nm (hA : rA M mkO sl) {j j' m m' : Nat} (h : mkO j = some m) (h' : mkO j' = some m') : Int32.ofNat (rNm m) = Int32.ofNat (rNm m') ↔ j = j' := by
  constructor
  · intro e
    have := rNm_inj (hA.2.1.1 j m h).2.1.1 (hA.2.1.1 j' m' h').2.1.1 e
    subst this
    exact hA.2.1.2.1 j j' m h h'
  · intro e
    subst e
    rw [h] at h'
    rw [Option.some.inj h']
/-- the rows of a part -/
theorem chE (hA : rA M mkO sl) {j m kd p : Nat} (hm : mkO j = some m) (hk : M.2 12 m = Int32.ofNat kd) (hkd : kd < 8) (hp : p < 6) {r : Nat} (hr : mde M r) : chF M sl r = Int32.ofNat (8 * j + p) ↔ ruS (M.2 9 r) ≠ 0 ∧ M.2 10 r = Int32.ofNat (rNm m) ∧ M.2 11 r = Int32.ofNat p := by
  have hj := (hA.2.1.1 j m hm).1
  have hru := (ru_of hA hr).2.2.2.2.2.2.2
  rcases chF_cases hA hr with ⟨h1, h⟩ | ⟨h1, h⟩ | ⟨j', m', kd', a1, a2, a3, a4, a5, a6, a7, a8, h⟩
  · rw [h]
    refine ⟨fun q => absurd q.symm (jI_ne (by omega)), fun q => absurd (hru.mpr ?_) q.1⟩
    rcases h1 with h | h | h
    · exact Or.inl h
    · exact Or.inr (Or.inr (Or.inr (Or.inl h)))
    · exact Or.inr (Or.inr (Or.inr (Or.inr (Or.inl h))))
  · rw [h]
    exact ⟨fun q => absurd ((jI_inj (by omega) (by omega)).mp q) (by omega), fun q => absurd (hru.mpr (Or.inr (Or.inl h1))) q.1⟩
  · rw [a7, mk_nm hA a3 hm]
    rcases h with ⟨b1, b2', h⟩ | ⟨b1, b2', h⟩ | ⟨b1, p', p1, p2, p3, h⟩
    · rw [h]; exact ⟨fun q => absurd ((jI_inj (by omega) (by omega)).mp q) (by omega), fun q => absurd b2' q.1⟩
    · rw [h]; exact ⟨fun q => absurd ((jI_inj (by omega) (by omega)).mp q) (by omega), fun q => absurd b2' q.1⟩
    · rw [h, p2, jI_inj (by omega) (by omega), jI_inj (by omega) (by omega)]
      exact ⟨fun q => ⟨b1, by omega, by omega⟩, fun q => by rw [q.2.1, q.2.2]⟩
/-- a part's rows are of its rule -/
theorem ruE (hA : rA M mkO sl) {j m kd p : Nat} (hm : mkO j = some m) (hk : M.2 12 m = Int32.ofNat kd) (hkd : kd < 8) (hp : p < 6) {r : Nat} (hr : mde M r) (h : ruS (M.2 9 r) ≠ 0 ∧ M.2 10 r = Int32.ofNat (rNm m) ∧ M.2 11 r = Int32.ofNat p) : ruS (M.2 9 r) = M.2 6 (6 * kd + p) := by
  have hru := (ru_of hA hr).2.2.2.2.2.2.2
  have h0 : ¬ (M.2 9 r = 0 ∨ M.2 9 r = 13 ∨ M.2 9 r = 14) := fun q => h.1 (hru.mpr (by
    rcases q with h | h | h
    · exact Or.inl h
    · exact Or.inr (Or.inr (Or.inr (Or.inl h)))
    · exact Or.inr (Or.inr (Or.inr (Or.inr (Or.inl h))))))
  obtain ⟨j', m', kd', a1, a2, a3, a4, a5, a6, a7, a8, a9, a10, a11⟩ := (hA.1 r hr).2.2.2.2.2.2.1 h0
  obtain ⟨p', p1, p2, p3⟩ := a11 h.1
  have e1 : j' = j := (mk_nm hA a3 hm).mp (a7.symm.trans h.2.1)
  subst e1
  rw [hm] at a3
  have e2 := Option.some.inj a3
  subst e2
  have e3 : kd = kd' := (jI_inj (by omega) (by omega)).mp (hk.symm.trans a6)
  have e4 : p = p' := (jI_inj (by omega) (by omega)).mp (h.2.2.symm.trans p2)
  subst e3
  subst e4
  exact p3.symm
theorem chE6 (hA : rA M mkO sl) {j m : Nat} (hm : mkO j = some m) {r : Nat} (hr : mde M r) : chF M sl r = Int32.ofNat (8 * j + 6) ↔ M.2 9 r = 12 ∧ M.2 10 r = Int32.ofNat (rNm m) := by
  have hj := (hA.2.1.1 j m hm).1
  rcases chF_cases hA hr with ⟨h1, h⟩ | ⟨h1, h⟩ | ⟨j', m', kd', a1, a2, a3, a4, a5, a6, a7, a8, h⟩
  · rw [h]
    refine ⟨fun q => absurd q.symm (jI_ne (by omega)), fun q => ?_⟩
    rcases h1 with h | h | h <;> (rw [h] at q; exact absurd q.1 (by decide))
  · rw [h, h1]
    exact ⟨fun q => absurd ((jI_inj (by omega) (by omega)).mp q) (by omega), fun q => absurd q.1 (by decide)⟩
  · rw [a7, mk_nm hA a3 hm]
    rcases h with ⟨b1, b2', h⟩ | ⟨b1, b2', h⟩ | ⟨b1, p', p1, p2, p3, h⟩
    · rw [h, jI_inj (by omega) (by omega)]; exact ⟨fun q => ⟨b1, by omega⟩, fun q => by rw [q.2]⟩
    · rw [h]
      refine ⟨fun q => absurd ((jI_inj (by omega) (by omega)).mp q) (by omega), fun q => ?_⟩
      rcases b1 with h | h <;> (rw [h] at q; exact absurd q.1 (by decide))
    · rw [h]
      refine ⟨fun q => absurd ((jI_inj (by omega) (by omega)).mp q) (by omega), fun q => ?_⟩
      rw [q.1] at b1; exact absurd b1 (by decide)
theorem chE7 (hA : rA M mkO sl) {j m : Nat} (hm : mkO j = some m) {r : Nat} (hr : mde M r) : chF M sl r = Int32.ofNat (8 * j + 7) ↔ (M.2 9 r = 17 ∨ M.2 9 r = 18) ∧ M.2 10 r = Int32.ofNat (rNm m) := by
  have hj := (hA.2.1.1 j m hm).1
  rcases chF_cases hA hr with ⟨h1, h⟩ | ⟨h1, h⟩ | ⟨j', m', kd', a1, a2, a3, a4, a5, a6, a7, a8, h⟩
  · rw [h]
    refine ⟨fun q => absurd q.symm (jI_ne (by omega)), fun q => ?_⟩
    rcases h1 with h | h | h <;> (rw [h] at q; exact absurd q.1 (by decide))
  · rw [h, h1]
    exact ⟨fun q => absurd ((jI_inj (by omega) (by omega)).mp q) (by omega), fun q => absurd q.1 (by decide)⟩
  · rw [a7, mk_nm hA a3 hm]
    rcases h with ⟨b1, b2', h⟩ | ⟨b1, b2', h⟩ | ⟨b1, p', p1, p2, p3, h⟩
    · rw [h, b1]
      exact ⟨fun q => absurd ((jI_inj (by omega) (by omega)).mp q) (by omega), fun q => absurd q.1 (by decide)⟩
    · rw [h, jI_inj (by omega) (by omega)]; exact ⟨fun q => ⟨b1, by omega⟩, fun q => by rw [q.2]⟩
    · rw [h]
      refine ⟨fun q => absurd ((jI_inj (by omega) (by omega)).mp q) (by omega), fun q => ?_⟩
      rcases q.1 with h | h <;> (rw [h] at b1; exact absurd b1 (by decide))
theorem chE11 (hA : rA M mkO sl) {r : Nat} (hr : mde M r) : chF M sl r = Int32.ofNat 384 ↔ M.2 9 r = 11 := by
  rcases chF_cases hA hr with ⟨h1, h⟩ | ⟨h1, h⟩ | ⟨j', m', kd', a1, a2, a3, a4, a5, a6, a7, a8, h⟩
  · rw [h]
    refine ⟨fun q => absurd q (by decide), fun q => ?_⟩
    rcases h1 with h | h | h <;> (rw [h] at q; exact absurd q (by decide))
  · rw [h]; exact ⟨fun _ => h1, fun _ => rfl⟩
  · rcases h with ⟨b1, b2', h⟩ | ⟨b1, b2', h⟩ | ⟨b1, p', p1, p2, p3, h⟩
    · rw [h, b1]; exact ⟨fun q => absurd ((jI_inj (by omega) (by omega)).mp q) (by omega), fun q => absurd q (by decide)⟩
    · rw [h]
      refine ⟨fun q => absurd ((jI_inj (by omega) (by omega)).mp q) (by omega), fun q => ?_⟩
      rcases b1 with h | h <;> (rw [h] at q; exact absurd q (by decide))
    · rw [h]
      refine ⟨fun q => absurd ((jI_inj (by omega) (by omega)).mp q) (by omega), fun q => ?_⟩
      rw [q] at b1; exact absurd b1 (by decide)
/-- what a view sees of its ledger's rows is what the first rows show -/
theorem flt_gv (hn : l.Nodup) (up : Nat) (P : Nat → Bool) : l.filter (fun r => P r && gv M l up r) = (l.take up).filter (fun r => P r && gd M (l.take up) r) := by
  have e : l = l.take up ++ l.drop up := (List.take_append_drop up l).symm
  have hd : ∀ r ∈ l.drop up, r ∉ l.take up := by
    intro r h1 h2
    rw [e] at hn
    exact (List.nodup_append.mp hn).2.2 r h2 r h1 rfl
  have e1 : l.filter (fun r => P r && gv M l up r) = (l.take up ++ l.drop up).filter (fun r => P r && gv M l up r) := by rw [List.take_append_drop]
  rw [e1, List.filter_append]
  have e2 : (l.drop up).filter (fun r => P r && gv M l up r) = [] := by
    rw [List.filter_eq_nil_iff]
    intro r hr
    unfold gv
    rw [decide_eq_false (hd r hr)]
    simp
  rw [e2, List.append_nil]
  refine List.filter_congr fun r hr => ?_
  unfold gv
  rw [decide_eq_true hr, Bool.true_and]
theorem flt_ap (hn : l.Nodup) (up : Nat) (P : Nat → Bool) : l.filter (fun r => P r && decide (r ∈ l.take up)) = (l.take up).filter P := by
  have e : l = l.take up ++ l.drop up := (List.take_append_drop up l).symm
  have hd : ∀ r ∈ l.drop up, r ∉ l.take up := by
    intro r h1 h2
    rw [e] at hn
    exact (List.nodup_append.mp hn).2.2 r h2 r h1 rfl
  have e1 : l.filter (fun r => P r && decide (r ∈ l.take up)) = (l.take up ++ l.drop up).filter (fun r => P r && decide (r ∈ l.take up)) := by rw [List.take_append_drop]
  rw [e1, List.filter_append]
  have e2 : (l.drop up).filter (fun r => P r && decide (r ∈ l.take up)) = [] := by
    rw [List.filter_eq_nil_iff]
    intro r hr
    rw [decide_eq_false (hd r hr)]
    simp
  rw [e2, List.append_nil]
  refine List.filter_congr fun r hr => ?_
  rw [decide_eq_true hr, Bool.and_true]
/-- the good rows of a chain, in order -/
theorem chL_gv (hn : l.Nodup) (ch : Nat → Int32) (up c : Nat) (P : Nat → Bool) : (chL M ch l c).filter (fun r => P r && gv M l up r) = srt (rK M) ((l.take up).filter (fun r => (decide (ch r = Int32.ofNat c) && P r) && gd M (l.take up) r)) := by
  unfold chL
  rw [flt_srt, List.filter_filter]
  congr 1
  rw [← flt_gv hn up]
  refine List.filter_congr fun r _ => ?_
  cases decide (ch r = Int32.ofNat c) <;> cases P r <;> simp
theorem chL_gv1 (hn : l.Nodup) (ch : Nat → Int32) (up c : Nat) : (chL M ch l c).filter (gv M l up) = srt (rK M) ((l.take up).filter (fun r => decide (ch r = Int32.ofNat c) && gd M (l.take up) r)) := by
  have h := chL_gv (M := M) hn ch up c (fun _ => true)
  simp only [Bool.true_and, Bool.and_true] at h
  exact h
/-- the last good row of a chain, as the reference's best -/
theorem lgR_bst (hn : l.Nodup) (ch : Nat → Int32) (up c : Nat) : lgR M ch l up c = bst (rK M) ((l.take up).filter (fun r => decide (ch r = Int32.ofNat c) && gd M (l.take up) r)) := by
  unfold lgR bst
  rw [rev_find, chL_gv1 hn]
theorem mem_u {up : Nat} (h : cl M l) {r : Nat} (hr : r ∈ l.take up) : mde M r := cl_mem h (List.mem_of_mem_take hr)
end C
