-- part 146: the reference walks along two texts
section V
variable {M C : mSt} {X Y : List Int32} {tt : Nat → Nat} {i j : Nat}
def wkS (C : mSt) (tt : Nat → Nat) (X Y : List Int32) : Prop := (X.length ≤ 1000 ∧ Y.length ≤ 40) ∧ (∀ i (h : i < X.length), C.2 73 i = X[i]) ∧ (∀ j (h : j < Y.length), C.2 2 j = Y[j]) ∧ (∀ i, i < X.length → C.2 72 i = Int32.ofNat (tt i) ∧ tt i < 1000) ∧ ∀ i' j', i' ≤ X.length → j' ≤ Y.length → C.2 71 (41 * i' + j') = Int32.ofNat (cmn X Y i' j')
theorem wkS_e (h : wkS C tt X Y) (e2 : M.2 2 = C.2 2) (e71 : M.2 71 = C.2 71) (e72 : M.2 72 = C.2 72) (e73 : M.2 73 = C.2 73) : wkS M tt X Y := by
  unfold wkS; rw [e2, e71, e72, e73]; exact h
theorem w_in (hi : i ≤ X.length) (hj : j ≤ Y.length) (hij : i < X.length ∨ j < Y.length) (hX : X.length ≤ 1000) (hY : Y.length ≤ 40) (fu : Nat) (v1 v2 v3 v6 v7 v10 : Int32) : fm_walk_12 (fu + 1) C v1 v2 v3 (Int32.ofNat X.length) (Int32.ofNat Y.length) v6 v7 (Int32.ofNat i) (Int32.ofNat j) v10 = fm_walk_26 (fm_walk_12 fu) C v1 v2 v3 (Int32.ofNat X.length) (Int32.ofNat Y.length) v6 v7 (Int32.ofNat i) (Int32.ofNat j) v10 := by
  rw [fm_walk_12]
  by_cases c : i < X.length
  · rw [if_pos ((jI_lt (by omega) (by omega)).mpr c)]
  · rw [if_neg (fun q => c ((jI_lt (by omega) (by omega)).mp q)), if_neg (fun q => absurd ((jI_le (by omega) (by omega)).mp q) (by omega))]
theorem w_out (hX : X.length ≤ 1000) (hY : Y.length ≤ 40) (fu : Nat) (v1 v2 v3 v6 v7 v10 : Int32) : fm_walk_12 (fu + 1) C v1 v2 v3 (Int32.ofNat X.length) (Int32.ofNat Y.length) v6 v7 (Int32.ofNat X.length) (Int32.ofNat Y.length) v10 = some (v7, C) := by
  rw [fm_walk_12, if_neg (fun q => Int32.lt_irrefl q), if_pos (Int32.le_refl _)]
theorem w_keep (h : wkS C tt X Y) (hi : i < X.length) (hj : j < Y.length) (hs : X[i] = Y[j]) (fu : Nat) (v1 v2 v3 v6 v7 v10 : Int32) : fm_walk_12 (fu + 1) C v1 v2 v3 (Int32.ofNat X.length) (Int32.ofNat Y.length) v6 v7 (Int32.ofNat i) (Int32.ofNat j) v10 = fm_walk_12 fu C v1 v2 v3 (Int32.ofNat X.length) (Int32.ofNat Y.length) v6 v7 (Int32.ofNat (i + 1)) (Int32.ofNat (j + 1)) (Int32.ofNat (rNm (tt i))) := by
  obtain ⟨⟨hX, hY⟩, h73, h2, h72, h71⟩ := h
  have e1 : (41 : Int32) * Int32.ofNat i + Int32.ofNat j = Int32.ofNat (41 * i + j) := by rw [show (41 : Int32) = Int32.ofNat 41 from rfl, jI_mul, jI_add]
  have e42 : Int32.ofNat (41 * i + j) + 42 = Int32.ofNat (41 * (i + 1) + (j + 1)) := by rw [show (42 : Int32) = Int32.ofNat 42 from rfl, jI_add]; congr 1; omega
  have r0 : rd C 71 (Int32.ofNat (41 * i + j)) = Int32.ofNat (cmn X Y i j) := by rw [rd_n _ _ (by omega)]; exact h71 _ _ (by omega) (by omega)
  have r42 : rd C 71 (Int32.ofNat (41 * (i + 1) + (j + 1))) = Int32.ofNat (cmn X Y (i + 1) (j + 1)) := by rw [rd_n _ _ (by omega)]; exact h71 _ _ (by omega) (by omega)
  have hc := cmn_c hi hj
  rw [if_pos hs] at hc
  rw [w_in (by omega) (by omega) (Or.inl hi) hX hY]
  unfold fm_walk_26
  rw [e1, lt_d, if_neg (fun q => absurd ((jI_le (by omega) (by omega)).mp q) (by omega)), if_neg (fun q => absurd ((jI_le (by omega) (by omega)).mp q) (by omega)), ck_n (by omega) (by omega), ck_n (by omega) (by omega), rd_n C 73 (by omega), rd_n C 2 (by omega), h73 i hi, h2 j hj, if_pos hs, ck_n (by omega) (by omega), e42, ck_n (by omega) (by omega), r0, r42, show (1 : Int32) + Int32.ofNat (cmn X Y (i + 1) (j + 1)) = Int32.ofNat (1 + cmn X Y (i + 1) (j + 1)) from jI_add 1 _, hc, if_pos rfl, ck_n (by omega) (by omega), rd_n C 72 (by omega), (h72 i hi).1, m_nameOf (h72 i hi).2, bd_s, lt_d, lt_d, show Int32.ofNat i + 1 = Int32.ofNat (i + 1) from jI_add _ 1, show Int32.ofNat j + 1 = Int32.ofNat (j + 1) from jI_add _ 1]
/-- no letter is kept here -/
theorem w_110 (h : wkS C tt X Y) (hi : i ≤ X.length) (hj : j ≤ Y.length) (hij : i < X.length ∨ j < Y.length) (hs : ∀ (h1 : i < X.length) (h2 : j < Y.length), X[i] ≠ Y[j]) (fu : Nat) (v1 v2 v3 v6 v7 v10 : Int32) : fm_walk_12 (fu + 1) C v1 v2 v3 (Int32.ofNat X.length) (Int32.ofNat Y.length) v6 v7 (Int32.ofNat i) (Int32.ofNat j) v10 = fm_walk_110 (fm_walk_12 fu) C v1 v2 v3 (Int32.ofNat X.length) (Int32.ofNat Y.length) v6 v7 (Int32.ofNat i) (Int32.ofNat j) v10 (Int32.ofNat (41 * i + j)) := by
  obtain ⟨⟨hX, hY⟩, h73, h2, h72, h71⟩ := h
  have e1 : (41 : Int32) * Int32.ofNat i + Int32.ofNat j = Int32.ofNat (41 * i + j) := by rw [show (41 : Int32) = Int32.ofNat 41 from rfl, jI_mul, jI_add]
  rw [w_in hi hj hij hX hY]
  unfold fm_walk_26
  rw [e1, lt_d]
  by_cases c1 : X.length ≤ i
  · rw [if_pos ((jI_le (by omega) (by omega)).mpr c1)]
  rw [if_neg (fun q => c1 ((jI_le (by omega) (by omega)).mp q))]
  by_cases c2 : Y.length ≤ j
  · rw [if_pos ((jI_le (by omega) (by omega)).mpr c2)]
  rw [if_neg (fun q => c2 ((jI_le (by omega) (by omega)).mp q)), ck_n (by omega) (by omega), ck_n (by omega) (by omega), rd_n C 73 (by omega), rd_n C 2 (by omega), h73 i (by omega), h2 j (by omega), if_neg (hs (by omega) (by omega))]
theorem w_del (h : wkS C tt X Y) (hi : i < X.length) (hj : j ≤ Y.length) (hs : ∀ (h1 : i < X.length) (h2 : j < Y.length), X[i] ≠ Y[j]) (hc : cmn X Y i j = cmn X Y (i + 1) j) (fu cnt : Nat) (v1 v2 v3 v6 v10 : Int32) : fm_walk_12 (fu + 1) C v1 v2 v3 (Int32.ofNat X.length) (Int32.ofNat Y.length) v6 (Int32.ofNat cnt) (Int32.ofNat i) (Int32.ofNat j) v10 = if v6 = 0 then fm_walk_12 fu C v1 v2 v3 (Int32.ofNat X.length) (Int32.ofNat Y.length) v6 (Int32.ofNat (cnt + 1)) (Int32.ofNat (i + 1)) (Int32.ofNat j) v10 else bd (fm_make C v1 10 v2 v3 0 (Int32.ofNat (rNm (tt i)))) fun q => fm_walk_12 fu q.2 v1 v2 v3 (Int32.ofNat X.length) (Int32.ofNat Y.length) v6 (Int32.ofNat (cnt + 1)) (Int32.ofNat (i + 1)) (Int32.ofNat j) v10 := by
  obtain ⟨⟨hX, hY⟩, h73, h2, h72, h71⟩ := id h
  have e41 : Int32.ofNat (41 * i + j) + 41 = Int32.ofNat (41 * (i + 1) + j) := by rw [show (41 : Int32) = Int32.ofNat 41 from rfl, jI_add]; congr 1; omega
  have r0 : rd C 71 (Int32.ofNat (41 * i + j)) = Int32.ofNat (cmn X Y i j) := by rw [rd_n _ _ (by omega)]; exact h71 _ _ (by omega) (by omega)
  have r41 : rd C 71 (Int32.ofNat (41 * (i + 1) + j)) = Int32.ofNat (cmn X Y (i + 1) j) := by rw [rd_n _ _ (by omega)]; exact h71 _ _ (by omega) (by omega)
  have s1 : ∀ z : Nat, Int32.ofNat z + 1 = Int32.ofNat (z + 1) := fun z => jI_add z 1
  rw [w_110 h (by omega) hj (Or.inl hi) hs]
  unfold fm_walk_110
  rw [lt_d, s1 cnt, if_neg (fun q => absurd ((jI_le (by omega) (by omega)).mp q) (by omega)), ck_n (by omega) (by omega), e41, ck_n (by omega) (by omega), r0, r41, if_pos (by rw [hc])]
  unfold fm_walk_166 fm_walk_200
  by_cases c : v6 = 0
  · rw [if_pos c, if_pos c, lt_d, s1 i]
  · rw [if_neg c, if_neg c, ck_n (by omega) (by omega), rd_n C 72 (by omega), (h72 i hi).1, m_nameOf (h72 i hi).2, bd_s]
    cases fm_make C v1 10 v2 v3 0 (Int32.ofNat (rNm (tt i))) with
    | none => rfl
    | some q => rw [bd_s, bd_s, lt_d, lt_d, lt_d, s1 i]
theorem w_ins (h : wkS C tt X Y) (hi : i ≤ X.length) (hj : j < Y.length) (hs : ∀ (h1 : i < X.length) (h2 : j < Y.length), X[i] ≠ Y[j]) (hc : i < X.length → cmn X Y i j ≠ cmn X Y (i + 1) j) (fu cnt : Nat) (v1 v2 v3 v6 v10 : Int32) : fm_walk_12 (fu + 1) C v1 v2 v3 (Int32.ofNat X.length) (Int32.ofNat Y.length) v6 (Int32.ofNat cnt) (Int32.ofNat i) (Int32.ofNat j) v10 = if v6 = 0 then fm_walk_12 fu C v1 v2 v3 (Int32.ofNat X.length) (Int32.ofNat Y.length) v6 (Int32.ofNat (cnt + 1)) (Int32.ofNat i) (Int32.ofNat (j + 1)) v10 else bd (fm_make C v1 9 v2 v3 Y[j] v10) fun q => fm_walk_12 fu q.2 v1 v2 v3 (Int32.ofNat X.length) (Int32.ofNat Y.length) v6 (Int32.ofNat (cnt + 1)) (Int32.ofNat i) (Int32.ofNat (j + 1)) q.1 := by
  obtain ⟨⟨hX, hY⟩, h73, h2, h72, h71⟩ := id h
  have e41 : Int32.ofNat (41 * i + j) + 41 = Int32.ofNat (41 * (i + 1) + j) := by rw [show (41 : Int32) = Int32.ofNat 41 from rfl, jI_add]; congr 1; omega
  have s1 : ∀ z : Nat, Int32.ofNat z + 1 = Int32.ofNat (z + 1) := fun z => jI_add z 1
  have tail : fm_walk_172 (fm_walk_12 fu) C v1 v2 v3 (Int32.ofNat X.length) (Int32.ofNat Y.length) v6 (Int32.ofNat (cnt + 1)) (Int32.ofNat i) (Int32.ofNat j) v10 = if v6 = 0 then fm_walk_12 fu C v1 v2 v3 (Int32.ofNat X.length) (Int32.ofNat Y.length) v6 (Int32.ofNat (cnt + 1)) (Int32.ofNat i) (Int32.ofNat (j + 1)) v10 else bd (fm_make C v1 9 v2 v3 Y[j] v10) fun q => fm_walk_12 fu q.2 v1 v2 v3 (Int32.ofNat X.length) (Int32.ofNat Y.length) v6 (Int32.ofNat (cnt + 1)) (Int32.ofNat i) (Int32.ofNat (j + 1)) q.1 := by
    unfold fm_walk_172 fm_walk_197 fm_walk_200
    by_cases c : v6 = 0
    · rw [if_pos c, if_pos c, lt_d, s1 j]
    · rw [if_neg c, if_neg c, ck_n (by omega) (by omega), rd_n C 2 (by omega), h2 j hj]
      cases fm_make C v1 9 v2 v3 Y[j] v10 with
      | none => rfl
      | some q => rw [bd_s, bd_s, lt_d, lt_d, lt_d, s1 j]
  rw [w_110 h hi (by omega) (Or.inr hj) hs]
  unfold fm_walk_110
  rw [lt_d, s1 cnt]
  by_cases c1 : X.length ≤ i
  · rw [if_pos ((jI_le (by omega) (by omega)).mpr c1)]; exact tail
  · have hi' : i < X.length := by omega
    have r0 : rd C 71 (Int32.ofNat (41 * i + j)) = Int32.ofNat (cmn X Y i j) := by rw [rd_n _ _ (by omega)]; exact h71 _ _ (by omega) (by omega)
    have r41 : rd C 71 (Int32.ofNat (41 * (i + 1) + j)) = Int32.ofNat (cmn X Y (i + 1) j) := by rw [rd_n _ _ (by omega)]; exact h71 _ _ (by omega) (by omega)
    have l1 := cmn_le X Y (i + 1) j
    have l2 := cmn_le X Y i j
    rw [if_neg (fun q => c1 ((jI_le (by omega) (by omega)).mp q)), ck_n (by omega) (by omega), e41, ck_n (by omega) (by omega), r0, r41, if_neg (fun q => hc hi' ((jI_inj (by omega) (by omega)).mp q))]
    exact tail
/-- which step is next, and what is left of what is in common -/
theorem w_next (hi : i ≤ X.length) (hj : j ≤ Y.length) (hij : i < X.length ∨ j < Y.length) : (∃ (h1 : i < X.length) (h2 : j < Y.length), X[i] = Y[j] ∧ cmn X Y i j = 1 + cmn X Y (i + 1) (j + 1)) ∨ ((∀ (h1 : i < X.length) (h2 : j < Y.length), X[i] ≠ Y[j]) ∧ ((i < X.length ∧ cmn X Y i j = cmn X Y (i + 1) j) ∨ (j < Y.length ∧ (i < X.length → cmn X Y i j ≠ cmn X Y (i + 1) j) ∧ cmn X Y i j = cmn X Y i (j + 1)))) := by
  by_cases c1 : i < X.length
  · by_cases c2 : j < Y.length
    · have hc := cmn_c c1 c2
      by_cases s : X[i] = Y[j]
      · rw [if_pos s] at hc; exact Or.inl ⟨c1, c2, s, hc⟩
      · rw [if_neg s] at hc
        refine Or.inr ⟨fun _ _ => s, ?_⟩
        by_cases d : cmn X Y i j = cmn X Y (i + 1) j
        · exact Or.inl ⟨c1, d⟩
        · exact Or.inr ⟨c2, fun _ => d, by omega⟩
    · refine Or.inr ⟨fun _ h => absurd h c2, Or.inl ⟨c1, ?_⟩⟩
      rw [cmn_y (by omega), cmn_y (by omega)]
  · refine Or.inr ⟨fun h => absurd h c1, Or.inr ⟨by omega, fun h => absurd h c1, ?_⟩⟩
    rw [cmn_x (by omega), cmn_x (by omega)]
/-- the walk that only counts -/
theorem m_walk0 (h : wkS C tt X Y) (v1 v2 v3 : Int32) : ∀ (d i j fu cnt : Nat) (v10 : Int32), (X.length - i) + (Y.length - j) = d → i ≤ X.length → j ≤ Y.length → d < fu → fm_walk_12 fu C v1 v2 v3 (Int32.ofNat X.length) (Int32.ofNat Y.length) 0 (Int32.ofNat cnt) (Int32.ofNat i) (Int32.ofNat j) v10 = some (Int32.ofNat (cnt + (d - 2 * cmn X Y i j)), C) := by
  intro d
  obtain ⟨⟨hX, hY⟩, -⟩ := id h
  induction d using Nat.strongRecOn with
  | ind d ih =>
    intro i j fu cnt v10 hd hi hj hf
    obtain ⟨fu, rfl⟩ : ∃ q, fu = q + 1 := ⟨fu - 1, by omega⟩
    by_cases c : i < X.length ∨ j < Y.length
    · have l1 := cmn_le X Y i j
      rcases w_next hi hj c with ⟨h1, h2, s, e⟩ | ⟨s, ⟨h1, e⟩ | ⟨h2, e1, e⟩⟩
      · have l2 := cmn_le X Y (i + 1) (j + 1)
        rw [w_keep h h1 h2 s, ih (d - 2) (by omega) (i + 1) (j + 1) fu cnt _ (by omega) (by omega) (by omega) (by omega), e]
        congr 3; omega
      · have l2 := cmn_le X Y (i + 1) j
        rw [w_del h h1 hj s e, if_pos rfl, ih (d - 1) (by omega) (i + 1) j fu (cnt + 1) _ (by omega) (by omega) (by omega) (by omega), e]
        congr 3; omega
      · have l2 := cmn_le X Y i (j + 1)
        rw [w_ins h hi h2 s e1, if_pos rfl, ih (d - 1) (by omega) i (j + 1) fu (cnt + 1) _ (by omega) (by omega) (by omega) (by omega), e]
        congr 3; omega
    · have e1 : i = X.length := by omega
      have e2 : j = Y.length := by omega
      subst e1; subst e2
      rw [w_out hX hY, cmn_x (Nat.le_refl _)]
      congr 3; omega
end V
