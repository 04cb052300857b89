-- part 110: act, in the reference, up to what its value is
section V
variable {S : cSt} {M A : mSt} {sl : Nat → Int32} {mkO : Nat → Option Nat} {x0 n : Nat} {l : List Nat}
theorem m_ruleFor {s : Nat} (hs : s < 19) (h : ruS (Int32.ofNat s) ≠ 0) : fm_ruleFor (Int32.ofNat s) = some (ruS (Int32.ofNat s)) := by
  have : s = 0 ∨ s = 1 ∨ s = 2 ∨ s = 3 ∨ s = 4 ∨ s = 5 ∨ s = 6 ∨ s = 7 ∨ s = 8 ∨ s = 9 ∨ s = 10 ∨ s = 11 ∨ s = 12 ∨ s = 13 ∨ s = 14 ∨ s = 15 ∨ s = 16 ∨ s = 17 ∨ s = 18 := by omega
  rcases this with e | e | e | e | e | e | e | e | e | e | e | e | e | e | e | e | e | e | e <;> subst e <;> first | rfl | exact absurd (by decide) h
theorem m_actTo (hk : kdI x0 S M) (hM : nM M mkO sl n l) {s : Nat} (hs : s < 19) (h0 : s ≠ 0) (h13 : s ≠ 13) (h14 : s ≠ 14) {j m : Nat} (hm : mkO j = some m) (hin : m ∈ l) (v4 v5 v6 : Int32) : ∃ C, mEx sc M C ∧ fm_act_45 M (Int32.ofNat n) (Int32.ofNat s) (Int32.ofNat (rNm m)) v4 v5 v6 = (if ruS (Int32.ofNat s) ≠ 0 ∧ rlO M (M.2 12 m) v4 ≠ some (ruS (Int32.ofNat s)) then some (if rlO M (M.2 12 m) v4 = none then -1 else -2, C) else if thN M l (Int32.ofNat (rNm m)) = true ∧ (s = 11 → v5 = -1 ∨ thN M l v5 = true) then fm_act_178 C (Int32.ofNat n) (Int32.ofNat s) (Int32.ofNat (rNm m)) v4 v5 v6 1 (if ruS (Int32.ofNat s) = 0 then 0 else 1) else some (-3, C)) := by
  have refl := mEx_refl sc M
  obtain ⟨hA, hcl, h2, h23⟩ := hM.1
  have hn := h2.1
  have hmd := (hA.2.1.1 j m hm).2.1
  have e67 : fm_act_45 M (Int32.ofNat n) (Int32.ofNat s) (Int32.ofNat (rNm m)) v4 v5 v6 = fm_act_67 M (Int32.ofNat n) (Int32.ofNat s) (Int32.ofNat (rNm m)) v4 v5 v6 1 := by
    unfold fm_act_45 fm_act_56 fm_act_62
    rw [if_neg (show ¬ Int32.ofNat s < 1 from fun q => absurd ((jI_lt (b := 1) (by omega) (by decide)).mp q) (by omega))]
    by_cases c : s ≤ 12
    · rw [if_pos (show Int32.ofNat s ≤ 12 from (jI_le (b := 12) (by omega) (by decide)).mpr c)]
    · rw [if_neg (show ¬ Int32.ofNat s ≤ 12 from fun q => c ((jI_le (b := 12) (by omega) (by decide)).mp q)), if_neg (show ¬ Int32.ofNat s ≤ 14 from fun q => absurd ((jI_le (b := 14) (by omega) (by decide)).mp q) (by omega))]
  have e139 : ∀ v8 : Int32, ∃ C, mEx sc M C ∧ fm_act_139 M (Int32.ofNat n) (Int32.ofNat s) (Int32.ofNat (rNm m)) v4 v5 v6 1 v8 = (if thN M l (Int32.ofNat (rNm m)) = true ∧ (s = 11 → v5 = -1 ∨ thN M l v5 = true) then fm_act_178 C (Int32.ofNat n) (Int32.ofNat s) (Int32.ofNat (rNm m)) v4 v5 v6 1 v8 else some (-3, C)) := fun v8 => by
    obtain ⟨B, b1, b2'⟩ := m_isThereNow refl h2 (jOkL_cl hA hcl) h23 (Int32.ofNat (rNm m))
    have eB : mEx sc M B := mEx_mono b2' (fun k hk => by unfold wJ at hk; unfold sc; omega)
    unfold fm_act_139 fm_act_175
    rw [if_neg n10, b1, bd_s, lt_d, lt_d]
    show ∃ C, _ ∧ (if b2 _ = 0 then _ else _) = _
    cases ht : thN M l (Int32.ofNat (rNm m))
    · refine ⟨B, eB, ?_⟩; rw [if_pos bFn, if_neg (fun q => by cases q.1)]
    · rw [if_neg bTn]
      unfold fm_act_153 fm_act_175
      by_cases c : s = 11
      · subst c
        rw [if_pos (show Int32.ofNat 11 = 11 from rfl)]
        by_cases c5 : v5 = -1
        · refine ⟨B, eB, ?_⟩; rw [if_pos c5, if_pos ⟨rfl, fun _ => Or.inl c5⟩]
        · obtain ⟨C, c1, c2⟩ := m_isThereNow eB h2 (jOkL_cl hA hcl) h23 v5
          have eC : mEx sc M C := mEx_trans eB (mEx_mono c2 (fun k hk => by unfold wJ at hk; unfold sc; omega))
          rw [if_neg c5]
          show ∃ C, _ ∧ bd (fm_isThereNow B _ _) _ = _
          rw [c1, bd_s, lt_d, lt_d]
          show ∃ C, _ ∧ (if b2 _ = 0 then _ else _) = _
          cases ht5 : thN M l v5
          · refine ⟨C, eC, ?_⟩
            rw [if_pos bFn, if_neg]
            · rintro ⟨-, q⟩
              rcases q rfl with q | q
              · exact c5 q
              · cases q
          · refine ⟨C, eC, ?_⟩; rw [if_neg bTn, if_pos ⟨rfl, fun _ => Or.inr rfl⟩]
      · refine ⟨B, eB, ?_⟩; rw [if_neg (jN 11 11 rfl c (by omega) (by decide)), if_pos ⟨rfl, fun q => absurd q c⟩]
  rw [e67]
  unfold fm_act_67
  rw [m_isOnPart hs, bd_s, if_neg n10, m_isMadeNow refl hM.2.1, bd_s, mkN_mk hA hm, decide_eq_true hin, if_neg bTn]
  unfold fm_act_89 fm_act_117
  by_cases c : ruS (Int32.ofNat s) = 0
  · obtain ⟨C, x1, x2⟩ := e139 0
    refine ⟨C, x1, ?_⟩
    rw [if_pos c, if_pos rfl, if_pos rfl, if_neg (show ¬ (ruS (Int32.ofNat s) ≠ 0 ∧ rlO M (M.2 12 m) v4 ≠ some (ruS (Int32.ofNat s))) from fun q => q.1 c)]
    exact x2
  · obtain ⟨kd, d1, d2⟩ := mk_kind hA hm
    obtain ⟨h1, h2', h3, h4, h5, tp, kn, h6, h7, h8, h9, h10, h11⟩ := id hk
    obtain ⟨np, n1, n2, n3, n4, n5, n6⟩ := h10 kd d1
    have hkn := h11 m kd hmd (hA.2.1.1 j m hm).2.2 d2 d1
    rw [if_neg c, if_neg n10, if_neg n10, m_kindOf refl (rOf_nm hmd.1), bd_s, d2, ck_n d1 (by omega), m_wb, rd_n _ _ (by omega), n2]
    by_cases q : 0 ≤ v4 ∧ v4 ≤ Int32.ofNat np - 1
    · obtain ⟨p, p1, rfl⟩ := (wiE (by omega)).mp q
      have hr := rlO_i hk hkn h7 h9 p1 n1 n2
      rw [b2_t q, if_neg n10, m_ruleOf refl (rOf_nm hmd.1) d2 d1 (by omega), bd_s, m_ruleFor hs c, bd_s, hr]
      by_cases e : M.2 6 (6 * kd + p) = ruS (Int32.ofNat s)
      · obtain ⟨C, x1, x2⟩ := e139 1
        refine ⟨C, x1, ?_⟩
        rw [if_pos e, if_neg (show ¬ (ruS (Int32.ofNat s) ≠ 0 ∧ some (M.2 6 (6 * kd + p)) ≠ some (ruS (Int32.ofNat s))) from fun q => q.2 (by rw [e]))]
        exact x2
      · refine ⟨M, refl, ?_⟩
        rw [if_neg e, if_pos (show ruS (Int32.ofNat s) ≠ 0 ∧ some (M.2 6 (6 * kd + p)) ≠ some (ruS (Int32.ofNat s)) from ⟨c, fun q => e (Option.some.inj q)⟩), if_neg (by simp)]
    · have hr : rlO M (Int32.ofNat kd) v4 = none := by
        unfold rlO
        rw [if_neg]
        rintro ⟨-, q3⟩
        rw [jI_cl (by omega), n2] at q3
        exact q q3
      unfold fm_act_115
      refine ⟨M, refl, ?_⟩
      rw [b2_f q, if_pos rfl, hr, if_pos (show ruS (Int32.ofNat s) ≠ 0 ∧ (none : Option Int32) ≠ some (ruS (Int32.ofNat s)) from ⟨c, by simp⟩), if_pos rfl]
end V
