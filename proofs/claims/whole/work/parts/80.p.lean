-- part 80: node and row
section T
variable {S S' : cSt} {M A : mSt} {ra : Nat → Nat} {sl : Nat → Int32} {mkO : Nat → Option Nat} {x0 k n bk : Nat} {l : List Nat}
theorem k_thereAt {nd va : Nat} (h8 : kK S nd = 8) (h2 : kR S nd 2 = some va) (h11 : kK S va = 11) {f : Nat → Bool} (hf : ∀ j, j < 48 → fk_10_isThere S va (Int32.ofNat j) = some (b2 (f j = true))) : fk_11_thereAt S nd = some (Int32.ofNat ((List.range 48).filter f).length) := by
  unfold fk_11_thereAt
  have key : ∀ (j i fu : Nat), i + j = 48 → j < fu → fk_11_thereAt_4 S fu nd (Int32.ofNat ((List.range i).filter f).length) (Int32.ofNat i) = some (Int32.ofNat ((List.range 48).filter f).length) := by
    intro j
    induction j with
    | zero =>
      intro i fu hi hf
      obtain ⟨fu, rfl⟩ : ∃ q, fu = q + 1 := ⟨fu - 1, by omega⟩
      have e : i = 48 := by omega
      subst e
      rw [fk_11_thereAt_4, if_pos (show (48 : Int32) ≤ Int32.ofNat 48 by decide)]
    | succ j ih =>
      intro i fu hi hfu
      obtain ⟨fu, rfl⟩ : ∃ q, fu = q + 1 := ⟨fu - 1, by omega⟩
      have ih' := ih (i + 1) fu (by omega) (by omega)
      rw [List.range_succ, List.filter_append, List.length_append] at ih'
      rw [fk_11_thereAt_4, if_neg (jK 48 48 rfl (by omega) (by decide)), ckk_y h8, h2, bd_s, ckk_y h11, hf i (by omega), bd_s]
      unfold fk_11_thereAt_24
      cases hb : f i
      · rw [if_pos bFn, lt_d, show (1 : Int32) = Int32.ofNat 1 from rfl, jI_add]
        rw [List.filter_cons_of_neg (by rw [hb]; decide), List.filter_nil] at ih'
        exact ih'
      · rw [if_neg bTn, lt_d, lt_d, show (1 : Int32) = Int32.ofNat 1 from rfl, jI_add, jI_add]
        rw [List.filter_cons_of_pos (by rw [hb]), List.filter_nil] at ih'
        exact ih'
  exact key 48 0 mFU rfl (by decide)
theorem m_there (e : mEx sc M A) (h2 : lAt M n l) (hj : jOkL M l) (h23 : M.2 23 n = Int32.ofNat l.length) (h48 : (l.filter (mkP M)).length ≤ 48) : ∃ B, fm_there A (Int32.ofNat n) = some (Int32.ofNat ((obL M l).filter (fun m => thN M l (Int32.ofNat (rNm m)))).length, B) ∧ mEx sc A B := by
  unfold fm_there
  have hn := h2.1
  obtain ⟨B, b1, b2', b3, b4⟩ := m_findObjects e h2 h48
  rw [ck_n hn (by omega), rd_e e (by decide) (by omega), h23, b1, bd_s]
  have hlen : (obL M l).length ≤ 48 := by unfold obL; rw [len_srt]; exact h48
  have eB : mEx sc A B := mEx_mono b2' (fun k hk => by unfold wO at hk; unfold sc; omega)
  have key : ∀ (j i fu : Nat) (C : mSt), i + j = (obL M l).length → j < fu → mEx wJ B C → ∃ D, fm_there_15 fu C (Int32.ofNat n) (Int32.ofNat (((obL M l).take i).filter (fun m => thN M l (Int32.ofNat (rNm m)))).length) (Int32.ofNat i) = some (Int32.ofNat ((obL M l).filter (fun m => thN M l (Int32.ofNat (rNm m)))).length, D) ∧ mEx wJ B D := by
    intro j
    induction j with
    | zero =>
      intro i fu C hi hf eC
      obtain ⟨fu, rfl⟩ : ∃ q, fu = q + 1 := ⟨fu - 1, by omega⟩
      refine ⟨C, ?_, eC⟩
      rw [fm_there_15, (eC 54 (by unfold wJ; decide)).1, b3, if_pos ((jI_le (by omega) (by omega)).mpr (by omega)), List.take_of_length_le (by omega)]
    | succ j ih =>
      intro i fu C hi hf eC
      obtain ⟨fu, rfl⟩ : ∃ q, fu = q + 1 := ⟨fu - 1, by omega⟩
      have hi' : i < (obL M l).length := by omega
      have eMC : mEx sc M C := mEx_trans e (mEx_trans eB (mEx_mono eC (fun k hk => by unfold wJ at hk; unfold sc; omega)))
      obtain ⟨D, d1, d2⟩ := m_isThereNow eMC h2 hj h23 (Int32.ofNat (rNm (obL M l)[i]))
      obtain ⟨E, e1, e2⟩ := ih (i + 1) fu D (by omega) (by omega) (mEx_trans eC d2)
      refine ⟨E, ?_, e2⟩
      rw [List.take_succ_eq_append_getElem hi', List.filter_append, List.length_append] at e1
      rw [fm_there_15, (eC 54 (by unfold wJ; decide)).1, b3, if_neg (fun q => absurd ((jI_le (by omega) (by omega)).mp q) (by omega)), ck_n (by omega) (by omega), rd_n _ _ (by omega), (eC 55 (by unfold wJ; decide)).2, b4 i hi', d1, bd_s, lt_d, lt_d]
      unfold fm_there_43
      show (if b2 _ = 0 then _ else _) = _
      cases hb : thN M l (Int32.ofNat (rNm (obL M l)[i]))
      · rw [if_pos bFn, lt_d, lt_d, show (1 : Int32) = Int32.ofNat 1 from rfl, jI_add, show (0 : Int32) = Int32.ofNat 0 from rfl, jI_add]
        rw [List.filter_cons_of_neg (by rw [hb]; decide), List.filter_nil] at e1
        exact e1
      · rw [if_neg bTn, lt_d, lt_d, show (1 : Int32) = Int32.ofNat 1 from rfl, jI_add, jI_add]
        rw [List.filter_cons_of_pos (by rw [hb]), List.filter_nil] at e1
        exact e1
  obtain ⟨D, d1, d2⟩ := key (obL M l).length 0 mFU B (by omega) (by have : (1001 : Nat) < mFU := by decide
                                                                    omega) (mEx_refl _ _)
  exact ⟨D, d1, mEx_trans eB (mEx_mono d2 (fun k hk => by unfold wJ at hk; unfold sc; omega))⟩
theorem th_cnt (hA : rA M mkO sl) (hc : cl M l) : ((List.range 48).filter (vTh M (chF M sl) mkO l 1000)).length = ((obL M l).filter (fun m => thN M l (Int32.ofNat (rNm m)))).length := by
  rw [obL_obS hA hc]
  have hup : l.take 1000 = l := List.take_of_length_le (cl_len hc)
  have key : ∀ i, ((List.range i).filter (vTh M (chF M sl) mkO l 1000)).length = ((obS mkO l i).filter (fun m => thN M l (Int32.ofNat (rNm m)))).length := by
    intro i
    induction i with
    | zero => rfl
    | succ i ih =>
      rw [List.range_succ, List.filter_append, List.length_append, ih, obS_succ, List.filter_append, List.length_append]
      congr 1
      cases hm : mkO i with
      | none =>
        have : vTh M (chF M sl) mkO l 1000 i = false := by unfold vTh vMd; rw [hm]; rfl
        rw [List.filter_cons_of_neg (by rw [this]; decide)]; rfl
      | some m =>
        have h1 := lk_there hA hc hm 1000
        rw [hup] at h1
        have h2 := mkN_mk hA hm l
        show _ = (List.filter _ (if m ∈ l then [m] else [])).length
        by_cases hml : m ∈ l
        · rw [if_pos hml]
          cases ht : thN M l (Int32.ofNat (rNm m))
          · rw [List.filter_cons_of_neg (by rw [h1, ht]; decide), List.filter_cons_of_neg (by rw [ht]; decide)]; rfl
          · rw [List.filter_cons_of_pos (by rw [h1, ht]), List.filter_cons_of_pos (by rw [ht])]; rfl
        · rw [if_neg hml]
          have ht : thN M l (Int32.ofNat (rNm m)) = false := by unfold thN; rw [h2, decide_eq_false hml]; rfl
          rw [List.filter_cons_of_neg (by rw [h1, ht]; decide)]; rfl
  exact key 48
theorem rng {v : Int32} (a b : Nat) (hb : b < 2147483648) : (Int32.ofNat a ≤ v ∧ v ≤ Int32.ofNat b) → a ≤ b → ∃ c, a ≤ c ∧ c ≤ b ∧ v = Int32.ofNat c := by
  rintro ⟨h1, h2⟩ hab
  have h0 : ¬ v < 0 := fun q => jI_nn (a := a) (by omega) (Int32.lt_of_le_of_lt h1 q)
  have hv := jI_of h0
  have hc := jI_clt v
  rw [hv] at h1 h2
  rw [jI_le (by omega) hc] at h1
  rw [jI_le hc hb] at h2
  exact ⟨_, h1, h2, hv⟩
theorem gap {α : Type} {v : Int32} (x y : Int32) (b : Nat) (hb : b + 1 < 2147483648) (hy : y = Int32.ofNat (b + 1)) (X Y : α) : (if v < x then X else if y ≤ v then X else Y) = if x ≤ v ∧ v ≤ Int32.ofNat b then Y else X := by
  have e : y ≤ v ↔ ¬ v ≤ Int32.ofNat b := by
    rw [hy]
    by_cases h : v < 0
    · constructor
      · intro q; exact absurd (Int32.lt_of_le_of_lt q h) (jI_nn (by omega))
      · intro q; exact absurd (Int32.le_of_lt (Int32.lt_of_lt_of_le h (Int32.not_lt.mp (jI_nn (a := b) (by omega))))) q
    · rw [jI_of h, jI_le hb (jI_clt v), jI_le (jI_clt v) (by omega)]; omega
  by_cases h1 : v < x
  · rw [if_pos h1, if_neg (fun q => absurd q.1 (Int32.not_le.mpr h1))]
  · rw [if_neg h1]
    by_cases h2 : y ≤ v
    · rw [if_pos h2, if_neg (fun q => e.mp h2 q.2)]
    · rw [if_neg h2, if_pos ⟨Int32.not_lt.mp h1, Classical.not_not.mp (fun q => h2 (e.mpr q))⟩]
end T
