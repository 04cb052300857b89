-- part 91: count
section V
variable {S S' : cSt} {M A : mSt} {ra : Nat → Nat} {sl : Nat → Int32} {mkO : Nat → Option Nat} {x0 n k : Nat} {l : List Nat} {L Wt : Nat → List Nat} {Bt : Nat}
/-- an object of the kind that is there, its latest value between two -/
def ctP (M : mSt) (l : List Nat) (v2 v3 v4 v5 : Int32) (m : Nat) : Bool := decide (M.2 12 m = v2) && (thN M l (Int32.ofNat (rNm m)) && decide (v4 ≤ ltV M l (Int32.ofNat (rNm m)) v3 ∧ ltV M l (Int32.ofNat (rNm m)) v3 ≤ v5))
def ctJ (M : mSt) (mkO : Nat → Option Nat) (l : List Nat) (v2 v3 v4 v5 : Int32) (j : Nat) : Bool := match mkO j with | none => false | some m => decide (m ∈ l) && ctP M l v2 v3 v4 v5 m
theorem k_isThereOf' (hA : rA M mkO sl) (hc : cl M l) {ua va la bk : Nat} (hB : cBk M ra sl (chF M sl) (mde M) mkO S bk) (hL : cLed M ra (chF M sl) S la bk l) (hV : cVw M S va bk la ua 1000 l) {j : Nat} (hj : j < 48) (x : Int32) : fk_10_isThereOf S va (Int32.ofNat j) x = some (b2 (∃ m, mkO j = some m ∧ m ∈ l ∧ M.2 12 m = x ∧ thN M l (Int32.ofNat (rNm m)) = true)) := by
  rw [k_isThereOf hB hL hV (lOk_cl hc) hj]
  congr 1
  have tb := th_bool hA hc
  unfold b2
  congr 1
  apply propext
  constructor
  · rintro ⟨h1, h2⟩
    cases hm : mkO j with
    | none => rw [tb.1 j hm] at h1; cases h1
    | some m =>
      rw [tb.2 j m hm, Bool.and_eq_true] at h1
      rw [hm] at h2
      exact ⟨m, rfl, of_decide_eq_true h1.1, h2, h1.2⟩
  · rintro ⟨m, h1, h2, h3, h4⟩
    rw [tb.2 j m h1, h1, decide_eq_true h2, h4]
    exact ⟨rfl, h3⟩
theorem k_count (hA : rA M mkO sl) (hc : cl M l) {ua va la bk : Nat} (hB : cBk M ra sl (chF M sl) (mde M) mkO S bk) (hL : cLed M ra (chF M sl) S la bk l) (hV : cVw M S va bk la ua 1000 l) {kd p : Nat} (hkd : kd < 8) (hp : p < 6) (h76 : M.2 6 (6 * kd + p) = 76) (v4 v5 : Int32) : fk_11_count_40 S mFU (Int32.ofNat kd) (Int32.ofNat p) v4 v5 va 0 0 = some (Int32.ofNat ((List.range 48).filter (ctJ M mkO l (Int32.ofNat kd) (Int32.ofNat p) v4 v5)).length) := by
  have hup : l.take 1000 = l := List.take_of_length_le (cl_len hc)
  generalize hf : ctJ M mkO l (Int32.ofNat kd) (Int32.ofNat p) v4 v5 = f
  have key : ∀ (j i fu : Nat), i + j = 48 → j < fu → fk_11_count_40 S fu (Int32.ofNat kd) (Int32.ofNat p) v4 v5 va (Int32.ofNat ((List.range i).filter f).length) (Int32.ofNat i) = some (Int32.ofNat ((List.range 48).filter f).length) := by
    intro j
    induction j with
    | zero =>
      intro i fu hi hfu
      obtain ⟨fu, rfl⟩ : ∃ q, fu = q + 1 := ⟨fu - 1, by omega⟩
      have e : i = 48 := by omega
      subst e
      rw [fk_11_count_40, if_pos (show (48 : Int32) ≤ Int32.ofNat 48 by decide)]
    | succ j ih =>
      intro i fu hi hfu
      obtain ⟨fu, rfl⟩ : ∃ q, fu = q + 1 := ⟨fu - 1, by omega⟩
      have ih' := ih (i + 1) fu (by omega) (by omega)
      rw [List.range_succ, List.filter_append, List.length_append] at ih'
      have no : f i = false → fk_11_count_40 S fu (Int32.ofNat kd) (Int32.ofNat p) v4 v5 va (Int32.ofNat ((List.range i).filter f).length) (Int32.ofNat (i + 1)) = some (Int32.ofNat ((List.range 48).filter f).length) := fun hb => by
        rw [List.filter_cons_of_neg (by rw [hb]; decide), List.filter_nil] at ih'
        exact ih'
      have yes : f i = true → fk_11_count_40 S fu (Int32.ofNat kd) (Int32.ofNat p) v4 v5 va (Int32.ofNat (((List.range i).filter f).length + 1)) (Int32.ofNat (i + 1)) = some (Int32.ofNat ((List.range 48).filter f).length) := fun hb => by
        rw [List.filter_cons_of_pos (by rw [hb]), List.filter_nil] at ih'
        exact ih'
      rw [fk_11_count_40, if_neg (jK 48 48 rfl (by omega) (by decide)), ckk_y hV.1.1, k_isThereOf' hA hc hB hL hV (by omega), bd_s]
      unfold fk_11_count_96 fk_11_count_92 fk_11_count_93 fk_11_count_96
      by_cases c : ∃ m, mkO i = some m ∧ m ∈ l ∧ M.2 12 m = Int32.ofNat kd ∧ thN M l (Int32.ofNat (rNm m)) = true
      · obtain ⟨m, m1, m2, m3, m4⟩ := id c
        have hpt : ptO M mkO i m kd p 76 := ⟨m1, m3, hkd, hp, h76, by decide⟩
        have hfi : f i = decide (v4 ≤ ltV M l (Int32.ofNat (rNm m)) (Int32.ofNat p) ∧ ltV M l (Int32.ofNat (rNm m)) (Int32.ofNat p) ≤ v5) := by
          rw [← hf]; unfold ctJ; rw [m1]; show (decide (m ∈ l) && ctP M l _ _ v4 v5 m) = _
          unfold ctP; rw [decide_eq_true m2, decide_eq_true m3, m4]; rfl
        have hlt : fk_10_latestOf S va (Int32.ofNat (8 * i + p)) = some (ltV M l (Int32.ofNat (rNm m)) (Int32.ofNat p)) := by
          rw [k_latestOf (c := 8 * i + p) (by omega) hB hL hV (lOk_cl hc), lk_L hA hc hpt 1000, hup]
          unfold ltV oV
          cases ltB M l (Int32.ofNat (rNm m)) (Int32.ofNat p) <;> rfl
        rw [b2_t c, if_neg n10, ckk_y hV.1.1, k_c8, hlt, bd_s]
        by_cases c1 : ltV M l (Int32.ofNat (rNm m)) (Int32.ofNat p) < v4
        · rw [if_pos c1, lt_d, lt_d, show (1 : Int32) = Int32.ofNat 1 from rfl, jI_add, show (0 : Int32) = Int32.ofNat 0 from rfl, jI_add]
          exact no (by rw [hfi]; exact decide_eq_false (fun q => absurd q.1 (Int32.not_le.mpr c1)))
        rw [if_neg c1]
        by_cases c2 : v5 < ltV M l (Int32.ofNat (rNm m)) (Int32.ofNat p)
        · rw [if_pos c2, lt_d, lt_d, show (1 : Int32) = Int32.ofNat 1 from rfl, jI_add, show (0 : Int32) = Int32.ofNat 0 from rfl, jI_add]
          exact no (by rw [hfi]; exact decide_eq_false (fun q => absurd q.2 (Int32.not_le.mpr c2)))
        rw [if_neg c2, lt_d, lt_d, show (1 : Int32) = Int32.ofNat 1 from rfl, jI_add, jI_add]
        exact yes (by rw [hfi]; exact decide_eq_true ⟨Int32.not_lt.mp c1, Int32.not_lt.mp c2⟩)
      · rw [b2_f c, if_pos rfl, lt_d, show (1 : Int32) = Int32.ofNat 1 from rfl, jI_add]
        refine no ?_
        rw [← hf]; unfold ctJ
        cases hm : mkO i with
        | none => rfl
        | some m =>
          show (decide (m ∈ l) && ctP M l _ _ v4 v5 m) = false
          cases hd : (decide (m ∈ l) && ctP M l (Int32.ofNat kd) (Int32.ofNat p) v4 v5 m) with
          | false => rfl
          | true =>
            unfold ctP at hd
            simp only [Bool.and_eq_true] at hd
            exact absurd ⟨m, hm, of_decide_eq_true hd.1, of_decide_eq_true hd.2.1, hd.2.2.1⟩ c
  exact key 48 0 mFU rfl (by decide)
theorem obL_pt (hA : rA M mkO sl) (hc : cl M l) {i : Nat} (hi : i < (obL M l).length) : ∃ j, mkO j = some (obL M l)[i] ∧ (obL M l)[i] ∈ l ∧ (obL M l)[i] < 1000 := by
  have e : ∀ x, x ∈ obL M l → ∃ j, mkO j = some x ∧ x ∈ l ∧ x < 1000 := fun x hx => by
    rw [obL_obS hA hc] at hx
    obtain ⟨j, -, j2, j3⟩ := obS_mem.mp hx
    exact ⟨j, j2, j3, (cl_mem hc j3).1⟩
  exact e _ (List.getElem_mem hi)
theorem m_count (h : mR M mkO sl n l) (e : mEx sc M A) {kd p : Nat} (hkd : kd < 8) (hp : p < 6) (h76 : M.2 6 (6 * kd + p) = 76) (v4 v5 : Int32) : ∃ B, (bd (fm_findObjects A (Int32.ofNat n) (Int32.ofNat l.length)) fun S5 => fm_count_34 mFU S5 (Int32.ofNat n) (Int32.ofNat kd) (Int32.ofNat p) v4 v5 0 0) = some (Int32.ofNat ((obL M l).filter (ctP M l (Int32.ofNat kd) (Int32.ofNat p) v4 v5)).length, B) ∧ mEx sc A B := by
  obtain ⟨hA, hc, h2, h23⟩ := id h
  have hn := h2.1
  have h48 := ob48 hA hc
  have hj := jOkL_cl hA hc
  obtain ⟨B, b1, b2', b3, b4⟩ := m_findObjects e h2 h48
  rw [b1, bd_s]
  have hlen : (obL M l).length ≤ 48 := by unfold obL; rw [len_srt]; exact h48
  have eB : mEx sc A B := mEx_mono b2' (fun k hk => by unfold wO at hk; unfold sc; omega)
  have hWJ : ∀ k, wJ k → wL k := fun k hk => by unfold wJ at hk; unfold wL; omega
  have key : ∀ (j i fu : Nat) (C : mSt), i + j = (obL M l).length → j < fu → mEx wL B C → ∃ D, fm_count_34 fu C (Int32.ofNat n) (Int32.ofNat kd) (Int32.ofNat p) v4 v5 (Int32.ofNat (((obL M l).take i).filter (ctP M l (Int32.ofNat kd) (Int32.ofNat p) v4 v5)).length) (Int32.ofNat i) = some (Int32.ofNat ((obL M l).filter (ctP M l (Int32.ofNat kd) (Int32.ofNat p) v4 v5)).length, D) ∧ mEx wL B D := by
    intro j
    induction j with
    | zero =>
      intro i fu C hi hf eC
      obtain ⟨fu, rfl⟩ : ∃ q, fu = q + 1 := ⟨fu - 1, by omega⟩
      refine ⟨C, ?_, eC⟩
      rw [fm_count_34, (eC 54 (by unfold wL; decide)).1, b3, if_pos ((jI_le (by omega) (by omega)).mpr (by omega)), List.take_of_length_le (by omega)]
    | succ j ih =>
      intro i fu C hi hf eC
      obtain ⟨fu, rfl⟩ : ∃ q, fu = q + 1 := ⟨fu - 1, by omega⟩
      have hi' : i < (obL M l).length := by omega
      have eMC : mEx sc M C := mEx_trans e (mEx_trans eB (mEx_mono eC wL_sc))
      obtain ⟨js, j2, j3, j4⟩ := obL_pt hA hc hi'
      have no : ∀ D, mEx wL B D → ctP M l (Int32.ofNat kd) (Int32.ofNat p) v4 v5 (obL M l)[i] = false → ∃ E, fm_count_34 fu D (Int32.ofNat n) (Int32.ofNat kd) (Int32.ofNat p) v4 v5 (Int32.ofNat (((obL M l).take i).filter (ctP M l (Int32.ofNat kd) (Int32.ofNat p) v4 v5)).length) (Int32.ofNat (i + 1)) = some (Int32.ofNat ((obL M l).filter (ctP M l (Int32.ofNat kd) (Int32.ofNat p) v4 v5)).length, E) ∧ mEx wL B E := fun D eD hb => by
        obtain ⟨E, e1, e2⟩ := ih (i + 1) fu D (by omega) (by omega) eD
        rw [List.take_succ_eq_append_getElem hi', List.filter_append, List.length_append, List.filter_cons_of_neg (by rw [hb]; decide), List.filter_nil] at e1
        exact ⟨E, e1, e2⟩
      have yes : ∀ D, mEx wL B D → ctP M l (Int32.ofNat kd) (Int32.ofNat p) v4 v5 (obL M l)[i] = true → ∃ E, fm_count_34 fu D (Int32.ofNat n) (Int32.ofNat kd) (Int32.ofNat p) v4 v5 (Int32.ofNat ((((obL M l).take i).filter (ctP M l (Int32.ofNat kd) (Int32.ofNat p) v4 v5)).length + 1)) (Int32.ofNat (i + 1)) = some (Int32.ofNat ((obL M l).filter (ctP M l (Int32.ofNat kd) (Int32.ofNat p) v4 v5)).length, E) ∧ mEx wL B E := fun D eD hb => by
        obtain ⟨E, e1, e2⟩ := ih (i + 1) fu D (by omega) (by omega) eD
        rw [List.take_succ_eq_append_getElem hi', List.filter_append, List.length_append, List.filter_cons_of_pos (by rw [hb]), List.filter_nil] at e1
        exact ⟨E, e1, e2⟩
      rw [fm_count_34, (eC 54 (by unfold wL; decide)).1, b3, if_neg (fun q => absurd ((jI_le (by omega) (by omega)).mp q) (by omega)), ck_n (by omega) (by omega), rd_n _ _ (by omega), (eC 55 (by unfold wL; decide)).2, b4 i hi', m_kindOf eMC (rOf_nm j4), bd_s]
      unfold fm_count_99
      by_cases c : M.2 12 (obL M l)[i] = Int32.ofNat kd
      · have hpt : ptO M mkO js (obL M l)[i] kd p 76 := ⟨j2, c, hkd, hp, h76, by decide⟩
        rw [if_pos c, ck_n (by omega) (by omega)]
        obtain ⟨D, d1, d2⟩ := m_isThereNow eMC h2 hj h23 (Int32.ofNat (rNm (obL M l)[i]))
        have eD : mEx wL B D := mEx_trans eC (mEx_mono d2 hWJ)
        rw [d1, bd_s, lt_d, lt_d]
        show ∃ D_1, (if b2 _ = 0 then _ else _) = _ ∧ _
        cases ht : thN M l (Int32.ofNat (rNm (obL M l)[i]))
        · rw [if_pos bFn, lt_d, show (1 : Int32) = Int32.ofNat 1 from rfl, jI_add]
          exact no D eD (by unfold ctP; rw [ht]; simp)
        · have eMD : mEx sc M D := mEx_trans e (mEx_trans eB (mEx_mono eD wL_sc))
          obtain ⟨E, e1, e2⟩ := m_latestOf h eMD hpt
          have eE : mEx wL B E := mEx_trans eD e2
          have hx : rd D 55 (Int32.ofNat i) = Int32.ofNat (rNm (obL M l)[i]) := by rw [rd_n _ _ (by omega), (eD 55 (by unfold wL; decide)).2, b4 i hi']
          rw [if_neg bTn, ck_n (by omega) (by omega)]
          show ∃ D_1, bd (fm_latestOf D (Int32.ofNat n) (rd D 55 (Int32.ofNat i)) (Int32.ofNat p)) _ = _ ∧ _
          rw [hx, e1, bd_s, lt_d, lt_d, m_wb]
          by_cases c1 : v4 ≤ ltV M l (Int32.ofNat (rNm (obL M l)[i])) (Int32.ofNat p) ∧ ltV M l (Int32.ofNat (rNm (obL M l)[i])) (Int32.ofNat p) ≤ v5
          · rw [b2_t c1, if_neg n10, lt_d, lt_d, show (1 : Int32) = Int32.ofNat 1 from rfl, jI_add, jI_add]
            exact yes E eE (by unfold ctP; rw [ht, decide_eq_true c, decide_eq_true c1]; rfl)
          · rw [b2_f c1, if_pos rfl, lt_d, show (1 : Int32) = Int32.ofNat 1 from rfl, jI_add]
            exact no E eE (by unfold ctP; rw [decide_eq_false c1]; simp)
      · rw [if_neg c, lt_d, show (1 : Int32) = Int32.ofNat 1 from rfl, jI_add]
        exact no C eC (by unfold ctP; rw [decide_eq_false c]; rfl)
  obtain ⟨D, d1, d2⟩ := key (obL M l).length 0 mFU B (by omega) (by have : (1001 : Nat) < mFU := by decide
                                                                    omega) (mEx_refl _ _)
  exact ⟨D, d1, mEx_trans eB (mEx_mono d2 wL_sc)⟩
theorem c_count (hk : k + 1 < 900) : lC_count x0 (Inv x0 k) (Inv x0 (k + 1)) := by
  intro S M v1 v2 v3 v4 v5 h
  have h0 := Inv_0 h (by omega)
  unfold fk_11_count fm_count fk_11_count_21
  rw [lt_d, k_isNode, bd_s]
  generalize pu M 0 0 = A at h0 ⊢
  have h1 := Inv_1 h0 hk
  have h00 := h0
  obtain ⟨ra, sl, mkO, L, Wt, ro, fa, hc, hh, hkd, hth, htx, hro, hl, hnu⟩ := h0
  by_cases hv : 0 ≤ v1 ∧ v1 ≤ 3
  · obtain ⟨n, hn, rfl⟩ := wi3.mp hv
    obtain ⟨⟨hA, hsl, htb, hBt⟩, ⟨hB, -⟩, hN, -⟩ := hc
    obtain ⟨⟨hM1, hC1⟩, -⟩ := hN n hn
    obtain ⟨⟨hy, hv', hls⟩, -⟩ := hC1
    have hcl := hM1.1.2.1
    rw [b2_t hv, if_neg n10, m_canBeAsked hkd hn, bd_s, ckk_y hh.1.1, hh.1.2.1, bd_s, ckk_y hkd.1.1, k_ruleOf hkd, bd_s]
    by_cases hr : rlO A v2 v3 = some 76
    · obtain ⟨kd, p, d1, d2, rfl, rfl, d5, -⟩ := rlO_y hkd hr
      obtain ⟨B, b1, b2'⟩ := m_count hM1.1 (mEx_refl sc A) d1 d2 d5.symm v4 v5
      rw [b2_t hr, if_neg n10, hr, if_pos (show (some (76 : Int32)).getD 32 = 76 from rfl), k_nd hh hn, bd_s, ckk_y hy.1.1, hy.1.2.2.2.1, bd_s, k_count hA hcl hB hv'.1 hv'.2.1 d1 d2 d5.symm v4 v5, ck_n hn (by omega), rd_n _ _ (by omega), hM1.1.2.2.2, b1]
      refine ⟨_, _, rfl, ?_, Inv_m h00 hk b2'⟩
      have hmap := congrArg List.length (sl_map hA hcl (f := ctJ A mkO (L n) (Int32.ofNat kd) (Int32.ofNat p) v4 v5) (g := ctP A (L n) (Int32.ofNat kd) (Int32.ofNat p) v4 v5) (fun j hj => by unfold ctJ; rw [hj]) (fun j m hm => by unfold ctJ; rw [hm]))
      rw [List.length_map, List.length_map] at hmap
      rw [hmap]
    · rw [b2_f hr, if_pos rfl, if_neg]
      · exact ⟨_, _, rfl, rfl, h1⟩
      · intro q
        cases hx : rlO A v2 v3 with
        | none => rw [hx] at q; exact absurd q (by decide)
        | some y => rw [hx] at q; exact hr (by rw [hx]; exact congrArg some q)
  · have hz : fm_canBeAsked A v1 v2 v3 = some 0 := by
      unfold fm_canBeAsked fm_canBeAsked_59 fm_canBeAsked_60
      rw [m_within, bd_s, b2_f hv, if_pos rfl, ckz_0]
    rw [b2_f hv, if_pos rfl, hz, bd_s, if_pos rfl]
    exact ⟨_, _, rfl, rfl, h1⟩
end V
