-- part 89: list
section V
variable {S S' : cSt} {M A : mSt} {ra : Nat → Nat} {sl : Nat → Int32} {mkO : Nat → Option Nat} {x0 n k : Nat} {l : List Nat} {L Wt : Nat → List Nat} {Bt : Nat}
theorem flt_pre {α : Type} (L : List α) (f : α → Bool) {i j : Nat} (h : i ≤ j) : ∃ X, (L.take j).filter f = (L.take i).filter f ++ X := by
  obtain ⟨d, rfl⟩ : ∃ d, j = i + d := ⟨j - i, by omega⟩
  rw [List.take_add, List.filter_append]
  exact ⟨_, rfl⟩
/-- the q-th of those that f keeps, found by a walk -/
theorem nth_at {L : List Nat} {f : Nat → Bool} {i q : Nat} (hi : i < L.length) (hf : f L[i] = true) (hq : ((L.take i).filter f).length = q) : (L.filter f)[q]? = some L[i] := by
  obtain ⟨X, hX⟩ := flt_pre L f (show i + 1 ≤ L.length by omega)
  rw [List.take_length, List.take_succ_eq_append_getElem hi, List.filter_append, List.filter_cons_of_pos hf, List.filter_nil] at hX
  rw [hX, List.append_assoc, List.getElem?_append_right (by omega), hq, Nat.sub_self]
  rfl
theorem nth_no {L : List Nat} {f : Nat → Bool} {q : Nat} (hq : (L.filter f).length ≤ q) : (L.filter f)[q]? = none := List.getElem?_eq_none hq
theorem rg48 {i : Nat} (h : i < (List.range 48).length) : (List.range 48)[i] = i := List.getElem_range h
theorem rgt {i : Nat} (h : i ≤ 48) : (List.range 48).take i = List.range i := by
  rw [List.take_range]; congr 1; omega
def nmO (g : Nat → Int32) (o : Option Nat) : Int32 := match o with | none => -1 | some j => g j
theorem k_list (hh : hsI x0 S M) (hn : n < 4) {va : Nat} (h8 : kK S (sN x0 n) = 8) (h2 : kR S (sN x0 n) 2 = some va) (h11 : kK S va = 11) {bk : Nat} (hb1 : kR S x0 1 = some bk) (hb : kK S bk = 1) {f : Nat → Bool} {g : Nat → Int32} (hf : ∀ j, j < 48 → fk_10_isThere S va (Int32.ofNat j) = some (b2 (f j = true))) (hg : ∀ j, j < 48 → fk_0_nameOf S bk (Int32.ofNat j) = some (g j)) {q : Nat} (hq : q < 2147483648) : fk_11_list_18 S mFU x0 (Int32.ofNat n) (Int32.ofNat q) 0 0 = some (nmO g ((List.range 48).filter f)[q]?) := by
  have key : ∀ (j i fu : Nat), i + j = 48 → j < fu → ((List.range i).filter f).length ≤ q → fk_11_list_18 S fu x0 (Int32.ofNat n) (Int32.ofNat q) (Int32.ofNat ((List.range i).filter f).length) (Int32.ofNat i) = some (nmO g ((List.range 48).filter f)[q]?) := by
    intro j
    induction j with
    | zero =>
      intro i fu hi hfu hle
      obtain ⟨fu, rfl⟩ : ∃ q, fu = q + 1 := ⟨fu - 1, by omega⟩
      have e : i = 48 := by omega
      subst e
      rw [fk_11_list_18, if_pos (show (48 : Int32) ≤ Int32.ofNat 48 by decide), nth_no hle]; rfl
    | succ j ih =>
      intro i fu hi hfu hle
      obtain ⟨fu, rfl⟩ : ∃ q, fu = q + 1 := ⟨fu - 1, by omega⟩
      have ih' := ih (i + 1) fu (by omega) (by omega)
      rw [List.range_succ, List.filter_append, List.length_append] at ih'
      have hl := List.length_filter_le f (List.range i)
      rw [List.length_range] at hl
      rw [fk_11_list_18, if_neg (jK 48 48 rfl (by omega) (by decide)), k_nd hh hn, bd_s, ckk_y h8, h2, bd_s, ckk_y h11, hf i (by omega), bd_s]
      unfold fk_11_list_60
      cases hb' : f i
      · rw [if_pos bFn, lt_d, show (1 : Int32) = Int32.ofNat 1 from rfl, jI_add]
        rw [List.filter_cons_of_neg (by rw [hb']; decide), List.filter_nil] at ih'
        exact ih' hle
      · rw [if_neg bTn]
        by_cases c : ((List.range i).filter f).length = q
        · have hi48 : i < (List.range 48).length := by rw [List.length_range]; omega
          have h1 := nth_at (L := List.range 48) (f := f) (i := i) (q := q) hi48 (by rw [rg48 hi48]; exact hb') (by rw [rgt (by omega)]; exact c)
          rw [if_pos (by rw [c]), ckk_y hh.1.1, hb1, bd_s, ckk_y hb, hg i (by omega), bd_s, h1, rg48 hi48]; rfl
        · rw [if_neg (fun e => c ((jI_inj (by omega) hq).mp e)), lt_d, lt_d, show (1 : Int32) = Int32.ofNat 1 from rfl, jI_add, jI_add]
          rw [List.filter_cons_of_pos (by rw [hb']), List.filter_nil] at ih'
          exact ih' (by show _ + 1 ≤ q; omega)
  exact key 48 0 mFU rfl (by decide) (by simp)
theorem m_list (e : mEx sc M A) (h2 : lAt M n l) (hj : jOkL M l) (h23 : M.2 23 n = Int32.ofNat l.length) (h48 : (l.filter (mkP M)).length ≤ 48) {q : Nat} (hq : q < 2147483648) : ∃ B, (bd (fm_findObjects A (Int32.ofNat n) (Int32.ofNat l.length)) fun S5 => fm_list_36 mFU S5 (Int32.ofNat n) (Int32.ofNat q) 0) = some (nmO (fun m => Int32.ofNat (rNm m)) ((obL M l).filter (fun m => thN M l (Int32.ofNat (rNm m))))[q]?, B) ∧ mEx sc A B := by
  have hn := h2.1
  obtain ⟨B, b1, b2', b3, b4⟩ := m_findObjects e h2 h48
  rw [b1, bd_s]
  have hlen : (obL M l).length ≤ 48 := by unfold obL; rw [len_srt]; exact h48
  have eB : mEx sc A B := mEx_mono b2' (fun k hk => by unfold wO at hk; unfold sc; omega)
  have key : ∀ (j i fu : Nat) (C : mSt), i + j = (obL M l).length → j < fu → mEx wJ B C → (((obL M l).take i).filter (fun m => thN M l (Int32.ofNat (rNm m)))).length ≤ q → ∃ D, fm_list_36 fu C (Int32.ofNat n) (Int32.ofNat (q - (((obL M l).take i).filter (fun m => thN M l (Int32.ofNat (rNm m)))).length)) (Int32.ofNat i) = some (nmO (fun m => Int32.ofNat (rNm m)) ((obL M l).filter (fun m => thN M l (Int32.ofNat (rNm m))))[q]?, D) ∧ mEx wJ B D := by
    intro j
    induction j with
    | zero =>
      intro i fu C hi hf eC hle
      obtain ⟨fu, rfl⟩ : ∃ q, fu = q + 1 := ⟨fu - 1, by omega⟩
      refine ⟨C, ?_, eC⟩
      rw [List.take_of_length_le (by omega)] at hle
      rw [fm_list_36, (eC 54 (by unfold wJ; decide)).1, b3, if_pos ((jI_le (by omega) (by omega)).mpr (by omega)), nth_no hle]; rfl
    | succ j ih =>
      intro i fu C hi hf eC hle
      obtain ⟨fu, rfl⟩ : ∃ q, fu = q + 1 := ⟨fu - 1, by omega⟩
      have hi' : i < (obL M l).length := by omega
      have eMC : mEx sc M C := mEx_trans e (mEx_trans eB (mEx_mono eC (fun k hk => by unfold wJ at hk; unfold sc; omega)))
      obtain ⟨D, d1, d2⟩ := m_isThereNow eMC h2 hj h23 (Int32.ofNat (rNm (obL M l)[i]))
      have ih' := ih (i + 1) fu D (by omega) (by omega) (mEx_trans eC d2)
      rw [List.take_succ_eq_append_getElem hi', List.filter_append, List.length_append] at ih'
      rw [fm_list_36, (eC 54 (by unfold wJ; decide)).1, b3, if_neg (fun q => absurd ((jI_le (by omega) (by omega)).mp q) (by omega)), ck_n (by omega) (by omega), rd_n _ _ (by omega), (eC 55 (by unfold wJ; decide)).2, b4 i hi', d1, bd_s, lt_d, lt_d]
      unfold fm_list_78
      show ∃ D_1, (if b2 _ = 0 then _ else _) = _ ∧ _
      cases hb : thN M l (Int32.ofNat (rNm (obL M l)[i]))
      · rw [if_pos bFn, lt_d, show (1 : Int32) = Int32.ofNat 1 from rfl, jI_add]
        rw [List.filter_cons_of_neg (by rw [hb]; decide), List.filter_nil] at ih'
        exact ih' hle
      · rw [if_neg bTn]
        by_cases c : (((obL M l).take i).filter (fun m => thN M l (Int32.ofNat (rNm m)))).length = q
        · refine ⟨D, ?_, mEx_trans eC d2⟩
          rw [c, Nat.sub_self, if_pos (show Int32.ofNat 0 = 0 from rfl), ck_n (by omega) (by omega), rd_n _ _ (by omega), (d2 55 (by unfold wJ; decide)).2, (eC 55 (by unfold wJ; decide)).2, b4 i hi', nth_at hi' hb c]; rfl
        · rw [if_neg (jN 0 0 rfl (by omega) (by omega) (by decide)), lt_d, lt_d, show (-1 : Int32) = - Int32.ofNat 1 from rfl, ← Int32.sub_eq_add_neg, jI_sub (by omega), show (1 : Int32) = Int32.ofNat 1 from rfl, jI_add]
          rw [List.filter_cons_of_pos (by rw [hb]), List.filter_nil] at ih'
          have := ih' (by show _ + 1 ≤ q; omega)
          rw [show q - ((((obL M l).take i).filter (fun m => thN M l (Int32.ofNat (rNm m)))).length + [(obL M l)[i]].length) = q - (((obL M l).take i).filter (fun m => thN M l (Int32.ofNat (rNm m)))).length - 1 from by rw [List.length_singleton]; omega] at this
          exact this
  obtain ⟨D, d1, d2⟩ := key (obL M l).length 0 mFU B (by omega) (by have : (1001 : Nat) < mFU := by decide
                                                                    omega) (mEx_refl _ _) (by simp)
  exact ⟨D, d1, mEx_trans eB (mEx_mono d2 (fun k hk => by unfold wJ at hk; unfold sc; omega))⟩
/-- those that are there, by slot and by name -/
theorem sl_map (hA : rA M mkO sl) (hc : cl M l) {f g : Nat → Bool} (h0 : ∀ j, mkO j = none → f j = false) (h1 : ∀ j m, mkO j = some m → f j = (decide (m ∈ l) && g m)) : ((List.range 48).filter f).map (nmJ mkO) = ((obL M l).filter g).map (fun m => Int32.ofNat (rNm m)) := by
  rw [obL_obS hA hc]
  have key : ∀ i, ((List.range i).filter f).map (nmJ mkO) = ((obS mkO l i).filter g).map (fun m => Int32.ofNat (rNm m)) := by
    intro i
    induction i with
    | zero => rfl
    | succ i ih =>
      rw [List.range_succ, List.filter_append, List.map_append, ih, obS_succ, List.filter_append, List.map_append]
      congr 1
      cases hm : mkO i with
      | none => rw [List.filter_cons_of_neg (by rw [h0 i hm]; decide)]; rfl
      | some m =>
        have h2 := h1 i m hm
        have hnm : nmJ mkO i = Int32.ofNat (rNm m) := by unfold nmJ; rw [hm]
        show _ = (List.filter _ (if m ∈ l then [m] else [])).map _
        by_cases hml : m ∈ l
        · rw [if_pos hml]
          rw [decide_eq_true hml, Bool.true_and] at h2
          cases ht : g m
          · rw [List.filter_cons_of_neg (by rw [h2, ht]; decide), List.filter_cons_of_neg (by rw [ht]; decide)]; rfl
          · rw [List.filter_cons_of_pos (by rw [h2, ht]), List.filter_cons_of_pos ht]
            show [nmJ mkO i] = _
            rw [hnm]; rfl
        · rw [if_neg hml]
          rw [decide_eq_false hml, Bool.false_and] at h2
          rw [List.filter_cons_of_neg (by rw [h2]; decide)]; rfl
  exact key 48
theorem nmO_map {L : List Nat} {g : Nat → Int32} {q : Nat} : nmO g L[q]? = ((L.map g)[q]?).getD (-1) := by
  rw [List.getElem?_map]
  cases L[q]? <;> rfl
theorem th_bool (hA : rA M mkO sl) (hc : cl M l) : (∀ j, mkO j = none → vTh M (chF M sl) mkO l 1000 j = false) ∧ ∀ j m, mkO j = some m → vTh M (chF M sl) mkO l 1000 j = (decide (m ∈ l) && thN M l (Int32.ofNat (rNm m))) := by
  have hup : l.take 1000 = l := List.take_of_length_le (cl_len hc)
  refine ⟨fun j hj => by unfold vTh vMd; rw [hj]; rfl, fun j m hm => ?_⟩
  rw [lk_there hA hc hm 1000, hup]
  unfold thN
  rw [mkN_mk hA hm]
  cases decide (m ∈ l) <;> rfl
theorem k_nameJ {ch : Nat → Int32} {made : Nat → Prop} {bk : Nat} (hB : cBk M ra sl ch made mkO S bk) {j : Nat} (hj : j < 48) : fk_0_nameOf S bk (Int32.ofNat j) = some (nmJ mkO j) := by
  rw [k_nameOf hB hj]
  unfold nmJ
  cases mkO j <;> rfl
theorem c_list (hk : k + 1 < 900) : lC_list x0 (Inv x0 k) (Inv x0 (k + 1)) := by
  intro S M v1 v2 h
  have h0 := Inv_0 h (by omega)
  unfold fk_11_list fm_list fk_11_list_11 fm_list_18
  rw [lt_d, k_isNode, bd_s, m_wb]
  generalize pu M 0 0 = A at h0 ⊢
  have h1 := Inv_1 h0 hk
  have h00 := h0
  obtain ⟨ra, sl, mkO, L, Wt, ro, fa, hc, hh, hkd, hth, htx, hro, hl, hnu⟩ := h0
  by_cases hv : 0 ≤ v1 ∧ v1 ≤ 3
  · obtain ⟨n, hn, rfl⟩ := wi3.mp hv
    rw [b2_t hv, if_neg n10, if_neg n10]
    obtain ⟨⟨hA, hsl, htb, hBt⟩, ⟨hB, -⟩, hN, -⟩ := hc
    obtain ⟨⟨hM1, hC1⟩, -⟩ := hN n hn
    obtain ⟨⟨hy, hv', hls⟩, -⟩ := hC1
    have hcl := hM1.1.2.1
    by_cases h2 : 0 ≤ v2
    · rw [if_pos h2, if_pos h2]
      obtain ⟨q, rfl, hq⟩ : ∃ q, v2 = Int32.ofNat q ∧ q < 2147483648 := ⟨_, jI_of (Int32.not_lt.mpr h2), jI_clt _⟩
      obtain ⟨B, b1, b2'⟩ := m_list (mEx_refl sc A) hM1.1.2.2.1 (jOkL_cl hA hcl) hM1.1.2.2.2 (ob48 hA hcl) hq
      have tb := th_bool hA hcl
      rw [k_list hh hn hy.1.1 hy.1.2.2.2.1 hv'.2.1.1.1 hh.1.2.2.1 hB.1.1 (fun j hj => k_isThere hB hv'.1 hv'.2.1 (lOk_cl hcl) hj) (fun j hj => k_nameJ hB hj) hq, ck_n hn (by omega), rd_n _ _ (by omega), hM1.1.2.2.2, b1, nmO_map, nmO_map, sl_map hA hcl tb.1 tb.2]
      exact ⟨_, _, rfl, rfl, Inv_m h00 hk b2'⟩
    · rw [if_neg h2, if_neg h2]; exact ⟨_, _, rfl, rfl, h1⟩
  · rw [b2_f hv, if_pos rfl, if_pos rfl]
    exact ⟨_, _, rfl, rfl, h1⟩
end V
