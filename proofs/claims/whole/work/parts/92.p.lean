-- part 92: object
section V
variable {S S' : cSt} {M A : mSt} {ra : Nat → Nat} {sl : Nat → Int32} {mkO : Nat → Option Nat} {x0 n k : Nat} {l : List Nat} {L Wt : Nat → List Nat} {Bt : Nat}
theorem k_par (hn : n < 4) (hA : rA M mkO sl) (hc : cl M l) (hQ : cQ M ra sl (chF M sl) (mde M) mkO S (x0 + 5) (sN x0 n + 12) (sN x0 n + 20) (sN x0 n + 15) 1000 (sN x0 n + 21) l) (h20 : kK S (x0 + 21) = 20) (h48 : kL S (x0 + 21) = 48) : ∃ S', fk_10_findParents S (sN x0 n + 20) (x0 + 21) = some S' ∧ cEq (fun a => a = x0 + 21) S S' ∧ (∀ j, j < 48 → kI S' (x0 + 21) j = pI (paL M mkO sl (mvL M l)) j) := by
  have hup : l.take 1000 = l := List.take_of_length_le (cl_len hc)
  obtain ⟨f, f1, f2⟩ := k_findParents hQ (mk_all hA) h20 h48 (by unfold sN; omega) (mv_rng hA hc)
  refine ⟨_, f1, cEq_sI _ rfl, fun j hj => ?_⟩
  rw [kI_sI, f2 j hj, lk_par hA hc, hup]
theorem pI_0 (pr : Nat → Option Nat) (j : Nat) (h : ∀ q, pr j = some q → q < 48) : pI pr j = 0 ↔ pr j = none := by
  unfold pI
  cases hp : pr j with
  | none => simp
  | some q =>
    have := h q hp
    constructor
    · intro e
      have : Int32.ofNat (q + 1) = Int32.ofNat 0 := e
      exact absurd ((jI_inj (by omega) (by decide)).mp this) (by omega)
    · intro e; cases e
/-- the parent's place -/
theorem pl_of (hA : rA M mkO sl) (hc : cl M l) {j m : Nat} (hm : mkO j = some m) (hin : m ∈ l) : ∃ i, ∃ h : i < (obL M l).length, (obL M l)[i] = m := by
  have : m ∈ obL M l := by rw [obL_obS hA hc]; exact obS_mem.mpr ⟨j, (hA.2.1.1 j m hm).1, hm, hin⟩
  exact List.mem_iff_getElem.mp this
theorem obL_nd (hA : rA M mkO sl) (hc : cl M l) : (obL M l).Nodup := by
  rw [obL_obS hA hc]
  exact (obS_ord hA l 48).imp (fun h e => by rw [e] at h; omega)
def cdP (M : mSt) (mkO : Nat → Option Nat) (l : List Nat) (pr : Nat → Option Nat) (x : Int32) (m : Nat) : Bool := decide (nmP mkO pr m = x) && thN M l (Int32.ofNat (rNm m))
theorem nmP_mk (hA : rA M mkO sl) (pr : Nat → Option Nat) {j m : Nat} (hm : mkO j = some m) : nmP mkO pr m = nmI mkO (pr j) := by
  unfold nmP
  rw [slF_mk hA.2.1.2.1 (fun j m h => ⟨(hA.2.1.1 j m h).1, (hA.2.1.1 j m h).2.1.1⟩) hm]; rfl
theorem nmI_s {q m : Nat} (h : mkO q = some m) : nmI mkO (some q) = Int32.ofNat (rNm m) := by
  show (match mkO q with | none => (-1 : Int32) | some m => Int32.ofNat (rNm m)) = _
  rw [h]
theorem nmI_n {q : Nat} (h : mkO q = none) : nmI mkO (some q) = -1 := by
  show (match mkO q with | none => (-1 : Int32) | some m => Int32.ofNat (rNm m)) = _
  rw [h]
theorem k_children (hh : hsI x0 S M) {nd va : Nat} (h8 : kK S nd = 8) (h2 : kR S nd 2 = some va) (h11 : kK S va = 11) (h12 : kK S x0 = 12) (h8r : kR S x0 8 = some (x0 + 21)) (h20 : kK S (x0 + 21) = 20) (h48 : kL S (x0 + 21) = 48) {pr : Nat → Option Nat} (hpr : ∀ j q, pr j = some q → q < 48) {f : Nat → Bool} (hf : ∀ j, j < 48 → fk_10_isThere S va (Int32.ofNat j) = some (b2 (f j = true))) (hI : ∀ j, j < 48 → kI S (x0 + 21) j = pI pr j) {jv : Nat} (hjv : jv < 48) : fk_11_childrenOf_16 mFU S x0 nd (Int32.ofNat jv) 0 0 = some (Int32.ofNat ((List.range 48).filter (fun j => decide (pr j = some jv) && f j)).length, S) := by
  generalize hF : (fun j => decide (pr j = some jv) && f j) = F
  have key : ∀ (j i fu : Nat), i + j = 48 → j < fu → fk_11_childrenOf_16 fu S x0 nd (Int32.ofNat jv) (Int32.ofNat ((List.range i).filter F).length) (Int32.ofNat i) = some (Int32.ofNat ((List.range 48).filter F).length, S) := by
    intro j
    induction j with
    | zero =>
      intro i fu hi hfu
      obtain ⟨fu, rfl⟩ : ∃ q, fu = q + 1 := ⟨fu - 1, by omega⟩
      have e : i = 48 := by omega
      subst e
      rw [fk_11_childrenOf_16, if_pos (show (48 : Int32) ≤ Int32.ofNat 48 by decide)]
    | succ j ih =>
      intro i fu hi hfu
      obtain ⟨fu, rfl⟩ : ∃ q, fu = q + 1 := ⟨fu - 1, by omega⟩
      have ih' := ih (i + 1) fu (by omega) (by omega)
      rw [List.range_succ, List.filter_append, List.length_append] at ih'
      have no : F i = false → fk_11_childrenOf_16 fu S x0 nd (Int32.ofNat jv) (Int32.ofNat ((List.range i).filter F).length) (Int32.ofNat (i + 1)) = some (Int32.ofNat ((List.range 48).filter F).length, S) := fun hb => by
        rw [List.filter_cons_of_neg (by rw [hb]; decide), List.filter_nil] at ih'
        exact ih'
      have yes : F i = true → fk_11_childrenOf_16 fu S x0 nd (Int32.ofNat jv) (Int32.ofNat (((List.range i).filter F).length + 1)) (Int32.ofNat (i + 1)) = some (Int32.ofNat ((List.range 48).filter F).length, S) := fun hb => by
        rw [List.filter_cons_of_pos (by rw [hb]), List.filter_nil] at ih'
        exact ih'
      rw [fk_11_childrenOf_16, if_neg (jK 48 48 rfl (by omega) (by decide)), ckk_y h12, h8r, bd_s, ckk_y h20, h48, ck_n (by omega) (by omega), jI_cl (by omega), hI i (by omega), show (1 : Int32) = Int32.ofNat 1 from rfl, jI_add]
      unfold fk_11_childrenOf_51
      have e : pI pr i = Int32.ofNat (jv + 1) ↔ pr i = some jv := by
        unfold pI
        cases hp : pr i with
        | none =>
          constructor
          · intro q; exact absurd ((jI_inj (a := 0) (by decide) (by omega)).mp q) (by omega)
          · intro q; cases q
        | some q =>
          have := hpr i q hp
          constructor
          · intro h; have := (jI_inj (by omega) (by omega)).mp h; congr 1; omega
          · intro h; cases h; rfl
      by_cases c : pr i = some jv
      · rw [if_pos (e.mpr c), ckk_y h8, h2, bd_s, ckk_y h11, hf i (by omega), bd_s]
        have hFi : F i = f i := by rw [← hF]; show (decide (pr i = some jv) && f i) = f i; rw [decide_eq_true c]; rfl
        cases hb : f i
        · rw [if_pos bFn, lt_d, show (1 : Int32) = Int32.ofNat 1 from rfl, jI_add]; exact no (by rw [hFi, hb])
        · rw [if_neg bTn, lt_d, lt_d, show (1 : Int32) = Int32.ofNat 1 from rfl, jI_add, jI_add]; exact yes (by rw [hFi, hb])
      · rw [if_neg (fun q => c (e.mp q)), lt_d, show (1 : Int32) = Int32.ofNat 1 from rfl, jI_add]
        exact no (by rw [← hF]; show (decide (pr i = some jv) && f i) = false; rw [decide_eq_false c]; rfl)
  exact key 48 0 mFU rfl (by decide)
theorem m_children (h : mR M mkO sl n l) (e : mEx sc M A) (x : Int32) : ∃ B, fm_children A (Int32.ofNat n) x = some (Int32.ofNat ((obL M l).filter (cdP M mkO l (paL M mkO sl (mvL M l)) x)).length, B) ∧ mEx sc A B := by
  obtain ⟨hA, hc, h2, h23⟩ := id h
  have hn := h2.1
  have h48 := ob48 hA hc
  have hj := jOkL_cl hA hc
  unfold fm_children
  obtain ⟨B, b1, b2', ⟨b3, b4⟩, b5⟩ := m_findParents e h2 hj hA.2.2.2 (kInj_cl hA hc) (slK_cl hA hc) h48 (mvOk_cl hA hc)
  rw [ck_n hn (by omega), rd_e e (by decide) (by omega), h23, b1, bd_s]
  have hlen : (obL M l).length ≤ 48 := by unfold obL; rw [len_srt]; exact h48
  have eB : mEx sc A B := mEx_mono b2' (fun k hk => by unfold wPa at hk; unfold sc; omega)
  generalize hg : cdP M mkO l (paL M mkO sl (mvL M l)) x = g
  have key : ∀ (j i fu : Nat) (C : mSt), i + j = (obL M l).length → j < fu → mEx wJ B C → ∃ D, fm_children_16 fu C (Int32.ofNat n) x (Int32.ofNat (((obL M l).take i).filter g).length) (Int32.ofNat i) = some (Int32.ofNat ((obL M l).filter g).length, D) ∧ mEx wJ B D := by
    intro j
    induction j with
    | zero =>
      intro i fu C hi hf eC
      obtain ⟨fu, rfl⟩ : ∃ q, fu = q + 1 := ⟨fu - 1, by omega⟩
      refine ⟨C, ?_, eC⟩
      rw [fm_children_16, (eC 54 (by unfold wJ; decide)).1, b3, if_pos ((jI_le (by omega) (by omega)).mpr (by omega)), List.take_of_length_le (by omega)]
    | succ j ih =>
      intro i fu C hi hf eC
      obtain ⟨fu, rfl⟩ : ∃ q, fu = q + 1 := ⟨fu - 1, by omega⟩
      have hi' : i < (obL M l).length := by omega
      have eMC : mEx sc M C := mEx_trans e (mEx_trans eB (mEx_mono eC (fun k hk => by unfold wJ at hk; unfold sc; omega)))
      obtain ⟨js, j2, j3, j4⟩ := obL_pt hA hc hi'
      have no : ∀ D, mEx wJ B D → g (obL M l)[i] = false → ∃ E, fm_children_16 fu D (Int32.ofNat n) x (Int32.ofNat (((obL M l).take i).filter g).length) (Int32.ofNat (i + 1)) = some (Int32.ofNat ((obL M l).filter g).length, E) ∧ mEx wJ B E := fun D eD hb => by
        obtain ⟨E, e1, e2⟩ := ih (i + 1) fu D (by omega) (by omega) eD
        rw [List.take_succ_eq_append_getElem hi', List.filter_append, List.length_append, List.filter_cons_of_neg (by rw [hb]; decide), List.filter_nil] at e1
        exact ⟨E, e1, e2⟩
      have yes : ∀ D, mEx wJ B D → g (obL M l)[i] = true → ∃ E, fm_children_16 fu D (Int32.ofNat n) x (Int32.ofNat ((((obL M l).take i).filter g).length + 1)) (Int32.ofNat (i + 1)) = some (Int32.ofNat ((obL M l).filter g).length, E) ∧ mEx wJ B E := fun D eD hb => by
        obtain ⟨E, e1, e2⟩ := ih (i + 1) fu D (by omega) (by omega) eD
        rw [List.take_succ_eq_append_getElem hi', List.filter_append, List.length_append, List.filter_cons_of_pos (by rw [hb]), List.filter_nil] at e1
        exact ⟨E, e1, e2⟩
      have hnm : nmP mkO (paL M mkO sl (mvL M l)) (obL M l)[i] = C.2 56 i := by rw [nmP_mk hA _ j2, (eC 56 (by unfold wJ; decide)).2, b5 i hi' js j2]
      rw [fm_children_16, (eC 54 (by unfold wJ; decide)).1, b3, if_neg (fun q => absurd ((jI_le (by omega) (by omega)).mp q) (by omega)), ck_n (by omega) (by omega), rd_n _ _ (by omega), ck_n (by omega) (by omega), rd_n _ _ (by omega), (eC 55 (by unfold wJ; decide)).2, b4 i hi']
      unfold fm_children_56 fm_children_57
      by_cases c : C.2 56 i = x
      · obtain ⟨D, d1, d2⟩ := m_isThereNow eMC h2 hj h23 (Int32.ofNat (rNm (obL M l)[i]))
        have eD := mEx_trans eC d2
        rw [if_pos c, d1, bd_s, lt_d, lt_d]
        show ∃ D_1, (if b2 _ = 0 then _ else _) = _ ∧ _
        have hgi : g (obL M l)[i] = thN M l (Int32.ofNat (rNm (obL M l)[i])) := by rw [← hg]; unfold cdP; rw [decide_eq_true (by rw [hnm]; exact c)]; rfl
        cases ht : thN M l (Int32.ofNat (rNm (obL M l)[i]))
        · rw [if_pos bFn, lt_d, lt_d, show (1 : Int32) = Int32.ofNat 1 from rfl, jI_add, show (0 : Int32) = Int32.ofNat 0 from rfl, jI_add]
          exact no D eD (by rw [hgi, ht])
        · rw [if_neg bTn, lt_d, lt_d, show (1 : Int32) = Int32.ofNat 1 from rfl, jI_add, jI_add]
          exact yes D eD (by rw [hgi, ht])
      · rw [if_neg c, lt_d, lt_d, show (1 : Int32) = Int32.ofNat 1 from rfl, jI_add, show (0 : Int32) = Int32.ofNat 0 from rfl, jI_add]
        exact no C eC (by rw [← hg]; unfold cdP; rw [decide_eq_false (by rw [hnm]; exact c)]; rfl)
  obtain ⟨D, d1, d2⟩ := key (obL M l).length 0 mFU B (by omega) (by have : (1001 : Nat) < mFU := by decide
                                                                    omega) (mEx_refl _ _)
  exact ⟨D, d1, mEx_trans eB (mEx_mono d2 (fun k hk => by unfold wJ at hk; unfold sc; omega))⟩
theorem m_parentOf (h : mR M mkO sl n l) (e : mEx sc M A) {j m : Nat} (hm : mkO j = some m) (hin : m ∈ l) : ∃ B, fm_parentOf A (Int32.ofNat n) (Int32.ofNat (rNm m)) = some (nmI mkO (paL M mkO sl (mvL M l) j), B) ∧ mEx sc A B := by
  obtain ⟨hA, hc, h2, h23⟩ := id h
  have hn := h2.1
  have h48 := ob48 hA hc
  unfold fm_parentOf
  obtain ⟨B, b1, b2', b3, b5⟩ := m_findParents e h2 (jOkL_cl hA hc) hA.2.2.2 (kInj_cl hA hc) (slK_cl hA hc) h48 (mvOk_cl hA hc)
  have hlen : (obL M l).length ≤ 48 := by unfold obL; rw [len_srt]; exact h48
  obtain ⟨i, hi, rfl⟩ := pl_of hA hc hm hin
  refine ⟨B, ?_, mEx_mono b2' (fun k hk => by unfold wPa at hk; unfold sc; omega)⟩
  rw [ck_n hn (by omega), rd_e e (by decide) (by omega), h23, b1, bd_s, m_placeOf b3 hlen (fun r hr => (cl_mem hc (obL_mem.mp hr).1).1) hi (obL_nd hA hc), bd_s, ck_n (by omega) (by omega), rd_n _ _ (by omega), b5 i hi j hm]
theorem c_object (hk : k + 1 < 900) : lC_object x0 (Inv x0 k) (Inv x0 (k + 1)) := by
  intro S M v1 v2 v3 h
  have h0 := Inv_0 h (by omega)
  unfold fk_11_object fm_object
  rw [lt_d]
  generalize pu M 0 0 = A at h0 ⊢
  have h1 := Inv_1 h0 hk
  have h00 := h0
  obtain ⟨ra, sl, mkO, L, Wt, ro, fa, hc, hh, hkd, hth, htx, hro, hl, hnu⟩ := h0
  rw [ckk_y hh.1.1]
  by_cases hv : 0 ≤ v1 ∧ v1 ≤ 3
  · obtain ⟨n, hn, rfl⟩ := wi3.mp hv
    have hc' := hc
    obtain ⟨⟨hA, hsl, -, -⟩, ⟨hB, -⟩, hN, -⟩ := hc'
    obtain ⟨⟨hM1, ⟨⟨hy, hv', -⟩, -, -, ⟨f8, f9, -⟩, -⟩⟩, -⟩ := hN n hn
    have hcl := hM1.1.2.1
    have refl := mEx_refl sc A
    have hnd : x0 + 5 + 5 ≤ sN x0 n ∧ sN x0 n + 26 ≤ x0 + 5 + 128 := by unfold sN; omega
    have hQ := cQ_nv hcl hB hv' hnd
    rw [m_isObject hM1 refl, bd_s]
    rcases k_madeSlot hh hc hn v2 with ⟨j, m, hm, hin, rfl, q1, q2⟩ | ⟨q1, q2⟩
    · have hj := (hA.2.1.1 j m hm).1
      have hmd := (hA.2.1.1 j m hm).2.1
      rw [q1, bd_s, q2, if_neg bTn, if_pos (Int32.not_lt.mp (jI_nn (by omega))), k_nd hh hn]
      by_cases e : v3 = 0
      · obtain ⟨B, b1, b2'⟩ := m_isThereNow refl hM1.1.2.2.1 (jOkL_cl hA hcl) hM1.1.2.2.2 (Int32.ofNat (rNm m))
        have hth' := lk_there hA hcl hm 1000
        rw [List.take_of_length_le (cl_len hcl)] at hth'
        rw [if_pos e, if_pos e, bd_s, ckk_y hy.1.1, hy.1.2.2.2.1, bd_s, ckk_y hv'.2.1.1.1, k_isThere hB hv'.1 hv'.2.1 (lOk_cl hcl) hj, bd_s, b1, bd_s, lt_d, lt_d, hth']
        have IB := Inv_m h00 hk (mEx_mono b2' (fun k hk => by unfold wJ at hk; unfold sc; omega) : mEx sc A B)
        unfold fk_11_object_78 fm_object_66
        show ∃ r S1 M1, _ ∧ (if b2 _ = 0 then _ else _) = _ ∧ _
        cases thN A (L n) (Int32.ofNat (rNm m))
        · rw [if_pos bFn, if_pos bFn]; exact ⟨_, _, _, rfl, rfl, IB⟩
        · rw [if_neg bTn, if_neg bTn]; exact ⟨_, _, _, rfl, rfl, IB⟩
      rw [if_neg e, if_neg e]
      by_cases e : v3 = 1
      · have hkd' := k_kindOf hB hj
        rw [hm] at hkd'
        rw [if_pos e, if_pos e, ckk_y hh.1.1, hh.1.2.2.1, bd_s, ckk_y hB.1.1, hkd', bd_s, m_kindOf refl (rOf_nm hmd.1), bd_s]
        exact ⟨_, _, _, rfl, rfl, h1⟩
      rw [if_neg e, if_neg e]
      have hpl : ∀ j q, paL A mkO sl (mvL A (L n)) j = some q → q < 48 := paL_lt _ _ _ _
      by_cases e : v3 = 2
      · obtain ⟨S', s1, s2, s3⟩ := k_par hn hA hcl hQ hh.2.2.2.1.2.2.2.1 hh.2.2.2.1.2.2.2.2
        obtain ⟨B, b1, b2'⟩ := m_parentOf hM1.1 refl hm hin
        have IB : Inv x0 (k + 1) S' B := Inv_sc h00 (by omega) hk (mEx_mono b2' (fun k hk => Or.inr hk)) (cEq_mono s2 (fun a ha => by unfold scr; omega)) (s2.2.2.2.2 _ (by omega)).2.1 (fun j _ => by rw [(s2.2.2.2.2 (x0 + 126) (by omega)).2.1])
        have z0 := s2.2.2.2.2 x0 (by omega)
        have hB' := cBk_eq hB s2 (fun a ha => by omega)
        rw [if_pos e, if_pos e, bd_s, ckk_y hh.1.1, b1, bd_s, lt_d, lt_d]
        unfold fk_11_parentOf fk_11_parentOf_36
        rw [ckk_y hy.1.1, hy.1.2.2.2.1, bd_s, ckk_y hh.1.1, hh.1.2.2.2.2.2.2.2.2.2, bd_s, ckk_y hv'.2.1.1.1, s1, bd_s, ckk_y (by rw [s2.1]; exact hh.1.1), z0.2.1, hh.1.2.2.2.2.2.2.2.2.2, bd_s, ckk_y (by rw [s2.1]; exact hh.2.2.2.1.2.2.2.1), s2.2.1, hh.2.2.2.1.2.2.2.2, ck_n (by omega) (by omega), lt_d, jI_cl (by omega), s3 j hj]
        cases hp : paL A mkO sl (mvL A (L n)) j with
        | none =>
          rw [if_pos ((pI_0 _ j (hpl j)).mpr hp), bd_s, lt_d, lt_d]
          exact ⟨_, _, _, rfl, rfl, IB⟩
        | some q =>
          have hq := hpl j q hp
          have hpi : pI (paL A mkO sl (mvL A (L n))) j = Int32.ofNat (q + 1) := by unfold pI; rw [hp]
          rw [if_neg (fun e => by have := (pI_0 _ j (hpl j)).mp e; rw [hp] at this; cases this), ckk_y (by rw [s2.1]; exact hh.1.1), hh.1.2.2.1, bd_s, ckk_y hB'.1.1, hpi, show (1 : Int32) = Int32.ofNat 1 from rfl, jI_sub (by omega), show q + 1 - 1 = q by omega, k_nameJ hB' hq, bd_s, bd_s, lt_d, lt_d]
          exact ⟨_, _, _, rfl, rfl, IB⟩
      rw [if_neg e, if_neg e]
      by_cases e : v3 = 3
      · obtain ⟨S', s1, s2, s3⟩ := k_par hn hA hcl hQ hh.2.2.2.1.2.2.2.1 hh.2.2.2.1.2.2.2.2
        obtain ⟨B, b1, b2'⟩ := m_children hM1.1 refl (Int32.ofNat (rNm m))
        have IB : Inv x0 (k + 1) S' B := Inv_sc h00 (by omega) hk (mEx_mono b2' (fun k hk => Or.inr hk)) (cEq_mono s2 (fun a ha => by unfold scr; omega)) (s2.2.2.2.2 _ (by omega)).2.1 (fun j _ => by rw [(s2.2.2.2.2 (x0 + 126) (by omega)).2.1])
        have z0 := s2.2.2.2.2 x0 (by omega)
        have zn := s2.2.2.2.2 (sN x0 n) (by unfold sN; omega)
        have hQ' := cQ_w hQ s2 (fun a ha => by subst ha; unfold sN; omega)
        rw [if_pos e, if_pos e, bd_s, ckk_y hh.1.1, b1, bd_s, lt_d, lt_d]
        unfold fk_11_childrenOf
        rw [ckk_y hy.1.1, hy.1.2.2.2.1, bd_s, ckk_y hh.1.1, hh.1.2.2.2.2.2.2.2.2.2, bd_s, ckk_y hv'.2.1.1.1, s1, bd_s, k_children (hsI_g hh (x0 := x0) (S' := S') (M' := A) ⟨cSm_eq s2 (fun a ha q => by unfold kp at ha; omega), fun a _ => ⟨s2.1 a, s2.2.1 a⟩, (s2.2.2.2.2 _ (by omega)).2.1, fun j _ => by rw [(s2.2.2.2.2 (x0 + 126) (by omega)).2.1], s2.2.2.2.1, by rw [s2.2.2.1]; exact Nat.le_refl _⟩ rfl) (va := sN x0 n + 20) (by rw [s2.1]; exact hy.1.1) (by rw [zn.2.1]; exact hy.1.2.2.2.1) hQ'.2.2.1.1.1 (by rw [s2.1]; exact hh.1.1) (by rw [z0.2.1]; exact hh.1.2.2.2.2.2.2.2.2.2) (by rw [s2.1]; exact hh.2.2.2.1.2.2.2.1) (by rw [s2.2.1]; exact hh.2.2.2.1.2.2.2.2) hpl (fun j hj => k_isThere hQ'.1 hQ'.2.1 hQ'.2.2.1 hQ'.2.2.2.1 hj) s3 hj, bd_s, lt_d, lt_d]
        have tb := th_bool hA hcl
        have hmap := congrArg List.length (sl_map hA hcl (f := fun i => decide (paL A mkO sl (mvL A (L n)) i = some j) && vTh A (chF A sl) mkO (L n) 1000 i) (g := cdP A mkO (L n) (paL A mkO sl (mvL A (L n))) (Int32.ofNat (rNm m))) (fun i hi => by show (_ && _) = false; rw [tb.1 i hi, Bool.and_false]) (fun i m' hm' => by
          show (_ && _) = (_ && cdP A mkO (L n) _ _ m')
          unfold cdP
          rw [tb.2 i m' hm', nmP_mk hA _ hm']
          have : decide (nmI mkO (paL A mkO sl (mvL A (L n)) i) = Int32.ofNat (rNm m)) = decide (paL A mkO sl (mvL A (L n)) i = some j) := by
            cases hp : paL A mkO sl (mvL A (L n)) i with
            | none => rw [decide_eq_false (by intro q; exact (jI_ne (by have := rNm_lt hmd.1; omega)) q.symm), decide_eq_false (by intro q; cases q)]
            | some q =>
              cases hmq : mkO q with
              | none =>
                rw [nmI_n hmq]
                exact decide_eq_decide.mpr ⟨fun q' => absurd q'.symm (jI_ne (by have := rNm_lt hmd.1; omega)), fun q' => by cases q'; rw [hm] at hmq; cases hmq⟩
              | some m2 =>
                have hm2 := (hA.2.1.1 q m2 hmq).2.1.1
                rw [nmI_s hmq]
                exact decide_eq_decide.mpr ⟨fun q' => by
                  have := rNm_inj hm2 hmd.1 q'
                  subst this
                  rw [hA.2.1.2.1 _ _ _ hmq hm], fun q' => by cases q'; rw [hm] at hmq; cases hmq; rfl⟩
          rw [this]
          cases decide (m' ∈ L n) <;> cases decide (paL A mkO sl (mvL A (L n)) i = some j) <;> rfl))
        rw [List.length_map, List.length_map] at hmap
        exact ⟨_, _, _, rfl, by rw [hmap], IB⟩
      rw [if_neg e, if_neg e]
      by_cases e : v3 = 4
      · obtain ⟨B, b1, b2'⟩ := m_holder refl hM1.1.2.2.1 hA.2.2.2 hM1.1.2.2.2 (Int32.ofNat (rNm m))
        rw [if_pos e, if_pos e, bd_s, ckk_y hy.1.1, hy.1.2.2.2.1, bd_s, ckk_y hy.1.1, k_timeNow hy.1.1, bd_s, ckk_y hv'.2.1.1.1, k_holderOf hj hB hv'.1 hv'.2.1 (lOk_cl hcl), bd_s, b1, bd_s, lt_d, lt_d, lk_hold hA hcl hm, f8, f9, nw_eq]
        exact ⟨_, _, _, rfl, rfl, Inv_m h00 hk (mEx_mono b2' (fun k hk => by unfold sc; omega))⟩
      rw [if_neg e, if_neg e]
      exact ⟨_, _, _, rfl, rfl, h1⟩
    · rw [q1, bd_s, if_neg (by decide), q2, if_pos bFn]
      exact ⟨_, _, _, rfl, rfl, h1⟩
  · rw [k_madeSlotN hv, bd_s, if_neg (by decide), m_isObjectN hv, bd_s, if_pos rfl]
    exact ⟨_, _, _, rfl, rfl, h1⟩
end V
