-- part 84: a made object, a part: size, value, bound, by
section V
variable {S S' : cSt} {M A : mSt} {ra : Nat → Nat} {sl : Nat → Int32} {mkO : Nat → Option Nat} {x0 n k : Nat} {l : List Nat} {L Wt : Nat → List Nat} {Bt : Nat}
/-- the slot of a made object, or none -/
theorem k_madeSlot (hh : hsI x0 S M) (h : core x0 Bt S M ra sl mkO L Wt) (hn : n < 4) (v : Int32) : (∃ j m, mkO j = some m ∧ m ∈ L n ∧ v = Int32.ofNat (rNm m) ∧ fk_11_madeSlot S x0 (Int32.ofNat n) v = some (Int32.ofNat j) ∧ mkN M (L n) v = true) ∨ (fk_11_madeSlot S x0 (Int32.ofNat n) v = some (-1) ∧ mkN M (L n) v = false) := by
  obtain ⟨⟨hA, hsl, -, -⟩, ⟨hB, -⟩, hN, -⟩ := h
  obtain ⟨⟨hM1, ⟨⟨hy, hv, -⟩, -⟩⟩, -⟩ := hN n hn
  have hc := hM1.1.2.1
  have hup : (L n).take 1000 = L n := List.take_of_length_le (cl_len hc)
  have e : fk_11_madeSlot S x0 (Int32.ofNat n) v = bd (fk_10_isMade S (sN x0 n + 20) (rI (slF mkO v))) fun r9 => if r9 = 0 then some (-1) else some (rI (slF mkO v)) := by
    unfold fk_11_madeSlot fk_11_madeSlot_39
    rw [k_isNode, bd_s, b2_t (wi3.mpr ⟨n, hn, rfl⟩), if_neg n10, ckk_y hh.1.1, hh.1.2.2.1, bd_s, ckk_y hB.1.1, k_slotOf hB (mk_all hA), bd_s, k_nd hh hn, bd_s, ckk_y hy.1.1, hy.1.2.2.2.1, bd_s, ckk_y hv.2.1.1.1]
  rw [e]
  cases hs : slF mkO v with
  | none =>
    refine Or.inr ⟨?_, ?_⟩
    · rw [show rI none = -1 from rfl, k_isMade_n hB hv.2.1 (by decide), bd_s, if_pos rfl]
    · unfold mkN
      cases hr : rOf v with
      | none => rfl
      | some r =>
        show decide (r ∈ L n ∧ M.2 9 r = 0) = false
        refine decide_eq_false (fun q => ?_)
        obtain ⟨j, j1, j2⟩ := mk_all hA r (rOf_lt hr) (cl_mem hc q.1) q.2
        exact slF_none hs j1 j2 (rOf_inv hr)
  | some j =>
    obtain ⟨hj, m, hm, rfl⟩ := slF_some hs
    rw [show rI (some j) = Int32.ofNat j from rfl, k_isMade hB hv.1 hv.2.1 (lOk_cl hc) hj, bd_s, mkN_mk hA hm]
    have hvm : vMd mkO (L n) 1000 j = decide (m ∈ L n) := by unfold vMd; rw [hm, hup]
    by_cases hin : m ∈ L n
    · refine Or.inl ⟨j, m, hm, hin, rfl, ?_, decide_eq_true hin⟩
      rw [b2_t (by rw [hvm]; exact decide_eq_true hin), if_neg n10]
    · refine Or.inr ⟨?_, decide_eq_false hin⟩
      rw [b2_f (by rw [hvm, decide_eq_false hin]; decide), if_pos rfl]
theorem k_madeSlotN {v1 v : Int32} (hv : ¬ (0 ≤ v1 ∧ v1 ≤ 3)) : fk_11_madeSlot S x0 v1 v = some (-1) := by
  unfold fk_11_madeSlot
  rw [k_isNode, bd_s, b2_f hv, if_pos rfl]
theorem m_isObject (hM : nM M mkO sl n l) (e : mEx sc M A) (v : Int32) : fm_isObject A (Int32.ofNat n) v = some (b2 (mkN M l v = true)) := by
  unfold fm_isObject fm_isObject_22 fm_isObject_23
  rw [m_wb, b2_t (wi3.mpr ⟨n, hM.1.2.2.1.1, rfl⟩), if_neg n10, m_isMadeNow e hM.2.1, bd_s]
  cases mkN M l v
  · rw [if_pos bFn, ckz_0]; rfl
  · rw [if_neg bTn, ckz_1]; rfl
theorem m_isObjectN {v1 v : Int32} (hv : ¬ (0 ≤ v1 ∧ v1 ≤ 3)) : fm_isObject A v1 v = some 0 := by
  unfold fm_isObject fm_isObject_22 fm_isObject_23
  rw [m_wb, b2_f hv, if_pos rfl, ckz_0]
/-- a made object's kind -/
theorem mk_kind (hA : rA M mkO sl) {j m : Nat} (hm : mkO j = some m) : ∃ kd, kd < 8 ∧ M.2 12 m = Int32.ofNat kd := by
  obtain ⟨h1, h2, h3⟩ := hA.2.1.1 j m hm
  exact ((hA.1 m h2).2.2.2.2.1 h3).2
/-- the rule of a part of a made object; none if there is no such part -/
theorem k_ruleAt (hh : hsI x0 S M) (hk : kdI x0 S M) (h : core x0 Bt S M ra sl mkO L Wt) {j m : Nat} (hm : mkO j = some m) (v : Int32) : fk_11_ruleAt S x0 (Int32.ofNat j) v = some ((rlO M (M.2 12 m) v).getD 32) := by
  obtain ⟨⟨hA, hsl, -, -⟩, ⟨hB, -⟩, hN, -⟩ := h
  have hj := (hA.2.1.1 j m hm).1
  unfold fk_11_ruleAt fk_11_ruleAt_25
  have hkd := k_kindOf hB hj
  rw [hm] at hkd
  rw [if_pos (Int32.not_lt.mp (jI_nn (by omega))), ckk_y hh.1.1, hh.1.2.1, bd_s, ckk_y hh.1.1, hh.1.2.2.1, bd_s, ckk_y hB.1.1, hkd, bd_s, ckk_y hk.1.1, k_ruleOf hk, bd_s]
  cases hr : rlO M (M.2 12 m) v with
  | none => exact ckp_y (by decide)
  | some x =>
    obtain ⟨kd, p, d1, d2, d3, d4, d5, -⟩ := rlO_y hk hr
    obtain ⟨-, c, c1, c2⟩ := hk.2.2.2.1 (6 * kd + p) (by omega)
    refine ckp_y ?_
    show vp_nar .char x = x
    rw [d5, c2]; exact nar_n c1
theorem k_ruleAtN (v : Int32) : fk_11_ruleAt S x0 (-1) v = some 32 := by
  unfold fk_11_ruleAt fk_11_ruleAt_25
  rw [if_neg (by decide)]; exact ckp_y (by decide)
theorem m_hasPart (hk : kdI x0 S M) (hM : nM M mkO sl n l) (e : mEx sc M A) {j m : Nat} (hm : mkO j = some m) (hin : m ∈ l) (v : Int32) : fm_hasPart A (Int32.ofNat n) (Int32.ofNat (rNm m)) v = some (b2 (rlO M (M.2 12 m) v ≠ none)) := by
  have hA := hM.1.1
  have hmd := (hA.2.1.1 j m hm).2.1
  have h90 := (hA.2.1.1 j m hm).2.2
  obtain ⟨kd, d1, d2⟩ := mk_kind hA hm
  unfold fm_hasPart fm_hasPart_33 fm_hasPart_34
  rw [m_isObject hM e, bd_s, mkN_mk hA hm, decide_eq_true hin, if_neg bTn, m_kindOf e (rOf_nm hmd.1), bd_s, d2, ck_n d1 (by omega), m_wb, rd_e e (by decide) (by omega)]
  obtain ⟨h1, h2, h3, h4, h5, tp, kn, h6, h7, h8, h9, h10, h11⟩ := id hk
  obtain ⟨np, n1, n2, n3, n4, n5, n6⟩ := h10 kd d1
  have hkn := h11 m kd hmd h90 d2 d1
  rw [n2]
  by_cases q : 0 ≤ v ∧ v ≤ Int32.ofNat np - 1
  · obtain ⟨p, p1, rfl⟩ := (wiE (by omega)).mp q
    rw [b2_t q, if_neg n10, ckz_1, rlO_i hk hkn h7 h9 p1 n1 n2, b2_t (by simp)]
  · rw [b2_f q, if_pos rfl, ckz_0, b2_f]
    intro q2
    apply q2
    unfold rlO
    rw [if_neg]
    rintro ⟨-, q3⟩
    rw [jI_cl (by omega), n2] at q3
    exact q q3
theorem m_hasPartN (hM : nM M mkO sl n l) (e : mEx sc M A) {v2 v : Int32} (h : mkN M l v2 = false) : fm_hasPart A (Int32.ofNat n) v2 v = some 0 := by
  unfold fm_hasPart fm_hasPart_33 fm_hasPart_34
  rw [m_isObject hM e, bd_s, h, if_pos bFn, ckz_0]
theorem m_hasPartO {v1 v2 v : Int32} (hv : ¬ (0 ≤ v1 ∧ v1 ≤ 3)) : fm_hasPart A v1 v2 v = some 0 := by
  unfold fm_hasPart fm_hasPart_33 fm_hasPart_34
  rw [m_isObjectN hv, bd_s, if_pos rfl, ckz_0]
/-- a part is there: slot, kind, rule -/
theorem pt_of (hk : kdI x0 S M) (hA : rA M mkO sl) {j m : Nat} (hm : mkO j = some m) {v rl : Int32} (hr : rlO M (M.2 12 m) v = some rl) : ∃ kd p, v = Int32.ofNat p ∧ p < 6 ∧ ptO M mkO j m kd p rl ∧ isRl rl := by
  obtain ⟨kd, p, d1, d2, d3, d4, d5, d6, -⟩ := rlO_y hk hr
  refine ⟨kd, p, d4, d2, ⟨hm, d3, d1, d2, d5.symm, ?_⟩, d6⟩
  rcases d6 with e | e | e | e | e | e | e <;> rw [e] <;> decide
theorem rl_or {rl : Int32} (h : isRl rl) : rl = 65 ∨ rl = 66 ∨ rl = 67 ∨ rl = 76 ∨ rl = 77 ∨ rl = 83 ∨ rl = 84 := h
theorem rl_32 {rl : Int32} (h : isRl rl) : rl ≠ 32 := by
  rcases h with e | e | e | e | e | e | e <;> rw [e] <;> decide
theorem wL_sc : ∀ k, wL k → sc k := fun k h => by unfold wL at h; unfold sc; omega
theorem Inv_l {M' : mSt} (h : Inv x0 k S M) (hk : k + 1 < 900) (e : mEx (fun j => j = 0 ∨ 47 ≤ j) M M') (eS : lkE x0 S S') : Inv x0 (k + 1) S' M' := Inv_sc h (by omega) hk e eS.1 eS.2.1 (fun j _ => by rw [eS.2.2])
theorem k_c8 {j p : Nat} : Int32.ofNat j * 8 + Int32.ofNat p = Int32.ofNat (8 * j + p) := by
  rw [show (8 : Int32) = Int32.ofNat 8 from rfl, jI_mul, jI_add, Nat.mul_comm]
theorem c_size (hk : k + 1 < 900) : lC_size x0 (Inv x0 k) (Inv x0 (k + 1)) := by
  intro S M v1 v2 v3 h
  have h0 := Inv_0 h (by omega)
  unfold fk_11_size fm_size fk_11_size_50
  rw [lt_d]
  generalize pu M 0 0 = A at h0 ⊢
  have h1 := Inv_1 h0 hk
  have h00 := h0
  obtain ⟨ra, sl, mkO, L, Wt, ro, fa, hc, hh, hkd, hth, htx, hro, hl, hnu⟩ := h0
  rw [ckk_y hh.1.1]
  by_cases hv : 0 ≤ v1 ∧ v1 ≤ 3
  · obtain ⟨n, hn, rfl⟩ := wi3.mp hv
    have hc' := hc
    obtain ⟨⟨hA, hsl, -, -⟩, ⟨hB, -⟩, hN, -⟩ := hc'
    obtain ⟨⟨hM1, ⟨⟨hy, hv', -⟩, -⟩⟩, -⟩ := hN n hn
    have hcl := hM1.1.2.1
    rcases k_madeSlot hh hc hn v2 with ⟨j, m, hm, hin, rfl, q1, -⟩ | ⟨q1, q2⟩
    · rw [q1, bd_s, ckk_y hh.1.1, k_ruleAt hh hkd hc hm, bd_s, m_hasPart hkd hM1 (mEx_refl _ _) hm hin, bd_s]
      cases hr : rlO A (A.2 12 m) v3 with
      | none => rw [b2_f (by simp), if_pos (show (none : Option Int32).getD 32 = 32 from rfl), if_pos rfl]; exact ⟨_, _, _, rfl, rfl, h1⟩
      | some rl =>
        obtain ⟨kd, p, rfl, p6, hp, hrl⟩ := pt_of hkd hA hm hr
        have hnd : x0 + 5 + 5 ≤ sN x0 n ∧ sN x0 n + 26 ≤ x0 + 5 + 128 := by unfold sN; omega
        obtain ⟨S', s1, s2, -⟩ := k_vals hn hA hcl (cQ_nv hcl hB hv' hnd) hh.1.1 hh.1.2.2.2.2.2.2.1 htx.1 hp hrl
        obtain ⟨B, b1, b2', b3, -⟩ := m_lookR hM1.1 (mEx_refl sc A) hp (rl_or hrl) (L n).length (Nat.le_refl _)
        rw [List.take_length] at b3
        rw [b2_t (by simp), if_neg n10, if_neg (show ¬ (some rl).getD 32 = 32 from rl_32 hrl), k_nd hh hn, bd_s, ckk_y hy.1.1, hy.1.2.2.2.1, bd_s, ckk_y hh.1.1, k_c8, show (some rl).getD 32 = rl from rfl, s1, bd_s, lt_d, lt_d, ck_n hn (by omega), rd_n _ _ (by omega), hM1.1.2.2.2, b1, bd_s, b3.1]
        exact ⟨_, _, _, rfl, rfl, Inv_l h00 hk (mEx_mono b2' (fun k hk => Or.inr (wL_sc k hk))) s2⟩
    · rw [q1, bd_s, ckk_y hh.1.1, k_ruleAtN, bd_s, if_pos rfl, m_hasPartN hM1 (mEx_refl _ _) q2, bd_s, if_pos rfl]
      exact ⟨_, _, _, rfl, rfl, h1⟩
  · rw [k_madeSlotN hv, bd_s, ckk_y hh.1.1, k_ruleAtN, bd_s, if_pos rfl, m_hasPartO hv, bd_s, if_pos rfl]
    exact ⟨_, _, _, rfl, rfl, h1⟩
end V
