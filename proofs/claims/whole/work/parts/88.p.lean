-- part 88: was
section V
variable {S S' : cSt} {M A : mSt} {ra : Nat → Nat} {sl : Nat → Int32} {mkO : Nat → Option Nat} {x0 n k : Nat} {l : List Nat} {L Wt : Nat → List Nat} {Bt : Nat}
theorem lt0_le {v : Int32} (h : v < 0) : v ≤ -1 := by
  have h1 : v.toInt < 0 := Int32.lt_iff_toInt_lt.mp h
  refine Int32.le_iff_toInt_le.mpr ?_
  show v.toInt ≤ -1
  omega
theorem c_was (hk : k + 1 < 900) : lC_was x0 (Inv x0 k) (Inv x0 (k + 1)) := by
  intro S M v1 v2 v3 v4 v5 h
  have h0 : Inv x0 k S (pu M 0 0) := Inv_sc h (Nat.le_refl _) (by omega) (mEx_pu (Or.inl rfl) _) (cEq_refl _ _) rfl (fun _ _ => rfl)
  have hthr : (pu M 0 0).1 0 = 0 := pu_s _ _ _
  unfold fk_11_was fm_was fk_11_was_27 fk_11_was_53 fk_11_was_127 fm_was_42
  rw [lt_d]
  generalize pu M 0 0 = A at h0 hthr ⊢
  have h1 := Inv_1 h0 hk
  have h00 := h0
  obtain ⟨ra, sl, mkO, L, Wt, ro, fa, hc, hh, hkd, hth, htx, hro, hl, hnu⟩ := h0
  rw [ckk_y hh.1.1]
  by_cases hv : 0 ≤ v1 ∧ v1 ≤ 3
  · obtain ⟨n, hn, rfl⟩ := wi3.mp hv
    have hc' := hc
    obtain ⟨⟨hA, hsl, -, -⟩, ⟨hB, -⟩, hN, -⟩ := hc'
    obtain ⟨⟨hM1, ⟨⟨hy, hv', -⟩, -⟩⟩, -⟩ := hN n hn
    have hcl := hM1.1.2.1
    have hnd : x0 + 5 + 5 ≤ sN x0 n ∧ sN x0 n + 26 ≤ x0 + 5 + 128 := by unfold sN; omega
    rcases k_madeSlot hh hc hn v3 with ⟨j, m, hm, hin, rfl, q1, -⟩ | ⟨q1, q2⟩
    · rw [q1, bd_s, ckk_y hh.1.1, k_ruleAt hh hkd hc hm, bd_s, m_hasPart hkd hM1 (mEx_refl _ _) hm hin, bd_s]
      cases hr : rlO A (A.2 12 m) v4 with
      | none => rw [b2_f (by simp), if_neg (show ¬ (none : Option Int32).getD 32 = 84 by decide), if_pos rfl]; exact ⟨_, _, _, rfl, rfl, h1⟩
      | some rl =>
        obtain ⟨kd, p, rfl, p6, hp, hrl⟩ := pt_of hkd hA hm hr
        have hrule : fm_ruleOf A (Int32.ofNat (rNm m)) (Int32.ofNat p) = some rl := by rw [m_ruleOf (mEx_refl sc A) (rOf_nm (hA.2.1.1 j m hm).2.1.1) hp.2.1 hp.2.2.1 hp.2.2.2.1, hp.2.2.2.2.1]
        have hget : (some rl).getD 32 = rl := rfl
        rw [b2_t (by simp), if_neg n10, hget]
        rw [ck_n hn (by omega), rd_n _ _ (by omega), hM1.1.2.2.2, m_wb, hrule, bd_s]
        have hle := cl_len hcl
        have hmd := (hA.2.1.1 j m hm).2.1
        have hj48 := (hA.2.1.1 j m hm).1
        have E : (∃ u, u ≤ (L n).length ∧ v2 = Int32.ofNat u) ↔ (0 ≤ v2 ∧ v2 ≤ Int32.ofNat (L n).length) := by
          have := wiE (v := v2) (N := (L n).length + 1) (by omega)
          rw [show Int32.ofNat ((L n).length + 1) - 1 = Int32.ofNat (L n).length from by rw [show (1 : Int32) = Int32.ofNat 1 from rfl, jI_sub (by omega)]; rfl] at this
          rw [this]
          exact ⟨fun ⟨u, u1, u2⟩ => ⟨u, by omega, u2⟩, fun ⟨u, u1, u2⟩ => ⟨u, by omega, u2⟩⟩
        by_cases e84 : rl = 84
        · subst e84
          rw [if_pos rfl, if_pos rfl]
          by_cases h2 : 0 ≤ v2 ∧ v2 ≤ Int32.ofNat (L n).length
          · rw [b2_t h2, if_neg n10, lt_d]
            obtain ⟨up, hup, rfl⟩ := E.mpr h2
            obtain ⟨S8, s1, s2, s3, s4⟩ := k_then hh hc hth hn hup
            have hlu : ((L n).take up).length = up := by rw [List.length_take]; omega
            have z0 := s2.2.2.2.2 x0 (by omega)
            have z13 := s2.2.2.2.2 (x0 + 13) (by omega)
            have hT8 : txA S8 (x0 + 13) (x0 + 5) := by unfold txA; rw [z13.2.1]; simp only [s2.1, s2.2.1]; exact htx.1
            have hsN : x0 + 22 ≤ sN x0 n := by unfold sN; omega
            obtain ⟨S9, t1, t2, t3, t4, t5, t6, -⟩ := k_read (c := 8 * j + p) (by omega) s4 hT8 (by omega) (tcOk_cl hA hcl hp up)
            have y0 := t2.2.2.2.2 x0 (fun q => by have := q.1; omega)
            have y126 := t2.2.2.2.2 (x0 + 126) (fun q => by have := q.2; omega)
            have IS : ∀ M', mEx (fun j => j = 0 ∨ 47 ≤ j) A M' → Inv x0 (k + 1) S9 M' := fun M' e => Inv_sc h00 (by omega) hk e (cEq_trans (cEq_mono s2 (fun a ha => by unfold scr; omega)) (cEq_mono t2 (fun a ha => Or.inr (Or.inl ⟨ha.1, by have := ha.2; omega⟩)))) (t3.trans z13.2.1) (fun j hj => by rw [y126.2.1]; exact s3 j hj)
            have hV : tsL A (chF A sl) (L n) up (8 * j + p) = (txR A ((L n).take up) (Int32.ofNat (rNm m)) (Int32.ofNat p)).filter (tvP A ((L n).take up)) := lk_T hA hcl hp up
            have hlen : (tsL A (chF A sl) (L n) up (8 * j + p)).length ≤ 1000 := by
              rw [hV]
              refine Nat.le_trans (List.length_filter_le _ _) ?_
              unfold txR
              rw [txL_len, len_srt]
              exact Nat.le_trans (List.length_filter_le _ _) (by omega)
            have hsub : ∀ r ∈ tsL A (chF A sl) (L n) up (8 * j + p), mde A r := fun r hr => by
              rw [hV] at hr
              exact cl_mem hcl (List.mem_of_mem_take (txR_mem.mp (List.mem_filter.mp hr).1).1)
            have eP : mEx (fun j => j = 0 ∨ 47 ≤ j) A (pu A 49 0) := mEx_pu (Or.inr (by decide)) _
            have eP' : mEx sc A (pu A 49 0) := mEx_pu (show sc 49 by unfold sc; decide) _
            have made : fm_isMade (pu A 49 0) (Int32.ofNat n) (Int32.ofNat (rNm m)) (Int32.ofNat up) = some (b2 (m ∈ (L n).take up)) := by
              have := m_isMade eP' (n := n) (l := (L n).take up) (lAt_take hM1.1.2.2.1 up) (Int32.ofNat (rNm m))
              rw [hlu] at this
              rw [this, mkN_mk hA hm]
              by_cases q : m ∈ (L n).take up
              · rw [b2_t q, b2_t (decide_eq_true q)]
              · rw [b2_f q, b2_f (by rw [decide_eq_false q]; decide)]
            generalize hTT : tsL A (chF A sl) (L n) up (8 * j + p) = T at t5 t6 hV hlen hsub
            have fin : ∃ B, mEx (fun j => j = 0 ∨ 47 ≤ j) A B ∧ inP B (rwL A T) ∧ (if b2 (m ∈ (L n).take up) = 0 then fm_was_68 (pu A 49 0) v5 else bd (fm_look (pu A 49 0) (Int32.ofNat n) (Int32.ofNat up) (Int32.ofNat (rNm m)) (Int32.ofNat p)) fun S11 => fm_was_68 S11 v5) = fm_was_68 B v5 := by
              by_cases q : m ∈ (L n).take up
              · obtain ⟨B, b1, b2', b3, -⟩ := m_lookR hM1.1 eP' hp (rl_or hrl) up hup
                refine ⟨B, mEx_trans eP (mEx_mono b2' (fun k hk => Or.inr (wL_sc k hk))), ?_, by rw [b2_t q, if_neg n10, b1, bd_s]⟩
                rw [hV]; exact b3
              · refine ⟨pu A 49 0, eP, ?_, by rw [b2_f q, if_pos rfl]⟩
                rw [hV, tx_nil hA (cl_take hcl up) hmd q]
                exact ⟨pu_s _ _ _, fun i hi => absurd hi (by simp [rwL])⟩
            obtain ⟨B, f1, ⟨f2, f3⟩, f4⟩ := fin
            rw [made, bd_s, f4]
            have hrl0 : (rwL A T).length = T.length := by unfold rwL; rw [List.length_map]
            unfold fm_was_68 fm_was_107
            by_cases e5 : v5 = -1
            · rw [if_pos (show (-1 : Int32) ≤ v5 by rw [e5]; decide), k_nd hh hn, bd_s, ckk_y hy.1.1, hy.1.2.2.1, bd_s, if_neg (Int32.not_lt.mpr h2.1), ckk_y hv'.1.1.1.1, hv'.1.2.1, if_pos h2.2, ckk_y hh.1.1, hh.1.2.2.2.2.2.1, bd_s, ckk_y hth.1.1, s1, bd_s, k_c8, ckk_y (by rw [s2.1]; exact hh.1.1), z0.2.1, hh.1.2.2.2.2.2.2.1, bd_s, ckk_y (by rw [s2.1]; exact hh.1.1), hh.1.2.2.2.2.2.1, bd_s, ckk_y hT8.1.1, t1, bd_s, if_pos e5, if_pos e5, ckk_y (by rw [t2.1, s2.1]; exact hh.1.1), y0.2.1, z0.2.1, hh.1.2.2.2.2.2.2.1, bd_s, ckk_y (by rw [t2.1]; exact hT8.1.1), t5, f2, hrl0]
              exact ⟨_, _, _, rfl, rfl, IS B f1⟩
            rw [if_neg e5, f2, hrl0, m_wb]
            by_cases hi : 0 ≤ v5 ∧ v5 ≤ Int32.ofNat T.length - 1
            · obtain ⟨i, hi', rfl⟩ := (wiE (by omega)).mp hi
              have hm1 : (-1 : Int32) ≤ Int32.ofNat i := Int32.le_trans (show (-1 : Int32) ≤ 0 by decide) hi.1
              have hmd' := hsub _ (List.getElem_mem hi')
              have hB9 : cBk A ra sl (chF A sl) (mde A) mkO S9 (x0 + 5) := cBk_eq s4.1 t2 (fun a ha => by have := ha.1; have := ha.2; omega)
              obtain ⟨-, k9, ⟨-, -, -, k4, -⟩, -⟩ := hB9.2.2.1 _ hmd'.1 hmd'
              have h49 : (rwL A T)[i]'(by rw [hrl0]; exact hi') = (A.2 12 T[i], Int32.ofNat T[i]) := List.getElem_map (fun r => (A.2 12 r, Int32.ofNat r))
              rw [b2_t hi, if_neg n10, ck_n (by omega) (by omega), rd_n _ _ (by omega), (f3 i (by rw [hrl0]; exact hi')).1, h49, if_pos hm1, k_nd hh hn, bd_s, ckk_y hy.1.1, hy.1.2.2.1, bd_s, if_neg (Int32.not_lt.mpr h2.1), ckk_y hv'.1.1.1.1, hv'.1.2.1, if_pos h2.2, ckk_y hh.1.1, hh.1.2.2.2.2.2.1, bd_s, ckk_y hth.1.1, s1, bd_s, k_c8, ckk_y (by rw [s2.1]; exact hh.1.1), z0.2.1, hh.1.2.2.2.2.2.2.1, bd_s, ckk_y (by rw [s2.1]; exact hh.1.1), hh.1.2.2.2.2.2.1, bd_s, ckk_y hT8.1.1, t1, bd_s, if_neg e5, ckk_y (by rw [t2.1, s2.1]; exact hh.1.1), y0.2.1, z0.2.1, hh.1.2.2.2.2.2.2.1, bd_s, ckk_y (by rw [t2.1]; exact hT8.1.1), t5, if_neg (fun q => absurd ((jI_le (by omega) (by omega)).mp q) (by omega)), ckk_y (by rw [t2.1, s2.1]; exact hh.1.1), bd_s, ckk_y (by rw [t2.1]; exact hT8.1.1), t3, hT8.1.2.1, bd_s, ckk_y (by rw [t2.1]; exact hT8.2.1), t2.2.1, hT8.2.2.1, ck_n (by omega) (by omega), lt_d, jI_cl (by omega), t6 i hi', bd_s, ckk_y k9, k4]
              exact ⟨_, _, _, rfl, rfl, IS B f1⟩
            · rw [b2_f hi, if_pos rfl]
              by_cases h5 : (-1 : Int32) ≤ v5
              · rw [if_pos h5, k_nd hh hn, bd_s, ckk_y hy.1.1, hy.1.2.2.1, bd_s, if_neg (Int32.not_lt.mpr h2.1), ckk_y hv'.1.1.1.1, hv'.1.2.1, if_pos h2.2, ckk_y hh.1.1, hh.1.2.2.2.2.2.1, bd_s, ckk_y hth.1.1, s1, bd_s, k_c8, ckk_y (by rw [s2.1]; exact hh.1.1), z0.2.1, hh.1.2.2.2.2.2.2.1, bd_s, ckk_y (by rw [s2.1]; exact hh.1.1), hh.1.2.2.2.2.2.1, bd_s, ckk_y hT8.1.1, t1, bd_s, if_neg e5, ckk_y (by rw [t2.1, s2.1]; exact hh.1.1), y0.2.1, z0.2.1, hh.1.2.2.2.2.2.2.1, bd_s, ckk_y (by rw [t2.1]; exact hT8.1.1), t5, if_pos]
                · exact ⟨_, _, _, rfl, rfl, IS B f1⟩
                · by_cases q : Int32.ofNat T.length ≤ v5
                  · exact q
                  · refine absurd ((wiE (by omega)).mpr (wiK (by omega) (fun q0 => ?_) q)) hi
                    exact e5 (Int32.le_antisymm (lt0_le q0) h5)
              · rw [if_neg h5]
                exact ⟨_, _, _, rfl, rfl, Inv_l h00 hk f1 (lkE_refl _ _)⟩
          · rw [b2_f h2, if_pos rfl]
            by_cases h5 : (-1 : Int32) ≤ v5
            · rw [if_pos h5, k_nd hh hn, bd_s, ckk_y hy.1.1, hy.1.2.2.1, bd_s]
              by_cases e1 : v2 < 0
              · rw [if_pos e1]; exact ⟨_, _, _, rfl, rfl, h1⟩
              · rw [if_neg e1, ckk_y hv'.1.1.1.1, hv'.1.2.1, if_neg (fun q2 => h2 ⟨Int32.not_lt.mp e1, q2⟩)]; exact ⟨_, _, _, rfl, rfl, h1⟩
            · rw [if_neg h5]; exact ⟨_, _, _, rfl, rfl, h1⟩
        · rw [if_neg e84, if_neg e84]
          by_cases h2 : 0 ≤ v2 ∧ v2 ≤ Int32.ofNat (L n).length
          · rw [b2_t h2, if_neg n10]; exact ⟨_, _, _, rfl, rfl, h1⟩
          · rw [b2_f h2, if_pos rfl]; exact ⟨_, _, _, rfl, rfl, h1⟩
    · rw [q1, bd_s, ckk_y hh.1.1, k_ruleAtN, bd_s, if_neg (show ¬ (32 : Int32) = 84 by decide), m_hasPartN hM1 (mEx_refl _ _) q2, bd_s, if_pos rfl]
      exact ⟨_, _, _, rfl, rfl, h1⟩
  · rw [k_madeSlotN hv, bd_s, ckk_y hh.1.1, k_ruleAtN, bd_s, if_neg (show ¬ (32 : Int32) = 84 by decide), m_hasPartO hv, bd_s, if_pos rfl]
    exact ⟨_, _, _, rfl, rfl, h1⟩
end V
