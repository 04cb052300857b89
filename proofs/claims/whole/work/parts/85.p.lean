-- part 85: value, bound, by
section V
variable {S S' : cSt} {M A : mSt} {ra : Nat → Nat} {sl : Nat → Int32} {mkO : Nat → Option Nat} {x0 n k : Nat} {l : List Nat} {L Wt : Nat → List Nat} {Bt : Nat}
theorem va_len (hA : rA M mkO sl) (hc : cl M l) {o p rl : Int32} (h : isRl rl) : (vaL M l o p rl).length ≤ 1000 := by
  rcases h with e | e | e | e | e | e | e <;> subst e
  · exact Nat.le_trans (kvL_len _ _) (by decide)
  · show 5 ≤ 1000; decide
  · show 1 ≤ 1000; decide
  · show 1 ≤ 1000; decide
  · exact Nat.le_trans (kvL_len _ _) (by decide)
  · show (List.map _ _).length ≤ 1000
    rw [List.length_map, len_srt]; exact Nat.le_trans (List.length_filter_le _ _) (cl_len hc)
  · show (List.map _ _).length ≤ 1000
    rw [List.length_map]
    refine Nat.le_trans (List.length_filter_le _ _) ?_
    unfold txR
    rw [txL_len, len_srt]; exact Nat.le_trans (List.length_filter_le _ _) (cl_len hc)
theorem k_shareV (hA : rA M mkO sl) (hc : cl M l) {bk la va ua vb : Nat} (hQ : cQ M ra sl (chF M sl) (mde M) mkO S bk la va ua 1000 vb l) {j m kd p : Nat} (hp : ptO M mkO j m kd p 66) {i : Nat} (hi : i < (vaL M l (Int32.ofNat (rNm m)) (Int32.ofNat p) 66).length) : ∃ S', fk_10_shareOf S va (Int32.ofNat (8 * j + p)) (Int32.ofNat i) = some ((vaL M l (Int32.ofNat (rNm m)) (Int32.ofNat p) 66)[i].1, S') ∧ cEq (inV vb) S S' := by
  have hj := (hA.2.1.1 j m hp.1).1
  have hp6 := hp.2.2.2.1
  have hup : l.take 1000 = l := List.take_of_length_le (cl_len hc)
  obtain ⟨f, f1, f2, f3⟩ := k_findShares (c := 8 * j + p) (by omega) hQ (ln_rng hA hc _)
  have hi5 : i < 5 := hi
  have hvA := hQ.2.2.2.2.1
  have k11 : kK (sI S (vb + 4) f) va = 11 := hQ.2.2.1.1.1
  have k6 : kR (sI S (vb + 4) f) va 6 = some (vb + 4) := hvA.1.2.2.2.2
  have k20 : kK (sI S (vb + 4) f) (vb + 4) = 20 := hvA.2.2.2.2.2.2.2.2.2.1
  have l5 : kL (sI S (vb + 4) f) (vb + 4) = 5 := hvA.2.2.2.2.2.2.2.2.2.2
  refine ⟨sI S (vb + 4) f, ?_, cEq_sI _ (by unfold inV; omega)⟩
  unfold fk_10_shareOf
  rw [ckk_y hQ.2.2.1.1.1, f1, bd_s, ckk_y k11, k6, bd_s, ckk_y k20, l5, ck_n hi5 (by omega), jI_cl (by omega), kI_sI]
  have sh : ∀ q, shN M (chF M sl) l 1000 (8 * j + p) q = shB M l (Int32.ofNat (rNm m)) (Int32.ofNat p) q := fun q => by rw [lk_B hA hc hp 1000 q, hup]
  have : i = 0 ∨ i = 1 ∨ i = 2 ∨ i = 3 ∨ i = 4 := by omega
  rcases this with e | e | e | e | e <;> subst e
  · rw [f2 0 (by decide), sh]; rfl
  · rw [f2 1 (by decide), sh]; rfl
  · rw [f2 2 (by decide), sh]; rfl
  · rw [f2 3 (by decide), sh]; rfl
  · rw [f3, sh, sh, sh, sh]; rfl
theorem c_value (hk : k + 1 < 900) : lC_value x0 (Inv x0 k) (Inv x0 (k + 1)) := by
  intro S M v1 v2 v3 v4 h
  have h0 : Inv x0 k S (pu M 0 1) := Inv_sc h (Nat.le_refl _) (by omega) (mEx_pu (Or.inl rfl) _) (cEq_refl _ _) rfl (fun _ _ => rfl)
  have hthr : (pu M 0 1).1 0 = 1 := pu_s _ _ _
  unfold fk_11_value fm_value fk_11_value_29 fk_11_value_146
  rw [lt_d]
  generalize pu M 0 1 = A at h0 hthr ⊢
  have h1 := Inv_1 h0 hk
  have h00 := h0
  obtain ⟨ra, sl, mkO, L, Wt, ro, fa, hc, hh, hkd, hth, htx, hro, hl, hnu⟩ := h0
  rw [ckk_y hh.1.1]
  by_cases hv : 0 ≤ v1 ∧ v1 ≤ 3
  · obtain ⟨n, hn, rfl⟩ := wi3.mp hv
    have hc' := hc
    obtain ⟨⟨hA, hsl, -, -⟩, ⟨hB, -⟩, hN, -⟩ := hc'
    obtain ⟨⟨hM1, ⟨⟨hy, hv', -⟩, -⟩⟩, -⟩ := hN n hn
    have hcl := hM1.1.2.1
    have hnd : x0 + 5 + 5 ≤ sN x0 n ∧ sN x0 n + 26 ≤ x0 + 5 + 128 := by unfold sN; omega
    rcases k_madeSlot hh hc hn v2 with ⟨j, m, hm, hin, rfl, q1, -⟩ | ⟨q1, q2⟩
    · rw [q1, bd_s, ckk_y hh.1.1, k_ruleAt hh hkd hc hm, bd_s, m_hasPart hkd hM1 (mEx_refl _ _) hm hin, bd_s]
      cases hr : rlO A (A.2 12 m) v3 with
      | none => rw [b2_f (by simp), if_pos (show (none : Option Int32).getD 32 = 32 from rfl), if_pos rfl]; exact ⟨_, _, _, _, _, rfl, rfl, Or.inr ⟨rfl, hthr⟩, h1⟩
      | some rl =>
        obtain ⟨kd, p, rfl, p6, hp, hrl⟩ := pt_of hkd hA hm hr
        have hrule : fm_ruleOf A (Int32.ofNat (rNm m)) (Int32.ofNat p) = some rl := by rw [m_ruleOf (mEx_refl sc A) (rOf_nm (hA.2.1.1 j m hm).2.1.1) hp.2.1 hp.2.2.1 hp.2.2.2.1, hp.2.2.2.2.1]
        have hget : (some rl).getD 32 = rl := rfl
        rw [b2_t (by simp), if_neg n10, hget]
        obtain ⟨S', s1, s2, s3, s4⟩ := k_vals hn hA hcl (cQ_nv hcl hB hv' hnd) hh.1.1 hh.1.2.2.2.2.2.2.1 htx.1 hp hrl
        obtain ⟨B, b1, b2', b3, -⟩ := m_lookR hM1.1 (mEx_refl sc A) hp (rl_or hrl) (L n).length (Nat.le_refl _)
        rw [List.take_length] at b3
        have hlen := va_len (M := A) (o := Int32.ofNat (rNm m)) (p := Int32.ofNat p) hA hcl hrl
        have eB : mEx (fun j => j = 0 ∨ 47 ≤ j) A B := mEx_mono b2' (fun k hk => Or.inr (wL_sc k hk))
        have B0 : B.1 0 = A.1 0 := (b2' 0 (by unfold wL; decide)).1
        generalize hV : vaL A (L n) (Int32.ofNat (rNm m)) (Int32.ofNat p) rl = V at s1 s4 b3 hlen
        rw [if_neg (rl_32 hrl), ck_n hn (by omega), rd_n _ _ (by omega), hM1.1.2.2.2, b1, bd_s, b3.1, m_wb]
        by_cases hi : 0 ≤ v4 ∧ v4 ≤ Int32.ofNat V.length - 1
        · rw [b2_t hi, if_neg n10, lt_d, if_pos hi.1]
          obtain ⟨i, hi', rfl⟩ := (wiE (by omega)).mp hi
          rw [k_nd hh hn, bd_s, ckk_y hy.1.1, hy.1.2.2.2.1, bd_s, lt_d, ckk_y hh.1.1, k_c8, s1, bd_s, lt_d, lt_d, if_pos ((jI_lt (by omega) (by omega)).mpr hi'), ck_n (by omega) (by omega), rd_n _ _ (by omega), pu_2, (b3.2 i hi').1]
          have IB : Inv x0 (k + 1) S' (pu B 0 0) := Inv_l h00 hk (mEx_trans eB (mEx_pu (Or.inl rfl) _)) s2
          by_cases e67 : rl = 67
          · subst e67
            have hi0 : i = 0 := by rw [← hV] at hi'; have : i < 1 := hi'; omega
            subst hi0
            rw [if_pos rfl, ckk_y s3.2.2.1.1.1, k_sumOf (c := 8 * j + p) (by have := (hA.2.1.1 j m hm).1; omega) s3.1 s3.2.1 s3.2.2.1 s3.2.2.2.1, bd_s, lk_C hA hcl hp 1000, List.take_of_length_le (cl_len hcl)]
            refine ⟨_, _, _, _, _, rfl, rfl, Or.inl ⟨rfl, pu_s _ _ _, ?_⟩, IB⟩
            subst hV; rfl
          rw [if_neg e67]
          by_cases e66 : rl = 66
          · subst e66
            subst hV
            obtain ⟨S'', t1, t2⟩ := k_shareV hA hcl s3 hp hi'
            rw [if_pos rfl, ckk_y s3.2.2.1.1.1, t1, bd_s, lt_d, lt_d]
            have e3 := lkE_V hn t2
            exact ⟨_, _, _, _, _, rfl, rfl, Or.inl ⟨rfl, pu_s _ _ _, rfl⟩, Inv_l h00 hk (mEx_trans eB (mEx_pu (Or.inl rfl) _)) ⟨cEq_trans s2.1 e3.1, e3.2.1.trans s2.2.1, e3.2.2.trans s2.2.2⟩⟩
          rw [if_neg e66]
          obtain ⟨o, o1, o2, o3⟩ := s4 e66 e67 i hi'
          rw [ckk_y (by rw [s2.1.1]; exact hh.1.1), o1, bd_s, o3]
          cases o with
          | none => exact ⟨_, _, _, _, _, rfl, rfl, Or.inl ⟨rfl, pu_s _ _ _, rfl⟩, IB⟩
          | some r =>
            obtain ⟨-, k9, ⟨-, -, -, k4, -⟩, -⟩ := s3.1.2.2.1 r (o2 r rfl).1 (o2 r rfl)
            refine ⟨0, kF S' (ra r) 4, S', _, _, ?_, rfl, Or.inl ⟨rfl, pu_s _ _ _, ?_⟩, IB⟩
            · show ckk S' (ra r) 9 _ = _
              rw [ckk_y k9]
            · exact k4.symm
        · rw [b2_f hi, if_pos rfl]
          by_cases h4 : 0 ≤ v4
          · rw [if_pos h4, k_nd hh hn, bd_s, ckk_y hy.1.1, hy.1.2.2.2.1, bd_s, lt_d, ckk_y hh.1.1, k_c8, s1, bd_s, lt_d, lt_d, if_neg]
            · exact ⟨_, _, _, _, _, rfl, rfl, Or.inr ⟨rfl, B0.trans hthr⟩, Inv_l h00 hk eB s2⟩
            · intro q
              exact hi ((wiE (by omega)).mpr (wiK (by omega) (Int32.not_lt.mpr h4) (Int32.not_le.mpr q)))
          · rw [if_neg h4]
            exact ⟨_, _, _, _, _, rfl, rfl, Or.inr ⟨rfl, B0.trans hthr⟩, Inv_l h00 hk eB (lkE_refl _ _)⟩
    · rw [q1, bd_s, ckk_y hh.1.1, k_ruleAtN, bd_s, if_pos rfl, m_hasPartN hM1 (mEx_refl _ _) q2, bd_s, if_pos rfl]
      exact ⟨_, _, _, _, _, rfl, rfl, Or.inr ⟨rfl, hthr⟩, h1⟩
  · rw [k_madeSlotN hv, bd_s, ckk_y hh.1.1, k_ruleAtN, bd_s, if_pos rfl, m_hasPartO hv, bd_s, if_pos rfl]
    exact ⟨_, _, _, _, _, rfl, rfl, Or.inr ⟨rfl, hthr⟩, h1⟩
theorem c_by (hk : k + 1 < 900) : lC_by x0 (Inv x0 k) (Inv x0 (k + 1)) := by
  intro S M v1 v2 v3 v4 h
  have h0 : Inv x0 k S (pu M 0 0) := Inv_sc h (Nat.le_refl _) (by omega) (mEx_pu (Or.inl rfl) _) (cEq_refl _ _) rfl (fun _ _ => rfl)
  have hthr : (pu M 0 0).1 0 = 0 := pu_s _ _ _
  unfold fk_11_by fm_by fk_11_by_38 fk_11_by_80 fk_11_by_110 fm_by_67 fm_by_94
  rw [lt_d]
  generalize pu M 0 0 = A at h0 hthr ⊢
  have h1 := Inv_1 h0 hk
  have h00 := h0
  obtain ⟨ra, sl, mkO, L, Wt, ro, fa, hc, hh, hkd, hth, htx, hro, hl, hnu⟩ := h0
  rw [ckk_y hh.1.1]
  by_cases hv : 0 ≤ v1 ∧ v1 ≤ 3
  · obtain ⟨n, hn, rfl⟩ := wi3.mp hv
    have hc' := hc
    obtain ⟨⟨hA, hsl, -, -⟩, ⟨hB, -⟩, hN, -⟩ := hc'
    obtain ⟨⟨hM1, ⟨⟨hy, hv', -⟩, -⟩⟩, -⟩ := hN n hn
    have hcl := hM1.1.2.1
    have hnd : x0 + 5 + 5 ≤ sN x0 n ∧ sN x0 n + 26 ≤ x0 + 5 + 128 := by unfold sN; omega
    rcases k_madeSlot hh hc hn v2 with ⟨j, m, hm, hin, rfl, q1, -⟩ | ⟨q1, q2⟩
    · rw [q1, bd_s, ckk_y hh.1.1, k_ruleAt hh hkd hc hm, bd_s, m_hasPart hkd hM1 (mEx_refl _ _) hm hin, bd_s]
      cases hr : rlO A (A.2 12 m) v3 with
      | none => rw [b2_f (by simp), if_pos (show (none : Option Int32).getD 32 = 32 from rfl), if_pos rfl]; exact ⟨_, _, _, rfl, rfl, h1⟩
      | some rl =>
        obtain ⟨kd, p, rfl, p6, hp, hrl⟩ := pt_of hkd hA hm hr
        have hrule : fm_ruleOf A (Int32.ofNat (rNm m)) (Int32.ofNat p) = some rl := by rw [m_ruleOf (mEx_refl sc A) (rOf_nm (hA.2.1.1 j m hm).2.1.1) hp.2.1 hp.2.2.1 hp.2.2.2.1, hp.2.2.2.2.1]
        have hget : (some rl).getD 32 = rl := rfl
        rw [b2_t (by simp), if_neg n10, hget]
        obtain ⟨S', s1, s2, s3, s4⟩ := k_vals hn hA hcl (cQ_nv hcl hB hv' hnd) hh.1.1 hh.1.2.2.2.2.2.2.1 htx.1 hp hrl
        obtain ⟨B, b1, b2', b3, -⟩ := m_lookR hM1.1 (mEx_refl sc A) hp (rl_or hrl) (L n).length (Nat.le_refl _)
        rw [List.take_length] at b3
        have hlen := va_len (M := A) (o := Int32.ofNat (rNm m)) (p := Int32.ofNat p) hA hcl hrl
        have eB : mEx (fun j => j = 0 ∨ 47 ≤ j) A B := mEx_mono b2' (fun k hk => Or.inr (wL_sc k hk))
        have B0 : B.1 0 = A.1 0 := (b2' 0 (by unfold wL; decide)).1
        generalize hV : vaL A (L n) (Int32.ofNat (rNm m)) (Int32.ofNat p) rl = V at s1 s4 b3 hlen
        rw [if_neg (rl_32 hrl), hrule, bd_s, ck_n hn (by omega), rd_n _ _ (by omega), hM1.1.2.2.2, b1, bd_s]
        by_cases e67 : rl = 67
        · rw [if_pos e67, if_pos e67]; exact ⟨_, _, _, rfl, rfl, Inv_l h00 hk eB (lkE_refl _ _)⟩
        rw [if_neg e67, if_neg e67]
        by_cases e66 : rl = 66
        · rw [if_pos e66, if_pos e66]; exact ⟨_, _, _, rfl, rfl, Inv_l h00 hk eB (lkE_refl _ _)⟩
        rw [if_neg e66, if_neg e66, b3.1, m_wb, k_nd hh hn, bd_s, ckk_y hy.1.1, hy.1.2.2.2.1, bd_s, lt_d, k_c8]
        by_cases hi : 0 ≤ v4 ∧ v4 ≤ Int32.ofNat V.length - 1
        · rw [b2_t hi, if_neg n10, if_neg (Int32.not_lt.mpr hi.1)]
          obtain ⟨i, hi', rfl⟩ := (wiE (by omega)).mp hi
          obtain ⟨o, o1, o2, o3⟩ := s4 e66 e67 i hi'
          have IB : Inv x0 (k + 1) S' B := Inv_l h00 hk eB s2
          rw [ckk_y hh.1.1, s1, bd_s, lt_d, lt_d, if_pos ((jI_lt (by omega) (by omega)).mpr hi'), ckk_y (by rw [s2.1.1]; exact hh.1.1), o1, bd_s, ck_n (by omega) (by omega), ck_n (by omega) (by omega), rd_n _ _ (by omega), (b3.2 i hi').2, o3]
          cases o with
          | none => exact ⟨_, _, _, rfl, rfl, IB⟩
          | some r =>
            have hr1 := (o2 r rfl).1
            obtain ⟨-, k9, -, ⟨-, -, k11, -⟩, -⟩ := s3.1.2.2.1 r hr1 (o2 r rfl)
            show ∃ r' S1 M1, ckk S' (ra r) 9 _ = _ ∧ (if Int32.ofNat r = -1 then _ else _) = _ ∧ _
            rw [ckk_y k9, k11, if_neg (jI_ne (by omega)), show rI (some r) = Int32.ofNat r from rfl, m_nameOf hr1, bd_s]
            exact ⟨_, _, _, rfl, rfl, IB⟩
        · rw [b2_f hi, if_pos rfl]
          by_cases h4 : v4 < 0
          · rw [if_pos h4]
            exact ⟨_, _, _, rfl, rfl, Inv_l h00 hk eB (lkE_refl _ _)⟩
          · rw [if_neg h4, ckk_y hh.1.1, s1, bd_s, lt_d, lt_d, if_neg]
            · exact ⟨_, _, _, rfl, rfl, Inv_l h00 hk eB s2⟩
            · intro q
              exact hi ((wiE (by omega)).mpr (wiK (by omega) h4 (Int32.not_le.mpr q)))
    · rw [q1, bd_s, ckk_y hh.1.1, k_ruleAtN, bd_s, if_pos rfl, m_hasPartN hM1 (mEx_refl _ _) q2, bd_s, if_pos rfl]
      exact ⟨_, _, _, rfl, rfl, h1⟩
  · rw [k_madeSlotN hv, bd_s, ckk_y hh.1.1, k_ruleAtN, bd_s, if_pos rfl, m_hasPartO hv, bd_s, if_pos rfl]
    exact ⟨_, _, _, rfl, rfl, h1⟩
end V
