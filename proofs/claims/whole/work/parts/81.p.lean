-- part 81: node and row, the calls
theorem m_wb {β : Type} (x a b : Int32) (K : Int32 → Option β) : bd (fm_within x a b) K = K (b2 (a ≤ x ∧ x ≤ b)) := by rw [m_within]; rfl
section T
variable {S S' : cSt} {M A : mSt} {ra : Nat → Nat} {sl : Nat → Int32} {mkO : Nat → Option Nat} {x0 k n bk Bt : Nat} {l : List Nat}
theorem sn_of (hA : rA M mkO sl) (hM : nM M mkO sl n l) (hn : n < 4) (hnu : nuI M mkO Bt) : ∃ sx, snO M n sx := by
  refine ⟨fun m q => (snV M n m q).toNatClampNeg, fun m q hm hq => ?_⟩
  have hb := (hA.2.2.1 q hq).1
  show snV M n m q = Int32.ofNat (snV M n m q).toNatClampNeg ∧ (snV M n m q).toNatClampNeg ≤ 250
  have : ∃ x, x ≤ 250 ∧ snV M n m q = Int32.ofNat x := by
    unfold snV
    by_cases e : m = n
    · rw [if_pos e]
      obtain ⟨x, x1, x2⟩ := hM.2.2.2.1 q hq
      exact ⟨x, by omega, x2⟩
    · rw [if_neg e]
      obtain ⟨⟨x, x1, x2⟩, -⟩ := (hnu n hn).1 m q hm hq
      exact ⟨x, by omega, x2⟩
  obtain ⟨x, x1, x2⟩ := this
  rw [x2, jI_cl (by omega)]
  exact ⟨rfl, x1⟩
theorem c_node (hk : k + 1 < 900) : lC_node x0 (Inv x0 k) (Inv x0 (k + 1)) := by
  intro S M v1 v2 h
  have h0 := Inv_0 h (by omega)
  unfold fk_11_node fm_node
  rw [lt_d, k_isNode, bd_s, m_within, bd_s]
  generalize pu M 0 0 = A at h0 ⊢
  have h1 := Inv_1 h0 hk
  have h00 := h0
  obtain ⟨ra, sl, mkO, L, Wt, ro, fa, hc, hh, hkd, hth, htx, hro, hl, hnu⟩ := h0
  by_cases hv : 0 ≤ v1 ∧ v1 ≤ 3
  · obtain ⟨n, hn, rfl⟩ := wi3.mp hv
    rw [b2_t hv, if_neg n10, if_neg n10, k_nd hh hn, m_wb, m_wb, m_wb]
    obtain ⟨⟨hA, hsl, htb, hBt⟩, ⟨hB, -⟩, hN, -⟩ := hc
    obtain ⟨⟨hM1, hC1⟩, ⟨hw1, hw2, hw3⟩, hown⟩ := hN n hn
    obtain ⟨sx, hsx⟩ := sn_of hA hM1 hn hnu
    obtain ⟨⟨hy, hv', hls⟩, ⟨E, hE, e1, e2, e3⟩, ⟨F, hF, f1, f2, f3⟩, ⟨f8, f9, f10⟩, hs, hsn, hcu⟩ := hC1
    have y8 := hy.1.1
    have hs' : ∀ m q, m < 4 → q < 4 → kI S (sN x0 n + 5) (4 * m + q) = Int32.ofNat (sx m q) := fun m q hm hq => by rw [hs m q hm hq, (hsx m q hm hq).1]
    have refl := mEx_refl sc A
    rw [gap 40 56 55 (by decide) rfl]
    by_cases q4 : (40 : Int32) ≤ v2 ∧ v2 ≤ Int32.ofNat 55
    · obtain ⟨c, c1, c2, rfl⟩ := rng 40 55 (by decide) q4 (by decide)
      have n1 : ¬ ((10 : Int32) ≤ Int32.ofNat c ∧ Int32.ofNat c ≤ 13) := fun q => absurd ((jI_le (b := 13) (by omega) (by decide)).mp q.2) (by omega)
      have n2 : ¬ ((20 : Int32) ≤ Int32.ofNat c ∧ Int32.ofNat c ≤ 35) := fun q => absurd ((jI_le (b := 35) (by omega) (by decide)).mp q.2) (by omega)
      rw [if_pos q4, b2_f n1, if_pos rfl, b2_f n2, if_pos rfl, b2_t (show (40 : Int32) ≤ Int32.ofNat c ∧ Int32.ofNat c ≤ 55 from q4), if_neg n10, bd_s, ckk_y y8, hy.1.2.2.2.2.2.2.2.1, bd_s, ckk_y hy.2.2.2.1.1, hy.2.2.2.1.2, show (40 : Int32) = Int32.ofNat 40 from rfl, jI_sub c1, ck_n (by omega) (by omega), jI_cl (by omega), hsn _ (by omega)]
      refine ⟨_, _, rfl, ?_, h1⟩
      unfold fm_sentOf
      rw [show (4 : Int32) = Int32.ofNat 4 from rfl, jI_rem (by omega) (by omega), jI_div (by omega) (by omega), show (16 : Int32) = Int32.ofNat 16 from rfl, jI_mul, jI_mul, jI_add, jI_add, ck_n (by omega) (by omega), rd_n _ _ (by omega), bd_s, show 16 * n + 4 * ((c - 40) / 4) + (c - 40) % 4 = 16 * n + (c - 40) by omega]
    rw [if_neg q4, b2_f (fun q : (40 : Int32) ≤ v2 ∧ v2 ≤ 55 => q4 q)]
    unfold fk_11_node_38
    rw [gap 20 36 35 (by decide) rfl]
    by_cases q2 : (20 : Int32) ≤ v2 ∧ v2 ≤ Int32.ofNat 35
    · obtain ⟨c, c1, c2, rfl⟩ := rng 20 35 (by decide) q2 (by decide)
      have n1 : ¬ ((10 : Int32) ≤ Int32.ofNat c ∧ Int32.ofNat c ≤ 13) := fun q => absurd ((jI_le (b := 13) (by omega) (by decide)).mp q.2) (by omega)
      rw [if_pos q2, b2_f n1, if_pos rfl, b2_t (show (20 : Int32) ≤ Int32.ofNat c ∧ Int32.ofNat c ≤ 35 from q2), if_neg n10, bd_s, ckk_y y8, hy.1.2.2.2.2.2.2.1, bd_s, ckk_y hy.2.2.1.1, hy.2.2.1.2, show (20 : Int32) = Int32.ofNat 20 from rfl, jI_sub c1, ck_n (by omega) (by omega), jI_cl (by omega), show (4 : Int32) = Int32.ofNat 4 from rfl, jI_rem (by omega) (by omega), jI_div (by omega) (by omega), m_seenOf refl hn (by omega) (by omega), bd_s]
      refine ⟨_, _, ?_, rfl, h1⟩
      have := hs ((c - 20) / 4) ((c - 20) % 4) (by omega) (by omega)
      rw [show 4 * ((c - 20) / 4) + (c - 20) % 4 = c - 20 by omega] at this
      rw [this]; rfl
    rw [if_neg q2, b2_f (fun q : (20 : Int32) ≤ v2 ∧ v2 ≤ 35 => q2 q), if_pos rfl, if_pos rfl]
    unfold fk_11_node_60
    rw [gap 10 14 13 (by decide) rfl]
    by_cases q1 : (10 : Int32) ≤ v2 ∧ v2 ≤ Int32.ofNat 13
    · obtain ⟨c, c1, c2, rfl⟩ := rng 10 13 (by decide) q1 (by decide)
      rw [if_pos q1, b2_t (show (10 : Int32) ≤ Int32.ofNat c ∧ Int32.ofNat c ≤ 13 from q1), if_neg n10, bd_s, ckk_y y8, show (10 : Int32) = Int32.ofNat 10 from rfl, jI_sub c1, k_knownOf hn hy hs' (by omega), bd_s, m_knownOf refl hn (by omega), bd_s]
      refine ⟨_, _, ?_, rfl, h1⟩
      have := (hsx n (c - 10) hn (by omega)).1
      unfold snV at this
      rw [if_pos rfl] at this
      rw [this]
    rw [if_neg q1, b2_f (fun q : (10 : Int32) ≤ v2 ∧ v2 ≤ 13 => q1 q), if_pos rfl]
    unfold fk_11_node_81
    by_cases e : v2 = 0
    · rw [if_pos e, if_pos e, bd_s, ckk_y y8, ck_n hn (by omega), rd_n _ _ (by omega), f8]; exact ⟨_, _, rfl, rfl, h1⟩
    rw [if_neg e, if_neg e]
    by_cases e : v2 = 1
    · rw [if_pos e, if_pos e, bd_s, ckk_y y8, hy.1.2.2.1, bd_s, ckk_y hv'.1.1.1.1, hv'.1.2.1, ck_n hn (by omega), rd_n _ _ (by omega), hM1.1.2.2.2]; exact ⟨_, _, rfl, rfl, h1⟩
    rw [if_neg e, if_neg e]
    by_cases e : v2 = 2
    · rw [if_pos e, if_pos e, bd_s, ckk_y y8, hw2.1, ck_n hn (by omega), rd_n _ _ (by omega), hw1.2.1]; exact ⟨_, _, rfl, rfl, h1⟩
    rw [if_neg e, if_neg e]
    by_cases e : v2 = 3
    · rw [if_pos e, if_pos e, bd_s, ckk_y y8, hy.1.2.2.2.2.1, bd_s, ckk_y hE.2.1.1, hE.2.1.2.1, ck_n hn (by omega), rd_n _ _ (by omega), e2]; exact ⟨_, _, rfl, rfl, h1⟩
    rw [if_neg e, if_neg e]
    by_cases e : v2 = 4
    · have hc1 := hM1.1.2.1
      have hnd : x0 + 5 + 5 ≤ sN x0 n ∧ sN x0 n + 26 ≤ x0 + 5 + 128 := by unfold sN; omega
      have hQ := cQ_nv hc1 hB hv' hnd
      obtain ⟨B, b1, b2'⟩ := m_there refl hM1.1.2.2.1 (jOkL_cl hA hc1) hM1.1.2.2.2 (ob48 hA hc1)
      rw [if_pos e, if_pos e, bd_s, k_thereAt y8 hy.1.2.2.2.1 hv'.2.1.1.1 (f := vTh A (chF A sl) mkO (L n) 1000) (fun j hj => k_isThere hB hv'.1 hv'.2.1 (lOk_cl hc1) hj), bd_s, b1, bd_s, lt_d, lt_d, th_cnt hA hc1]
      exact ⟨_, _, rfl, rfl, Inv_m h00 hk b2'⟩
    rw [if_neg e, if_neg e]
    by_cases e : v2 = 5
    · rw [if_pos e, if_pos e, bd_s, ckk_y y8, ck_n hn (by omega), rd_n _ _ (by omega), f9]; exact ⟨_, _, rfl, rfl, h1⟩
    rw [if_neg e, if_neg e]
    by_cases e : v2 = 6
    · rw [if_pos e, if_pos e, bd_s, ckk_y y8, ck_n hn (by omega), rd_n _ _ (by omega), f10]; exact ⟨_, _, rfl, rfl, h1⟩
    rw [if_neg e, if_neg e]
    by_cases e : v2 = 7
    · rw [if_pos e, if_pos e, bd_s, ckk_y y8, k_stableRows hn hy hsx hs hM1.2.1 hM1.1.2.1, bd_s, m_stables refl hM1.1.2.2.1 hM1.1.2.2.2, bd_s]; exact ⟨_, _, rfl, rfl, h1⟩
    rw [if_neg e, if_neg e]
    by_cases e : v2 = 8
    · rw [if_pos e, if_pos e, bd_s, ckk_y y8, hy.1.2.2.2.2.2.1, bd_s, ckk_y hF.2.1.1, hF.2.1.2.1, ck_n hn (by omega), rd_n _ _ (by omega), f2]; exact ⟨_, _, rfl, rfl, h1⟩
    rw [if_neg e, if_neg e]
    by_cases e : v2 = 9
    · rw [if_pos e, if_pos e, bd_s, ckk_y y8, k_timeNow y8, bd_s, m_nowOf refl hn, bd_s, f8, f9, nw_eq]; exact ⟨_, _, rfl, rfl, h1⟩
    rw [if_neg e, if_neg e]
    exact ⟨_, _, rfl, rfl, h1⟩
  · rw [b2_f hv, if_pos rfl, if_pos rfl]
    exact ⟨_, _, rfl, rfl, h1⟩
theorem m_findAt (e : mEx sc M A) (h2 : lAt M n l) (hnd : l.Nodup) {i0 : Nat} (hi0 : i0 < l.length) : ∀ (j i fu : Nat), i + j = i0 → j < fu → fm_row_214 fu A (Int32.ofNat n) (Int32.ofNat l[i0]) (Int32.ofNat i) = some (Int32.ofNat i0, A) := by
  have hl := h2.2.1
  intro j
  induction j with
  | zero =>
    intro i fu hi hf
    obtain ⟨fu, rfl⟩ : ∃ q, fu = q + 1 := ⟨fu - 1, by omega⟩
    have e' : i = i0 := by omega
    subst e'
    rw [fm_row_214, m_rowAtL e h2 hi0, bd_s, if_pos rfl]
  | succ j ih =>
    intro i fu hi hf
    obtain ⟨fu, rfl⟩ : ∃ q, fu = q + 1 := ⟨fu - 1, by omega⟩
    have b1 := (h2.2.2 i (by omega)).2
    have b2 := (h2.2.2 i0 hi0).2
    rw [fm_row_214, m_rowAtL e h2 (by omega), bd_s, if_neg (fun q => ?_), lt_d, show (1 : Int32) = Int32.ofNat 1 from rfl, jI_add, ih (i + 1) fu (by omega) (by omega)]
    have := (jI_inj (by omega) (by omega)).mp q
    exact List.pairwise_iff_getElem.mp hnd i i0 (by omega) hi0 (by omega) this
theorem c_row (hk : k + 1 < 900) : lC_row x0 (Inv x0 k) (Inv x0 (k + 1)) := by
  intro S M v1 v2 v3 h
  have h0 := Inv_0 h (by omega)
  unfold fk_11_row fm_row
  rw [lt_d, k_isNode, bd_s, m_rowOf, bd_s, m_within, bd_s]
  generalize pu M 0 0 = A at h0 ⊢
  have h1 := Inv_1 h0 hk
  have h00 := h0
  obtain ⟨ra, sl, mkO, L, Wt, ro, fa, hc, hh, hkd, hth, htx, hro, hl, hnu⟩ := h0
  by_cases hv : 0 ≤ v1 ∧ v1 ≤ 3
  · obtain ⟨n, hn, rfl⟩ := wi3.mp hv
    obtain ⟨⟨hA, hsl, htb, hBt⟩, ⟨hB, -⟩, hN, -⟩ := hc
    obtain ⟨⟨hM1, hC1⟩, ⟨hw1, hw2, hw3⟩, hown⟩ := hN n hn
    obtain ⟨sx, hsx⟩ := sn_of hA hM1 hn hnu
    obtain ⟨⟨hy, hv', hls⟩, -, -, ⟨f8, f9, f10⟩, hs, hsn, hcu⟩ := hC1
    have y8 := hy.1.1
    have refl := mEx_refl sc A
    have hc1 := hM1.1.2.1
    have hle := cl_len hc1
    rw [b2_t hv, if_neg n10, if_neg n10, ckk_y hh.1.1, hh.1.2.2.1, bd_s, ckk_y hB.1.1, k_rowNamed hB, bd_s]
    have neg : (∀ r, rOf v2 = some r → ¬ r ∈ L n) → fm_isApplied A (Int32.ofNat n) (rI (rOf v2)) = some 0 := fun q => by
      cases e : rOf v2 with
      | none => unfold fm_isApplied fm_isApplied_25 fm_isApplied_26; rw [if_pos (show rI none = -1 from rfl), ckz_0]
      | some r => rw [show rI (some r) = Int32.ofNat r from rfl, m_isApplied refl hM1.2.1 (rOf_lt e), b2_f (q r e)]
    unfold fk_11_row_19 fk_11_row_43 fm_row_30
    cases e : rOf v2 with
    | none =>
      rw [← e, neg (fun r hr => by rw [e] at hr; cases hr), bd_s, if_pos rfl]
      exact ⟨_, _, by rw [e]; rfl, rfl, h1⟩
    | some r =>
      have hr := rOf_lt e
      rw [show rI (some r) = Int32.ofNat r from rfl, m_isApplied refl hM1.2.1 hr, bd_s, show (some r).bind (kO S (x0 + 5 + 1)) = kO S (x0 + 5 + 1) r from rfl]
      by_cases hm : mde A r
      · obtain ⟨ho, hR⟩ := hB.2.2.1 r hr hm
        obtain ⟨k9, ⟨r0, r2, r3, r4, r5, r8, r9⟩, ⟨r6, r7, r11, r12⟩, -, -, va, va1, va2, va3, va4, va5⟩ := hR
        rw [ho]
        show ∃ q M1, (ckk S x0 12 _) = _ ∧ _
        rw [k_nd hh hn, bd_s, ckk_y y8, hy.1.2.2.1, bd_s, ckk_y hv'.1.1.1.1, k_has hB hv'.1 hle hr hm, bd_s]
        by_cases hin : r ∈ L n
        · rw [b2_t hin, if_neg n10, if_neg n10, k_nd hh hn, m_wb]
          by_cases e : v3 = 0
          · subst e; rw [if_pos rfl, if_pos (show b2 ((10 : Int32) ≤ 0 ∧ (0 : Int32) ≤ 13) = 0 by decide), if_pos rfl, ckk_y k9, r0, ck_n hr (by omega), rd_n _ _ (by omega)]; exact ⟨_, _, rfl, rfl, h1⟩
          rw [if_neg e, if_neg e]
          by_cases e : v3 = 1
          · subst e; rw [if_pos rfl, if_pos (show b2 ((10 : Int32) ≤ 1 ∧ (1 : Int32) ≤ 13) = 0 by decide), if_pos rfl, ckk_y k9, r2, ck_n hr (by omega), rd_n _ _ (by omega)]; exact ⟨_, _, rfl, rfl, h1⟩
          rw [if_neg e, if_neg e]
          by_cases e : v3 = 2
          · subst e; rw [if_pos rfl, if_pos (show b2 ((10 : Int32) ≤ 2 ∧ (2 : Int32) ≤ 13) = 0 by decide), if_pos rfl, ckk_y k9, r3, ck_n hr (by omega), rd_n _ _ (by omega)]; exact ⟨_, _, rfl, rfl, h1⟩
          rw [if_neg e, if_neg e]
          by_cases e : v3 = 3
          · subst e; rw [if_pos rfl, if_pos (show b2 ((10 : Int32) ≤ 3 ∧ (3 : Int32) ≤ 13) = 0 by decide), if_pos rfl, ckk_y k9, r4, ck_n hr (by omega), rd_n _ _ (by omega)]; exact ⟨_, _, rfl, rfl, h1⟩
          rw [if_neg e, if_neg e]
          by_cases e : v3 = 4
          · subst e; rw [if_pos rfl, if_pos (show b2 ((10 : Int32) ≤ 4 ∧ (4 : Int32) ≤ 13) = 0 by decide), if_pos rfl, ckk_y k9, r5, ck_n hr (by omega), rd_n _ _ (by omega)]; exact ⟨_, _, rfl, rfl, h1⟩
          rw [if_neg e, if_neg e]
          by_cases e : v3 = 5
          · subst e; rw [if_pos rfl, if_pos (show b2 ((10 : Int32) ≤ 5 ∧ (5 : Int32) ≤ 13) = 0 by decide), if_pos rfl, ckk_y k9, r8, ck_n hr (by omega), rd_n _ _ (by omega)]; exact ⟨_, _, rfl, rfl, h1⟩
          rw [if_neg e, if_neg e]
          by_cases e : v3 = 6
          · subst e; rw [if_pos rfl, if_pos (show b2 ((10 : Int32) ≤ 6 ∧ (6 : Int32) ≤ 13) = 0 by decide), if_pos rfl, ckk_y k9, r9, ck_n hr (by omega), rd_n _ _ (by omega)]; exact ⟨_, _, rfl, rfl, h1⟩
          rw [if_neg e, if_neg e]
          by_cases e : v3 = 7
          · subst e
            obtain ⟨B, b1, b2', b3, -⟩ := m_judgeL refl hM1.1.2.2.1 (jOkL_cl hA hc1)
            have hup : (L n).take 1000 = L n := List.take_of_length_le hle
            rw [if_pos rfl, if_pos (show b2 ((10 : Int32) ≤ 7 ∧ (7 : Int32) ≤ 13) = 0 by decide), if_pos rfl, bd_s, ckk_y y8, hy.1.2.2.2.1, bd_s, ckk_y hv'.2.1.1.1, k_isGood hB hv'.1 hv'.2.1 (lOk_cl hc1) hr hm, bd_s, ck_n hn (by omega), rd_n _ _ (by omega), hM1.1.2.2.2, b1, bd_s, ck_n hr (by omega), rd_n _ _ (by omega), b3 r hr]
            unfold fk_11_row_168 fm_row_194
            have : gv A (L n) 1000 r = gd A (L n) r := by unfold gv; rw [hup, decide_eq_true hin]; rfl
            rw [this]
            cases gd A (L n) r
            · rw [if_pos bFn, if_pos bFn]; exact ⟨_, _, rfl, rfl, Inv_m h00 hk (mEx_mono b2' (fun k hk => by unfold sc; omega))⟩
            · rw [if_neg bTn, if_neg bTn]; exact ⟨_, _, rfl, rfl, Inv_m h00 hk (mEx_mono b2' (fun k hk => by unfold sc; omega))⟩
          rw [if_neg e, if_neg e]
          by_cases e : v3 = 8
          · subst e
            rw [if_pos rfl, if_pos (show b2 ((10 : Int32) ≤ 8 ∧ (8 : Int32) ≤ 13) = 0 by decide), if_pos rfl, bd_s, ckk_y y8, k_isStable hn hy hsx hs hM1.2.1 hin hr k9 r6 r7, bd_s, m_isStable refl hn hr, bd_s]
            unfold fk_11_row_184 fm_row_210
            cases sbP A n r
            · rw [if_pos bFn, if_pos bFn]; exact ⟨_, _, rfl, rfl, h1⟩
            · rw [if_neg bTn, if_neg bTn]; exact ⟨_, _, rfl, rfl, h1⟩
          rw [if_neg e, if_neg e]
          by_cases e : v3 = 9
          · subst e
            obtain ⟨i0, hi0, hg⟩ := List.mem_iff_getElem.mp hin
            have hfa := m_findAt refl hM1.1.2.2.1 (cl_nd hc1) hi0 i0 0 mFU (by omega) (by have : (1001 : Nat) < mFU := by decide
                                                                                          omega)
            rw [hg] at hfa
            have hpl := (hv'.1.2.2.1 i0 hi0).2
            rw [hg] at hpl
            rw [if_pos rfl, if_pos (show b2 ((10 : Int32) ≤ 9 ∧ (9 : Int32) ≤ 13) = 0 by decide), if_pos rfl, bd_s, ckk_y y8, hy.1.2.2.1, bd_s, ckk_y hv'.1.1.1.1, hv'.1.1.1.2.2 1 (by decide), bd_s, ckk_y k9, ckk_y (hv'.1.1.2.1 1 (by decide)).1, (hv'.1.1.2.1 1 (by decide)).2, r12, ck_n hr (by omega), jI_cl (by omega)]
            refine ⟨_, _, ?_, hfa, h1⟩
            show some (kI S (sN x0 n + 12 + 2) r - 1) = _
            rw [hpl, show (1 : Int32) = Int32.ofNat 1 from rfl, jI_sub (by omega), show i0 + 1 - 1 = i0 by omega]
          rw [if_neg e, if_neg e]
          unfold fk_11_row_227 fk_11_row_228
          have gp : ∀ (X Y : Option Int32), (if v3 < 10 then X else if (13 : Int32) < v3 then X else Y) = if (10 : Int32) ≤ v3 ∧ v3 ≤ 13 then Y else X := fun X Y => by
            by_cases c1 : v3 < 10
            · rw [if_pos c1, if_neg (fun q => absurd q.1 (Int32.not_le.mpr c1))]
            · rw [if_neg c1]
              by_cases c2 : (13 : Int32) < v3
              · rw [if_pos c2, if_neg (fun q => absurd q.2 (Int32.not_le.mpr c2))]
              · rw [if_neg c2, if_pos ⟨Int32.not_lt.mp c1, Int32.not_lt.mp c2⟩]
          rw [gp]
          by_cases q : (10 : Int32) ≤ v3 ∧ v3 ≤ 13
          · obtain ⟨c, c1, c2, rfl⟩ := rng 10 13 (by decide) q (by decide)
            rw [if_pos q, b2_t q, if_neg n10, ckk_y k9, va2, bd_s, ckk_y va3, va4, show (10 : Int32) = Int32.ofNat 10 from rfl, jI_sub c1, ck_n (by omega) (by omega), jI_cl (by omega), va5 _ (by omega), show (4 : Int32) = Int32.ofNat 4 from rfl, jI_mul, jI_add, jI_sub (by omega), ck_n (by omega) (by omega), rd_n _ _ (by omega), show 4 * r + c - 10 = 4 * r + (c - 10) by omega]
            exact ⟨_, _, rfl, rfl, h1⟩
          · rw [if_neg q, b2_f q, if_pos rfl]
            exact ⟨_, _, rfl, rfl, h1⟩
        · rw [b2_f hin, if_pos rfl, if_pos rfl]
          exact ⟨_, _, rfl, rfl, h1⟩
      · rw [hB.2.2.2.1 r hr hm, b2_f (fun q => hm (cl_mem hc1 q)), if_pos rfl]
        exact ⟨_, _, rfl, rfl, h1⟩
  · rw [b2_f hv, if_pos rfl, if_pos rfl]
    exact ⟨_, _, rfl, rfl, h1⟩
end T
