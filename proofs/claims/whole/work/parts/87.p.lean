-- part 87: past, was
section V
variable {S S' : cSt} {M A : mSt} {ra : Nat → Nat} {sl : Nat → Int32} {mkO : Nat → Option Nat} {x0 n k : Nat} {l : List Nat} {L Wt : Nat → List Nat} {Bt : Nat}
theorem obj_in {u : List Nat} (hA : rA M mkO sl) (hc : cl M u) {r m : Nat} (hr : r ∈ u) (hs : ¬ (M.2 9 r = 0 ∨ M.2 9 r = 13 ∨ M.2 9 r = 14)) (hm : mde M m) (h10 : M.2 10 r = Int32.ofNat (rNm m)) : m ∈ u := by
  obtain ⟨j, m', kd, -, -, -, h4, -, -, h7, -, h9, -⟩ := (hA.1 r (cl_mem hc hr)).2.2.2.2.2.2.1 hs
  have : m' = m := rNm_inj h4.1 hm.1 (h7.symm.trans h10)
  subst this
  exact cl_kn hc hr hm h9
theorem ft_nil {u : List Nat} (hA : rA M mkO sl) (hc : cl M u) {m : Nat} (hm : mde M m) (hn : m ∉ u) {s p : Int32} {f : Nat → Bool} (hs : ¬ (s = 0 ∨ s = 13 ∨ s = 14)) (hf : ∀ r, f r = true → isO M s (Int32.ofNat (rNm m)) p r) : u.filter f = [] := by
  rw [List.filter_eq_nil_iff]
  intro r hr q
  obtain ⟨h9, h10, -⟩ := hf r q
  exact hn (obj_in hA hc hr (by rw [h9]; exact hs) hm h10)
theorem lt_nil {u : List Nat} (hA : rA M mkO sl) (hc : cl M u) {m : Nat} (hm : mde M m) (hn : m ∉ u) (p : Int32) : ltB M u (Int32.ofNat (rNm m)) p = none := by
  unfold ltB
  rw [ft_nil hA hc hm hn (s := 1) (p := p) (by decide) (fun r q => by rw [Bool.and_eq_true] at q; exact of_decide_eq_true q.1)]
  rfl
theorem sm_nil {u : List Nat} (hA : rA M mkO sl) (hc : cl M u) {m : Nat} (hm : mde M m) (hn : m ∉ u) (p : Int32) : smB M u (Int32.ofNat (rNm m)) p = 0 := by
  unfold smB
  rw [ft_nil hA hc hm hn (s := 3) (p := p) (by decide) (fun r q => by rw [Bool.and_eq_true] at q; exact of_decide_eq_true q.1)]
  rfl
theorem tx_nil {u : List Nat} (hA : rA M mkO sl) (hc : cl M u) {m : Nat} (hm : mde M m) (hn : m ∉ u) (p : Int32) : txR M u (Int32.ofNat (rNm m)) p = [] := by
  unfold txR
  rw [ft_nil hA hc hm hn (s := 9) (p := p) (by decide) (fun r q => of_decide_eq_true q)]
  rfl
/-- the view of the past, set -/
theorem k_then (hh : hsI x0 S M) (h : core x0 Bt S M ra sl mkO L Wt) (ht : thI x0 S) (hn : n < 4) {up : Nat} (hu : up ≤ (L n).length) : ∃ S', fk_10_lookBack S (x0 + 126) (sN x0 n + 12) (Int32.ofNat up) = some S' ∧ cEq (fun a => a = x0 + 126 ∨ a = x0 + 127) S S' ∧ (∀ j, j ≠ 7 → kR S' (x0 + 126) j = kR S (x0 + 126) j) ∧ cQ M ra sl (chF M sl) (mde M) mkO S' (x0 + 5) (sN x0 n + 12) (x0 + 126) (x0 + 127) up (x0 + 128) (L n) := by
  obtain ⟨⟨hA, hsl, -, -⟩, ⟨hB, -⟩, hN, -⟩ := h
  obtain ⟨⟨hM1, ⟨⟨hy, hv, -⟩, -⟩⟩, -⟩ := hN n hn
  have hcl := hM1.1.2.1
  obtain ⟨⟨t1, t2, t3⟩, t4, t5⟩ := ht
  have hs : sN x0 n + 12 + 8 ≤ x0 + 126 ∧ x0 + 10 ≤ sN x0 n + 12 := by unfold sN; omega
  obtain ⟨S', s1, s2, s3, s4⟩ := k_lookBack (va := x0 + 126) hB hv.1 (lOk_cl hcl) (by omega) t1 t2 t3 t4 (fun r hr q => by
    obtain ⟨t, a1, -, -, a4, -⟩ := (hA.1 r (cl_mem hcl hr)).2.2.2.2.2.1 q
    exact ⟨t, by rw [a4]; exact rOf_nm a1.1, a1⟩) hu
  refine ⟨S', s1, s2, s3, cBk_eq hB s2 (fun a ha => by omega), cLed_eq hv.1 s2 (fun a ha => by omega), s4, lOk_cl hcl, ?_, by omega, by omega, by omega, by omega, by omega⟩
  unfold vwA
  rw [s3 0 (by decide), s3 3 (by decide), s3 4 (by decide), s3 5 (by decide), s3 6 (by decide)]
  simp only [s2.1, s2.2.1]
  exact t5
theorem c_past (hk : k + 1 < 900) : lC_past x0 (Inv x0 k) (Inv x0 (k + 1)) := by
  intro S M v1 v2 v3 v4 h
  have h0 : Inv x0 k S (pu M 0 1) := Inv_sc h (Nat.le_refl _) (by omega) (mEx_pu (Or.inl rfl) _) (cEq_refl _ _) rfl (fun _ _ => rfl)
  have hthr : (pu M 0 1).1 0 = 1 := pu_s _ _ _
  unfold fk_11_past fm_past fm_past_30
  rw [lt_d]
  generalize pu M 0 1 = A at h0 hthr ⊢
  have h1 := Inv_1 h0 hk
  have h00 := h0
  obtain ⟨ra, sl, mkO, L, Wt, ro, fa, hc, hh, hkd, hth, htx, hro, hl, hnu⟩ := h0
  rw [ckk_y hh.1.1]
  by_cases hv : 0 ≤ v1 ∧ v1 ≤ 3
  · obtain ⟨n, hn, rfl⟩ := wi3.mp hv
    have hc' := hc
    obtain ⟨⟨hA, hsl, -, -⟩, ⟨hB, -⟩, hN, -⟩ := hc'
    obtain ⟨⟨hM1, ⟨⟨hy, hv', -⟩, -⟩⟩, -⟩ := hN n hn
    have hcl := hM1.1.2.1
    have hnd : x0 + 5 + 5 ≤ sN x0 n ∧ sN x0 n + 26 ≤ x0 + 5 + 128 := by unfold sN; omega
    rcases k_madeSlot hh hc hn v3 with ⟨j, m, hm, hin, rfl, q1, -⟩ | ⟨q1, q2⟩
    · rw [q1, bd_s, ckk_y hh.1.1, k_ruleAt hh hkd hc hm, bd_s, m_hasPart hkd hM1 (mEx_refl _ _) hm hin, bd_s]
      cases hr : rlO A (A.2 12 m) v4 with
      | none => rw [b2_f (by simp), if_neg (show ¬ (none : Option Int32).getD 32 = 76 by decide), if_neg (show ¬ (none : Option Int32).getD 32 = 67 by decide), if_pos rfl]; exact ⟨_, _, _, _, _, rfl, rfl, Or.inr ⟨rfl, hthr⟩, h1⟩
      | some rl =>
        obtain ⟨kd, p, rfl, p6, hp, hrl⟩ := pt_of hkd hA hm hr
        have hrule : fm_ruleOf A (Int32.ofNat (rNm m)) (Int32.ofNat p) = some rl := by rw [m_ruleOf (mEx_refl sc A) (rOf_nm (hA.2.1.1 j m hm).2.1.1) hp.2.1 hp.2.2.1 hp.2.2.2.1, hp.2.2.2.2.1]
        have hget : (some rl).getD 32 = rl := rfl
        rw [b2_t (by simp), if_neg n10, hget]
        rw [ck_n hn (by omega), rd_n _ _ (by omega), hM1.1.2.2.2, m_wb]
        have hle := cl_len hcl
        have hmd := (hA.2.1.1 j m hm).2.1
        have hj48 := (hA.2.1.1 j m hm).1
        have E : (∃ u, u ≤ (L n).length ∧ v2 = Int32.ofNat u) ↔ (0 ≤ v2 ∧ v2 ≤ Int32.ofNat (L n).length) := by
          have := wiE (v := v2) (N := (L n).length + 1) (by omega)
          rw [show Int32.ofNat ((L n).length + 1) - 1 = Int32.ofNat (L n).length from by rw [show (1 : Int32) = Int32.ofNat 1 from rfl, jI_sub (by omega)]; rfl] at this
          rw [this]
          exact ⟨fun ⟨u, u1, u2⟩ => ⟨u, by omega, u2⟩, fun ⟨u, u1, u2⟩ => ⟨u, by omega, u2⟩⟩
        have out : ¬ (0 ≤ v2 ∧ v2 ≤ Int32.ofNat (L n).length) → fk_11_past_43 S x0 (Int32.ofNat n) v2 (Int32.ofNat p) (Int32.ofNat j) rl = some (3, 0, S) := fun q => by
          unfold fk_11_past_43 fk_11_past_67
          rw [k_nd hh hn, bd_s, ckk_y hy.1.1, hy.1.2.2.1, bd_s]
          by_cases e1 : v2 < 0
          · rw [if_pos e1]
          · rw [if_neg e1, ckk_y hv'.1.1.1.1, hv'.1.2.1, if_neg (fun q2 => q ⟨Int32.not_lt.mp e1, q2⟩)]
        by_cases h2 : 0 ≤ v2 ∧ v2 ≤ Int32.ofNat (L n).length
        · rw [b2_t h2, if_neg n10, hrule, bd_s]
          obtain ⟨up, hup, rfl⟩ := E.mpr h2
          obtain ⟨S8, s1, s2, s3, s4⟩ := k_then hh hc hth hn hup
          have hlu : ((L n).take up).length = up := by rw [List.length_take]; omega
          have z0 := s2.2.2.2.2 x0 (by omega)
          have go : fk_11_past_43 S x0 (Int32.ofNat n) (Int32.ofNat up) (Int32.ofNat p) (Int32.ofNat j) rl = if rl = 76 then (bd (fk_10_latestOf S8 (x0 + 126) (Int32.ofNat (8 * j + p))) fun r14 => some (0, r14, S8)) else (bd (fk_10_sumOf S8 (x0 + 126) (Int32.ofNat (8 * j + p))) fun r14 => some (0, r14, S8)) := by
            unfold fk_11_past_43 fk_11_past_126
            rw [k_nd hh hn, bd_s, ckk_y hy.1.1, hy.1.2.2.1, bd_s, if_neg (Int32.not_lt.mpr h2.1), ckk_y hv'.1.1.1.1, hv'.1.2.1, if_pos h2.2, ckk_y hh.1.1, hh.1.2.2.2.2.2.1, bd_s, ckk_y hth.1.1, s1, bd_s, lt_d, k_c8]
            rw [ckk_y (by rw [s2.1]; exact hh.1.1), z0.2.1, hh.1.2.2.2.2.2.1, bd_s, ckk_y s4.2.2.1.1.1, ckk_y (by rw [s2.1]; exact hh.1.1), bd_s, ckk_y s4.2.2.1.1.1]
          have IS : ∀ M', mEx (fun j => j = 0 ∨ 47 ≤ j) A M' → Inv x0 (k + 1) S8 M' := fun M' e => Inv_sc h00 (by omega) hk e (cEq_mono s2 (fun a ha => by unfold scr; omega)) (s2.2.2.2.2 _ (by omega)).2.1 s3
          have eP : mEx (fun j => j = 0 ∨ 47 ≤ j) A (pu A 0 0) := mEx_pu (Or.inl rfl) _
          have made : fm_isMade (pu A 0 0) (Int32.ofNat n) (Int32.ofNat (rNm m)) (Int32.ofNat up) = some (b2 (m ∈ (L n).take up)) := by
            have := m_isMade (mEx_refl sc (pu A 0 0)) (n := n) (l := (L n).take up) (lAt_take hM1.1.2.2.1 up) (Int32.ofNat (rNm m))
            rw [hlu] at this
            rw [this]
            have e2 : mkN (pu A 0 0) ((L n).take up) (Int32.ofNat (rNm m)) = decide (m ∈ (L n).take up) := mkN_mk hA hm _
            rw [e2]
            by_cases q : m ∈ (L n).take up
            · rw [b2_t q, b2_t (decide_eq_true q)]
            · rw [b2_f q, b2_f (by rw [decide_eq_false q]; decide)]
          have fin : ∀ (x : Int32) (hrl2 : rl = 76 ∨ rl = 67), (m ∉ (L n).take up → x = 0) → (∀ rest, vaL A ((L n).take up) (Int32.ofNat (rNm m)) (Int32.ofNat p) rl = rest → (h : 0 < rest.length) → rest[0].1 = x) → ∃ M1, fm_past_57 A (Int32.ofNat n) (Int32.ofNat up) (Int32.ofNat (rNm m)) (Int32.ofNat p) = some (x, M1) ∧ M1.1 0 = 0 ∧ mEx (fun j => j = 0 ∨ 47 ≤ j) A M1 := fun x hrl2 g1 g2 => by
            unfold fm_past_57
            rw [lt_d, made, bd_s]
            by_cases q : m ∈ (L n).take up
            · obtain ⟨B, b1, b2', b3, -⟩ := m_lookR (M := pu A 0 0) (A := pu A 0 0) hM1.1 (mEx_refl sc _) hp (rl_or hrl) up hup
              rw [b2_t q, if_neg n10, b1, bd_s]
              have hl1 : (vaL (pu A 0 0) ((L n).take up) (Int32.ofNat (rNm m)) (Int32.ofNat p) rl).length = 1 := by rcases hrl2 with e | e <;> rw [e] <;> rfl
              have h0' : 0 < (vaL (pu A 0 0) ((L n).take up) (Int32.ofNat (rNm m)) (Int32.ofNat p) rl).length := by omega
              have b4 := (b3.2 0 h0').1
              have b5 := g2 _ rfl h0'
              refine ⟨B, ?_, ?_, mEx_trans eP (mEx_mono b2' (fun k hk => Or.inr (wL_sc k hk)))⟩
              · refine (ck_n (i := 0) (by decide) (by decide)).trans ?_
                rw [show rd B 50 (0 : Int32) = B.2 50 0 from rd_n B 50 (i := 0) (by decide), b4]
                exact congrArg (fun y => some (y, B)) b5
              · rw [(b2' 0 (by unfold wL; decide)).1]; exact pu_s _ _ _
            · rw [b2_f q, if_pos rfl, g1 q]
              exact ⟨_, rfl, pu_s _ _ _, eP⟩
          have hup' : up ≤ 1000 := by omega
          by_cases e76 : rl = 76
          · subst e76
            rw [if_pos rfl, if_pos rfl, go, if_pos rfl, k_latestOf (c := 8 * j + p) (by omega) s4.1 s4.2.1 s4.2.2.1 s4.2.2.2.1, bd_s, lk_L hA hcl hp up]
            obtain ⟨M1, m1, m2, m3⟩ := fin (oV A (ltB A ((L n).take up) (Int32.ofNat (rNm m)) (Int32.ofNat p))) (Or.inl rfl) (fun q => by rw [lt_nil hA (cl_take hcl up) hmd q]; rfl) (fun rest hr h => by subst hr; show (match ltB A ((L n).take up) (Int32.ofNat (rNm m)) (Int32.ofNat p) with | none => 0 | some r => A.2 12 r) = _; cases ltB A ((L n).take up) (Int32.ofNat (rNm m)) (Int32.ofNat p) <;> rfl)
            refine ⟨0, oV A (ltB A ((L n).take up) (Int32.ofNat (rNm m)) (Int32.ofNat p)), S8, _, M1, ?_, m1, Or.inl ⟨rfl, m2, rfl⟩, IS M1 m3⟩
            cases ltB A ((L n).take up) (Int32.ofNat (rNm m)) (Int32.ofNat p) <;> rfl
          rw [if_neg e76, if_neg e76]
          by_cases e67 : rl = 67
          · subst e67
            rw [if_pos rfl, if_pos rfl, go, if_neg (by decide), k_sumOf (c := 8 * j + p) (by omega) s4.1 s4.2.1 s4.2.2.1 s4.2.2.2.1, bd_s, lk_C hA hcl hp up]
            obtain ⟨M1, m1, m2, m3⟩ := fin (smB A ((L n).take up) (Int32.ofNat (rNm m)) (Int32.ofNat p)) (Or.inr rfl) (fun q => sm_nil hA (cl_take hcl up) hmd q _) (fun rest hr h => by subst hr; rfl)
            exact ⟨0, _, S8, _, M1, rfl, m1, Or.inl ⟨rfl, m2, rfl⟩, IS M1 m3⟩
          rw [if_neg e67, if_neg e67]; exact ⟨_, _, _, _, _, rfl, rfl, Or.inr ⟨rfl, hthr⟩, h1⟩
        · rw [b2_f h2, if_pos rfl]
          by_cases e76 : rl = 76
          · rw [if_pos e76, out h2]; exact ⟨_, _, _, _, _, rfl, rfl, Or.inr ⟨rfl, hthr⟩, h1⟩
          rw [if_neg e76]
          by_cases e67 : rl = 67
          · rw [if_pos e67, out h2]; exact ⟨_, _, _, _, _, rfl, rfl, Or.inr ⟨rfl, hthr⟩, h1⟩
          rw [if_neg e67]; exact ⟨_, _, _, _, _, rfl, rfl, Or.inr ⟨rfl, hthr⟩, h1⟩
    · rw [q1, bd_s, ckk_y hh.1.1, k_ruleAtN, bd_s, if_neg (show ¬ (32 : Int32) = 76 by decide), if_neg (show ¬ (32 : Int32) = 67 by decide), m_hasPartN hM1 (mEx_refl _ _) q2, bd_s, if_pos rfl]
      exact ⟨_, _, _, _, _, rfl, rfl, Or.inr ⟨rfl, hthr⟩, h1⟩
  · rw [k_madeSlotN hv, bd_s, ckk_y hh.1.1, k_ruleAtN, bd_s, if_neg (show ¬ (32 : Int32) = 76 by decide), if_neg (show ¬ (32 : Int32) = 67 by decide), m_hasPartO hv, bd_s, if_pos rfl]
    exact ⟨_, _, _, _, _, rfl, rfl, Or.inr ⟨rfl, hthr⟩, h1⟩
end V
