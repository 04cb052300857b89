-- part 133: rows that wait, rows that are ready
section V
variable {S S' S0 S1 : cSt} {M M' A : mSt} {ra : Nat → Nat} {sl ch : Nat → Int32} {mkO : Nat → Option Nat} {L Wt : Nat → List Nat} {ro ro' fa fa' : Nat → Nat} {x0 n m k k' Bt nf w r : Nat} {l W : List Nat}
/-- the class forgets rows that wait no more -/
theorem k_forget {nd bk : Nat} (hy : cNy S nd bk n) (h5 : kK S (nd + 12) = 5) (h11 : kF S nd 11 = Int32.ofNat W.length) (hW30 : W.length ≤ 30) (hO : ∀ i (h : i < W.length), kO S (nd + 8) i = some (ra W[i])) (hk9 : ∀ q ∈ W, kK S (ra q) = 9) {p : Nat → Bool} (hhas : ∀ T, cEq (fun a => a = nd + 8) S T → ∀ q ∈ W, fk_4_has T (nd + 12) (ra q) = some (b2 (p q = false))) : ∃ g, fk_7_forgetWaits S nd = some (cPi (sO S (nd + 8) g) nd 11 (Int32.ofNat (W.filter p).length)) ∧ ∀ i (h : i < (W.filter p).length), g i = some (ra (W.filter p)[i]) := by
  have k8 := hy.1.1
  have r1 := hy.1.2.2.1
  have r13 := hy.2.1.2.1
  have k30 := hy.2.2.2.2.2.1
  have loop : ∀ (j i fu : Nat) (g : Nat → Option Nat), i + j = W.length → j < fu → (∀ q (h : q < ((W.take i).filter p).length), g q = some (ra ((W.take i).filter p)[q])) → (∀ q (h : q < W.length), i ≤ q → g q = some (ra W[q])) → ∃ g', fk_7_forgetWaits_4 fu (sO S (nd + 8) g) nd (Int32.ofNat ((W.take i).filter p).length) (Int32.ofNat i) = some (cPi (sO S (nd + 8) g') nd 11 (Int32.ofNat (W.filter p).length)) ∧ ∀ i (h : i < (W.filter p).length), g' i = some (ra (W.filter p)[i]) := by
    intro j
    induction j with
    | zero =>
      intro i fu g hi hf h1 h2
      obtain ⟨fu, rfl⟩ : ∃ q, fu = q + 1 := ⟨fu - 1, by omega⟩
      have e : W.take i = W := List.take_of_length_le (by omega)
      rw [e] at h1 ⊢
      have u8 : kK (sO S (nd + 8) g) nd = 8 := k8
      have u11 : kF (sO S (nd + 8) g) nd 11 = Int32.ofNat W.length := h11
      rw [fk_7_forgetWaits_4, ckk_y u8, u11, if_pos ((jI_le (by omega) (by omega)).mpr (by omega)), ckk_y u8, lt_d]
      exact ⟨g, rfl, h1⟩
    | succ j ih =>
      intro i fu g hi hf h1 h2
      obtain ⟨fu, rfl⟩ : ∃ q, fu = q + 1 := ⟨fu - 1, by omega⟩
      have hi' : i < W.length := by omega
      have hle : ((W.take i).filter p).length ≤ i := Nat.le_trans (List.length_filter_le _ _) (by rw [List.length_take]; omega)
      have u8 : kK (sO S (nd + 8) g) nd = 8 := k8
      have u11 : kF (sO S (nd + 8) g) nd 11 = Int32.ofNat W.length := h11
      have u1 : kR (sO S (nd + 8) g) nd 1 = some (nd + 12) := r1
      have u13 : kR (sO S (nd + 8) g) nd 13 = some (nd + 8) := r13
      have u30 : kK (sO S (nd + 8) g) (nd + 8) = 30 := k30.1
      have ul : kL (sO S (nd + 8) g) (nd + 8) = 30 := k30.2
      have u5 : kK (sO S (nd + 8) g) (nd + 12) = 5 := h5
      have uo : kO (sO S (nd + 8) g) (nd + 8) i = some (ra W[i]) := by rw [kO_sO]; exact h2 i hi' (Nat.le_refl _)
      have u9 : kK (sO S (nd + 8) g) (ra W[i]) = 9 := hk9 _ (List.getElem_mem hi')
      have hh := hhas (sO S (nd + 8) g) (cEq_sO _ rfl) _ (List.getElem_mem hi')
      have q9 : ∀ {T : cSt} {K : Option cSt}, kK T (ra W[i]) = 9 → ckq T (some (ra W[i])) 9 K = K := fun h => ckk_y h
      rw [fk_7_forgetWaits_4, ckk_y u8, u11, if_neg (fun q => absurd ((jI_le (by omega) (by omega)).mp q) (by omega)), ckk_y u8, u1, bd_s, ckk_y u8, u13, bd_s, ckk_y u30, ul, ck_n (by omega) (by omega), lt_d, jI_cl (by omega), uo, bd_s, ckk_y u5, hh, bd_s]
      unfold fk_7_forgetWaits_43
      have ht : (W.take (i + 1)).filter p = (W.take i).filter p ++ (if p W[i] then [W[i]] else []) := by
        rw [List.take_succ_eq_append_getElem hi', List.filter_append]
        cases hp : p W[i]
        · rw [List.filter_cons_of_neg (by rw [hp]; decide), List.filter_nil]; rfl
        · rw [List.filter_cons_of_pos hp, List.filter_nil]; rfl
      cases hp : p W[i] with
      | true =>
        rw [hp] at ht
        rw [b2_f (by decide), if_pos rfl, ckk_y u8, bd_s, ckk_y u8, bd_s, ckk_y u30, ck_n (by omega) (by omega), lt_d, ckk_y u30, ck_n (by omega) (by omega), uo, q9 u9, lt_d, jI_cl (by omega), cWo_sO, kO_sO, sO_sO, lt_d, lt_d, show Int32.ofNat ((W.take i).filter p).length + 1 = Int32.ofNat (((W.take i).filter p).length + 1) from jI_add _ 1, show Int32.ofNat i + 1 = Int32.ofNat (i + 1) from jI_add _ 1]
        have hl : ((W.take (i + 1)).filter p).length = ((W.take i).filter p).length + 1 := by rw [ht, List.length_append]; rfl
        have := ih (i + 1) fu (upo g ((W.take i).filter p).length (some (ra W[i]))) (by omega) (by omega) (fun q hq => ?_) (fun q hq hiq => ?_)
        · rw [hl] at this; exact this
        · unfold upo
          by_cases e : q = ((W.take i).filter p).length
          · rw [if_pos e]
            subst e
            have : ((W.take (i + 1)).filter p)[((W.take i).filter p).length]'hq = W[i] := by
              simp only [ht]
              rw [List.getElem_append_right (Nat.le_refl _)]
              simp
            rw [this]
          · rw [if_neg e, h1 q (by omega)]
            have : ((W.take (i + 1)).filter p)[q]'hq = ((W.take i).filter p)[q]'(by omega) := by
              simp only [ht]
              rw [List.getElem_append_left (by omega)]
            rw [this]
        · unfold upo; rw [if_neg (by omega)]; exact h2 q hq (by omega)
      | false =>
        rw [hp] at ht
        rw [b2_t rfl, if_neg n10, lt_d, show Int32.ofNat i + 1 = Int32.ofNat (i + 1) from jI_add _ 1]
        have ht' : (W.take (i + 1)).filter p = (W.take i).filter p := by rw [ht]; simp
        have := ih (i + 1) fu g (by omega) (by omega) (by rw [ht']; exact h1) (fun q hq hiq => h2 q hq (by omega))
        rw [ht'] at this; exact this
  unfold fk_7_forgetWaits
  have := loop W.length 0 mFU (kO S (nd + 8)) (by omega) (Nat.lt_of_le_of_lt hW30 (by decide)) (fun q hq => absurd hq (by simp)) (fun q hq _ => hO q hq)
  rw [sO_id] at this
  exact this
/-- a row applied at both, and no longer waiting -/
theorem Ib_ap (h : Ib x0 k S M ra sl mkO L Wt ro fa) (hn : n < 4) (hr : nxt M (L n) r) : ∃ S1 S' M', fk_7_apply S (sN x0 n) (ra r) = some S1 ∧ kK S1 (sN x0 n) = 8 ∧ fk_7_forgetWaits S1 (sN x0 n) = some S' ∧ fm_apply M (Int32.ofNat n) (Int32.ofNat r) = some M' ∧ Ib x0 k S' M' ra sl mkO (updL L n (L n ++ [r])) (updL Wt n ((Wt n).filter (fun q => decide (q ≠ r)))) ro fa ∧ cEq (fun a => x0 + 22 ≤ a ∧ a < x0 + 126) S S' ∧ mEx wAq M M' := by
  obtain ⟨hc, hh, hkd, hth, htx, hro, hl, hnu⟩ := h
  obtain ⟨⟨hA, hsl, htb, hBt⟩, ⟨hB, hBa⟩, hN, hz1, hz2⟩ := hc
  obtain ⟨S1, M', a1, a2, a3, a4, ⟨a5, a6, a7⟩, ⟨a8, a9⟩, a10, ⟨a11, a12⟩, rB⟩ := core_app hn hA hsl htb hBt hB hBa (fun n' hn' => ⟨(hN n' hn').1, (hN n' hn').2.1⟩) ⟨hz1, hz2⟩ hr
  have hx : x0 + 22 ≤ sN x0 n ∧ sN x0 n + 26 ≤ x0 + 126 := by unfold sN; omega
  obtain ⟨⟨b1, b2'⟩, b3, b4⟩ := a10 n hn
  rw [updL_s] at b1 b2'
  rw [if_pos rfl] at b3
  obtain ⟨-, ⟨hw1, hw2, hw3⟩, hown⟩ := hN n hn
  have b2'' := b2'
  obtain ⟨⟨hy, hv, -⟩, -⟩ := b2''
  have hle := cl_len b1.1.2.1
  have hwm : ∀ q ∈ Wt n, mde M' q := fun q hq => by rw [mde_r rB]; exact (hw3.2 q hq).1
  obtain ⟨g, g1, g2⟩ := k_forget (S := S1) (nd := sN x0 n) (W := Wt n) (ra := ra) (p := fun q => decide (q ≠ r)) hy hv.1.1.1.1 b4.1 hw1.1 b4.2 (fun q hq => (a8.2.2.1 q (hwm q hq).1 (hwm q hq)).2.1) (fun T eT q hq => by
    have hBT := cBk_eq a8 eT (fun a ha => by omega)
    have hLT := cLed_eq hv.1 eT (fun a ha => by omega)
    rw [k_has hBT hLT hle (hwm q hq).1 (hwm q hq)]
    congr 1
    apply b2_eq.mpr
    show q ∈ L n ++ [r] ↔ decide (q ≠ r) = false
    rw [List.mem_append, List.mem_singleton]
    constructor
    · rintro (q1 | q1)
      · exact absurd q1 (hw3.2 q hq).2
      · rw [q1]; simp
    · intro q1
      right
      have := of_decide_eq_false q1
      exact Decidable.not_not.mp this)
  generalize hS2 : cPi (sO S1 (sN x0 n + 8) g) (sN x0 n) 11 (Int32.ofNat ((Wt n).filter (fun q => decide (q ≠ r))).length) = S2 at g1
  have e12 : cEq (fun a => a = sN x0 n ∨ a = sN x0 n + 8) S1 S2 := by
    rw [← hS2]; exact cEq_trans (cEq_sO _ (Or.inr rfl)) (cEq_cPi _ (Or.inl rfl))
  have fF : ∀ j, j ≠ 11 → kF S2 (sN x0 n) j = kF S1 (sN x0 n) j := fun j hj => by rw [← hS2, kF_cPo _ _ (fun q => hj q.2)]; rfl
  have fF11 : kF S2 (sN x0 n) 11 = Int32.ofNat ((Wt n).filter (fun q => decide (q ≠ r))).length := by rw [← hS2]; exact kF_cPi _ _ _ _
  have fR : kR S2 (sN x0 n) = kR S1 (sN x0 n) := by rw [← hS2]; rfl
  have fO : kO S2 (sN x0 n + 8) = g := by rw [← hS2]; exact kO_sO _ _ _
  have eAll : cEq (fun a => x0 + 22 ≤ a ∧ a < x0 + 126) S S2 := cEq_trans (cEq_mono a3 (fun a ha => by unfold inAp at ha; omega)) (cEq_mono e12 (fun a ha => by omega))
  obtain ⟨-, ⟨E, hE1, hE2⟩, ⟨F, hF1, hF2⟩, ⟨f8, f9, f10⟩, hs, hsn, hcu⟩ := b2'
  have eQ : mEx wAq M M' := by
    obtain ⟨⟨hM1, hC1⟩, -⟩ := hN n hn
    obtain ⟨-, ⟨E0, -, c4'⟩, ⟨F0, -, c5'⟩, -⟩ := hC1
    obtain ⟨M3, m1, m2, -⟩ := m_apply2 hM1.1 hM1.2.2.1 hr hw1 c4' c5'
    rw [a2] at m1
    have := Option.some.inj m1
    subst this
    exact m2
  have hcore : core x0 (1000 * k) S2 M' ra sl mkO (updL L n (L n ++ [r])) (updL Wt n ((Wt n).filter (fun q => decide (q ≠ r)))) := by
    refine ⟨⟨a5, a6, a7, hBt⟩, ⟨cBk_eq a8 e12 (fun a ha => by omega), fun n' hn' => ?_⟩, fun n' hn' => ?_, by rw [e12.2.2.1]; exact a11, fun q hq => by rw [e12.2.2.1]; exact a12 q hq⟩
    · rw [(e12.2.2.2.2 (x0 + 8) (by omega)).2.2.1, (e12.2.2.2.2 (x0 + 9) (by omega)).2.2.1]; exact a9 n' hn'
    · obtain ⟨⟨d1, d2⟩, d3, d4⟩ := a10 n' hn'
      by_cases en : n' = n
      · subst en
        rw [updL_s] at d1 d2 ⊢
        rw [updL_s]
        rw [if_pos rfl] at d3
        refine ⟨⟨d1, nC_w d2 e12 (fun a ha => by omega) fR (fF 0 (by decide)) (fun _ _ _ => rfl) (fun _ _ => rfl) (cLs_f d2.1.2.2 (fun _ _ => rfl) (e12.2.2.2.2 _ (by omega)).2.2.1) ⟨by rw [fF 8 (by decide)]; exact f8, by rw [fF 9 (by decide)]; exact f9, by rw [fF 10 (by decide)]; exact f10⟩ (by rw [(e12.2.2.2.2 (sN x0 n' + 5) (by omega)).2.2.1]; exact hs) (by rw [(e12.2.2.2.2 (sN x0 n' + 6) (by omega)).2.2.1]; exact hsn) (by rw [(e12.2.2.2.2 (sN x0 n' + 7) (by omega)).2.2.1]; exact hcu)⟩, ⟨d3, ⟨fF11, by rw [fO]; exact g2⟩, ⟨List.Pairwise.filter _ hw3.1, fun q hq => ?_⟩⟩, fun q hq hqn => ?_⟩
        · obtain ⟨q1, q2⟩ := List.mem_filter.mp hq
          refine ⟨hwm q q1, fun q3 => ?_⟩
          rcases List.mem_append.mp q3 with q4 | q4
          · exact (hw3.2 q q1).2 q4
          · exact of_decide_eq_true q2 (List.mem_singleton.mp q4)
        · rw [mde_r rB] at hq
          exact List.mem_append_left _ (hown q hq hqn)
      · rw [updL_o _ _ en] at d1 d2 ⊢
        rw [updL_o _ _ en]
        rw [if_neg en] at d3
        obtain ⟨-, ⟨-, -, hw3'⟩, hown'⟩ := hN n' hn'
        have hsep : ∀ a, (a = sN x0 n ∨ a = sN x0 n + 8) → a < sN x0 n' ∨ sN x0 n' + 26 ≤ a := fun a ha => by unfold sN at *; omega
        exact ⟨⟨d1, nC_eq d2 e12 hsep (nEq_refl _ _)⟩, ⟨d3, nW_eq d4 e12 (fun q => by have := hsep _ q; omega) (fun q => by have := hsep _ q; omega), wOk_r hw3' rB⟩, by rw [mde_r rB]; exact hown'⟩
  have hm : ∀ j m, mkO j = some m → mde M m := fun j m hj => (hA.2.1.1 j m hj).2.1
  have eM := lvM_r (M := M) (M' := M') (mEx_mono a4 (fun k hk => by unfold wAp wMid at hk; omega))
  have eC : lvC x0 S S2 := lvC_eq eAll (fun a ha => ha)
  have eR : lvR M ra ra mkO mkO := ⟨fun _ _ => rfl, fun _ _ h => h, hm⟩
  have fm : ∀ i, ¬ wAp i → M'.1 i = M.1 i ∧ M'.2 i = M.2 i := fun i hi => a4 i hi
  refine ⟨S1, S2, M', a1, by rw [a3.1]; exact (hN n hn).1.2.1.1.1.1, g1, a2, ⟨hcore, hsI_g hh eC (fm 45 (by unfold wAp wMid; decide)).1, kdI_g hkd eM (fun i hi => fm i (by unfold wAp wMid; omega)) (cSm_eq eAll (fun a ha q => by omega)) (fun m _ h1 h2 => absurd (by rw [mde_r rB] at h1; exact h1) h2), thI_g hth eC, txI_g htx eC (fun _ _ => rfl), ?_, lnI_g hl eM eR (fun i hi => fm i (by unfold wAp wMid; omega)) eC (cSm_eq eAll (fun a ha q => by omega)) (fun _ _ => rfl) (Nat.le_refl _), nuI_g hnu eM eR (Nat.le_refl _) (fm 21 (by unfold wAp wMid; decide)).2 (fm 22 (by unfold wAp wMid; decide)).2 (fm 31 (by unfold wAp wMid; decide)).2⟩, eAll, eQ⟩
  unfold roI; rw [mde_r rB]; exact hro
end V
