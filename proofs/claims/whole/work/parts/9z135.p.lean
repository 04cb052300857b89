-- part 135: rows of a frame, one after the other
section V
variable {S S' S0 S1 : cSt} {M M' A : mSt} {ra : Nat → Nat} {sl ch : Nat → Int32} {mkO : Nat → Option Nat} {L Wt : Nat → List Nat} {ro ro' fa fa' : Nat → Nat} {x0 n m k k' Bt nf w r : Nat} {l W : List Nat}
theorem kn_of (h : Ib x0 k S M ra sl mkO L Wt ro fa) (hn : n < 4) : ∃ kn : Nat → Nat, (∀ q, q < 4 → fk_7_knownOf S (sN x0 n) (Int32.ofNat q) = some (Int32.ofNat (kn q)) ∧ kn q ≤ 250) ∧ (∀ q, q < 4 → M.2 20 (4 * n + q) = Int32.ofNat (kn q) ∧ kn q ≤ 250) ∧ ∀ r, r < 1000 → (r ∈ L n ↔ rM r ≤ kn (rN r)) := by
  obtain ⟨hc, -, -, -, -, -, -, hnu⟩ := h
  obtain ⟨⟨hA, -, -, -⟩, -, hN, -⟩ := hc
  obtain ⟨⟨hM1, hC1⟩, -⟩ := hN n hn
  obtain ⟨sx, hsx⟩ := sn_of hA hM1 hn hnu
  obtain ⟨⟨hy, -, -⟩, -, -, -, hs, -⟩ := hC1
  refine ⟨sx n, fun q hq => ⟨k_knownOf hn hy (fun m q hm hq => by rw [hs m q hm hq]; exact (hsx m q hm hq).1) hq, (hsx n q hn hq).2⟩, fun q hq => ⟨?_, (hsx n q hn hq).2⟩, fun r hr => kn_sx hsx hn hM1.2.1 hr⟩
  have := (hsx n q hn hq).1
  unfold snV at this
  rw [if_pos rfl] at this; exact this
theorem rdy_nxt {kn : Nat → Nat} (hkn : ∀ q, q < 4 → kn q ≤ 250) (hl : ∀ r, r < 1000 → (r ∈ l ↔ rM r ≤ kn (rN r))) (hr : mde M r) (h : rdyB M kn r = true) : nxt M l r := by
  unfold rdyB at h
  rw [Bool.and_eq_true, List.all_eq_true] at h
  have h1 := of_decide_eq_true h.1
  refine ⟨hr, fun q => ?_, fun t ht hk => ?_⟩
  · have := (hl r hr.1).mp q; omega
  · have hn := rN_lt ht.1
    have h2 := of_decide_eq_true (h.2 (rN t) (List.mem_range.mpr hn))
    have hk' : Int32.ofNat (rM t) ≤ M.2 16 (4 * r + rN t) := hk
    have h3 := Int32.le_trans hk' h2
    have hb := rM_le t
    have hc := hkn _ hn
    exact (hl t ht.1).mpr ((jI_le (by omega) (by omega)).mp h3)
theorem filter_lt {W : List Nat} (hnd : W.Nodup) {r : Nat} (h : r ∈ W) : (W.filter (fun q => decide (q ≠ r))).length < W.length := by
  have h1 : (W.filter (fun q => decide (q ≠ r))).length ≤ W.length := List.length_filter_le _ _
  by_cases e : (W.filter (fun q => decide (q ≠ r))).length = W.length
  · have := List.length_filter_eq_length_iff.mp e r h
    simp at this
  · omega
/-- a row applied, and all that wait and are ready then -/
theorem drain (hn : n < 4) (f : Nat) (v3 : Int32) (G : cSt → Nat → Nat → Int32 → Int32 → Option (Int32 × cSt)) (G' : mSt → Int32 → Int32 → Int32 → Int32 → Option (Int32 × mSt)) (w2 w4 w5 : Int32) : ∀ (d : Nat) (S : cSt) (M : mSt) (L Wt : Nat → List Nat) (r v5 a fu fu' : Nat), Ib x0 k S M ra sl mkO L Wt ro fa → nxt M (L n) r → ((Wt n).filter (fun q => decide (q ≠ r))).length ≤ d → v5 + d ≤ 30 → d + 1 < fu → d + 1 < fu' → ∃ S' M' L' Wt' b, fk_7_receive_107 G fu S (sN x0 n) f (Int32.ofNat a) v3 (some (ra r)) (Int32.ofNat v5) = fk_7_receive_144 G S' (sN x0 n) f (Int32.ofNat (a + b)) v3 ∧ fm_deliver_293 G' fu' M w2 (Int32.ofNat n) w4 w5 (Int32.ofNat r) = fm_deliver_316 G' M' w2 (Int32.ofNat n) w4 w5 ∧ Ib x0 k S' M' ra sl mkO L' Wt' ro fa ∧ (L' n).length = (L n).length + b ∧ cEq (fun a => x0 + 22 ≤ a ∧ a < x0 + 126) S S' ∧ mEx wAq M M' ∧ rEq M M' := by
  intro d
  induction d with
  | zero =>
    intro S M L Wt r v5 a fu fu' hI hr hd hv hf hf'
    obtain ⟨fu, rfl⟩ : ∃ q, fu = q + 1 + 1 := ⟨fu - 2, by omega⟩
    obtain ⟨fu', rfl⟩ : ∃ q, fu' = q + 1 + 1 := ⟨fu' - 2, by omega⟩
    obtain ⟨S1, S2, M2, a1, a2, a3, a4, a5, a6, a7⟩ := Ib_ap hI hn hr
    have y8 : kK S (sN x0 n) = 8 := by obtain ⟨⟨-, -, hN, -⟩, -⟩ := hI; exact (hN n hn).1.2.1.1.1.1
    have r8 := hr.1.1
    have rq : rEq M M2 := fun k h1 h2 => (a7 k (by unfold wAq wMid; omega)).2
    obtain ⟨kn, k1, k2, k3⟩ := kn_of a5 hn
    obtain ⟨⟨hA2, -, -, -⟩, ⟨hB2, -⟩, hN2, -⟩ := a5.1
    obtain ⟨⟨hM1, ⟨⟨hy2, -, -⟩, -⟩⟩, ⟨hw1, hw2, hw3⟩, -⟩ := hN2 n hn
    have hnil : (updL Wt n ((Wt n).filter (fun q => decide (q ≠ r)))) n = [] := by
      rw [updL_s]; exact List.length_eq_zero_iff.mp (by omega)
    have hfr := k_firstReady (ra := ra) (sl := sl) (ch := chF M2 sl) hA2.2.2.2 hy2 k1 hw2.1 hw1.1 hw2.2 (fun q hq => ⟨(hw3.2 q hq).1.1, (hB2.2.2.1 q (hw3.2 q hq).1.1 (hw3.2 q hq).1).2⟩)
    have hnr := m_nextReady hA2.2.2.2 hn k2 hw1
    rw [hnil] at hfr hnr
    have hfr' : fk_7_firstReady S2 (sN x0 n) = some none := hfr
    have hnr' : fm_nextReady M2 (Int32.ofNat n) = some (-1) := hnr
    refine ⟨S2, M2, _, _, 1, ?_, ?_, a5, ?_, a6, a7, rq⟩
    · rw [fk_7_receive_107, if_neg (show ¬ (30 : Int32) < Int32.ofNat v5 from fun q => absurd ((jI_lt (a := 30) (by decide) (by omega)).mp q) (by omega)), cs_S, ckk_y y8, a1, bd_s, lt_d, ckk_y a2, a3, bd_s, ckk_y hy2.1.1, hfr', bd_s, lt_d, fk_7_receive_107, cs_N, show Int32.ofNat a + 1 = Int32.ofNat (a + 1) from jI_add _ 1]
      split <;> rfl
    · rw [fm_deliver_293, if_neg (jI_ne (by omega)), a4, bd_s, hnr', bd_s, fm_deliver_293, if_pos rfl]
    · rw [updL_s, List.length_append]; rfl
  | succ d ih =>
    intro S M L Wt r v5 a fu fu' hI hr hd hv hf hf'
    obtain ⟨fu, rfl⟩ : ∃ q, fu = q + 1 + 1 := ⟨fu - 2, by omega⟩
    obtain ⟨fu', rfl⟩ : ∃ q, fu' = q + 1 + 1 := ⟨fu' - 2, by omega⟩
    obtain ⟨S1, S2, M2, a1, a2, a3, a4, a5, a6, a7⟩ := Ib_ap hI hn hr
    have y8 : kK S (sN x0 n) = 8 := by obtain ⟨⟨-, -, hN, -⟩, -⟩ := hI; exact (hN n hn).1.2.1.1.1.1
    have r8 := hr.1.1
    have rq : rEq M M2 := fun k h1 h2 => (a7 k (by unfold wAq wMid; omega)).2
    obtain ⟨kn, k1, k2, k3⟩ := kn_of a5 hn
    obtain ⟨⟨hA2, -, -, -⟩, ⟨hB2, -⟩, hN2, -⟩ := a5.1
    obtain ⟨⟨hM1, ⟨⟨hy2, -, -⟩, -⟩⟩, ⟨hw1, hw2, hw3⟩, -⟩ := hN2 n hn
    have hfr := k_firstReady (ra := ra) (sl := sl) (ch := chF M2 sl) hA2.2.2.2 hy2 k1 hw2.1 hw1.1 hw2.2 (fun q hq => ⟨(hw3.2 q hq).1.1, (hB2.2.2.1 q (hw3.2 q hq).1.1 (hw3.2 q hq).1).2⟩)
    have hnr := m_nextReady hA2.2.2.2 hn k2 hw1
    have hin := fun q => frB_in (K := rK M2) (P := rdyB M2 kn) (W := updL Wt n ((Wt n).filter (fun q => decide (q ≠ r))) n) (q := q)
    have e1 : fk_7_receive_107 G (fu + 1 + 1) S (sN x0 n) f (Int32.ofNat a) v3 (some (ra r)) (Int32.ofNat v5) = bd (fk_7_firstReady S2 (sN x0 n)) fun o6 => fk_7_receive_107 G (fu + 1) S2 (sN x0 n) f (Int32.ofNat (a + 1)) v3 o6 (Int32.ofNat (v5 + 1)) := by
      rw [fk_7_receive_107, if_neg (show ¬ (30 : Int32) < Int32.ofNat v5 from fun q => absurd ((jI_lt (a := 30) (by decide) (by omega)).mp q) (by omega)), cs_S, ckk_y y8, a1, bd_s, lt_d, ckk_y a2, a3, bd_s, ckk_y hy2.1.1, show Int32.ofNat a + 1 = Int32.ofNat (a + 1) from jI_add _ 1, show Int32.ofNat v5 + 1 = Int32.ofNat (v5 + 1) from jI_add _ 1]
      rfl
    have e2 : fm_deliver_293 G' (fu' + 1 + 1) M w2 (Int32.ofNat n) w4 w5 (Int32.ofNat r) = bd (fm_nextReady M2 (Int32.ofNat n)) fun r3 => fm_deliver_293 G' (fu' + 1) M2 w2 (Int32.ofNat n) w4 w5 r3 := by
      rw [fm_deliver_293, if_neg (jI_ne (by omega)), a4, bd_s]
    rw [e1, e2, hfr, hnr, bd_s, bd_s]
    generalize hfo : frB (rK M2) (rdyB M2 kn) (updL Wt n ((Wt n).filter (fun q => decide (q ≠ r))) n) = o at hin
    cases o with
    | none =>
      refine ⟨S2, M2, _, _, 1, ?_, ?_, a5, ?_, a6, a7, rq⟩
      · rw [show (none : Option Nat).map ra = none from rfl, fk_7_receive_107, cs_N]
        split <;> rfl
      · rw [show rI none = -1 from rfl, fm_deliver_293, if_pos rfl]
      · rw [updL_s, List.length_append]; rfl
    | some r2 =>
      obtain ⟨i1, i2⟩ := hin r2 rfl
      have hr2 := rdy_nxt (M := M2) (l := updL L n (L n ++ [r]) n) (fun q hq => (k1 q hq).2) k3 (hw3.2 r2 i1).1 i2
      have hlt := filter_lt hw3.1 i1
      rw [updL_s] at hlt
      obtain ⟨S3, M3, L3, W3, b, x1, x2, x3, x4, x5, x6, x7⟩ := ih S2 M2 _ _ r2 (v5 + 1) (a + 1) (fu + 1) (fu' + 1) a5 hr2 (by rw [updL_s]; omega) (by omega) (by omega) (by omega)
      refine ⟨S3, M3, L3, W3, b + 1, ?_, x2, x3, ?_, cEq_trans a6 x5, mEx_trans a7 x6, fun k h1 h2 => (x7 k h1 h2).trans (rq k h1 h2)⟩
      · rw [show (some r2).map ra = some (ra r2) from rfl, x1, show a + 1 + b = a + (b + 1) by omega]
      · rw [x4, updL_s, List.length_append, List.length_singleton]; omega
/-- the rows of a frame come to a node -/
theorem rowsGo (hn : n < 4) {f c l0 : Nat} (rr : Nat → Nat) (hc8 : c ≤ 8) (hf : x0 + 133 ≤ f) (w2 : Int32) (Rs : Nat → Int32) (h3 : Rs 3 = Int32.ofNat c) (h8 : ∀ i, i < c → Rs (8 + i) = Int32.ofNat (rr i)) : ∀ (j i : Nat) (S : cSt) (M : mSt) (L Wt : Nat → List Nat) (a fu fu' : Nat), i + j = c → j < fu → j < fu' → Ib x0 k S M ra sl mkO L Wt ro fa → (kK S f = 3 ∧ kK S (f + 3) = 30 ∧ kL S (f + 3) = 8 ∧ kR S f 2 = some (f + 3) ∧ kF S f 6 = Int32.ofNat c) → (∀ i, i < c → mde M (rr i) ∧ kO S (f + 3) i = some (ra (rr i))) → (L n).length = l0 + a → M.2 76 = Rs → ∃ S' M' L' Wt' b, fk_7_receive_55 fu S (sN x0 n) f (Int32.ofNat a) (Int32.ofNat i) = some (Int32.ofNat b, S') ∧ fm_deliver_237 fu' M w2 (Int32.ofNat n) (Int32.ofNat l0) (Int32.ofNat i) = (if Rs 2 = 1 then fm_deliver_346 mFU M' w2 (Int32.ofNat n) (Int32.ofNat b) 0 else fm_deliver_390 M' (Int32.ofNat b)) ∧ Ib x0 k S' M' ra sl mkO L' Wt' ro fa ∧ cEq (fun a => x0 + 22 ≤ a ∧ a < x0 + 126) S S' ∧ M'.2 76 = Rs ∧ M'.1 42 = M.1 42 ∧ M'.2 46 = M.2 46 ∧ rEq M M' := by
  intro j
  induction j with
  | zero =>
    intro i S M L Wt a fu fu' hi hfu hfu' hI hfr hrow hla hRs
    obtain ⟨fu, rfl⟩ : ∃ q, fu = q + 1 := ⟨fu - 1, by omega⟩
    obtain ⟨fu', rfl⟩ : ∃ q, fu' = q + 1 := ⟨fu' - 1, by omega⟩
    have e : i = c := by omega
    subst e
    have h23 : M.2 23 n = Int32.ofNat (L n).length := (hI.1.2.2.1 n hn).1.1.1.2.2.2
    have r3 : rd M 76 3 = Int32.ofNat i := by show M.2 76 3 = _; rw [hRs]; exact h3
    have r2 : rd M 76 2 = Rs 2 := by show M.2 76 2 = _; rw [hRs]
    refine ⟨S, M, L, Wt, a, ?_, ?_, hI, cEq_refl _ _, hRs, rfl, rfl, fun _ _ _ => rfl⟩
    · rw [fk_7_receive_55, ckk_y hfr.1, hfr.2.2.2.2, if_pos (Int32.le_refl _)]
    · rw [fm_deliver_237, show ck (3 : Int32) 640 _ = _ from ck_n (i := 3) (by decide) (by decide), r3, if_pos (Int32.le_refl _), ck_n hn (by omega), rd_n _ _ (by omega), h23, hla, jI_sub (by omega), show l0 + a - l0 = a by omega, lt_d, show ck (2 : Int32) 640 _ = _ from ck_n (i := 2) (by decide) (by decide), r2]
  | succ j ih =>
    intro i S M L Wt a fu fu' hi hfu hfu' hI hfr hrow hla hRs
    obtain ⟨fu, rfl⟩ : ∃ q, fu = q + 1 := ⟨fu - 1, by omega⟩
    obtain ⟨fu', rfl⟩ : ∃ q, fu' = q + 1 := ⟨fu' - 1, by omega⟩
    have hi' : i < c := by omega
    obtain ⟨hmd, hko⟩ := hrow i hi'
    have hrb := hmd.1
    obtain ⟨kn, k1, k2, k3⟩ := kn_of hI hn
    obtain ⟨⟨hA, -, -, -⟩, ⟨hB, -⟩, hN, -⟩ := id hI.1
    obtain ⟨⟨hM1, ⟨⟨hy, hv, -⟩, -⟩⟩, ⟨hw1, hw2, hw3⟩, -⟩ := hN n hn
    have hle := cl_len hM1.1.2.1
    have hcr := (hB.2.2.1 _ hrb hmd).2
    have r3 : rd M 76 3 = Int32.ofNat c := by show M.2 76 3 = _; rw [hRs]; exact h3
    have r8 : rd M 76 (Int32.ofNat (8 + i)) = Int32.ofNat (rr i) := by rw [rd_n _ _ (by omega), hRs]; exact h8 i hi'
    have s1 : Int32.ofNat i + 1 = Int32.ofNat (i + 1) := jI_add _ 1
    have cls : fk_7_receive_55 (fu + 1) S (sN x0 n) f (Int32.ofNat a) (Int32.ofNat i) = (if b2 (rr i ∈ L n) = 0 then (if b2 (rdyB M kn (rr i) = true) = 0 then (bd (fk_7_await S (sN x0 n) (ra (rr i))) fun S10 => fk_7_receive_144 (fk_7_receive_55 fu) S10 (sN x0 n) f (Int32.ofNat a) (Int32.ofNat i)) else fk_7_receive_107 (fk_7_receive_55 fu) mFU S (sN x0 n) f (Int32.ofNat a) (Int32.ofNat i) (some (ra (rr i))) (0 : Int32)) else fk_7_receive_144 (fk_7_receive_55 fu) S (sN x0 n) f (Int32.ofNat a) (Int32.ofNat i)) := by
      rw [fk_7_receive_55, ckk_y hfr.1, hfr.2.2.2.2, if_neg (fun q => absurd ((jI_le (by omega) (by omega)).mp q) (by omega)), ckk_y hfr.1, hfr.2.2.2.1, bd_s, ckk_y hfr.2.1, hfr.2.2.1, ck_n (by omega) (by omega), lt_d, jI_cl (by omega), hko, ckk_y hy.1.1, hy.1.2.2.1, bd_s, bd_s, ckk_y hv.1.1.1.1, k_has hB hv.1 hle hrb hmd, bd_s, ckk_y hy.1.1, k_isReady hy.1.1 k1 hrb hcr, bd_s, ckk_y hy.1.1]
    have rf : fm_deliver_237 (fu' + 1) M w2 (Int32.ofNat n) (Int32.ofNat l0) (Int32.ofNat i) = (if b2 (rr i ∈ L n) = 0 then (if b2 (rdyB M kn (rr i) = true) = 0 then (bd (fm_keep M (Int32.ofNat n) (Int32.ofNat (rr i))) fun S9 => fm_deliver_316 (fm_deliver_237 fu') S9 w2 (Int32.ofNat n) (Int32.ofNat l0) (Int32.ofNat i)) else fm_deliver_293 (fm_deliver_237 fu') mFU M w2 (Int32.ofNat n) (Int32.ofNat l0) (Int32.ofNat i) (Int32.ofNat (rr i))) else fm_deliver_316 (fm_deliver_237 fu') M w2 (Int32.ofNat n) (Int32.ofNat l0) (Int32.ofNat i)) := by
      rw [fm_deliver_237, show ck (3 : Int32) 640 _ = _ from ck_n (i := 3) (by decide) (by decide), r3, if_neg (fun q => absurd ((jI_le (by omega) (by omega)).mp q) (by omega)), show (8 : Int32) + Int32.ofNat i = Int32.ofNat (8 + i) from jI_add 8 i, ck_n (by omega) (by omega), r8, lt_d, m_isApplied (mEx_refl sc M) hM1.2.1 hrb, bd_s, m_isReady hn k2 hrb, bd_s]
    have c144 : ∀ (T : cSt) (b : Nat), fk_7_receive_144 (fk_7_receive_55 fu) T (sN x0 n) f (Int32.ofNat b) (Int32.ofNat i) = fk_7_receive_55 fu T (sN x0 n) f (Int32.ofNat b) (Int32.ofNat (i + 1)) := fun T b => by
      unfold fk_7_receive_144; rw [lt_d, s1]
    have c316 : ∀ (T : mSt), fm_deliver_316 (fm_deliver_237 fu') T w2 (Int32.ofNat n) (Int32.ofNat l0) (Int32.ofNat i) = fm_deliver_237 fu' T w2 (Int32.ofNat n) (Int32.ofNat l0) (Int32.ofNat (i + 1)) := fun T => by
      unfold fm_deliver_316; rw [lt_d, s1]
    have frS : ∀ T, cEq (fun a => x0 + 22 ≤ a ∧ a < x0 + 126) S T → (kK T f = 3 ∧ kK T (f + 3) = 30 ∧ kL T (f + 3) = 8 ∧ kR T f 2 = some (f + 3) ∧ kF T f 6 = Int32.ofNat c) ∧ kO T (f + 3) = kO S (f + 3) := fun T eT => by
      have z0 := eT.2.2.2.2 f (by omega)
      have z3 := eT.2.2.2.2 (f + 3) (by omega)
      rw [eT.1, eT.1, eT.2.1, z0.2.1, z0.1]
      exact ⟨hfr, z3.2.2.2⟩
    rw [cls, rf]
    by_cases hin : rr i ∈ L n
    · rw [b2_t hin, if_neg n10, if_neg n10, c144, c316]
      exact ih (i + 1) S M L Wt a fu fu' (by omega) (by omega) (by omega) hI hfr hrow hla hRs
    · rw [b2_f hin, if_pos rfl, if_pos rfl]
      cases hrd : rdyB M kn (rr i) with
      | true =>
        rw [if_neg bTn, if_neg bTn]
        have hnx := rdy_nxt (M := M) (l := L n) (fun q hq => (k1 q hq).2) k3 hmd hrd
        obtain ⟨S2, M2, L2, W2, b, x1, x2, x3, x4, x5, x6, x7⟩ := drain hn f (Int32.ofNat i) (fk_7_receive_55 fu) (fm_deliver_237 fu') w2 (Int32.ofNat l0) (Int32.ofNat i) 30 S M L Wt (rr i) 0 a mFU mFU hI hnx (Nat.le_trans (List.length_filter_le _ _) hw1.1) (by omega) (by decide) (by decide)
        have x1' : fk_7_receive_107 (fk_7_receive_55 fu) mFU S (sN x0 n) f (Int32.ofNat a) (Int32.ofNat i) (some (ra (rr i))) 0 = _ := x1
        rw [x1', x2, c144, c316]
        obtain ⟨f1, f2⟩ := frS S2 x5
        obtain ⟨S3, M3, L3, W3, b3, y1, y2, y3, y4, y5, y6, y7, y8⟩ := ih (i + 1) S2 M2 L2 W2 (a + b) fu fu' (by omega) (by omega) (by omega) x3 f1 (fun q hq => by rw [mde_r x7, f2]; exact hrow q hq) (by rw [x4, hla]; omega) (by rw [(x6 76 (by unfold wAq wMid; decide)).2]; exact hRs)
        exact ⟨S3, M3, L3, W3, b3, y1, y2, y3, cEq_trans x5 y4, y5, by rw [y6]; exact (x6 42 (by unfold wAq wMid; decide)).1, by rw [y7]; exact (x6 46 (by unfold wAq wMid; decide)).2, fun k h1 h2 => (y8 k h1 h2).trans (x7 k h1 h2)⟩
      | false =>
        rw [if_pos bFn, if_pos bFn]
        obtain ⟨S2, M2, x1, x2, x3, x4, x5⟩ := Ib_wait hI hn hmd hin
        have rq : rEq M M2 := fun k h1 h2 => (x5 k (by omega)).2
        rw [x1, x2, bd_s, bd_s, c144, c316]
        obtain ⟨f1, f2⟩ := frS S2 x4
        obtain ⟨S3, M3, L3, W3, b3, y1, y2, y3, y4, y5, y6, y7, y8⟩ := ih (i + 1) S2 M2 L _ a fu fu' (by omega) (by omega) (by omega) x3 f1 (fun q hq => by rw [mde_r rq, f2]; exact hrow q hq) hla (by rw [(x5 76 (by decide)).2]; exact hRs)
        exact ⟨S3, M3, L3, W3, b3, y1, y2, y3, cEq_trans x4 y4, y5, by rw [y6]; exact (x5 42 (by decide)).1, by rw [y7]; exact (x5 46 (by decide)).2, fun k h1 h2 => (y8 k h1 h2).trans (rq k h1 h2)⟩
end V
