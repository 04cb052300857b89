-- part 139: the class joins
section V
variable {S S' S0 S1 T : cSt} {M M' A : mSt} {ra : Nat → Nat} {sl ch : Nat → Int32} {mkO : Nat → Option Nat} {L Wt : Nat → List Nat} {ro fa : Nat → Nat} {x0 n m k Bt la lb bk nd md : Nat} {l W : List Nat}
theorem k_raiseL (hk : kK S nd = 8) (a b : Int32) : ∃ S', fk_7_raiseLast S nd a b = some S' ∧ cEq (fun x => x = nd) S S' ∧ kR S' nd = kR S nd ∧ (∀ j, j ≠ 9 → j ≠ 10 → kF S' nd j = kF S nd j) ∧ (kF S' nd 9, kF S' nd 10) = rsL (kF S nd 9, kF S nd 10) (a, b) := by
  have nop : rsL (kF S nd 9, kF S nd 10) (a, b) = (kF S nd 9, kF S nd 10) → ∃ S', some S = some S' ∧ cEq (fun x => x = nd) S S' ∧ kR S' nd = kR S nd ∧ (∀ j, j ≠ 9 → j ≠ 10 → kF S' nd j = kF S nd j) ∧ (kF S' nd 9, kF S' nd 10) = rsL (kF S nd 9, kF S nd 10) (a, b) := fun h => ⟨S, rfl, cEq_refl _ _, rfl, fun _ _ _ => rfl, h.symm⟩
  have yes : rsL (kF S nd 9, kF S nd 10) (a, b) = (a, b) → ∃ S', fk_7_raiseLast_24 S nd a b = some S' ∧ cEq (fun x => x = nd) S S' ∧ kR S' nd = kR S nd ∧ (∀ j, j ≠ 9 → j ≠ 10 → kF S' nd j = kF S nd j) ∧ (kF S' nd 9, kF S' nd 10) = rsL (kF S nd 9, kF S nd 10) (a, b) := fun h => by
    unfold fk_7_raiseLast_24 fk_7_raiseLast_34
    have y1b : kK (cPi S nd 9 a) nd = 8 := hk
    rw [ckk_y hk, lt_d, ckk_y y1b, lt_d]
    refine ⟨_, rfl, cEq_trans (cEq_cPi _ rfl) (cEq_cPi _ rfl), rfl, fun j h9 h10 => ?_, ?_⟩
    · rw [kF_cPo _ _ (fun q => h10 q.2), kF_cPo _ _ (fun q => h9 q.2)]
    · rw [kF_cPi, kF_cPo _ _ (fun q => absurd q.2 (by decide)), kF_cPi, h]
  unfold fk_7_raiseLast fk_7_raiseLast_34
  rw [ckk_y hk]
  unfold rsL at nop yes ⊢
  by_cases h1 : kF S nd 9 < a
  · rw [if_pos h1]
    rw [if_pos h1] at yes ⊢
    exact yes rfl
  · rw [if_neg h1, ckk_y hk]
    rw [if_neg h1] at yes nop ⊢
    by_cases h2 : a = kF S nd 9
    · rw [if_pos h2, ckk_y hk]
      rw [if_pos h2] at yes nop ⊢
      by_cases h3 : b ≤ kF S nd 10
      · rw [if_pos h3]
        rw [if_pos h3] at nop ⊢
        exact nop rfl
      · rw [if_neg h3]
        rw [if_neg h3] at yes ⊢
        exact yes rfl
    · rw [if_neg h2]
      rw [if_neg h2] at nop ⊢
      exact nop rfl
theorem k_jn13 (hy : cNy S nd bk n) (hz : cNy S md bk m) (hn : n < 4) (hd : nd + 26 ≤ md ∨ md + 26 ≤ nd) : ∀ (j i fu : Nat) (f : Nat → Int32), i + j = 16 → j < fu → (∀ c, c < i → f c = if c / 4 = n then kI S (nd + 5) c else mxV (kI S (nd + 5) c) (kI S (md + 5) c)) → (∀ c, i ≤ c → c < 16 → f c = kI S (nd + 5) c) → ∃ f' fu', fk_7_joinTo_13 fu (sI S (nd + 5) f) nd md (Int32.ofNat i) = fk_7_joinTo_13 (fu' + 1) (sI S (nd + 5) f') nd md (Int32.ofNat 16) ∧ ∀ c, c < 16 → f' c = if c / 4 = n then kI S (nd + 5) c else mxV (kI S (nd + 5) c) (kI S (md + 5) c) := by
  intro j
  induction j with
  | zero =>
    intro i fu f hi hf h1 h2
    obtain ⟨fu, rfl⟩ : ∃ q, fu = q + 1 := ⟨fu - 1, by omega⟩
    have e1 : i = 16 := by omega
    subst e1
    exact ⟨f, fu, rfl, h1⟩
  | succ j ih =>
    intro i fu f hi hf h1 h2
    obtain ⟨fu, rfl⟩ : ∃ q, fu = q + 1 := ⟨fu - 1, by omega⟩
    generalize hT : sI S (nd + 5) f = T
    have tK : ∀ a, kK T a = kK S a ∧ kL T a = kL S a ∧ kR T a = kR S a ∧ kF T a = kF S a := fun a => by rw [← hT]; exact ⟨rfl, rfl, rfl, rfl⟩
    have k8 : kK T nd = 8 := by rw [(tK nd).1]; exact hy.1.1
    have k8' : kK T md = 8 := by rw [(tK md).1]; exact hz.1.1
    have f0 : kF T nd 0 = Int32.ofNat n := by rw [(tK nd).2.2.2]; exact hy.1.2.1
    have r5 : kR T nd 5 = some (nd + 5) := by rw [(tK nd).2.2.1]; exact hy.1.2.2.2.2.2.2.1
    have r5' : kR T md 5 = some (md + 5) := by rw [(tK md).2.2.1]; exact hz.1.2.2.2.2.2.2.1
    have c5 : kK T (nd + 5) = 20 ∧ kL T (nd + 5) = 16 := by rw [(tK _).1, (tK _).2.1]; exact hy.2.2.1
    have c5' : kK T (md + 5) = 20 ∧ kL T (md + 5) = 16 := by rw [(tK _).1, (tK _).2.1]; exact hz.2.2.1
    have i5 : kI T (nd + 5) i = kI S (nd + 5) i := by rw [← hT, kI_sI]; exact h2 i (Nat.le_refl _) (by omega)
    have i5' : kI T (md + 5) i = kI S (md + 5) i := by rw [← hT, kI_sIo _ _ (by omega)]
    have s1 : Int32.ofNat i + 1 = Int32.ofNat (i + 1) := jI_add _ 1
    have d4 : Int32.ofNat i / (4 : Int32) = Int32.ofNat (i / 4) := jI_div (b := 4) (by omega) (by decide)
    rw [fk_7_joinTo_13, if_neg (jK 16 16 rfl (by omega) (by decide)), ckk_y k8, d4, f0]
    unfold fk_7_joinTo_50
    by_cases hc : i / 4 = n
    · rw [if_pos (by rw [hc]), lt_d, s1, ← hT]
      refine ih (i + 1) fu f (by omega) (by omega) (fun c hc' => ?_) (fun c h3 h4 => h2 c (by omega) h4)
      by_cases e : c = i
      · subst e; rw [if_pos hc]; exact h2 c (Nat.le_refl _) (by omega)
      · exact h1 c (by omega)
    · rw [if_neg (fun q => hc ((jI_inj (by omega) (by omega)).mp q)), ckk_y k8, r5, bd_s, ckk_y k8, bd_s, ckk_y c5.1, c5.2, ck_n (by omega) (by omega), ckk_y k8', r5', bd_s, ckk_y c5'.1, c5'.2, ck_n (by omega) (by omega), ckk_y c5.1, ck_n (by omega) (by omega), jI_cl (by omega), i5, i5', lt_d, cWi_sI, lt_d, s1]
      have e2 : sI T (nd + 5) (upd (kI T (nd + 5)) i (if kI S (nd + 5) i < kI S (md + 5) i then kI S (md + 5) i else kI S (nd + 5) i)) = sI S (nd + 5) (upd f i (mxV (kI S (nd + 5) i) (kI S (md + 5) i))) := by
        rw [← hT, kI_sI, sI_sI]; rfl
      rw [e2]
      refine ih (i + 1) fu _ (by omega) (by omega) (fun c hc' => ?_) (fun c h3 h4 => by rw [upd_o _ _ (by omega)]; exact h2 c (by omega) h4)
      by_cases e : c = i
      · subst e; rw [upd_s, if_neg hc]
      · rw [upd_o _ _ e]; exact h1 c (by omega)
theorem k_joinTo (hI : Ib x0 k S M ra sl mkO L Wt ro fa) (hn : n < 4) (hm : m < 4) (hmn : n ≠ m) : ∃ S', fk_7_joinTo S (sN x0 n) (sN x0 m) = some S' ∧ cEq (fun a => a = sN x0 n ∨ a = sN x0 n + 5 ∨ a = sN x0 n + 8 ∨ (sN x0 n + 12 ≤ a ∧ a < sN x0 n + 20)) S S' ∧ kR S' (sN x0 n) = kR S (sN x0 n) ∧ (∀ j, j ≠ 9 → j ≠ 10 → j ≠ 11 → kF S' (sN x0 n) j = kF S (sN x0 n) j) ∧ (kF S' (sN x0 n) 9, kF S' (sN x0 n) 10) = rsL (M.2 18 n, M.2 19 n) (M.2 18 m, M.2 19 m) ∧ nW S' ra x0 n ((Wt n).filter (fun q => decide (q ∉ L m))) ∧ (∀ a q, a < 4 → q < 4 → kI S' (sN x0 n + 5) (4 * a + q) = if a = n then kI S (sN x0 m + 5) (4 * m + q) else mxV (kI S (sN x0 n + 5) (4 * a + q)) (kI S (sN x0 m + 5) (4 * a + q))) ∧ cLed M ra (chF M sl) S' (sN x0 n + 12) (x0 + 5) (L m) := by
  obtain ⟨hc, -⟩ := hI
  obtain ⟨⟨hA, hsl, htb, hBt⟩, ⟨hB, hBa⟩, hN, hz1, hz2⟩ := hc
  obtain ⟨⟨hM1, hC1⟩, ⟨hw1, hw2, hw3⟩, hown⟩ := hN n hn
  obtain ⟨⟨hM2, hC2⟩, -⟩ := hN m hm
  obtain ⟨⟨hy, hv, hls⟩, -, -, ⟨f8, f9, f10⟩, hs, -⟩ := hC1
  obtain ⟨⟨hy', hv', -⟩, -, -, ⟨-, f9', f10'⟩, hs', -⟩ := hC2
  have hx : x0 + 22 ≤ sN x0 n ∧ sN x0 n + 26 ≤ x0 + 126 := by unfold sN; omega
  have hx' : x0 + 22 ≤ sN x0 m ∧ sN x0 m + 26 ≤ x0 + 126 := by unfold sN; omega
  have hd : sN x0 n + 26 ≤ sN x0 m ∨ sN x0 m + 26 ≤ sN x0 n := by unfold sN; omega
  generalize hnd : sN x0 n = nd at *
  generalize hmd : sN x0 m = md at *
  have hcl := hM2.1.2.1
  have hmm : ∀ q ∈ L m, mde M q := fun q hq => cl_mem hcl hq
  obtain ⟨S3, a1, a2, a3⟩ := k_copyLed (la := nd + 12) (lb := md + 12) hv.1.1 hv'.1 (by omega) (fun q hq => (hmm q hq).1) (cl_len hcl) (fun q hq => (hB.2.2.1 q (hmm q hq).1 (hmm q hq)).2.1)
  have y3 : cNy S3 nd (x0 + 5) n := cNy_eq' hy a2 (by omega)
  have z3 : cNy S3 md (x0 + 5) m := cNy_eq' hy' a2 (by omega)
  obtain ⟨f, fu, b1, b2'⟩ := k_jn13 y3 z3 hn hd 16 0 mFU (kI S3 (nd + 5)) rfl (by decide) (fun c hc => absurd hc (by omega)) (fun c _ _ => rfl)
  rw [sI_id] at b1
  generalize hT : sI S3 (nd + 5) f = T at b1
  have tK : ∀ a, kK T a = kK S3 a ∧ kL T a = kL S3 a ∧ kR T a = kR S3 a ∧ kF T a = kF S3 a := fun a => by rw [← hT]; exact ⟨rfl, rfl, rfl, rfl⟩
  have k8 : kK T nd = 8 := by rw [(tK nd).1]; exact y3.1.1
  have k8' : kK T md = 8 := by rw [(tK md).1]; exact z3.1.1
  have f0 : kF T nd 0 = Int32.ofNat n := by rw [(tK nd).2.2.2]; exact y3.1.2.1
  have f0' : kF T md 0 = Int32.ofNat m := by rw [(tK md).2.2.2]; exact z3.1.2.1
  have r5 : kR T nd 5 = some (nd + 5) := by rw [(tK nd).2.2.1]; exact y3.1.2.2.2.2.2.2.1
  have r5' : kR T md 5 = some (md + 5) := by rw [(tK md).2.2.1]; exact z3.1.2.2.2.2.2.2.1
  have c5 : kK T (nd + 5) = 20 ∧ kL T (nd + 5) = 16 := by rw [(tK _).1, (tK _).2.1]; exact y3.2.2.1
  have c5' : kK T (md + 5) = 20 ∧ kL T (md + 5) = 16 := by rw [(tK _).1, (tK _).2.1]; exact z3.2.2.1
  have m4 : (4 : Int32) * Int32.ofNat m = Int32.ofNat (4 * m) := jI_mul 4 m
  have n4 : (4 : Int32) * Int32.ofNat n = Int32.ofNat (4 * n) := jI_mul 4 n
  generalize hU : cCp T (md + 5) (4 * m) (nd + 5) (4 * n) (Int32.toNatClampNeg 4) = U
  have eT : cEq (fun a => a = nd + 5) S3 T := by rw [← hT]; exact cEq_sI _ rfl
  have eU : cEq (fun a => a = nd + 5) T U := by rw [← hU]; exact cEq_cCp rfl
  have e3U : cEq (fun a => a = nd + 5) S3 U := cEq_trans eT eU
  have eSU : cEq (fun a => a = nd + 5 ∨ (nd + 12 ≤ a ∧ a < nd + 20)) S U := cEq_trans (cEq_mono a2 (fun a ha => by omega)) (cEq_mono e3U (fun a ha => by omega))
  have u0 := eSU.2.2.2.2 nd (by omega)
  have u0' := eSU.2.2.2.2 md (by omega)
  have ku : kK U nd = 8 := by rw [eU.1]; exact k8
  have ku' : kK U md = 8 := by rw [eU.1]; exact k8'
  obtain ⟨V, v1, v2, v3, v4, v5⟩ := k_raiseL ku (kF U md 9) (kF U md 10)
  have eSV : cEq (fun a => a = nd ∨ a = nd + 5 ∨ (nd + 12 ≤ a ∧ a < nd + 20)) S V := cEq_trans (cEq_mono eSU (fun a ha => by omega)) (cEq_mono v2 (fun a ha => by omega))
  have e3V : cEq (fun a => a = nd ∨ a = nd + 5) S3 V := cEq_trans (cEq_mono e3U (fun a ha => by omega)) (cEq_mono v2 (fun a ha => by omega))
  have hLV : cLed M ra (chF M sl) V (nd + 12) (x0 + 5) (L m) := cLed_eq a3 e3V (fun a ha => by omega)
  have hyV : cNy V nd (x0 + 5) n := cNy_eq hy eSV (by rw [v3, u0.2.1]) (by rw [v4 0 (by decide) (by decide), u0.1])
  have w8 := eSV.2.2.2.2 (nd + 8) (by omega)
  obtain ⟨g, g1, g2⟩ := k_forget (S := V) (nd := nd) (W := Wt n) (ra := ra) (p := fun q => decide (q ∉ L m)) hyV hLV.1.1.1 (by rw [v4 11 (by decide) (by decide), u0.1]; have := hw2.1; rw [hnd] at this; exact this) hw1.1 (fun i hi => by rw [w8.2.2.2]; have := hw2.2 i hi; rw [hnd] at this; exact this) (fun q hq => by rw [eSV.1]; exact (hB.2.2.1 q (hw3.2 q hq).1.1 (hw3.2 q hq).1).2.1) (fun Z eZ q hq => by
    have hBV := cBk_eq hB eSV (fun a ha => by omega)
    have hBT := cBk_eq hBV eZ (fun a ha => by omega)
    have hLT := cLed_eq hLV eZ (fun a ha => by omega)
    rw [k_has hBT hLT (cl_len hcl) (hw3.2 q hq).1.1 (hw3.2 q hq).1]
    congr 1
    apply b2_eq.mpr
    show q ∈ L m ↔ decide (q ∉ L m) = false
    rw [decide_eq_false_iff_not]
    exact Decidable.not_not.symm)
  generalize hS2 : cPi (sO V (nd + 8) g) nd 11 (Int32.ofNat ((Wt n).filter (fun q => decide (q ∉ L m))).length) = S2 at g1
  have eV2 : cEq (fun a => a = nd ∨ a = nd + 8) V S2 := by
    rw [← hS2]; exact cEq_trans (cEq_sO _ (Or.inr rfl)) (cEq_cPi _ (Or.inl rfl))
  have fF : ∀ j, j ≠ 11 → kF S2 nd j = kF V nd j := fun j hj => by rw [← hS2, kF_cPo _ _ (fun q => hj q.2)]; rfl
  refine ⟨S2, ?_, ?_, ?_, fun j h9 h10 h11 => ?_, ?_, ⟨?_, ?_⟩, fun a q ha hq => ?_, cLed_eq hLV eV2 (fun a ha => by omega)⟩
  · unfold fk_7_joinTo
    rw [ckk_y hy.1.1, hy.1.2.2.1, bd_s, ckk_y hy'.1.1, hy'.1.2.2.1, bd_s, ckk_y hv.1.1.1.1, a1, bd_s]
    show fk_7_joinTo_13 mFU S3 nd md (Int32.ofNat 0) = _
    rw [b1, fk_7_joinTo_13, if_pos (show (16 : Int32) ≤ Int32.ofNat 16 by decide), ckk_y k8', r5', bd_s, ckk_y k8', ckk_y k8, r5, bd_s, ckk_y k8, ckk_y c5'.1, ckk_y c5.1, f0, f0', m4, n4, ckp_y ⟨⟨jI_nn (by omega), jI_nn (by omega), by decide⟩, by rw [c5'.2, jI_cl (by omega)]; show 4 * m + 4 ≤ 16; omega, by rw [c5.2, jI_cl (by omega)]; show 4 * n + 4 ≤ 16; omega⟩, lt_d, jI_cl (show 4 * m < 2147483648 by omega), jI_cl (show 4 * n < 2147483648 by omega), hU, ckk_y ku', ckk_y ku', ckk_y ku, v1, bd_s, ckk_y (by rw [v2.1]; exact ku), g1, bd_s]
  · exact cEq_trans (cEq_mono eSV (fun a ha => by omega)) (cEq_mono eV2 (fun a ha => by omega))
  · rw [show kR S2 nd = kR V nd by rw [← hS2]; rfl, v3, u0.2.1]
  · rw [fF j h11, v4 j h9 h10, u0.1]
  · rw [fF 9 (by decide), fF 10 (by decide), v5, u0.1, u0'.1, f9, f10, f9', f10']
  · rw [hnd, ← hS2]; exact kF_cPi _ _ _ _
  · rw [hnd, show kO S2 (nd + 8) = g by rw [← hS2]; exact kO_sO _ _ _]; exact g2
  · have i3 : kI S3 (nd + 5) = kI S (nd + 5) := (a2.2.2.2.2 (nd + 5) (by omega)).2.2.1
    have i3' : kI S3 (md + 5) = kI S (md + 5) := (a2.2.2.2.2 (md + 5) (by omega)).2.2.1
    rw [(eV2.2.2.2.2 (nd + 5) (by omega)).2.2.1, (v2.2.2.2.2 (nd + 5) (by omega)).2.2.1, ← hU, kI_cCp, (eT.2.2.2.2 (md + 5) (by omega)).2.2.1, i3', ← hT, kI_sI]
    unfold va_cpy
    by_cases e : a = n
    · subst e
      rw [if_pos ⟨by omega, by show 4 * a + q < 4 * a + 4; omega⟩, if_pos rfl]; congr 1; omega
    · rw [if_neg (fun h => by have h2 : 4 * a + q < 4 * n + 4 := h.2; have := h.1; omega), if_neg e, b2' (4 * a + q) (by omega), if_neg (by omega), i3, i3']
end V
