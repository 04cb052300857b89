-- part 138: a ledger copied
section V
variable {S S' S0 S1 T : cSt} {M M' A : mSt} {ra : Nat → Nat} {sl ch : Nat → Int32} {mkO : Nat → Option Nat} {L Wt : Nat → List Nat} {ro fa : Nat → Nat} {x0 n m k Bt la lb bk : Nat} {l W : List Nat}
theorem k_cp97 (hy : cLay S la bk) (hz : cLay S lb bk) (hd : la + 8 ≤ lb ∨ lb + 8 ≤ la) (h4 : ∀ r, r < 385 → (∀ a, kO S (lb + 6) r = some a → kK S a = 9) ∧ ∀ a, kO S (lb + 7) r = some a → kK S a = 9) : ∀ (j i fu : Nat) (T : cSt), i + j = 385 → j < fu → cEq (fun a => a = la + 6 ∨ a = la + 7) S T → (∀ r, r < i → kO T (la + 6) r = kO S (lb + 6) r ∧ kO T (la + 7) r = kO S (lb + 7) r) → ∃ T', fk_4_copyFrom_97 fu T la lb (Int32.ofNat i) = some T' ∧ cEq (fun a => a = la + 6 ∨ a = la + 7) S T' ∧ ∀ r, r < 385 → kO T' (la + 6) r = kO S (lb + 6) r ∧ kO T' (la + 7) r = kO S (lb + 7) r := by
  intro j
  induction j with
  | zero =>
    intro i fu T hi hf e h
    obtain ⟨fu, rfl⟩ : ∃ q, fu = q + 1 := ⟨fu - 1, by omega⟩
    have e1 : i = 385 := by omega
    subst e1
    rw [fk_4_copyFrom_97, if_pos (show (385 : Int32) ≤ Int32.ofNat 385 by decide)]
    exact ⟨T, rfl, e, h⟩
  | succ j ih =>
    intro i fu T hi hf e h
    obtain ⟨fu, rfl⟩ : ∃ q, fu = q + 1 := ⟨fu - 1, by omega⟩
    have z0 := e.2.2.2.2 la (by omega)
    have w0 := e.2.2.2.2 lb (by omega)
    have w4 := e.2.2.2.2 (lb + 6) (by omega)
    have w5 := e.2.2.2.2 (lb + 7) (by omega)
    have ka : kK T la = 5 := by rw [e.1]; exact hy.1.1
    have kb : kK T lb = 5 := by rw [e.1]; exact hz.1.1
    have ra3 : kR T la 5 = some (la + 6) := by rw [z0.2.1]; exact hy.1.2.2 5 (by decide)
    have ra4 : kR T la 6 = some (la + 7) := by rw [z0.2.1]; exact hy.1.2.2 6 (by decide)
    have rb3 : kR T lb 5 = some (lb + 6) := by rw [w0.2.1]; exact hz.1.2.2 5 (by decide)
    have rb4 : kR T lb 6 = some (lb + 7) := by rw [w0.2.1]; exact hz.1.2.2 6 (by decide)
    have a4 : kK T (la + 6) = 30 ∧ kL T (la + 6) = 385 := by rw [e.1, e.2.1]; exact hy.2.2.2 0 (by decide)
    have a5 : kK T (la + 7) = 30 ∧ kL T (la + 7) = 385 := by rw [e.1, e.2.1]; exact hy.2.2.2 1 (by decide)
    have b4 : kK T (lb + 6) = 30 ∧ kL T (lb + 6) = 385 := by rw [e.1, e.2.1]; exact hz.2.2.2 0 (by decide)
    have b5 : kK T (lb + 7) = 30 ∧ kL T (lb + 7) = 385 := by rw [e.1, e.2.1]; exact hz.2.2.2 1 (by decide)
    have o4 : kO T (lb + 6) i = kO S (lb + 6) i := by rw [w4.2.2.2]
    have hi' : i < 385 := by omega
    rw [fk_4_copyFrom_97, if_neg (jK 385 385 rfl hi' (by decide)), ckk_y ka, ra3, bd_s, ckk_y kb, rb3, bd_s, ckk_y b4.1, b4.2, ck_n hi' (by omega), lt_d, ckk_y a4.1, a4.2, ck_n hi' (by omega), jI_cl (by omega), o4, ckqO (fun a ha => by rw [e.1]; exact (h4 i hi').1 a ha), lt_d]
    generalize hU : cWo T (la + 6) i (kO S (lb + 6) i) = U
    have eU : cEq (fun a => a = la + 6) T U := by rw [← hU, cWo_sO]; exact cEq_sO _ rfl
    have y0 := eU.2.2.2.2 la (by omega)
    have v0 := eU.2.2.2.2 lb (by omega)
    have v5 := eU.2.2.2.2 (lb + 7) (by omega)
    have o8 : kO U (lb + 7) i = kO S (lb + 7) i := by rw [v5.2.2.2, w5.2.2.2]
    rw [ckk_y ((eU.1 _).trans ka), y0.2.1, ra4, bd_s, ckk_y ((eU.1 _).trans kb), v0.2.1, rb4, bd_s, ckk_y ((eU.1 _).trans b5.1), (eU.2.1 _).trans b5.2, ck_n hi' (by omega), lt_d, ckk_y ((eU.1 _).trans a5.1), (eU.2.1 _).trans a5.2, ck_n hi' (by omega), o8, ckqO (fun a ha => by rw [eU.1, e.1]; exact (h4 i hi').2 a ha), lt_d, lt_d, show Int32.ofNat i + 1 = Int32.ofNat (i + 1) from jI_add _ 1]
    refine ih (i + 1) fu _ (by omega) (by omega) (cEq_trans e (cEq_trans (cEq_mono eU (fun a ha => Or.inl ha)) (by rw [cWo_sO]; exact cEq_sO _ (Or.inr rfl)))) (fun r hr => ?_)
    rw [cWo_sO, kO_sO, kO_sOo _ _ (show la + 6 ≠ la + 7 by omega), ← hU, cWo_sO, kO_sO, kO_sOo _ _ (show la + 7 ≠ la + 6 by omega)]
    unfold upo
    by_cases er : r = i
    · rw [if_pos er, if_pos er, er]; exact ⟨rfl, rfl⟩
    · rw [if_neg er, if_neg er]; exact h r (by omega)
theorem k_cp58 (hy : cLay S la bk) (hz : cLay S lb bk) (hd : la + 8 ≤ lb ∨ lb + 8 ≤ la) (h4 : ∀ r, r < 1000 → (∀ a, kO S (lb + 4) r = some a → kK S a = 9) ∧ ∀ a, kO S (lb + 5) r = some a → kK S a = 9) : ∀ (j i fu : Nat) (T : cSt), i + j = 1000 → j < fu → cEq (fun a => a = la + 4 ∨ a = la + 5) S T → (∀ r, r < i → kO T (la + 4) r = kO S (lb + 4) r ∧ kO T (la + 5) r = kO S (lb + 5) r) → ∃ T', fk_4_copyFrom_58 fu T la lb (Int32.ofNat i) = fk_4_copyFrom_97 mFU T' la lb 0 ∧ cEq (fun a => a = la + 4 ∨ a = la + 5) S T' ∧ ∀ r, r < 1000 → kO T' (la + 4) r = kO S (lb + 4) r ∧ kO T' (la + 5) r = kO S (lb + 5) r := by
  intro j
  induction j with
  | zero =>
    intro i fu T hi hf e h
    obtain ⟨fu, rfl⟩ : ∃ q, fu = q + 1 := ⟨fu - 1, by omega⟩
    have e1 : i = 1000 := by omega
    subst e1
    rw [fk_4_copyFrom_58, if_pos (show (1000 : Int32) ≤ Int32.ofNat 1000 by decide)]
    exact ⟨T, rfl, e, h⟩
  | succ j ih =>
    intro i fu T hi hf e h
    obtain ⟨fu, rfl⟩ : ∃ q, fu = q + 1 := ⟨fu - 1, by omega⟩
    have z0 := e.2.2.2.2 la (by omega)
    have w0 := e.2.2.2.2 lb (by omega)
    have w4 := e.2.2.2.2 (lb + 4) (by omega)
    have w5 := e.2.2.2.2 (lb + 5) (by omega)
    have ka : kK T la = 5 := by rw [e.1]; exact hy.1.1
    have kb : kK T lb = 5 := by rw [e.1]; exact hz.1.1
    have ra3 : kR T la 3 = some (la + 4) := by rw [z0.2.1]; exact hy.1.2.2 3 (by decide)
    have ra4 : kR T la 4 = some (la + 5) := by rw [z0.2.1]; exact hy.1.2.2 4 (by decide)
    have rb3 : kR T lb 3 = some (lb + 4) := by rw [w0.2.1]; exact hz.1.2.2 3 (by decide)
    have rb4 : kR T lb 4 = some (lb + 5) := by rw [w0.2.1]; exact hz.1.2.2 4 (by decide)
    have a4 : kK T (la + 4) = 30 ∧ kL T (la + 4) = 1000 := by rw [e.1, e.2.1]; exact hy.2.2.1 0 (by decide)
    have a5 : kK T (la + 5) = 30 ∧ kL T (la + 5) = 1000 := by rw [e.1, e.2.1]; exact hy.2.2.1 1 (by decide)
    have b4 : kK T (lb + 4) = 30 ∧ kL T (lb + 4) = 1000 := by rw [e.1, e.2.1]; exact hz.2.2.1 0 (by decide)
    have b5 : kK T (lb + 5) = 30 ∧ kL T (lb + 5) = 1000 := by rw [e.1, e.2.1]; exact hz.2.2.1 1 (by decide)
    have o4 : kO T (lb + 4) i = kO S (lb + 4) i := by rw [w4.2.2.2]
    have hi' : i < 1000 := by omega
    rw [fk_4_copyFrom_58, if_neg (jK 1000 1000 rfl hi' (by decide)), ckk_y ka, ra3, bd_s, ckk_y kb, rb3, bd_s, ckk_y b4.1, b4.2, ck_n hi' (by omega), lt_d, ckk_y a4.1, a4.2, ck_n hi' (by omega), jI_cl (by omega), o4, ckqO (fun a ha => by rw [e.1]; exact (h4 i hi').1 a ha), lt_d]
    generalize hU : cWo T (la + 4) i (kO S (lb + 4) i) = U
    have eU : cEq (fun a => a = la + 4) T U := by rw [← hU, cWo_sO]; exact cEq_sO _ rfl
    have y0 := eU.2.2.2.2 la (by omega)
    have v0 := eU.2.2.2.2 lb (by omega)
    have v5 := eU.2.2.2.2 (lb + 5) (by omega)
    have o8 : kO U (lb + 5) i = kO S (lb + 5) i := by rw [v5.2.2.2, w5.2.2.2]
    rw [ckk_y ((eU.1 _).trans ka), y0.2.1, ra4, bd_s, ckk_y ((eU.1 _).trans kb), v0.2.1, rb4, bd_s, ckk_y ((eU.1 _).trans b5.1), (eU.2.1 _).trans b5.2, ck_n hi' (by omega), lt_d, ckk_y ((eU.1 _).trans a5.1), (eU.2.1 _).trans a5.2, ck_n hi' (by omega), o8, ckqO (fun a ha => by rw [eU.1, e.1]; exact (h4 i hi').2 a ha), lt_d, lt_d, show Int32.ofNat i + 1 = Int32.ofNat (i + 1) from jI_add _ 1]
    refine ih (i + 1) fu _ (by omega) (by omega) (cEq_trans e (cEq_trans (cEq_mono eU (fun a ha => Or.inl ha)) (by rw [cWo_sO]; exact cEq_sO _ (Or.inr rfl)))) (fun r hr => ?_)
    rw [cWo_sO, kO_sO, kO_sOo _ _ (show la + 4 ≠ la + 5 by omega), ← hU, cWo_sO, kO_sO, kO_sOo _ _ (show la + 5 ≠ la + 4 by omega)]
    unfold upo
    by_cases er : r = i
    · rw [if_pos er, if_pos er, er]; exact ⟨rfl, rfl⟩
    · rw [if_neg er, if_neg er]; exact h r (by omega)
theorem cLay_e {W' : Nat → Prop} (h : cLay S la bk) (e : cEq W' S S') (hR : kR S' la = kR S la) : cLay S' la bk := by
  unfold cLay
  rw [hR]
  simp only [e.1, e.2.1]
  exact h
/-- a ledger becomes as another -/
theorem k_copyLed (hy : cLay S la bk) (hL : cLed M ra ch S lb bk l) (hd : la + 8 ≤ lb ∨ lb + 8 ≤ la) (hl : ∀ q ∈ l, q < 1000) (hlen : l.length ≤ 1000) (h9 : ∀ q ∈ l, kK S (ra q) = 9) : ∃ S', fk_4_copyFrom S la lb = some S' ∧ cEq (fun a => la ≤ a ∧ a < la + 8) S S' ∧ cLed M ra ch S' la bk l := by
  obtain ⟨hz, f7, i1, i2, i3, dl, lk⟩ := id hL
  have c7 : Int32.toNatClampNeg (0 : Int32) = 0 := rfl
  have c8 : Int32.toNatClampNeg (1000 : Int32) = 1000 := rfl
  unfold fk_4_copyFrom
  generalize hT1 : cPi S la 7 (kF S lb 7) = T1
  have e1 : cEq (fun a => a = la) S T1 := by rw [← hT1]; exact cEq_cPi _ rfl
  have r1 : kR T1 la = kR S la := by rw [← hT1]; rfl
  have g7 : kF T1 la 7 = Int32.ofNat l.length := by rw [← hT1, kF_cPi]; exact f7
  generalize hT4 : cCp T1 (lb + 1) (Int32.toNatClampNeg 0) (la + 1) (Int32.toNatClampNeg 0) (Int32.toNatClampNeg 1000) = T4
  have e4 : cEq (fun a => a = la + 1) T1 T4 := by rw [← hT4]; exact cEq_cCp rfl
  have g4 : kI T4 (la + 1) = va_cpy (kI S (lb + 1)) (kI S (la + 1)) 0 0 1000 := by
    rw [← hT4, kI_cCp, (e1.2.2.2.2 (lb + 1) (by omega)).2.2.1, (e1.2.2.2.2 (la + 1) (by omega)).2.2.1]; rfl
  generalize hT7 : cCp T4 (lb + 2) (Int32.toNatClampNeg 0) (la + 2) (Int32.toNatClampNeg 0) (Int32.toNatClampNeg 1000) = T7
  have e14 : cEq (fun a => a = la ∨ a = la + 1) S T4 := cEq_trans (cEq_mono e1 (fun a ha => Or.inl ha)) (cEq_mono e4 (fun a ha => Or.inr ha))
  have e7 : cEq (fun a => a = la + 2) T4 T7 := by rw [← hT7]; exact cEq_cCp rfl
  have g2 : kI T7 (la + 2) = va_cpy (kI S (lb + 2)) (kI S (la + 2)) 0 0 1000 := by
    rw [← hT7, kI_cCp, (e14.2.2.2.2 (lb + 2) (by omega)).2.2.1, (e14.2.2.2.2 (la + 2) (by omega)).2.2.1]; rfl
  generalize hT10 : cCp T7 (lb + 3) (Int32.toNatClampNeg 0) (la + 3) (Int32.toNatClampNeg 0) (Int32.toNatClampNeg 1000) = T10
  have e17 : cEq (fun a => a = la ∨ a = la + 1 ∨ a = la + 2) S T7 := cEq_trans (cEq_mono e14 (fun a ha => by omega)) (cEq_mono e7 (fun a ha => by omega))
  have e10 : cEq (fun a => a = la + 3) T7 T10 := by rw [← hT10]; exact cEq_cCp rfl
  have g3 : kI T10 (la + 3) = va_cpy (kI S (lb + 3)) (kI S (la + 3)) 0 0 1000 := by
    rw [← hT10, kI_cCp, (e17.2.2.2.2 (lb + 3) (by omega)).2.2.1, (e17.2.2.2.2 (la + 3) (by omega)).2.2.1]; rfl
  have eS : cEq (fun a => a = la ∨ a = la + 1 ∨ a = la + 2 ∨ a = la + 3) S T10 := cEq_trans (cEq_mono e17 (fun a ha => by omega)) (cEq_mono e10 (fun a ha => by omega))
  have q4 := e4.2.2.2.2 la (by omega)
  have q7 := e7.2.2.2.2 la (by omega)
  have q10 := e10.2.2.2.2 la (by omega)
  have rr : kR T10 la = kR S la := by rw [q10.2.1, q7.2.1, q4.2.1, r1]
  have hy10 : cLay T10 la bk := cLay_e hy eS rr
  have hz10 : cLay T10 lb bk := cLay_eq hz eS (fun a ha => by omega)
  have w4 := eS.2.2.2.2 (lb + 4) (by omega)
  have w5 := eS.2.2.2.2 (lb + 5) (by omega)
  have w6 := eS.2.2.2.2 (lb + 6) (by omega)
  have w7 := eS.2.2.2.2 (lb + 7) (by omega)
  have lk9 : ∀ o : Option Nat, (o = none ∨ ∃ q, q ∈ l ∧ o = some (ra q)) → ∀ a, o = some a → kK T10 a = 9 := fun o h a ha => by
    rcases h with h | ⟨q, h1, h2⟩
    · rw [h] at ha; cases ha
    · rw [h2] at ha; rw [← Option.some.inj ha, eS.1]; exact h9 q h1
  obtain ⟨U, u1, u2, u3⟩ := k_cp58 hy10 hz10 hd (fun r hr => by rw [w4.2.2.2, w5.2.2.2]; exact ⟨lk9 _ (lk r hr).1, lk9 _ (lk r hr).2⟩) 1000 0 mFU T10 rfl (by decide) (cEq_refl _ _) (fun r hr => absurd hr (by omega))
  have hyU : cLay U la bk := cLay_e hy10 u2 (u2.2.2.2.2 la (by omega)).2.1
  have hzU : cLay U lb bk := cLay_eq hz10 u2 (fun a ha => by omega)
  have x6 := u2.2.2.2.2 (lb + 6) (by omega)
  have x7 := u2.2.2.2.2 (lb + 7) (by omega)
  have ends : ∀ c, c < 385 → (kO S (lb + 6) c = none ∨ ∃ q, q ∈ l ∧ kO S (lb + 6) c = some (ra q)) ∧ (kO S (lb + 7) c = none ∨ ∃ q, q ∈ l ∧ kO S (lb + 7) c = some (ra q)) := fun c hc => by
    obtain ⟨d1, d2, -⟩ := dl c hc
    rw [d1, d2]
    have mm : ∀ i : Nat, (chL M ch l c)[i]?.map ra = none ∨ ∃ q, q ∈ l ∧ (chL M ch l c)[i]?.map ra = some (ra q) := fun i => by
      cases hx : (chL M ch l c)[i]? with
      | none => exact Or.inl rfl
      | some q => exact Or.inr ⟨q, (chL_mem.mp (List.mem_of_getElem? hx)).1, rfl⟩
    refine ⟨mm 0, ?_⟩
    unfold pvL
    by_cases h0 : (chL M ch l c).length = 0
    · rw [if_pos h0]; exact Or.inl rfl
    · rw [if_neg h0]; exact mm _
  obtain ⟨V, v1, v2, v3⟩ := k_cp97 hyU hzU hd (fun r hr => by
    rw [x6.2.2.2, x7.2.2.2, w6.2.2.2, w7.2.2.2]
    exact ⟨fun a ha => by rw [u2.1]; exact lk9 _ (ends r hr).1 a ha, fun a ha => by rw [u2.1]; exact lk9 _ (ends r hr).2 a ha⟩) 385 0 mFU U rfl (by decide) (cEq_refl _ _) (fun r hr => absurd hr (by omega))
  have ka := hy.1.1
  have kb := hz.1.1
  have p1 := hy.2.1 0 (by decide)
  have p2 := hy.2.1 1 (by decide)
  have p3 := hy.2.1 2 (by decide)
  have s1 := hz.2.1 0 (by decide)
  have s2 := hz.2.1 1 (by decide)
  have s3 := hz.2.1 2 (by decide)
  have tb1 : kR T1 lb = kR S lb := (e1.2.2.2.2 lb (by omega)).2.1
  have tb4 : kR T4 lb = kR S lb := (e14.2.2.2.2 lb (by omega)).2.1
  have tb7 : kR T7 lb = kR S lb := (e17.2.2.2.2 lb (by omega)).2.1
  have ta4 : kR T4 la = kR S la := by rw [q4.2.1, r1]
  have ta7 : kR T7 la = kR S la := by rw [q7.2.1, ta4]
  have cp : ∀ {T : cSt} {a b : Nat}, kL T a = 1000 → kL T b = 1000 → ((¬ (0 : Int32) < 0 ∧ ¬ (0 : Int32) < 0 ∧ ¬ (1000 : Int32) < 0) ∧ (Int32.toNatClampNeg (0 : Int32)) + (Int32.toNatClampNeg (1000 : Int32)) ≤ kL T a ∧ (Int32.toNatClampNeg (0 : Int32)) + (Int32.toNatClampNeg (1000 : Int32)) ≤ kL T b) := fun h1 h2 => by rw [h1, h2]; decide
  refine ⟨V, ?_, ?_, ?_⟩
  · rw [ckk_y kb, ckk_y ka, lt_d, ckk_y ((e1.1 _).trans kb), tb1, hz.1.2.2 0 (by decide), bd_s, ckk_y ((e1.1 _).trans ka), r1, hy.1.2.2 0 (by decide), bd_s, ckk_y ((e1.1 _).trans s1.1), ckk_y ((e1.1 _).trans p1.1), ckp_y (cp ((e1.2.1 _).trans s1.2) ((e1.2.1 _).trans p1.2)), lt_d]
    show ckk (cCp T1 (lb + 1) (Int32.toNatClampNeg 0) (la + 1) (Int32.toNatClampNeg 0) (Int32.toNatClampNeg 1000)) _ _ _ = _
    rw [hT4, ckk_y ((e14.1 _).trans kb), tb4, hz.1.2.2 1 (by decide), bd_s, ckk_y ((e14.1 _).trans ka), ta4, hy.1.2.2 1 (by decide), bd_s, ckk_y ((e14.1 _).trans s2.1), ckk_y ((e14.1 _).trans p2.1), ckp_y (cp ((e14.2.1 _).trans s2.2) ((e14.2.1 _).trans p2.2)), lt_d]
    show ckk (cCp T4 (lb + 2) (Int32.toNatClampNeg 0) (la + 2) (Int32.toNatClampNeg 0) (Int32.toNatClampNeg 1000)) _ _ _ = _
    rw [hT7, ckk_y ((e17.1 _).trans kb), tb7, hz.1.2.2 2 (by decide), bd_s, ckk_y ((e17.1 _).trans ka), ta7, hy.1.2.2 2 (by decide), bd_s, ckk_y ((e17.1 _).trans s3.1), ckk_y ((e17.1 _).trans p3.1), ckp_y (cp ((e17.2.1 _).trans s3.2) ((e17.2.1 _).trans p3.2)), lt_d]
    show fk_4_copyFrom_58 mFU (cCp T7 (lb + 3) (Int32.toNatClampNeg 0) (la + 3) (Int32.toNatClampNeg 0) (Int32.toNatClampNeg 1000)) la lb (Int32.ofNat 0) = _
    rw [hT10, u1]
    exact v1
  · exact cEq_trans (cEq_mono eS (fun a ha => by omega)) (cEq_trans (cEq_mono u2 (fun a ha => by omega)) (cEq_mono v2 (fun a ha => by omega)))
  · have e10V : cEq (fun a => a = la + 4 ∨ a = la + 5 ∨ a = la + 6 ∨ a = la + 7) T10 V := cEq_trans (cEq_mono u2 (fun a ha => by omega)) (cEq_mono v2 (fun a ha => by omega))
    have m0 := e10V.2.2.2.2 la (by omega)
    have m1 := e10V.2.2.2.2 (la + 1) (by omega)
    have m2 := e10V.2.2.2.2 (la + 2) (by omega)
    have m3 := e10V.2.2.2.2 (la + 3) (by omega)
    have m4 := v2.2.2.2.2 (la + 4) (by omega)
    have m5 := v2.2.2.2.2 (la + 5) (by omega)
    have o1 : ∀ i, i < 1000 → kI V (la + 1) i = kI S (lb + 1) i := fun i hi => by
      rw [m1.2.2.1, (e10.2.2.2.2 (la + 1) (by omega)).2.2.1, (e7.2.2.2.2 (la + 1) (by omega)).2.2.1, g4]; unfold va_cpy; rw [if_pos ⟨by omega, by omega⟩]; congr 1; omega
    have o2 : ∀ i, i < 1000 → kI V (la + 2) i = kI S (lb + 2) i := fun i hi => by
      rw [m2.2.2.1, (e10.2.2.2.2 (la + 2) (by omega)).2.2.1, g2]; unfold va_cpy; rw [if_pos ⟨by omega, by omega⟩]; congr 1; omega
    have o3 : ∀ i, i < 1000 → kI V (la + 3) i = kI S (lb + 3) i := fun i hi => by
      rw [m3.2.2.1, g3]; unfold va_cpy; rw [if_pos ⟨by omega, by omega⟩]; congr 1; omega
    have o4 : ∀ i, i < 1000 → kO V (la + 4) i = kO S (lb + 4) i := fun i hi => by rw [m4.2.2.2, (u3 i hi).1, w4.2.2.2]
    have o5 : ∀ i, i < 1000 → kO V (la + 5) i = kO S (lb + 5) i := fun i hi => by rw [m5.2.2.2, (u3 i hi).2, w5.2.2.2]
    refine ⟨cLay_e hy10 e10V m0.2.1, ?_, fun i hi => ?_, fun r hr hm => ?_, fun r hr => ?_, fun c hc => ?_, fun r hr => ?_⟩
    · rw [m0.1, q10.1, q7.1, q4.1]; exact g7
    · rw [o1 i (by omega), o2 _ (hl _ (List.getElem_mem hi))]; exact i1 i hi
    · rw [o2 r hr]; exact i2 r hr hm
    · rw [o3 r hr]; exact i3 r hr
    · obtain ⟨d1, d2, d3⟩ := dl c hc
      refine ⟨?_, ?_, fun i hi => ?_⟩
      · rw [(v3 c hc).1, x6.2.2.2, w6.2.2.2]; exact d1
      · rw [(v3 c hc).2, x7.2.2.2, w7.2.2.2]; exact d2
      · have := hl _ (chL_mem.mp (List.getElem_mem hi)).1
        rw [o4 _ this, o5 _ this]; exact d3 i hi
    · rw [o4 r hr, o5 r hr]; exact lk r hr
end V
