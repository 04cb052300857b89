-- part 112: what fits, by values and by the holder
theorem ite05 (c : Prop) [Decidable c] : (if c then (0 : Int32) else 5) = 0 ↔ decide c = true := by
  by_cases h : c
  · rw [if_pos h, decide_eq_true h]; simp
  · rw [if_neg h, decide_eq_false h]; simp
theorem b2_d (c : Prop) [Decidable c] : b2 (decide c = true) = b2 c := b2_eq.mpr ⟨of_decide_eq_true, decide_eq_true⟩
section V
variable {S S' : cSt} {M A : mSt} {ra : Nat → Nat} {sl : Nat → Int32} {mkO : Nat → Option Nat} {L Wt : Nat → List Nat} {x0 n Bt : Nat} {l : List Nat}
theorem hsI_P (hX : hsI x0 S M) (k : Nat) (x : Int32) : hsI x0 (cPi S (x0 + 19) k x) M := by
  obtain ⟨h1, ⟨h2, h3⟩, h4, h5, b0, b1, h6, h7, h8⟩ := hX
  refine ⟨h1, ⟨?_, h3⟩, h4, h5, b0, b1, h6, ?_, ?_⟩
  · rw [fPo _ _ _ (by omega)]; exact h2
  · unfold pStr at h7 ⊢
    rw [show kT (cPi S (x0 + 19) k x) 0 = kT S 0 from rfl, fPo _ _ _ (by omega)]; exact h7
  · unfold pStr at h8 ⊢
    rw [show kT (cPi S (x0 + 19) k x) 1 = kT S 1 from rfl, fPo _ _ _ (by omega)]; exact h8
theorem core_P (h : core x0 Bt S M ra sl mkO L Wt) (k : Nat) (x : Int32) : core x0 Bt (cPi S (x0 + 19) k x) M ra sl mkO L Wt := core_sc h (mCo_of (mEx_refl _ _)) (lkE_P k x).1 (Nat.le_refl _) h.1.2.2.2
theorem k_isKey' (v : Int32) : fk_11_isKey v = some (b2 (0 ≤ v ∧ v ≤ 63)) := by
  unfold fk_11_isKey fk_11_isKey_14 fk_11_isKey_15
  rw [ckz_0, ckz_1, gap 0 64 63 (by decide) rfl]
  by_cases c : 0 ≤ v ∧ v ≤ 63
  · rw [b2_t c]; exact if_pos c
  · rw [b2_f c]; exact if_neg c
theorem k_fitV {s : Int32} (hs : s = 4 ∨ s = 5 ∨ s = 7 ∨ s = 8 ∨ s = 16 ∨ s = 17) (hh : hsI x0 S M) (hd0 : kF S (x0 + 19) 0 = s) (nd : Nat) (v5 v6 : Int32) : fk_11_fits S x0 nd v5 v6 = bd (fk_11_fitsByValue (cPi S (x0 + 19) 4 v5) x0 nd v5) fun q => ckz q.1 (some q) := by
  have k2 := hh.2.2.2.1.1
  have k6 := hh.1.2.2.2.2.2.2.2.1
  have g12 : kK (cPi S (x0 + 19) 4 v5) x0 = 12 := hh.1.1
  unfold fk_11_fits fk_11_fits_241
  rw [ckk_y hh.1.1, k6, bd_s, ckk_y k2, hd0]
  rcases hs with e | e | e | e | e | e <;> subst e <;> (repeat rw [if_neg (by decide)]) <;> (try rw [if_pos rfl]) <;> simp only [bd_s, lt_d, ckk_y hh.1.1, ckk_y k2, ckk_y g12]
theorem pu3 {v : Int32} (e : mEx sc M A) : mEx sc M (pu (pu (pu A 69 0) 70 0) 69 v) := mEx_trans (mEx_trans (mEx_trans e (mEx_pu (by unfold sc; omega) _)) (mEx_pu (by unfold sc; omega) _)) (mEx_pu (by unfold sc; omega) _)
theorem dF_no {s o p v w : Int32} (h13 : ¬ tuS s) (h6 : s ≠ 6) (h7 : ¬ (s = 7 ∨ s = 8 ∨ s = 15 ∨ s = 16)) (h9 : s ≠ 9) (h10 : s ≠ 10) (h11 : s ≠ 11) : dF M mkO n l s o p v w := ⟨fun q => absurd q h13, fun q => absurd q h6, fun q => absurd q h7, fun q => absurd q h9, fun q => absurd q h10, fun q => absurd q h11⟩
theorem dF_v {s o p v w : Int32} (hs : s = 7 ∨ s = 8 ∨ s = 15 ∨ s = 16) (hv : ∃ x, x < 64 ∧ v = Int32.ofNat x) : dF M mkO n l s o p v w := by
  refine ⟨fun q => ?_, fun q => ?_, fun _ => hv, fun q => ?_, fun q => ?_, fun q => ?_⟩ <;> exfalso <;> rcases hs with e | e | e | e <;> subst e <;> revert q <;> (try unfold tuS) <;> decide
theorem fit_4 (hh : hsI x0 S M) (e : mEx sc M A) (o p v5 v6 : Int32) (hd0 : kF S (x0 + 19) 0 = 4) (hd5 : kF S (x0 + 19) 5 = 0) : fitR x0 n S M A mkO l 4 o p v5 v6 := by
  have g6 : kR (cPi S (x0 + 19) 4 v5) x0 6 = some (x0 + 19) := hh.1.2.2.2.2.2.2.2.1
  have gk : kK (cPi S (x0 + 19) 4 v5) (x0 + 19) = 2 := hh.2.2.2.1.1
  have g12 : kK (cPi S (x0 + 19) 4 v5) x0 = 12 := hh.1.1
  have gf : kF (cPi S (x0 + 19) 4 v5) (x0 + 19) 0 = 4 := by rw [fP]; exact hd0
  refine ⟨decide (1 ≤ v5 ∧ v5 ≤ 1000), cPi S (x0 + 19) 4 v5, if 1 ≤ v5 ∧ v5 ≤ 1000 then 0 else 5, pu (pu (pu A 69 0) 70 0) 69 v5, ?_, lkE_P _ _, fun i hi => ?_, ?_, ite05 _, pu3 e, fun _ => ⟨?_, ?_, ?_⟩⟩
  · rw [k_fitV (Or.inl rfl) hh hd0, b2_d]
    unfold fk_11_fitsByValue fk_11_fitsByValue_112 fk_11_fitsByValue_113
    simp only [ckk_y g12, ckk_y gk, g6, bd_s, lt_d]
    rw [gf, if_pos rfl]
    by_cases c1 : v5 < 1
    · rw [if_pos c1, b2_f (fun q => absurd q.1 (Int32.not_le.mpr c1))]; rfl
    · by_cases c2 : 1000 < v5
      · rw [if_neg c1, if_pos c2, b2_f (fun q => absurd q.2 (Int32.not_le.mpr c2))]; rfl
      · rw [if_neg c1, if_neg c2, b2_t ⟨Int32.not_lt.mp c1, Int32.not_lt.mp c2⟩]; rfl
  · rw [fP]; exact upd_o _ _ (by omega)
  · unfold fm_refusal fm_refusal_131
    simp only [lt_d]
    rw [if_neg (by decide), if_neg (by decide), if_neg (by decide), if_neg (by decide), if_pos trivial, m_wb]
    by_cases c : 1 ≤ v5 ∧ v5 ≤ 1000
    · rw [b2_t c, if_neg n10, if_pos c]
    · rw [b2_f c, if_pos rfl, if_neg c]
  · rw [fP, upd_s, pu_s]
  · rw [fP, upd_o _ _ (by decide), hd5, pu_o _ _ (by decide), pu_s]
  · exact dF_no (by unfold tuS; decide) (by decide) (by decide) (by decide) (by decide) (by decide)
theorem fit_7 (hh : hsI x0 S M) (e : mEx sc M A) (o p v5 v6 : Int32) (hd0 : kF S (x0 + 19) 0 = 7) (hd5 : kF S (x0 + 19) 5 = 0) : fitR x0 n S M A mkO l 7 o p v5 v6 := by
  have g6 : kR (cPi S (x0 + 19) 4 v5) x0 6 = some (x0 + 19) := hh.1.2.2.2.2.2.2.2.1
  have gk : kK (cPi S (x0 + 19) 4 v5) (x0 + 19) = 2 := hh.2.2.2.1.1
  have g12 : kK (cPi S (x0 + 19) 4 v5) x0 = 12 := hh.1.1
  have gf : kF (cPi S (x0 + 19) 4 v5) (x0 + 19) 0 = 7 := by rw [fP]; exact hd0
  refine ⟨decide (0 ≤ v5 ∧ v5 ≤ 63), cPi S (x0 + 19) 4 v5, if 0 ≤ v5 ∧ v5 ≤ 63 then 0 else 5, pu (pu (pu A 69 0) 70 0) 69 v5, ?_, lkE_P _ _, fun i hi => ?_, ?_, ite05 _, pu3 e, fun hb => ⟨?_, ?_, ?_⟩⟩
  · rw [k_fitV (Or.inr (Or.inr (Or.inl rfl))) hh hd0, b2_d]
    unfold fk_11_fitsByValue
    simp only [ckk_y g12, ckk_y gk, g6, bd_s, lt_d]
    rw [gf, if_neg (by decide), if_neg (by decide), if_neg (by decide), if_pos rfl, k_isKey', bd_s, ckz_b, bd_s, ckz_b]
  · rw [fP]; exact upd_o _ _ (by omega)
  · unfold fm_refusal fm_refusal_243
    simp only [lt_d]
    rw [if_neg (by decide), if_neg (by decide), if_neg (by decide), if_neg (by decide), if_neg (by decide), if_neg (by decide), if_neg (by decide), if_pos trivial, m_wb]
    by_cases c : 0 ≤ v5 ∧ v5 ≤ 63
    · rw [b2_t c, if_neg n10, if_pos c]
    · rw [b2_f c, if_pos rfl, if_neg c]
  · rw [fP, upd_s, pu_s]
  · rw [fP, upd_o _ _ (by decide), hd5, pu_o _ _ (by decide), pu_s]
  · rw [pu_s]
    obtain ⟨x, -, x2, x3⟩ := rng 0 63 (by decide) (of_decide_eq_true hb) (by decide)
    exact dF_v (Or.inl rfl) ⟨x, by omega, x3⟩
theorem fit_12 (hh : hsI x0 S M) (e : mEx sc M A) (o p v5 v6 : Int32) (hd0 : kF S (x0 + 19) 0 = 12) (hd4 : kF S (x0 + 19) 4 = 0) (hd5 : kF S (x0 + 19) 5 = 0) : fitR x0 n S M A mkO l 12 o p v5 v6 := by
  have k2 := hh.2.2.2.1.1
  have k6 := hh.1.2.2.2.2.2.2.2.1
  refine ⟨true, S, 0, pu (pu A 69 0) 70 0, ?_, lkE_refl _ _, fun i hi => rfl, ?_, ⟨fun _ => rfl, fun _ => rfl⟩, mEx_trans (mEx_trans e (mEx_pu (by unfold sc; omega) _)) (mEx_pu (by unfold sc; omega) _), fun _ => ⟨?_, ?_, ?_⟩⟩
  · unfold fk_11_fits
    rw [ckk_y hh.1.1, k6, bd_s, ckk_y k2, hd0]
    rfl
  · unfold fm_refusal
    simp only [lt_d]
    rfl
  · rw [hd4, pu_o _ _ (by decide), pu_s]
  · rw [hd5, pu_s]
  · exact dF_no (by unfold tuS; decide) (by decide) (by decide) (by decide) (by decide) (by decide)
theorem fit_15 (hh : hsI x0 S M) (e : mEx sc M A) (o p v5 v6 : Int32) (hd0 : kF S (x0 + 19) 0 = 15) : fitR x0 n S M A mkO l 15 o p v5 v6 := by
  have k2 := hh.2.2.2.1.1
  have k6 := hh.1.2.2.2.2.2.2.2.1
  have g6 : kR (cPi S (x0 + 19) 4 v5) x0 6 = some (x0 + 19) := hh.1.2.2.2.2.2.2.2.1
  have gk : kK (cPi S (x0 + 19) 4 v5) (x0 + 19) = 2 := hh.2.2.2.1.1
  have g12 : kK (cPi S (x0 + 19) 4 v5) x0 = 12 := hh.1.1
  refine ⟨decide (0 ≤ v5 ∧ v5 ≤ 63), cPi (cPi S (x0 + 19) 4 v5) (x0 + 19) 5 v6, if 0 ≤ v5 ∧ v5 ≤ 63 then 0 else 5, pu (pu (pu (pu A 69 0) 70 0) 69 v5) 70 v6, ?_, lkE_t (lkE_P _ _) (lkE_P _ _), fun i hi => ?_, ?_, ite05 _, mEx_trans (pu3 e) (mEx_pu (by unfold sc; omega) _), fun hb => ⟨?_, ?_, ?_⟩⟩
  · unfold fk_11_fits
    rw [ckk_y hh.1.1, k6, bd_s, ckk_y k2, hd0, b2_d, if_neg (by decide), if_neg (by decide), if_neg (by decide), if_neg (by decide), if_neg (by decide), if_neg (by decide), if_neg (by decide), if_neg (by decide), if_neg (by decide), if_pos rfl, ckk_y hh.1.1, bd_s, ckk_y k2, lt_d, ckk_y g12, g6, bd_s, ckk_y gk, lt_d, k_isKey', bd_s, ckz_b]
  · rw [fP, fP, upd_o _ _ (by omega)]; exact upd_o _ _ (by omega)
  · unfold fm_refusal fm_refusal_447
    simp only [lt_d]
    rw [if_neg (by decide), if_neg (by decide), if_neg (by decide), if_neg (by decide), if_neg (by decide), if_neg (by decide), if_neg (by decide), if_neg (by decide), if_neg (by decide), if_neg (by decide), if_neg (by decide), if_neg (by decide), if_neg (by decide), if_neg (by decide), if_neg (by decide), if_pos trivial, m_wb]
    by_cases c : 0 ≤ v5 ∧ v5 ≤ 63
    · rw [b2_t c, if_neg n10, if_pos c]
    · rw [b2_f c, if_pos rfl, if_neg c]
  · rw [fP, fP, upd_o _ _ (by decide), upd_s, pu_o _ _ (by decide), pu_s]
  · rw [fP, upd_s, pu_s]
  · rw [pu_o _ _ (by decide), pu_s]
    obtain ⟨x, -, x2, x3⟩ := rng 0 63 (by decide) (of_decide_eq_true hb) (by decide)
    exact dF_v (Or.inr (Or.inr (Or.inl rfl))) ⟨x, by omega, x3⟩
/-- the holder of an object, in both -/
def hoO (M : mSt) (n : Nat) (l : List Nat) (m : Nat) : Int32 := hEnd (nwT M n) ((clL M l (Int32.ofNat (rNm m))).foldl (hSt M) (-1, 0))
theorem k_hold (h : core x0 Bt S M ra sl mkO L Wt) (hn : n < 4) {j m : Nat} (hm : mkO j = some m) : kK S (sN x0 n) = 8 ∧ kR S (sN x0 n) 2 = some (sN x0 n + 20) ∧ kK S (sN x0 n + 20) = 11 ∧ kF S (sN x0 n) 0 = Int32.ofNat n ∧ ∃ t, fk_7_timeNow S (sN x0 n) = some t ∧ fk_10_holderOf S (sN x0 n + 20) (Int32.ofNat j) t = some (hoO M n (L n) m) := by
  obtain ⟨⟨hA, hsl, -, -⟩, ⟨hB, -⟩, hN, -⟩ := h
  obtain ⟨⟨hM1, ⟨⟨hy, hv', -⟩, -, -, ⟨f8, f9, -⟩, -⟩⟩, -⟩ := hN n hn
  have hcl := hM1.1.2.1
  have hj := (hA.2.1.1 j m hm).1
  refine ⟨hy.1.1, hy.1.2.2.2.1, hv'.2.1.1.1, hy.1.2.1, _, k_timeNow hy.1.1, ?_⟩
  rw [k_holderOf hj hB hv'.1 hv'.2.1 (lOk_cl hcl), lk_hold hA hcl hm, f8, f9, nw_eq]; rfl
theorem m_hold (e : mEx sc M A) (h : core x0 Bt S M ra sl mkO L Wt) (hn : n < 4) {j m : Nat} (hm : mkO j = some m) : ∃ B, fm_holder A (Int32.ofNat n) (Int32.ofNat (rNm m)) = some (hoO M n (L n) m, B) ∧ mEx (fun k => k = 59 ∨ k = 60) A B := by
  obtain ⟨⟨hA, hsl, -, -⟩, ⟨hB, -⟩, hN, -⟩ := h
  obtain ⟨⟨hM1, -⟩, -⟩ := hN n hn
  exact m_holder e hM1.1.2.2.1 hA.2.2.2 hM1.1.2.2.2 _
theorem fit_17 (hh : hsI x0 S M) (h : core x0 Bt S M ra sl mkO L Wt) (hn : n < 4) {j m : Nat} (hm : mkO j = some m) (e : mEx sc M A) (p v5 v6 : Int32) (hd0 : kF S (x0 + 19) 0 = 17) (hd1 : kF S (x0 + 19) 1 = Int32.ofNat j) (hd5 : kF S (x0 + 19) 5 = 0) : fitR x0 n S M A mkO l 17 (Int32.ofNat (rNm m)) p v5 v6 := by
  have g6 : kR (cPi S (x0 + 19) 4 v5) x0 6 = some (x0 + 19) := hh.1.2.2.2.2.2.2.2.1
  have gk : kK (cPi S (x0 + 19) 4 v5) (x0 + 19) = 2 := hh.2.2.2.1.1
  have g12 : kK (cPi S (x0 + 19) 4 v5) x0 = 12 := hh.1.1
  have gf : kF (cPi S (x0 + 19) 4 v5) (x0 + 19) 0 = 17 := by rw [fP]; exact hd0
  have gf1 : kF (cPi S (x0 + 19) 4 v5) (x0 + 19) 1 = Int32.ofNat j := by rw [fP]; exact hd1
  obtain ⟨y8, y2, v11, y0, t, t1, t2⟩ := k_hold (core_P h 4 v5) hn hm
  obtain ⟨B, b1, b2'⟩ := m_hold (pu3 (v := v5) e) h hn hm
  have eB : mEx sc M B := mEx_trans (pu3 e) (mEx_mono b2' (fun k hk => by unfold sc; omega))
  have B69 : B.1 69 = v5 := by rw [(b2' 69 (by omega)).1, pu_s]
  have B70 : B.1 70 = 0 := by rw [(b2' 70 (by omega)).1, pu_o _ _ (by decide), pu_s]
  refine ⟨decide ((1 ≤ v5 ∧ v5 ≤ 100) ∧ (hoO M n (L n) m = -1 ∨ hoO M n (L n) m = Int32.ofNat n)), cPi S (x0 + 19) 4 v5, if (1 ≤ v5 ∧ v5 ≤ 100) ∧ (hoO M n (L n) m = -1 ∨ hoO M n (L n) m = Int32.ofNat n) then 0 else 5, B, ?_, lkE_P _ _, fun i hi => ?_, ?_, ite05 _, eB, fun _ => ⟨?_, ?_, ?_⟩⟩
  · rw [k_fitV (Or.inr (Or.inr (Or.inr (Or.inr (Or.inr rfl))))) hh hd0, b2_d]
    unfold fk_11_fitsByValue fk_11_fitsByValue_212 fk_11_fitsByValue_208 fk_11_fitsByValue_213
    simp only [ckk_y g12, ckk_y gk, g6, bd_s, lt_d]
    rw [gf, if_neg (by decide), if_neg (by decide), if_neg (by decide), if_neg (by decide), if_neg (by decide), if_neg (by decide), if_neg (by decide), if_neg (by decide), if_neg (by decide), if_neg (by decide), if_neg (by decide), if_neg (by decide), if_neg (by decide), if_pos rfl]
    simp only [ckk_y y8, y2, bd_s, t1, gf1, ckk_y v11, t2, y0, ckz_0, ckz_1]
    by_cases c1 : v5 < 1
    · rw [if_pos c1, b2_f (fun q => absurd q.1.1 (Int32.not_le.mpr c1))]; rfl
    · by_cases c2 : 100 < v5
      · rw [if_neg c1, if_pos c2, b2_f (fun q => absurd q.1.2 (Int32.not_le.mpr c2))]; rfl
      · rw [if_neg c1, if_neg c2]
        by_cases c3 : hoO M n (L n) m = -1
        · rw [if_pos c3, b2_t ⟨⟨Int32.not_lt.mp c1, Int32.not_lt.mp c2⟩, Or.inl c3⟩]; rfl
        · rw [if_neg c3]
          by_cases c4 : hoO M n (L n) m = Int32.ofNat n
          · rw [if_pos c4, b2_t ⟨⟨Int32.not_lt.mp c1, Int32.not_lt.mp c2⟩, Or.inr c4⟩]; rfl
          · rw [if_neg c4, b2_f (fun q => q.2.elim c3 c4)]; rfl
  · rw [fP]; exact upd_o _ _ (by omega)
  · unfold fm_refusal fm_refusal_489 fm_refusal_485 fm_refusal_490
    simp only [lt_d]
    rw [if_neg (by decide), if_neg (by decide), if_neg (by decide), if_neg (by decide), if_neg (by decide), if_neg (by decide), if_neg (by decide), if_neg (by decide), if_neg (by decide), if_neg (by decide), if_neg (by decide), if_neg (by decide), if_neg (by decide), if_neg (by decide), if_neg (by decide), if_neg (by decide), if_neg (by decide), if_pos trivial, b1, bd_s, m_wb]
    by_cases c : 1 ≤ v5 ∧ v5 ≤ 100
    · rw [b2_t c, if_neg n10]
      by_cases c3 : hoO M n (L n) m = -1
      · rw [if_pos c3, if_pos ⟨c, Or.inl c3⟩]
      · rw [if_neg c3]
        by_cases c4 : hoO M n (L n) m = Int32.ofNat n
        · rw [if_pos c4, if_pos ⟨c, Or.inr c4⟩]
        · rw [if_neg c4, if_neg (fun q => q.2.elim c3 c4)]
    · rw [b2_f c, if_pos rfl, if_neg (fun q => c q.1)]
  · rw [fP, upd_s, B69]
  · rw [fP, upd_o _ _ (by decide), hd5, B70]
  · exact dF_no (by unfold tuS; decide) (by decide) (by decide) (by decide) (by decide) (by decide)
theorem fit_18 (hh : hsI x0 S M) (h : core x0 Bt S M ra sl mkO L Wt) (hn : n < 4) {j m : Nat} (hm : mkO j = some m) (e : mEx sc M A) (p v5 v6 : Int32) (hd0 : kF S (x0 + 19) 0 = 18) (hd1 : kF S (x0 + 19) 1 = Int32.ofNat j) (hd4 : kF S (x0 + 19) 4 = 0) (hd5 : kF S (x0 + 19) 5 = 0) : fitR x0 n S M A mkO l 18 (Int32.ofNat (rNm m)) p v5 v6 := by
  have k2 := hh.2.2.2.1.1
  have k6 := hh.1.2.2.2.2.2.2.2.1
  have e2 : mEx sc M (pu (pu A 69 0) 70 0) := mEx_trans (mEx_trans e (mEx_pu (by unfold sc; omega) _)) (mEx_pu (by unfold sc; omega) _)
  obtain ⟨y8, y2, v11, y0, t, t1, t2⟩ := k_hold h hn hm
  obtain ⟨B, b1, b2'⟩ := m_hold e2 h hn hm
  have eB : mEx sc M B := mEx_trans e2 (mEx_mono b2' (fun k hk => by unfold sc; omega))
  have B69 : B.1 69 = 0 := by rw [(b2' 69 (by omega)).1, pu_o _ _ (by decide), pu_s]
  have B70 : B.1 70 = 0 := by rw [(b2' 70 (by omega)).1, pu_s]
  refine ⟨decide (hoO M n (L n) m = Int32.ofNat n), S, if hoO M n (L n) m = Int32.ofNat n then 0 else 5, B, ?_, lkE_refl _ _, fun i hi => rfl, ?_, ite05 _, eB, fun _ => ⟨?_, ?_, ?_⟩⟩
  · unfold fk_11_fits fk_11_fits_240
    rw [ckk_y hh.1.1, k6, bd_s, ckk_y k2, hd0, b2_d]
    simp only [ckz_0, ckz_1]
    rw [if_neg (by decide), if_neg (by decide), if_neg (by decide), if_neg (by decide), if_neg (by decide), if_neg (by decide), if_neg (by decide), if_neg (by decide), if_neg (by decide), if_neg (by decide), if_neg (by decide), if_neg (by decide), if_pos trivial, ckk_y y8, y2, bd_s, ckk_y hh.1.1, bd_s, ckk_y k2, ckk_y y8, t1, bd_s, hd1, ckk_y v11, t2, bd_s, ckk_y y8, y0]
    by_cases c4 : hoO M n (L n) m = Int32.ofNat n
    · rw [if_pos c4, b2_t c4]
    · rw [if_neg c4, b2_f c4]
  · unfold fm_refusal fm_refusal_506
    simp only [lt_d]
    rw [if_neg (by decide), if_neg (by decide), if_neg (by decide), if_neg (by decide), if_neg (by decide), if_neg (by decide), if_neg (by decide), if_neg (by decide), if_neg (by decide), if_neg (by decide), if_neg (by decide), if_neg (by decide), if_neg (by decide), if_neg (by decide), if_neg (by decide), if_neg (by decide), if_neg (by decide), if_neg (by decide), if_pos trivial, b1, bd_s]
    by_cases c4 : hoO M n (L n) m = Int32.ofNat n
    · rw [if_pos c4, if_pos c4]
    · rw [if_neg c4, if_neg c4]
  · rw [hd4, B69]
  · rw [hd5, B70]
  · exact dF_no (by unfold tuS; decide) (by decide) (by decide) (by decide) (by decide) (by decide)
end V
