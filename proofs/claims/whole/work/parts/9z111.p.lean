-- part 111: a draft begun; what fits without a look
def dF (M : mSt) (mkO : Nat → Option Nat) (n : Nat) (l : List Nat) (s o p v w : Int32) : Prop :=
  (tuS s → ∃ t, mde M t ∧ rN t = n ∧ w = Int32.ofNat (rNm t) ∧ cbU (M.2 9 t)) ∧ (s = 6 → ∃ x, x < 4 ∧ w = Int32.ofNat x) ∧ (s = 7 ∨ s = 8 ∨ s = 15 ∨ s = 16 → ∃ x, x < 64 ∧ v = Int32.ofNat x) ∧ (s = 9 → w = 0 ∨ ∃ t, dIn M l o p w t) ∧ (s = 10 → ∃ t, dIn M l o p w t) ∧
  (s = 11 → v = -1 ∨ ∃ j' m', mkO j' = some m' ∧ m' ∈ l ∧ v = Int32.ofNat (rNm m'))
/-- what both say of a draft: b, and if so what its v and w become -/
def fitR (x0 n : Nat) (S : cSt) (M A : mSt) (mkO : Nat → Option Nat) (l : List Nat) (s o p v5 v6 : Int32) : Prop :=
  ∃ (b : Bool) (S' : cSt) (r : Int32) (C : mSt), fk_11_fits S x0 (sN x0 n) v5 v6 = some (b2 (b = true), S') ∧ lkE x0 S S' ∧ (∀ i, i < 4 → kF S' (x0 + 19) i = kF S (x0 + 19) i) ∧ fm_refusal A (Int32.ofNat n) s o p v5 v6 = some (r, C) ∧ (r = 0 ↔ b = true) ∧ mEx sc M C ∧ (b = true → kF S' (x0 + 19) 4 = C.1 69 ∧ kF S' (x0 + 19) 5 = C.1 70 ∧ dF M mkO n l s o p (C.1 69) (C.1 70))
theorem jPre (k : Nat) : Int32.ofNat (k + 1) + -1 = Int32.ofNat k := by
  rw [← jI_add, Int32.add_assoc, show Int32.ofNat 1 + (-1) = 0 from by decide, Int32.add_zero]
section V
variable {S S' : cSt} {M A : mSt} {ra : Nat → Nat} {sl : Nat → Int32} {mkO : Nat → Option Nat} {L Wt : Nat → List Nat} {x0 n Bt : Nat} {l : List Nat}
theorem lkE_P (k : Nat) (x : Int32) : lkE x0 S (cPi S (x0 + 19) k x) := ⟨cEq_cPi x (Or.inr (Or.inr (Or.inl ⟨Nat.le_refl _, by omega⟩))), rfl, rfl⟩
theorem lkE_t {S'' : cSt} (h : lkE x0 S S') (h' : lkE x0 S' S'') : lkE x0 S S'' := ⟨cEq_trans h.1 h'.1, h'.2.1.trans h.2.1, h'.2.2.trans h.2.2⟩
theorem k_begin (hh : hsI x0 S M) {s : Nat} (hs : s < 19) (j v3 v4 : Int32) : ∃ S', fk_1_begin S (x0 + 19) (Int32.ofNat s) j v3 v4 = some S' ∧ lkE x0 S S' ∧ cEq (fun a => a = x0 + 19) S S' ∧ kR S' = kR S ∧ kF S' (x0 + 19) 0 = Int32.ofNat s ∧ kF S' (x0 + 19) 1 = (if s = 0 ∨ s = 13 ∨ s = 14 then 0 else j) ∧ kF S' (x0 + 19) 2 = (if s = 0 ∨ s = 13 ∨ s = 14 then 0 else v3) ∧ kF S' (x0 + 19) 3 = (if ruS (Int32.ofNat s) = 0 then 0 else v4) ∧ kF S' (x0 + 19) 4 = 0 ∧ kF S' (x0 + 19) 5 = 0 := by
  have k2 := hh.2.2.2.1.1
  have p1 : kK S (kT S 0) = 13 := by obtain ⟨-, -, -, -, b0, b1, -, ⟨p1, -⟩, -⟩ := hh; exact p1
  have key : ∀ a b : Int32, (a = if s = 0 ∨ s = 13 ∨ s = 14 then 0 else j) → (b = if s = 0 ∨ s = 13 ∨ s = 14 then 0 else v3) → ∃ S', fk_1_begin_53 (cPi (cPi S (x0 + 19) 0 (Int32.ofNat s)) (x0 + 19) 1 a) (x0 + 19) (Int32.ofNat s) v4 (x0 + 19) b = some S' ∧ lkE x0 S S' ∧ cEq (fun a => a = x0 + 19) S S' ∧ kR S' = kR S ∧ kF S' (x0 + 19) 0 = Int32.ofNat s ∧ kF S' (x0 + 19) 1 = (if s = 0 ∨ s = 13 ∨ s = 14 then 0 else j) ∧ kF S' (x0 + 19) 2 = (if s = 0 ∨ s = 13 ∨ s = 14 then 0 else v3) ∧ kF S' (x0 + 19) 3 = (if ruS (Int32.ofNat s) = 0 then 0 else v4) ∧ kF S' (x0 + 19) 4 = 0 ∧ kF S' (x0 + 19) 5 = 0 := fun a b ha hb => by
    have fin : ∀ c : Int32, (c = if ruS (Int32.ofNat s) = 0 then 0 else v4) → ∃ S', fk_1_begin_74 (cPi (cPi (cPi S (x0 + 19) 0 (Int32.ofNat s)) (x0 + 19) 1 a) (x0 + 19) 2 b) (x0 + 19) (x0 + 19) c = some S' ∧ lkE x0 S S' ∧ cEq (fun a => a = x0 + 19) S S' ∧ kR S' = kR S ∧ kF S' (x0 + 19) 0 = Int32.ofNat s ∧ kF S' (x0 + 19) 1 = (if s = 0 ∨ s = 13 ∨ s = 14 then 0 else j) ∧ kF S' (x0 + 19) 2 = (if s = 0 ∨ s = 13 ∨ s = 14 then 0 else v3) ∧ kF S' (x0 + 19) 3 = (if ruS (Int32.ofNat s) = 0 then 0 else v4) ∧ kF S' (x0 + 19) 4 = 0 ∧ kF S' (x0 + 19) 5 = 0 := fun c hc => by
      unfold fk_1_begin_74
      have g : ∀ (X : cSt) (k : Nat) (x : Int32), kK (cPi X (x0 + 19) k x) (x0 + 19) = kK X (x0 + 19) := fun _ _ _ => rfl
      simp only [lt_d]
      rw [ckk_y (by simp only [g]; exact k2), ckk_y (by simp only [g]; exact k2), ckk_y (by simp only [g]; exact k2)]
      refine ⟨_, rfl, lkE_t (lkE_t (lkE_t (lkE_t (lkE_t (lkE_P _ _) (lkE_P _ _)) (lkE_P _ _)) (lkE_P _ _)) (lkE_P _ _)) (lkE_P _ _), ?_, rfl, ?_⟩
      · refine cEq_trans (cEq_trans (cEq_trans (cEq_trans (cEq_trans (cEq_cPi _ rfl) (cEq_cPi _ rfl)) (cEq_cPi _ rfl)) (cEq_cPi _ rfl)) (cEq_cPi _ rfl)) (cEq_cPi _ rfl)
      · simp only [fP]
        rw [← ha, ← hb, ← hc]
        exact ⟨rfl, rfl, rfl, rfl, rfl, rfl⟩
    unfold fk_1_begin_53
    have g : ∀ (X : cSt) (k : Nat) (x : Int32), kK (cPi X (x0 + 19) k x) = kK X := fun _ _ _ => rfl
    have gT : ∀ (X : cSt) (k : Nat) (x : Int32), kT (cPi X (x0 + 19) k x) = kT X := fun _ _ _ => rfl
    rw [ckk_y (by simp only [g]; exact k2), lt_d, lt_d, ckk_y (by simp only [g, gT]; exact p1)]
    have hch : fk_100_charAt_5068e (cPi (cPi (cPi S (x0 + 19) 0 (Int32.ofNat s)) (x0 + 19) 1 a) (x0 + 19) 2 b) (kT (cPi (cPi (cPi S (x0 + 19) 0 (Int32.ofNat s)) (x0 + 19) 1 a) (x0 + 19) 2 b) 0) (Int32.ofNat s) = some (pT0.getD s 0) := by
      refine k_charAt (x0 := x0) (M := M) ?_ hs
      have eC : ∀ (X : cSt) (k : Nat) (x : Int32), hsI x0 X M → hsI x0 (cPi X (x0 + 19) k x) M := fun X k x hX => by
        obtain ⟨h1, ⟨h2, h3⟩, h4, h5, b0, b1, h6, h7, h8⟩ := hX
        refine ⟨h1, ⟨?_, h3⟩, h4, h5, b0, b1, h6, ?_, ?_⟩
        · rw [fPo _ _ _ (by omega)]; exact h2
        · unfold pStr at h7 ⊢
          rw [show kT (cPi X (x0 + 19) k x) 0 = kT X 0 from rfl, fPo _ _ _ (by omega)]; exact h7
        · unfold pStr at h8 ⊢
          rw [show kT (cPi X (x0 + 19) k x) 1 = kT X 1 from rfl, fPo _ _ _ (by omega)]; exact h8
      exact eC _ _ _ (eC _ _ _ (eC _ _ _ hh))
    rw [hch, bd_s, pT0_ru hs]
    by_cases c : ruS (Int32.ofNat s) = 0
    · rw [if_pos c, if_pos rfl]
      exact fin 0 (by rw [if_pos c])
    · have c32 : ¬ ruS (Int32.ofNat s) = 32 := by
        have key : ∀ s : Fin 19, ruS (Int32.ofNat s.1) ≠ 32 := by decide
        exact key ⟨s, hs⟩
      rw [if_neg c, if_neg c32]
      exact fin v4 (by rw [if_neg c])
  have n1 : (∀ X, X = fk_1_begin_21 S (x0 + 19) (Int32.ofNat s) j v3 v4 (if s = 0 ∨ s = 13 ∨ s = 14 then 1 else 0) → fk_1_begin S (x0 + 19) (Int32.ofNat s) j v3 v4 = X) := fun X hX => by
    subst hX
    unfold fk_1_begin fk_1_begin_16
    by_cases e0 : s = 0
    · subst e0; rw [if_pos (show Int32.ofNat 0 = 0 from rfl), if_pos (Or.inl rfl)]
    rw [if_neg (jN 0 0 rfl e0 (by omega) (by decide))]
    by_cases e13 : s = 13
    · subst e13; rw [if_pos (show Int32.ofNat 13 = 13 from rfl), if_pos (Or.inr (Or.inl rfl))]
    rw [if_neg (jN 13 13 rfl e13 (by omega) (by decide))]
    by_cases e14 : s = 14
    · subst e14; rw [if_pos (show Int32.ofNat 14 = 14 from rfl), if_pos (Or.inr (Or.inr rfl))]
    rw [if_neg (jN 14 14 rfl e14 (by omega) (by decide)), if_neg (by omega)]
  rw [n1 _ rfl]
  unfold fk_1_begin_21 fk_1_begin_39
  have g : ∀ (X : cSt) (k : Nat) (x : Int32), kK (cPi X (x0 + 19) k x) = kK X := fun _ _ _ => rfl
  by_cases c : s = 0 ∨ s = 13 ∨ s = 14
  · rw [if_pos c, ckk_y k2, lt_d, if_neg n10, ckk_y (by rw [g]; exact k2), lt_d, if_neg n10]
    exact key 0 0 (by rw [if_pos c]) (by rw [if_pos c])
  · rw [if_neg c, ckk_y k2, lt_d, if_pos rfl, ckk_y (by rw [g]; exact k2), lt_d, if_pos rfl]
    exact key j v3 (by rw [if_neg c]) (by rw [if_neg c])
/-- sorts 0 .. 3, 11: anything fits -/
theorem fit_any {s : Int32} (hs : s = 0 ∨ s = 1 ∨ s = 2 ∨ s = 3 ∨ s = 11) (hh : hsI x0 S M) (e : mEx sc M A) (o p v5 v6 : Int32) (hd0 : kF S (x0 + 19) 0 = s) (hd5 : kF S (x0 + 19) 5 = 0) (h11 : s = 11 → v5 = -1 ∨ ∃ j' m', mkO j' = some m' ∧ m' ∈ l ∧ v5 = Int32.ofNat (rNm m')) : fitR x0 n S M A mkO l s o p v5 v6 := by
  have k2 := hh.2.2.2.1.1
  have k6 := hh.1.2.2.2.2.2.2.2.1
  have g6 : kR (cPi S (x0 + 19) 4 v5) x0 6 = some (x0 + 19) := k6
  have gk : kK (cPi S (x0 + 19) 4 v5) (x0 + 19) = 2 := k2
  have g12 : kK (cPi S (x0 + 19) 4 v5) x0 = 12 := hh.1.1
  have gf : kF (cPi S (x0 + 19) 4 v5) (x0 + 19) 0 = s := by rw [fP]; exact hd0
  refine ⟨true, cPi S (x0 + 19) 4 v5, 0, pu (pu (pu A 69 0) 70 0) 69 v5, ?_, lkE_P _ _, fun i hi => ?_, ?_, ⟨fun _ => rfl, fun _ => rfl⟩, mEx_trans (mEx_trans (mEx_trans e (mEx_pu (by unfold sc; omega) _)) (mEx_pu (by unfold sc; omega) _)) (mEx_pu (by unfold sc; omega) _), fun _ => ⟨?_, ?_, ?_⟩⟩
  · unfold fk_11_fits fk_11_fits_241 fk_11_fitsByValue fk_11_fitsByValue_214
    rw [ckk_y hh.1.1, k6, bd_s, ckk_y k2, hd0, b2_t rfl]
    rcases hs with e | e | e | e | e <;> subst e <;> (repeat rw [if_neg (by decide)]) <;> (try rw [if_pos rfl]) <;> (simp only [bd_s, lt_d]) <;> rw [ckk_y hh.1.1, ckk_y k2, ckk_y g12, ckk_y g12, g6] <;> (simp only [bd_s, lt_d]) <;> rw [ckk_y gk, ckk_y g12, ckk_y gk, ckk_y g12, ckk_y gk, gf] <;> (repeat rw [if_neg (by decide)]) <;> (try rw [if_pos rfl]) <;> rw [ckz_1, bd_s] <;> rfl
  · rw [fP]; exact upd_o _ _ (by omega)
  · unfold fm_refusal fm_refusal_100
    simp only [lt_d]
    rcases hs with e | e | e | e | e <;> subst e <;> rfl
  · rw [fP, upd_s, pu_s]
  · rw [fP, upd_o _ _ (by decide), hd5, pu_o _ _ (by decide), pu_s]
  · rw [pu_s, pu_o _ _ (by decide), pu_s]
    refine ⟨fun q => ?_, fun q => ?_, fun q => ?_, fun q => ?_, fun q => ?_, h11⟩ <;> exfalso <;> rcases hs with e | e | e | e | e <;> subst e <;> revert q <;> (try unfold tuS) <;> decide
end V
