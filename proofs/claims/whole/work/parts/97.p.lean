-- part 97: the line: a frame taken out; lose
section V
variable {S S' : cSt} {M M' A : mSt} {ra : Nat → Nat} {sl : Nat → Int32} {mkO : Nat → Option Nat} {x0 n k : Nat} {l : List Nat} {L Wt : Nat → List Nat} {Bt : Nat} {ro fa : Nat → Nat} {W : Nat → Prop}
/-- places behind a removal: v goes to the end -/
def rmv (v w i : Nat) : Nat := if i < v then i else if i + 1 < w then i + 1 else if i + 1 = w then v else i
theorem rmv_lt {v w i nf : Nat} (hv : v < w) (hw : w ≤ nf) (hi : i < nf) : rmv v w i < nf := by unfold rmv; split <;> (try split) <;> (try split) <;> omega
theorem rmv_inj {v w i i' : Nat} (hv : v < w) (h : rmv v w i = rmv v w i') : i = i' := by
  unfold rmv at h
  repeat' split at h
  all_goals omega
theorem k_removeGo {w v : Nat} (hw : w ≤ 60) (hv : v < w) (h6 : kK S (x0 + 11) = 6) (h3 : kR S (x0 + 11) 3 = some (x0 + 12)) (h0 : kF S (x0 + 11) 0 = Int32.ofNat w) (h32 : kK S (x0 + 12) = 32) (h60 : kL S (x0 + 12) = 60) (hk3 : ∀ i, i < w → kK S (fa i) = 3) : ∀ (j i fu : Nat) (g : Nat → Option Nat), i + j + 1 = w → v ≤ i → j < fu → (∀ q, q < i → g q = some (fa (rmv v w q))) → (∀ q, i < q → q < w → g q = some (fa q)) → ∃ S' g', fk_5_remove_9 fu (sO S (x0 + 12) g) (x0 + 11) (some (fa v)) (Int32.ofNat i) = some S' ∧ S' = sO (cPi S (x0 + 11) 0 (Int32.ofNat (w - 1))) (x0 + 12) g' ∧ (∀ q, q < w → g' q = some (fa (rmv v w q))) ∧ ∀ q, w ≤ q → g' q = g q := by
  have g6 : ∀ g, kK (sO S (x0 + 12) g) (x0 + 11) = 6 := fun g => h6
  have g3 : ∀ g, kR (sO S (x0 + 12) g) (x0 + 11) 3 = some (x0 + 12) := fun g => h3
  have g0 : ∀ g, kF (sO S (x0 + 12) g) (x0 + 11) 0 = Int32.ofNat w := fun g => h0
  have g32 : ∀ g, kK (sO S (x0 + 12) g) (x0 + 12) = 32 := fun g => h32
  have g60 : ∀ g, kL (sO S (x0 + 12) g) (x0 + 12) = 60 := fun g => h60
  intro j
  induction j with
  | zero =>
    intro i fu g hi hvi hfu h1 h2
    obtain ⟨fu, rfl⟩ : ∃ q, fu = q + 1 := ⟨fu - 1, by omega⟩
    refine ⟨sO (cPi S (x0 + 11) 0 (Int32.ofNat (w - 1))) (x0 + 12) (upo g (w - 1) (some (fa v))), upo g (w - 1) (some (fa v)), ?_, rfl, fun q hq => ?_, fun q hq => ?_⟩
    · rw [fk_5_remove_9, ckk_y (g6 g), g0, show (1 : Int32) = Int32.ofNat 1 from rfl, jI_sub (by omega), if_pos ((jI_le (by omega) (by omega)).mpr (by omega)), ckk_y (g6 g), ckk_y (g6 g), lt_d]
      have c6 : kK (cPi (sO S (x0 + 12) g) (x0 + 11) 0 (Int32.ofNat (w - 1))) (x0 + 11) = 6 := h6
      have c3 : kR (cPi (sO S (x0 + 12) g) (x0 + 11) 0 (Int32.ofNat (w - 1))) (x0 + 11) 3 = some (x0 + 12) := h3
      have c32 : kK (cPi (sO S (x0 + 12) g) (x0 + 11) 0 (Int32.ofNat (w - 1))) (x0 + 12) = 32 := h32
      have c60 : kL (cPi (sO S (x0 + 12) g) (x0 + 11) 0 (Int32.ofNat (w - 1))) (x0 + 12) = 60 := h60
      have cq : ∀ {K : Option cSt}, ckq (cPi (sO S (x0 + 12) g) (x0 + 11) 0 (Int32.ofNat (w - 1))) (some (fa v)) 3 K = K := ckk_y (hk3 v hv)
      rw [ckk_y c6, c3, bd_s, ckk_y c6, ckk_y c32, c60, kF_cPi, ck_n (by omega) (by omega), cq, lt_d, jI_cl (by omega)]
      have e : cPi (sO S (x0 + 12) g) (x0 + 11) 0 (Int32.ofNat (w - 1)) = sO (cPi S (x0 + 11) 0 (Int32.ofNat (w - 1))) (x0 + 12) g := rfl
      rw [e, wO_sO]
    · by_cases c : q = w - 1
      · rw [c, upo_s]; unfold rmv; rw [if_neg (by omega), if_neg (by omega), if_pos (by omega)]
      · rw [upo_o _ _ c]; exact h1 q (by omega)
    · rw [upo_o _ _ (by omega)]
  | succ j ih =>
    intro i fu g hi hvi hfu h1 h2
    obtain ⟨fu, rfl⟩ : ∃ q, fu = q + 1 := ⟨fu - 1, by omega⟩
    have cq : ∀ {K : Option cSt}, ckq (sO S (x0 + 12) g) (some (fa (i + 1))) 3 K = K := ckk_y (hk3 (i + 1) (by omega))
    rw [fk_5_remove_9, ckk_y (g6 g), g0, show (1 : Int32) = Int32.ofNat 1 from rfl, jI_sub (by omega), if_neg (fun q => absurd ((jI_le (by omega) (by omega)).mp q) (by omega)), ckk_y (g6 g), g3, bd_s, ckk_y (g6 g), bd_s, ckk_y (g32 g), g60, jI_add, ck_n (by omega) (by omega), lt_d, jI_cl (by omega), kO_sO, h2 (i + 1) (by omega) (by omega), ckk_y (g32 g), ck_n (by omega) (by omega), cq, lt_d, jI_cl (by omega), lt_d, wO_sO]
    obtain ⟨S', g', e1, e2, e3, e4⟩ := ih (i + 1) fu (upo g i (some (fa (i + 1)))) (by omega) (by omega) (by omega) (fun q hq => by
      by_cases c : q = i
      · rw [c, upo_s]; unfold rmv; rw [if_neg (by omega), if_pos (by omega)]
      · rw [upo_o _ _ c]; exact h1 q (by omega)) (fun q h3 h4 => by rw [upo_o _ _ (by omega)]; exact h2 q (by omega) h4)
    exact ⟨S', g', e1, e2, e3, fun q hq => by rw [e4 q hq, upo_o _ _ (by omega)]⟩
end V
