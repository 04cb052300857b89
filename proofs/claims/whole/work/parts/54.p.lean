-- part 54: logs; the class tells news
theorem b2_inj : ∀ x y : Bool, b2 (x = true) = b2 (y = true) → x = y := by decide
abbrev En : Type := Int32 × Int32 × Int32 × Int32
/-- an entry is added while there is room -/
def adE (N : Nat) (E : List En) (x : En) : List En := if E.length < N then E ++ [x] else E
theorem adE_le {N : Nat} {E : List En} (h : E.length ≤ N) (x : En) : (adE N E x).length ≤ N := by
  unfold adE
  split
  · simp; omega
  · exact h
/-- a log of width w, at most N entries -/
def cLg (S : cSt) (lg w N : Nat) (E : List En) : Prop := E.length ≤ N ∧ (kK S lg = 7 ∧ kF S lg 0 = Int32.ofNat E.length ∧ kF S lg 1 = Int32.ofNat w ∧ kF S lg 2 = Int32.ofNat N ∧ kR S lg 3 = some (lg + 1)) ∧ (kK S (lg + 1) = 20 ∧ kL S (lg + 1) = w * N) ∧
  ∀ i (h : i < E.length), kI S (lg + 1) (w * i) = E[i].1 ∧ kI S (lg + 1) (w * i + 1) = E[i].2.1 ∧ kI S (lg + 1) (w * i + 2) = E[i].2.2.1 ∧ (3 < w → kI S (lg + 1) (w * i + 3) = E[i].2.2.2)
def inG (lg : Nat) : Nat → Prop := fun a => a = lg ∨ a = lg + 1
theorem cLg_eq {S S' : cSt} {lg w N : Nat} {E : List En} {W : Nat → Prop} (h : cLg S lg w N E) (e : cEq W S S') (h1 : ¬ W lg) (h2 : ¬ W (lg + 1)) : cLg S' lg w N E := by
  obtain ⟨e1, e2, e3, e4⟩ := e.2.2.2.2 lg h1
  obtain ⟨f1, f2, f3, f4⟩ := e.2.2.2.2 (lg + 1) h2
  unfold cLg
  rw [e.1, e.1, e.2.1, e1, e2, f3]
  exact h
theorem kF_cWi (S : cSt) (a i : Nat) (x : Int32) : kF (cWi S a i x) = kF S := rfl
theorem k_add {S : cSt} {lg w N : Nat} {E : List En} (h : cLg S lg w N E) (hw : w = 3 ∨ w = 4) (hN : w * N ≤ 1000) (x : En) : ∃ S', fk_6_add S lg x.1 x.2.1 x.2.2.1 x.2.2.2 = some S' ∧ cEq (inG lg) S S' ∧ cLg S' lg w N (adE N E x) := by
  obtain ⟨h0, ⟨h1, h2, h3, h4, h5⟩, ⟨h6, h7⟩, h8⟩ := h
  have hNb : N ≤ 1000 := by rcases hw with e | e <;> (subst e; omega)
  unfold fk_6_add
  rw [ckk_y h1, ckk_y h1, h2, h4, h3]
  by_cases hlt : E.length < N
  · rw [if_pos ((jI_lt (by omega) (by omega)).mpr hlt), ckk_y h1, ckk_y h1, lt_d, jI_mul, show E.length * w = w * E.length from Nat.mul_comm _ _]
    have hm : w * E.length + w ≤ w * N := by
      have := Nat.mul_le_mul_left w (show E.length + 1 ≤ N by omega)
      rwa [Nat.mul_add, Nat.mul_one] at this
    have hw3 : 3 ≤ w := by omega
    have i0 : w * E.length < w * N := by omega
    have i1 : w * E.length + 1 < w * N := by omega
    have i2 : w * E.length + 2 < w * N := by omega
    rw [ckk_y h1, h5, bd_s, ckk_y h6, h7, ck_n i0 (by omega), lt_d, jI_cl (by omega)]
    generalize hf0 : upd (kI S (lg + 1)) (w * E.length) x.1 = f0
    rw [cWi_sI, hf0]
    have a1 : ∀ f, kK (sI S (lg + 1) f) lg = 7 := fun _ => h1
    have a2 : ∀ f, kR (sI S (lg + 1) f) lg 3 = some (lg + 1) := fun _ => h5
    have a3 : ∀ f, kK (sI S (lg + 1) f) (lg + 1) = 20 := fun _ => h6
    have a4 : ∀ f, kL (sI S (lg + 1) f) (lg + 1) = w * N := fun _ => h7
    have a5 : ∀ f, kF (sI S (lg + 1) f) lg 1 = Int32.ofNat w := fun _ => h3
    have a6 : ∀ f, kF (sI S (lg + 1) f) lg 0 = Int32.ofNat E.length := fun _ => h2
    rw [ckk_y (a1 _), a2, bd_s, ckk_y (a3 _), a4, show (1 : Int32) = Int32.ofNat 1 from rfl, jI_add, ck_n i1 (by omega), lt_d, jI_cl (by omega), wI_sI, ckk_y (a1 _), a2, bd_s, ckk_y (a3 _), a4, show (2 : Int32) = Int32.ofNat 2 from rfl, jI_add, ck_n i2 (by omega), lt_d, jI_cl (by omega), wI_sI, ckk_y (a1 _), a5]
    have fin : ∀ f : Nat → Int32, (∀ i (h : i < (E ++ [x]).length), f (w * i) = (E ++ [x])[i].1 ∧ f (w * i + 1) = (E ++ [x])[i].2.1 ∧ f (w * i + 2) = (E ++ [x])[i].2.2.1 ∧ (3 < w → f (w * i + 3) = (E ++ [x])[i].2.2.2)) → ∃ S', fk_6_add_70 (sI S (lg + 1) f) lg = some S' ∧ cEq (inG lg) S S' ∧ cLg S' lg w N (adE N E x) := by
      intro f hf
      unfold fk_6_add_70
      rw [ckk_y (a1 _), ckk_y (a1 _), lt_d, a6, show (1 : Int32) = Int32.ofNat 1 from rfl, jI_add]
      refine ⟨_, rfl, cEq_trans (cEq_sI f (Or.inr rfl)) (cEq_cPi _ (Or.inl rfl)), ?_⟩
      have hE : adE N E x = E ++ [x] := by unfold adE; rw [if_pos hlt]
      rw [hE]
      have g1 : ∀ k, k ≠ 0 → kF (cPi (sI S (lg + 1) f) lg 0 (Int32.ofNat (E.length + 1))) lg k = kF S lg k := fun k hk => kF_cPo _ _ (fun q => hk q.2)
      refine ⟨by simp; omega, ⟨h1, ?_, ?_, ?_, h5⟩, ⟨h6, h7⟩, fun i hi => ?_⟩
      · rw [kF_cPi]; simp
      · rw [g1 1 (by decide)]; exact h3
      · rw [g1 2 (by decide)]; exact h4
      · show (kI (sI S (lg + 1) f) (lg + 1) (w * i) = _ ∧ _)
        have e : kI (cPi (sI S (lg + 1) f) lg 0 (Int32.ofNat (E.length + 1))) (lg + 1) = f := kI_sI S (lg + 1) f
        rw [e]
        rw [show kI (sI S (lg + 1) f) (lg + 1) = f from kI_sI S (lg + 1) f]
        exact hf i hi
    have low : ∀ (i : Nat) (k : Nat), i < E.length → k < w → w * i + k < w * E.length := fun i k hi hk => by
      have := Nat.mul_le_mul_left w (show i + 1 ≤ E.length by omega)
      rw [Nat.mul_add, Nat.mul_one] at this
      omega
    rcases hw with e | e
    · subst e
      rw [if_pos (by decide)]
      exact fin _ (fun i hi => by
        by_cases hie : i < E.length
        · have e1 : (E ++ [x])[i] = E[i] := List.getElem_append_left hie
          rw [e1, upd_o _ _ (by omega), upd_o _ _ (by omega), upd_o _ _ (by omega), upd_o _ _ (by omega), upd_o _ _ (by omega), upd_o _ _ (by omega), ← hf0, upd_o _ _ (by omega), upd_o _ _ (by omega), upd_o _ _ (by omega)]
          exact ⟨(h8 i hie).1, (h8 i hie).2.1, (h8 i hie).2.2.1, fun q => absurd q (by decide)⟩
        · have hi2 : i = E.length := by rw [List.length_append, List.length_singleton] at hi; omega
          subst hi2
          have e1 : (E ++ [x])[E.length] = x := by rw [List.getElem_append_right (Nat.le_refl _)]; simp
          rw [e1]
          refine ⟨?_, ?_, upd_s _ _ _, fun q => absurd q (by decide)⟩
          · rw [upd_o _ _ (by omega), upd_o _ _ (by omega), ← hf0, upd_s]
          · rw [upd_o _ _ (by omega), upd_s])
    · subst e
      have i3 : 4 * E.length + 3 < 4 * N := by omega
      rw [if_neg (by decide)]
      rw [ckk_y (a1 _), a2, bd_s, ckk_y (a3 _), a4, show (3 : Int32) = Int32.ofNat 3 from rfl, jI_add, ck_n i3 (by omega), lt_d, jI_cl (by omega), wI_sI]
      exact fin _ (fun i hi => by
        by_cases hie : i < E.length
        · have e1 : (E ++ [x])[i] = E[i] := List.getElem_append_left hie
          rw [e1]
          simp only [upd_o _ _ (show 4 * i ≠ 4 * E.length + 3 by omega), upd_o _ _ (show 4 * i + 1 ≠ 4 * E.length + 3 by omega), upd_o _ _ (show 4 * i + 2 ≠ 4 * E.length + 3 by omega), upd_o _ _ (show 4 * i + 3 ≠ 4 * E.length + 3 by omega), upd_o _ _ (show 4 * i ≠ 4 * E.length + 2 by omega), upd_o _ _ (show 4 * i + 1 ≠ 4 * E.length + 2 by omega), upd_o _ _ (show 4 * i + 2 ≠ 4 * E.length + 2 by omega), upd_o _ _ (show 4 * i + 3 ≠ 4 * E.length + 2 by omega), upd_o _ _ (show 4 * i ≠ 4 * E.length + 1 by omega), upd_o _ _ (show 4 * i + 1 ≠ 4 * E.length + 1 by omega), upd_o _ _ (show 4 * i + 2 ≠ 4 * E.length + 1 by omega), upd_o _ _ (show 4 * i + 3 ≠ 4 * E.length + 1 by omega)]
          rw [← hf0]
          simp only [upd_o _ _ (show 4 * i ≠ 4 * E.length by omega), upd_o _ _ (show 4 * i + 1 ≠ 4 * E.length by omega), upd_o _ _ (show 4 * i + 2 ≠ 4 * E.length by omega), upd_o _ _ (show 4 * i + 3 ≠ 4 * E.length by omega)]
          exact h8 i hie
        · have hi2 : i = E.length := by rw [List.length_append, List.length_singleton] at hi; omega
          subst hi2
          have e1 : (E ++ [x])[E.length] = x := by rw [List.getElem_append_right (Nat.le_refl _)]; simp
          rw [e1]
          refine ⟨?_, ?_, ?_, fun _ => upd_s _ _ _⟩
          · rw [upd_o _ _ (by omega), upd_o _ _ (by omega), upd_o _ _ (by omega), ← hf0, upd_s]
          · rw [upd_o _ _ (by omega), upd_o _ _ (by omega), upd_s]
          · rw [upd_o _ _ (by omega), upd_s])
  · rw [if_neg (fun q => hlt ((jI_lt (by omega) (by omega)).mp q))]
    refine ⟨S, rfl, cEq_refl _ _, ?_⟩
    have hE : adE N E x = E := by unfold adE; rw [if_neg hlt]
    rw [hE]
    exact ⟨h0, ⟨h1, h2, h3, h4, h5⟩, ⟨h6, h7⟩, h8⟩
