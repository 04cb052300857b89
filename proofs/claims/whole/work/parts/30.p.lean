-- part 30: slots of names, parents
/-- the slot of a name -/
def slF (mkO : Nat → Option Nat) (x : Int32) : Option Nat := (List.range 48).find? (fun j => match mkO j with | none => false | some r => decide (x = Int32.ofNat (rNm r)))
theorem slF_some {mkO : Nat → Option Nat} {x : Int32} {j : Nat} (h : slF mkO x = some j) : j < 48 ∧ ∃ r, mkO j = some r ∧ x = Int32.ofNat (rNm r) := by
  unfold slF at h
  have h1 := List.mem_of_find?_eq_some h
  have h2 := List.find?_some h
  refine ⟨List.mem_range.mp h1, ?_⟩
  cases hm : mkO j with
  | none => rw [hm] at h2; cases h2
  | some r => rw [hm] at h2; exact ⟨r, rfl, of_decide_eq_true h2⟩
theorem slF_none {mkO : Nat → Option Nat} {x : Int32} (h : slF mkO x = none) {j r : Nat} (hj : j < 48) (hm : mkO j = some r) : x ≠ Int32.ofNat (rNm r) := by
  intro e
  have h1 := List.find?_eq_none.mp h j (List.mem_range.mpr hj)
  rw [hm] at h1
  exact h1 (decide_eq_true e)
def undr (pr : Nat → Option Nat) (top : Nat) : Nat → Option Nat → Bool
  | 0, _ => false
  | _ + 1, none => false
  | n + 1, some a => if a = top then true else undr pr top n (pr a)
/-- a parent as the class keeps it -/
def pI (pr : Nat → Option Nat) (j : Nat) : Int32 := match pr j with | none => 0 | some p => Int32.ofNat (p + 1)
theorem pI_sub {pr : Nat → Option Nat} {j : Nat} : pI pr j - 1 = rI (pr j) := by
  unfold pI rI
  cases pr j with
  | none => rfl
  | some p => show Int32.ofNat (p + 1) - Int32.ofNat 1 = _; rw [jI_sub (by omega)]; rfl
theorem k_isUnder {S : cSt} {p top : Nat} {pr : Nat → Option Nat} (hk : kK S p = 20) (hl : kL S p = 48) (ht : top < 48) (hc : ∀ j, j < 48 → kI S p j = pI pr j) (hp : ∀ j q, j < 48 → pr j = some q → q < 48) : ∀ (j i fu : Nat) (a : Option Nat), i + j = 48 → j < fu → (∀ q, a = some q → q < 48) → fk_10_isUnder_5 S fu p (Int32.ofNat top) (rI a) (Int32.ofNat i) = some (b2 (undr pr top j a = true)) := by
  intro j
  induction j with
  | zero =>
    intro i fu a hi hf ha
    obtain ⟨fu, rfl⟩ : ∃ q, fu = q + 1 := ⟨fu - 1, by omega⟩
    rw [fk_10_isUnder_5]
    refine (if_pos ((jI_le (a := 48) (b := i) (by omega) (by omega)).mpr (by omega))).trans ?_
    rw [b2_f (by unfold undr; simp)]; rfl
  | succ j ih =>
    intro i fu a hi hf ha
    obtain ⟨fu, rfl⟩ : ∃ q, fu = q + 1 := ⟨fu - 1, by omega⟩
    rw [fk_10_isUnder_5]
    refine (if_neg (jK 48 48 (b := i) rfl (by omega) (by decide))).trans ?_
    cases a with
    | none => rw [if_pos (show rI none < 0 by decide), b2_f (by unfold undr; simp)]; rfl
    | some a =>
      have ha' := ha a rfl
      rw [if_neg (show ¬ rI (some a) < 0 from jI_nn (by omega))]
      have hu : undr pr top (j + 1) (some a) = if a = top then true else undr pr top j (pr a) := rfl
      by_cases e : a = top
      · rw [if_pos (show rI (some a) = Int32.ofNat top by rw [e]; rfl), hu, if_pos e, b2_t rfl]; rfl
      · rw [if_neg (show ¬ rI (some a) = Int32.ofNat top from fun q => e ((jI_inj (by omega) (by omega)).mp q)), hu, if_neg e, ckk_y hk, hl]
        show ck (Int32.ofNat a) 48 (lt (kI S p (Int32.ofNat a).toNatClampNeg - 1) _) = _
        rw [ck_n ha' (by omega), lt_d, jI_cl (by omega), hc a ha', pI_sub, lt_d, show (1 : Int32) = Int32.ofNat 1 from rfl, jI_add]
        exact ih (i + 1) fu (pr a) (by omega) (by omega) (fun q hq => hp a q ha' hq)
/-- a move's step on parents by slots -/
def pSt (M : mSt) (mkO : Nat → Option Nat) (sl : Nat → Int32) (pr : Nat → Option Nat) (r : Nat) : Nat → Option Nat := match slF mkO (M.2 12 r) with
  | none => upo pr (sl r).toNatClampNeg none
  | some p => if undr pr (sl r).toNatClampNeg 48 (some p) then pr else upo pr (sl r).toNatClampNeg (some p)
def paL (M : mSt) (mkO : Nat → Option Nat) (sl : Nat → Int32) (L : List Nat) : Nat → Option Nat := L.foldl (pSt M mkO sl) (fun _ => none)
def paF (M : mSt) (ch sl : Nat → Int32) (mkO : Nat → Option Nat) (l : List Nat) (up : Nat) : Nat → Option Nat := paL M mkO sl ((chL M ch l 384).filter (gv M l up))
theorem pSt_lt {M : mSt} {mkO : Nat → Option Nat} {sl : Nat → Int32} {pr : Nat → Option Nat} (h : ∀ j q, pr j = some q → q < 48) (r : Nat) : ∀ j q, pSt M mkO sl pr r j = some q → q < 48 := by
  intro j q
  unfold pSt
  cases hs : slF mkO (M.2 12 r) with
  | none =>
    intro hq
    have hq : upo pr (sl r).toNatClampNeg none j = some q := hq
    by_cases e : j = (sl r).toNatClampNeg
    · subst e; rw [upo_s] at hq; cases hq
    · rw [upo_o _ _ e] at hq; exact h j q hq
  | some p =>
    show (if undr pr (sl r).toNatClampNeg 48 (some p) then pr else upo pr (sl r).toNatClampNeg (some p)) j = some q → _
    split
    · exact h j q
    · intro hq
      by_cases e : j = (sl r).toNatClampNeg
      · subst e; rw [upo_s] at hq; cases hq; exact (slF_some hs).1
      · rw [upo_o _ _ e] at hq; exact h j q hq
theorem paL_lt (M : mSt) (mkO : Nat → Option Nat) (sl : Nat → Int32) (L : List Nat) : ∀ j q, paL M mkO sl L j = some q → q < 48 := by
  unfold paL
  have key : ∀ (L : List Nat) (pr : Nat → Option Nat), (∀ j q, pr j = some q → q < 48) → ∀ j q, L.foldl (pSt M mkO sl) pr j = some q → q < 48 := by
    intro L
    induction L with
    | nil => intro pr h; exact h
    | cons r L ih => intro pr h; exact ih _ (pSt_lt h r)
  exact key L _ (fun j q h => by cases h)
section V
variable {M : mSt} {ra : Nat → Nat} {sl ch : Nat → Int32} {made : Nat → Prop} {mkO : Nat → Option Nat} {S S' : cSt} {bk la va ua up vb : Nat} {l : List Nat} {W : Nat → Prop}
theorem cQ_w (h : cQ M ra sl ch made mkO S bk la va ua up vb l) (e : cEq W S S') (hW : ∀ a, W a → bk + 5 ≤ a ∧ a < bk + 128 ∧ (a < la ∨ la + 8 ≤ a) ∧ a ≠ ua ∧ a ≠ va) : cQ M ra sl ch made mkO S' bk la va ua up vb l := by
  obtain ⟨h1, h2, h3, h4, h5, h6⟩ := h
  exact ⟨cBk_eq h1 e (fun a q => by have := hW a q; omega), cLed_eq h2 e (fun a q => (hW a q).2.2.1), cVw_eq h3 e (fun q => (hW va q).2.2.2.2 rfl) (fun q => (hW ua q).2.2.2.1 rfl), h4, vwA_eq h5 e (fun q => (hW va q).2.2.2.2 rfl), h6⟩
theorem k_slotOf (hB : cBk M ra sl ch made mkO S bk) (hm : ∀ r, r < 1000 → made r → M.2 9 r = 0 → ∃ j, j < 48 ∧ mkO j = some r) (x : Int32) : fk_0_slotOf S bk x = some (rI (slF mkO x)) := by
  unfold fk_0_slotOf fk_0_slotOf_24 fk_0_slotOf_25
  rw [ckk_y hB.1.1, k_rowNamed hB, bd_s]
  cases hs : slF mkO x with
  | some j =>
    obtain ⟨hj, r, h1, h2⟩ := slF_some hs
    obtain ⟨q1, q2, q3, q4⟩ := (hB.2.2.2.2 j hj).2 r h1
    obtain ⟨b1, k9, ⟨k0, -⟩, -, k1, -⟩ := hB.2.2.1 r q1 q2
    rw [h2, rOf_nm q1]
    show cs (kO S (bk + 1) r) _ _ = _
    rw [b1]
    show ckk S (ra r) 9 _ = _
    rw [ckk_y k9, k0, if_pos q3, ckk_y k9, k1, q4]; rfl
  | none =>
    cases hr : rOf x with
    | none => rfl
    | some r =>
      have hr4 := rOf_lt hr
      show cs (kO S (bk + 1) r) _ _ = _
      by_cases hmd : made r
      · obtain ⟨b1, k9, ⟨k0, -⟩, -⟩ := hB.2.2.1 r hr4 hmd
        rw [b1]
        show ckk S (ra r) 9 _ = _
        rw [ckk_y k9, k0, if_neg]
        · rfl
        · intro h0
          obtain ⟨j, hj, h1⟩ := hm r hr4 hmd h0
          exact slF_none hs hj h1 (rOf_inv hr)
      · rw [hB.2.2.2.1 r hr4 hmd]; rfl
theorem k_findParents (hQ : cQ M ra sl ch made mkO S bk la va ua up vb l) (hm : ∀ r, r < 1000 → made r → M.2 9 r = 0 → ∃ j, j < 48 ∧ mkO j = some r) {p : Nat} (hk : kK S p = 20) (hl : kL S p = 48) (hp : bk + 5 ≤ p ∧ p < bk + 128 ∧ (p < la ∨ la + 8 ≤ p) ∧ p ≠ ua ∧ p ≠ va) (hs : ∀ r ∈ chL M ch l 384, ∃ s, s < 48 ∧ sl r = Int32.ofNat s) : ∃ f, fk_10_findParents S va p = some (sI S p f) ∧ ∀ j, j < 48 → f j = pI (paF M ch sl mkO l up) j := by
  unfold fk_10_findParents
  obtain ⟨f0, e0, h0⟩ := k_fill hk hl (by decide) 0
  have wW : ∀ f, cQ M ra sl ch made mkO (sI S p f) bk la va ua up vb l := fun f => cQ_w (W := fun a => a = p) hQ (cEq_sI f rfl) (fun a ha => by subst ha; exact hp)
  have h2 := wW f0
  rw [e0, bd_s, ckk_y h2.2.2.1.1.1, h2.2.2.1.1.2.2.2.1, bd_s, show (384 : Int32) = Int32.ofNat 384 from rfl, k_at0 (by decide) h2.2.1]
  obtain ⟨b, h3, f, h4, h5⟩ := walkAI (σ := Nat → Int32) (β := cSt) (ra := ra) (L := chL M ch l 384) (F := fun n f o => fk_10_findParents_17 n (sI S p f) va p o) (Q := fun b => ∃ f, b = sI S p f ∧ ∀ j, j < 48 → f j = pI (paF M ch sl mkO l up) j)
    (fun i f => ∀ j, j < 48 → f j = pI (paL M mkO sl (((chL M ch l 384).take i).filter (gv M l up))) j)
    (fun n f h => ⟨_, by rw [fk_10_findParents_17]; rfl, f, rfl, by rw [List.take_length] at h; exact h⟩)
    (fun n f i hi h => Or.inl (by
      have h6 := wW f
      obtain ⟨q1, q2, r9, ⟨r0, -, -, r4, -⟩, -, r1, -⟩ := chL_row hQ hi
      have go : ∀ g, fk_10_findParents_66 (fk_10_findParents_17 n) (sI S p g) va p (some (ra (chL M ch l 384)[i])) = fk_10_findParents_17 n (sI S p g) va p (nxL ra (chL M ch l 384) (i + 1)) := fun g => by
        have h7 := wW g
        unfold fk_10_findParents_66
        rw [ckk_y h7.2.2.1.1.1, h7.2.2.1.1.2.2.2.1, bd_s]
        exact k_up (by decide) h7.1 h7.2.1 h7.2.2.2.1 hi (fun o => fk_10_findParents_17 n (sI S p g) va p o)
      show ∃ st', _ ∧ fk_10_findParents_17 (n + 1) (sI S p f) va p (some (ra (chL M ch l 384)[i])) = _
      rw [fk_10_findParents_17]
      show ∃ st', _ ∧ ckk (sI S p f) va 11 _ = _
      rw [take_app hi, List.filter_append, ckk_y h6.2.2.1.1.1, k_isGood h6.1 h6.2.1 h6.2.2.1 h6.2.2.2.1 q1 q2, bd_s]
      cases hg : gv M l up (chL M ch l 384)[i]
      · refine ⟨f, fun j hj => ?_, by rw [if_pos bFn, go]⟩
        rw [h j hj]; simp [hg]
      · obtain ⟨s, hs48, es⟩ := hs _ (List.getElem_mem hi)
        have r9' : kK (sI S p f) (ra (chL M ch l 384)[i]) = 9 := r9
        have r4a : kF (sI S p f) (ra (chL M ch l 384)[i]) 4 = _ := r4
        have r1a : kF (sI S p f) (ra (chL M ch l 384)[i]) 1 = _ := r1
        have hk' : kK (sI S p f) p = 20 := hk
        have hl' : kL (sI S p f) p = 48 := hl
        have hL1 : List.filter (gv M l up) [(chL M ch l 384)[i]] = [(chL M ch l 384)[i]] := by simp [hg]
        rw [hL1]
        have hpa : ∀ pr, (pr = paL M mkO sl (((chL M ch l 384).take i).filter (gv M l up))) → paL M mkO sl (((chL M ch l 384).take i).filter (gv M l up) ++ [(chL M ch l 384)[i]]) = pSt M mkO sl pr (chL M ch l 384)[i] := fun pr e => by
          rw [e]; unfold paL; rw [List.foldl_append]; rfl
        have hlt := paL_lt M mkO sl (((chL M ch l 384).take i).filter (gv M l up))
        generalize paL M mkO sl (((chL M ch l 384).take i).filter (gv M l up)) = pr at h hlt hpa
        rw [hpa pr rfl]
        rw [if_neg bTn, ckk_y h6.2.2.1.1.1, h6.2.2.1.1.2.1, bd_s, ckk_y r9', ckk_y h6.1.1.1, r4a, k_slotOf h6.1 hm, bd_s]
        have wrt : ∀ o : Option Nat, (∀ q, o = some q → q < 48) → (∀ j, j < 48 → upd f s (rI o + 1) j = pI (upo pr s o) j) ∧ fk_10_findParents_57 (fk_10_findParents_17 n) (sI S p f) va p (some (ra (chL M ch l 384)[i])) (rI o) = fk_10_findParents_17 n (sI S p (upd f s (rI o + 1))) va p (nxL ra (chL M ch l 384) (i + 1)) := fun o ho => by
          constructor
          · intro j hj
            by_cases e : j = s
            · subst e
              rw [upd_s]
              unfold pI
              rw [upo_s]
              cases o with
              | none => rfl
              | some q => show Int32.ofNat q + Int32.ofNat 1 = _; rw [jI_add]
            · rw [upd_o _ _ e, h j hj]
              unfold pI
              rw [upo_o _ _ e]
          · unfold fk_10_findParents_57
            rw [bd_s, ckk_y r9', ckk_y hk', hl', r1a, es, ck_n hs48 (by omega), lt_d, jI_cl (by omega), wI_sI, go]
        unfold pSt
        rw [es, jI_cl (show s < 2147483648 by omega)]
        cases hsl : slF mkO (M.2 12 (chL M ch l 384)[i]) with
        | none =>
          rw [if_pos (show rI none < 0 by decide)]
          obtain ⟨w1, w2⟩ := wrt none (fun q hq => by cases hq)
          exact ⟨_, w1, w2⟩
        | some t =>
          have ht48 := (slF_some hsl).1
          rw [if_neg (show ¬ rI (some t) < 0 from jI_nn (by omega)), ckk_y r9', r1a, es]
          have hu := k_isUnder (S := sI S p f) (p := p) (top := s) (pr := pr) hk' hl' hs48 (fun j hj => by rw [kI_sI]; exact h j hj) (fun j q _ hq => hlt j q hq) 48 0 mFU (some t) (by omega) (by decide) (fun q hq => by cases hq; exact ht48)
          have hu' : fk_10_isUnder (sI S p f) p (rI (some t)) (Int32.ofNat s) = _ := hu
          rw [hu', bd_s]
          cases hun : undr pr s 48 (some t)
          · rw [if_pos bFn]
            obtain ⟨w1, w2⟩ := wrt (some t) (fun q hq => by cases hq; exact ht48)
            refine ⟨_, ?_, w2⟩
            show ∀ j, j < 48 → _ = pI (if undr pr s 48 (some t) = true then pr else upo pr s (some t)) j
            rw [hun]; exact w1
          · rw [if_neg bTn, go]
            refine ⟨f, ?_, rfl⟩
            show ∀ j, j < 48 → _ = pI (if undr pr s 48 (some t) = true then pr else upo pr s (some t)) j
            rw [hun]; exact h))
    (chL M ch l 384).length 0 mFU f0 (by omega) (chL_fu hQ 384) (fun j hj => by rw [h0 j hj]; rfl)
  exact ⟨f, by rw [← h4]; exact h3, h5⟩
end V
