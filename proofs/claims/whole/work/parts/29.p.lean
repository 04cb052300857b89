-- part 29: binds, keys by place, shares
section V
variable {M : mSt} {ra : Nat → Nat} {sl ch : Nat → Int32} {made : Nat → Prop} {mkO : Nat → Option Nat} {S S' : cSt} {bk la va ua up vb : Nat} {l : List Nat} {W : Nat → Prop}
/-- the row by which a key is bound -/
def bnR (M : mSt) (ch : Nat → Int32) (l : List Nat) (up c x : Nat) : Option Nat := match bdR M ch l up c (Int32.ofNat x) with | none => none | some r => if M.2 9 r = 15 then some r else none
theorem k_findBinds {c : Nat} (hc : c < 385) (hQ : cQ M ra sl ch made mkO S bk la va ua up vb l) (hv : ∀ r ∈ chL M ch l c, ∃ x, x < 64 ∧ M.2 12 r = Int32.ofNat x) : ∃ g, fk_10_findBinds S va (Int32.ofNat c) = some (sO S (vb + 3) g) ∧ ∀ x, x < 64 → g x = (bnR M ch l up c x).map ra := by
  obtain ⟨g0, e0, hg0⟩ := k_forgetKeys hQ
  unfold fk_10_findBinds
  have hQ1 := cQ_sO hQ (p := vb + 3) g0 (by omega)
  rw [ckk_y hQ.2.2.1.1.1, e0, bd_s, ckk_y hQ1.2.2.1.1.1, hQ1.2.2.1.1.2.2.2.1, bd_s, k_at0 hc hQ1.2.1]
  have key := walkAI (σ := Nat → Option Nat) (β := cSt) (ra := ra) (L := chL M ch l c) (F := fun n g o => fk_10_findBinds_14 n (sO S (vb + 3) g) va o) (Q := fun b => ∃ g, b = sO S (vb + 3) g ∧ ∀ x, x < 64 → g x = (bnR M ch l up c x).map ra)
    (fun i g => ∀ x, x < 64 → g x = ((match ((chL M ch l c).take i).reverse.find? (fun r => decide (M.2 12 r = Int32.ofNat x) && gv M l up r) with | none => none | some r => if M.2 9 r = 15 then some r else none) : Option Nat).map ra)
    (fun n g h => ⟨_, by rw [fk_10_findBinds_14]; rfl, g, rfl, by rw [List.take_length] at h; exact h⟩)
    (fun n g i hi hI => Or.inl (by
      have h7 := cQ_sO hQ (p := vb + 3) g (by omega)
      obtain ⟨q1, q2, r9, ⟨r0, -, -, r4, -⟩, ⟨r2, r2', -⟩, -⟩ := chL_row hQ hi
      have go : ∀ g, fk_10_findBinds_49 (fk_10_findBinds_14 n) (sO S (vb + 3) g) va (some (ra (chL M ch l c)[i])) = fk_10_findBinds_14 n (sO S (vb + 3) g) va (nxL ra (chL M ch l c) (i + 1)) := fun g => by
        have h7 := cQ_sO hQ (p := vb + 3) g (by omega)
        unfold fk_10_findBinds_49
        rw [ckk_y h7.2.2.1.1.1, h7.2.2.1.1.2.2.2.1, bd_s]
        exact k_up hc h7.1 h7.2.1 h7.2.2.2.1 hi (fun o => fk_10_findBinds_14 n (sO S (vb + 3) g) va o)
      show ∃ st', _ ∧ fk_10_findBinds_14 (n + 1) (sO S (vb + 3) g) va (some (ra (chL M ch l c)[i])) = _
      rw [fk_10_findBinds_14]
      obtain ⟨x0, hx0, ex0⟩ := hv _ (List.getElem_mem hi)
      obtain ⟨⟨y0, y3, y4, y5, y6⟩, z0, z0', z1, z1', z2, z2', z3, z3', -⟩ := h7.2.2.2.2.1
      have r9' : kK (sO S (vb + 3) g) (ra (chL M ch l c)[i]) = 9 := r9
      have r0' : kF (sO S (vb + 3) g) (ra (chL M ch l c)[i]) 0 = _ := r0
      have r4' : kF (sO S (vb + 3) g) (ra (chL M ch l c)[i]) 4 = _ := r4
      show ∃ st', _ ∧ ckk (sO S (vb + 3) g) va 11 _ = _
      rw [ckk_y h7.2.2.1.1.1, k_isGood h7.1 h7.2.1 h7.2.2.1 h7.2.2.2.1 q1 q2, bd_s]
      cases hg : gv M l up (chL M ch l c)[i]
      · refine ⟨g, fun x hx => ?_, by rw [if_pos bFn, go]⟩
        rw [take_rev hi, List.find?_cons, hg, Bool.and_false]; exact hI x hx
      · rw [if_neg bTn, ckk_y h7.2.2.1.1.1, y5, bd_s, ckk_y r9', ckk_y r9', r0', r4', ex0]
        have wrt : ∀ o : Option Nat, (∀ a, o = some a → kK S a = 9) → fk_10_findBinds_48 (fk_10_findBinds_14 n) (sO S (vb + 3) g) va (some (ra (chL M ch l c)[i])) (vb + 3) (Int32.ofNat x0) o = fk_10_findBinds_14 n (sO S (vb + 3) (upo g x0 o)) va (nxL ra (chL M ch l c) (i + 1)) := fun o ho => by
          unfold fk_10_findBinds_48
          have hq : ∀ {K : Option cSt}, ckq (sO S (vb + 3) g) o 9 K = K := fun {K} => by
            cases o with
            | none => rfl
            | some a => exact ckk_y (ho a rfl)
          rw [ckk_y z3, z3', ck_n hx0 (by omega), hq, lt_d, jI_cl (by omega), wO_sO, go]
        have val : ∀ o : Option Nat, (if M.2 9 (chL M ch l c)[i] = 15 then some (chL M ch l c)[i] else none : Option Nat).map ra = o → ∀ x, x < 64 → upo g x0 o x = ((match ((chL M ch l c).take (i + 1)).reverse.find? (fun r => decide (M.2 12 r = Int32.ofNat x) && gv M l up r) with | none => none | some r => if M.2 9 r = 15 then some r else none) : Option Nat).map ra := fun o ho x hx => by
          rw [take_rev hi, List.find?_cons, hg, Bool.and_true]
          by_cases ex : x = x0
          · subst ex
            rw [upo_s, decide_eq_true ex0]; exact ho.symm
          · rw [upo_o _ _ ex, decide_eq_false (fun q => ex ((jI_inj (by omega) (by omega)).mp (ex0.symm.trans q)).symm)]
            exact hI x hx
        by_cases h15 : M.2 9 (chL M ch l c)[i] = 15
        · rw [if_pos h15, wrt _ (fun a ha => by cases ha; exact r9)]
          exact ⟨_, val _ (by rw [if_pos h15]; rfl), rfl⟩
        · rw [if_neg h15, wrt _ (fun a ha => by cases ha)]
          exact ⟨_, val _ (by rw [if_neg h15]; rfl), rfl⟩))
    (chL M ch l c).length 0 mFU g0 (by omega) (chL_fu hQ c) (fun x hx => by rw [hg0 x hx]; simp)
  obtain ⟨b, h3, g, h4, h5⟩ := key
  exact ⟨g, by rw [← h4]; exact h3, h5⟩
/-- the rows by keys, in the keys' order -/
def kyL (ky : Nat → Option Nat) (n : Nat) : List Nat := (List.range n).filterMap ky
theorem kyL_succ (ky : Nat → Option Nat) (n : Nat) : kyL ky (n + 1) = kyL ky n ++ (ky n).toList := by
  unfold kyL
  rw [List.range_succ, List.filterMap_append]
  congr 1
theorem kyL_len (ky : Nat → Option Nat) (n : Nat) : (kyL ky n).length ≤ n := by
  have := List.length_filterMap_le ky (List.range n)
  rwa [List.length_range] at this
theorem k_findKeys0 (hQ : cQ M ra sl ch made mkO S bk la va ua up vb l) {ky : Nat → Option Nat} (hk : ∀ x, x < 64 → kO S (vb + 3) x = (ky x).map ra) : fk_10_findKeys_19 S va = some (Int32.ofNat (kyL ky 64).length, S) := by
  unfold fk_10_findKeys_19
  obtain ⟨⟨y0, y3, y4, y5, y6⟩, z0, z0', z1, z1', z2, z2', z3, z3', -⟩ := hQ.2.2.2.2.1
  obtain ⟨b, h1, h2⟩ := loopI (σ := Nat) (β := Int32 × cSt) (N := 64) (F := fun n st i => fk_10_findKeys_24 n S va (Int32.ofNat st) (Int32.ofNat i)) (Q := fun b => b = (Int32.ofNat (kyL ky 64).length, S)) (fun i st => st = (kyL ky i).length)
    (fun n st h => ⟨_, by
      show fk_10_findKeys_24 (n + 1) S va (Int32.ofNat st) (Int32.ofNat 64) = _
      rw [fk_10_findKeys_24]
      exact if_pos (by decide), by rw [h]⟩)
    (fun n st i hi h => Or.inl (by
      show ∃ st', _ ∧ fk_10_findKeys_24 (n + 1) S va (Int32.ofNat st) (Int32.ofNat i) = _
      rw [fk_10_findKeys_24]
      refine ⟨st + (ky i).toList.length, by rw [h, kyL_succ, List.length_append], ?_⟩
      refine (if_neg (jK 64 64 (b := i) rfl (by omega) (by decide))).trans ?_
      rw [ckk_y hQ.2.2.1.1.1, y5, bd_s, ckk_y z3, z3', ck_n hi (by omega), lt_d, jI_cl (by omega), hk i hi]
      unfold fk_10_findKeys_47
      cases ky i with
      | none =>
        show lt (Int32.ofNat st + (0 : Int32)) (fun x1 => lt (Int32.ofNat i + (1 : Int32)) fun x2 => fk_10_findKeys_24 n S va x1 x2) = _
        rw [lt_d, lt_d, Int32.add_zero, show (1 : Int32) = Int32.ofNat 1 from rfl, jI_add]; rfl
      | some r =>
        show lt (Int32.ofNat st + (1 : Int32)) (fun x1 => lt (Int32.ofNat i + (1 : Int32)) fun x2 => fk_10_findKeys_24 n S va x1 x2) = _
        rw [lt_d, lt_d, show (1 : Int32) = Int32.ofNat 1 from rfl, jI_add, jI_add]; rfl))
    64 0 mFU 0 (by omega) (by decide) rfl
  rw [← h2, ← h1]; rfl
theorem k_keyAt (hQ : cQ M ra sl ch made mkO S bk la va ua up vb l) {ky : Nat → Option Nat} (hk : ∀ x, x < 64 → kO S (vb + 3) x = (ky x).map ra) {i : Nat} (hi : i < (kyL ky 64).length) : fk_10_keyAt S va (Int32.ofNat i) = some (some (ra (kyL ky 64)[i])) := by
  unfold fk_10_keyAt
  obtain ⟨⟨y0, y3, y4, y5, y6⟩, z0, z0', z1, z1', z2, z2', z3, z3', -⟩ := hQ.2.2.2.2.1
  have hi64 := Nat.lt_of_lt_of_le hi (kyL_len ky 64)
  have pre : ∀ k, k ≤ 64 → kyL ky k <+: kyL ky 64 := by
    intro k hk
    have : ∀ d, kyL ky k <+: kyL ky (k + d) := by
      intro d
      induction d with
      | zero => exact List.prefix_refl _
      | succ d ih => rw [← Nat.add_assoc, kyL_succ]; exact ih.trans (List.prefix_append _ _)
    have h := this (64 - k)
    rwa [show k + (64 - k) = 64 by omega] at h
  obtain ⟨b, h1, h2⟩ := loopI (σ := Nat) (β := Option Nat) (N := 64) (F := fun n st k => fk_10_keyAt_4 S n va (Int32.ofNat i) (Int32.ofNat st) (Int32.ofNat k)) (Q := fun b => b = some (ra (kyL ky 64)[i])) (fun k st => st = (kyL ky k).length ∧ st ≤ i)
    (fun n st h => by obtain ⟨h1, h2⟩ := h; omega)
    (fun n st k hk64 h => by
      show (∃ st', _ ∧ fk_10_keyAt_4 S (n + 1) va (Int32.ofNat i) (Int32.ofNat st) (Int32.ofNat k) = _) ∨ ∃ b, fk_10_keyAt_4 S (n + 1) va (Int32.ofNat i) (Int32.ofNat st) (Int32.ofNat k) = _ ∧ _
      rw [fk_10_keyAt_4]
      have hne : ¬ (64 : Int32) ≤ Int32.ofNat k := fun q => absurd ((jI_le (a := 64) (b := k) (by omega) (by omega)).mp q) (by omega)
      rw [if_neg hne, ckk_y hQ.2.2.1.1.1, y5, bd_s, ckk_y z3, z3', ck_n hk64 (by omega), lt_d, jI_cl (by omega), hk k hk64]
      have hs := kyL_succ ky k
      have hst := kyL_len ky k
      unfold fk_10_keyAt_34
      cases hky : ky k with
      | none =>
        refine Or.inl ⟨st, ⟨by rw [hs, hky]; simpa using h.1, h.2⟩, ?_⟩
        show lt (Int32.ofNat k + (1 : Int32)) _ = _
        rw [lt_d, show (1 : Int32) = Int32.ofNat 1 from rfl, jI_add]
      | some r =>
        rw [hky] at hs
        by_cases e : st = i
        · refine Or.inr ⟨some (ra r), ?_, ?_⟩
          · show (if Int32.ofNat st = Int32.ofNat i then _ else _) = _
            rw [if_pos (by rw [e]), ckk_y hQ.2.2.1.1.1, bd_s, ckk_y z3, z3', ck_n hk64 (by omega), lt_d, hk k hk64, hky]; rfl
          · have hp := pre (k + 1) (by omega)
            rw [hs] at hp
            have : (kyL ky 64)[i] = (kyL ky k ++ [r])[i]'(by rw [List.length_append]; show i < _ + 1; omega) := (hp.getElem _).symm
            rw [this, List.getElem_append_right (by omega)]
            congr 2
            simp
        · refine Or.inl ⟨st + 1, ⟨by rw [hs, List.length_append, h.1]; rfl, by omega⟩, ?_⟩
          show (if Int32.ofNat st = Int32.ofNat i then _ else _) = _
          rw [if_neg (fun q => e ((jI_inj (by omega) (by omega)).mp q)), lt_d, lt_d, show (1 : Int32) = Int32.ofNat 1 from rfl, jI_add, jI_add])
    64 0 mFU 0 (by omega) (by decide) ⟨rfl, Nat.zero_le _⟩
  rw [← h2, ← h1]; rfl
/-- what a row adds to a node's share -/
def shC (M : mSt) (q r : Nat) : Int32 := (if rN r = q then (if M.2 9 r = 4 then M.2 12 r else - M.2 12 r) else 0) + (if M.2 9 r = 6 ∧ M.2 13 r = Int32.ofNat q then M.2 12 r else 0)
def shN (M : mSt) (ch : Nat → Int32) (l : List Nat) (up c q : Nat) : Int32 := (chL M ch l c).reverse.foldl (fun s r => if gv M l up r then s + shC M q r else s) 0
theorem k_findShares {c : Nat} (hc : c < 385) (hQ : cQ M ra sl ch made mkO S bk la va ua up vb l) (hv : ∀ r ∈ chL M ch l c, M.2 9 r = 6 → ∃ x, x < 4 ∧ M.2 13 r = Int32.ofNat x) : ∃ f, fk_10_findShares S va (Int32.ofNat c) = some (sI S (vb + 4) f) ∧ (∀ q, q < 4 → f q = shN M ch l up c q) ∧ f 4 = shN M ch l up c 0 + shN M ch l up c 1 + shN M ch l up c 2 + shN M ch l up c 3 := by
  obtain ⟨⟨a0, a3, a4, a5, a6⟩, w0, w0', w1, w1', w2, w2', w3, w3', w4, w4'⟩ := hQ.2.2.2.2.1
  unfold fk_10_findShares
  obtain ⟨f0, e0, h0⟩ := k_fill w4 w4' (by decide) 0
  rw [ckk_y hQ.2.2.1.1.1, a6, bd_s, e0, bd_s]
  have h2 := cQ_sI hQ (p := vb + 4) f0 (by omega)
  rw [ckk_y h2.2.2.1.1.1, h2.2.2.1.1.2.2.2.1, bd_s, k_at hc h2.2.1]
  obtain ⟨b, h3, f, h4, h5, h5'⟩ := walkDI (σ := Nat → Int32) (β := cSt) (ra := ra) (L := chL M ch l c) (F := fun n f o => fk_10_findShares_18 n (sI S (vb + 4) f) va o) (Q := fun b => ∃ f, b = sI S (vb + 4) f ∧ (∀ q, q < 4 → f q = shN M ch l up c q) ∧ f 4 = shN M ch l up c 0 + shN M ch l up c 1 + shN M ch l up c 2 + shN M ch l up c 3)
    (fun i f => ∀ q, q < 4 → f q = ((chL M ch l c).drop i).reverse.foldl (fun s r => if gv M l up r then s + shC M q r else s) 0)
    (fun n f h => by
      have h6 := cQ_sI hQ (p := vb + 4) f (by omega)
      have x6 : kR (sI S (vb + 4) f) va 6 = some (vb + 4) := a6
      have x4 : kK (sI S (vb + 4) f) (vb + 4) = 20 := w4
      have x4' : kL (sI S (vb + 4) f) (vb + 4) = 5 := w4'
      refine ⟨sI S (vb + 4) (upd f 4 (f 0 + f 1 + f 2 + f 3)), ?_, _, rfl, ?_, ?_⟩
      · show fk_10_findShares_18 (n + 1) (sI S (vb + 4) f) va none = _
        rw [fk_10_findShares_18]
        show ckk (sI S (vb + 4) f) va 11 _ = _
        simp only [ckk_y h6.2.2.1.1.1, x6, bd_s, ckk_y x4, x4', lt_d, kI_sI]
        show some (cWi (sI S (vb + 4) f) (vb + 4) 4 _) = _
        rw [wI_sI]; rfl
      · intro q hq
        rw [upd_o _ _ (by omega), h q hq]; rfl
      · rw [upd_s, h 0 (by decide), h 1 (by decide), h 2 (by decide), h 3 (by decide)]; rfl)
    (fun n f i hi h => Or.inl (by
      have h6 := cQ_sI hQ (p := vb + 4) f (by omega)
      obtain ⟨q1, q2, r9, ⟨r0, -, -, r4, r4', -⟩, ⟨r2, -⟩, -⟩ := chL_row hQ hi
      have go : ∀ g, fk_10_findShares_87 (fk_10_findShares_18 n) (sI S (vb + 4) g) va (some (ra (chL M ch l c)[i])) = fk_10_findShares_18 n (sI S (vb + 4) g) va (pvL ra (chL M ch l c) i) := fun g => by
        have h7 := cQ_sI hQ (p := vb + 4) g (by omega)
        unfold fk_10_findShares_87
        rw [ckk_y h7.2.2.1.1.1, h7.2.2.1.1.2.2.2.1, bd_s]
        exact k_dn hc h7.1 h7.2.1 h7.2.2.2.1 hi (fun o => fk_10_findShares_18 n (sI S (vb + 4) g) va o)
      show ∃ st', _ ∧ fk_10_findShares_18 (n + 1) (sI S (vb + 4) f) va (some (ra (chL M ch l c)[i])) = _
      rw [fk_10_findShares_18]
      show ∃ st', _ ∧ ckk (sI S (vb + 4) f) va 11 _ = _
      have hd := List.drop_eq_getElem_cons hi
      rw [hd]
      have hfold : ∀ q, (((chL M ch l c)[i] :: (chL M ch l c).drop (i + 1)).reverse.foldl (fun s r => if gv M l up r then s + shC M q r else s) 0) = if gv M l up (chL M ch l c)[i] then (((chL M ch l c).drop (i + 1)).reverse.foldl (fun s r => if gv M l up r then s + shC M q r else s) 0) + shC M q (chL M ch l c)[i] else (((chL M ch l c).drop (i + 1)).reverse.foldl (fun s r => if gv M l up r then s + shC M q r else s) 0) := fun q => by
        rw [List.reverse_cons, List.foldl_append]; rfl
      rw [ckk_y h6.2.2.1.1.1, k_isGood h6.1 h6.2.1 h6.2.2.1 h6.2.2.2.1 q1 q2, bd_s]
      cases hg : gv M l up (chL M ch l c)[i]
      · refine ⟨f, fun q hq => ?_, by rw [if_pos bFn, go]⟩
        rw [hfold, hg]; exact h q hq
      · have hn4 := rN_lt q1
        have x6 : ∀ g, kR (sI S (vb + 4) g) va 6 = some (vb + 4) := fun _ => a6
        have x4 : ∀ g, kK (sI S (vb + 4) g) (vb + 4) = 20 := fun _ => w4
        have x4' : ∀ g, kL (sI S (vb + 4) g) (vb + 4) = 5 := fun _ => w4'
        have r9' : ∀ g, kK (sI S (vb + 4) g) (ra (chL M ch l c)[i]) = 9 := fun _ => r9
        have r0' : ∀ g, kF (sI S (vb + 4) g) (ra (chL M ch l c)[i]) 0 = _ := fun _ => r0
        have r4a : ∀ g, kF (sI S (vb + 4) g) (ra (chL M ch l c)[i]) 4 = _ := fun _ => r4
        have r4b : ∀ g, kF (sI S (vb + 4) g) (ra (chL M ch l c)[i]) 5 = _ := fun _ => r4'
        have r2a : ∀ g, kF (sI S (vb + 4) g) (ra (chL M ch l c)[i]) 6 = _ := fun _ => r2
        have x1 : ∀ g, kK (sI S (vb + 4) g) va = 11 := fun _ => hQ.2.2.1.1.1
        have one : ∀ y : Int32, (∀ q, (if rN (chL M ch l c)[i] = q then y else 0) = (if rN (chL M ch l c)[i] = q then (if M.2 9 (chL M ch l c)[i] = 4 then M.2 12 (chL M ch l c)[i] else - M.2 12 (chL M ch l c)[i]) else 0)) → ∃ st' : Nat → Int32, (∀ q, q < 4 → st' q = f q + shC M q (chL M ch l c)[i]) ∧ fk_10_findShares_60 (fk_10_findShares_18 n) (sI S (vb + 4) f) va (some (ra (chL M ch l c)[i])) (vb + 4) (Int32.ofNat (rN (chL M ch l c)[i])) (f (rN (chL M ch l c)[i])) y = fk_10_findShares_18 n (sI S (vb + 4) st') va (pvL ra (chL M ch l c) i) := fun y hy => by
          unfold fk_10_findShares_60
          rw [ckk_y (x4 _), x4', ck_n (by omega) (by omega), lt_d, jI_cl (by omega), wI_sI, bd_s, ckk_y (r9' _), r0']
          have f1 : ∀ q, upd f (rN (chL M ch l c)[i]) (f (rN (chL M ch l c)[i]) + y) q = f q + (if rN (chL M ch l c)[i] = q then y else 0) := fun q => by
            by_cases e : q = rN (chL M ch l c)[i]
            · rw [e, upd_s, if_pos rfl]
            · rw [upd_o _ _ e, if_neg (fun h => e h.symm), Int32.add_zero]
          by_cases h60 : M.2 9 (chL M ch l c)[i] = 6
          · obtain ⟨w, hw, ew⟩ := hv _ (List.getElem_mem hi) h60
            rw [if_pos h60, ckk_y (x1 _), x6, bd_s]
            simp only [ckk_y (r9' _), ckk_y (x4 _), x4', r4a, r4b, ew, ck_n (show w < 5 by omega) (show w < 2147483648 by omega), jI_cl (show w < 2147483648 by omega), lt_d, kI_sI, wI_sI]
            refine ⟨_, fun q hq => ?_, go _⟩
            unfold shC
            rw [← hy q]
            by_cases e : q = w
            · subst e
              rw [upd_s, f1, if_pos (show M.2 9 (chL M ch l c)[i] = 6 ∧ M.2 13 (chL M ch l c)[i] = Int32.ofNat q from ⟨h60, ew⟩), Int32.add_assoc]
            · rw [upd_o _ _ e, f1, if_neg (fun h : M.2 9 (chL M ch l c)[i] = 6 ∧ M.2 13 (chL M ch l c)[i] = Int32.ofNat q => e ((jI_inj (by omega) (by omega)).mp (ew.symm.trans h.2)).symm), Int32.add_zero]
          · rw [if_neg h60, go]
            refine ⟨_, fun q hq => ?_, rfl⟩
            unfold shC
            rw [f1, ← hy q, if_neg (fun h : M.2 9 (chL M ch l c)[i] = 6 ∧ M.2 13 (chL M ch l c)[i] = Int32.ofNat q => h60 h.1), Int32.add_zero]
        have fin : (∃ st' : Nat → Int32, (∀ q, q < 4 → st' q = f q + shC M q (chL M ch l c)[i]) ∧ (if M.2 9 (chL M ch l c)[i] = (4 : Int32) then fk_10_findShares_60 (fk_10_findShares_18 n) (sI S (vb + 4) f) va (some (ra (chL M ch l c)[i])) (vb + 4) (Int32.ofNat (rN (chL M ch l c)[i])) (f (rN (chL M ch l c)[i])) (M.2 12 (chL M ch l c)[i]) else fk_10_findShares_60 (fk_10_findShares_18 n) (sI S (vb + 4) f) va (some (ra (chL M ch l c)[i])) (vb + 4) (Int32.ofNat (rN (chL M ch l c)[i])) (f (rN (chL M ch l c)[i])) (-(M.2 12 (chL M ch l c)[i]))) = fk_10_findShares_18 n (sI S (vb + 4) st') va (pvL ra (chL M ch l c) i)) := by
          by_cases h40 : M.2 9 (chL M ch l c)[i] = 4
          · rw [if_pos h40]; exact one _ (fun q => by rw [if_pos h40])
          · rw [if_neg h40]; exact one _ (fun q => by rw [if_neg h40])
        obtain ⟨st', k1, k2⟩ := fin
        refine ⟨st', fun q hq => by rw [hfold, hg, k1 q hq, h q hq]; rfl, ?_⟩
        rw [if_neg bTn, ckk_y h6.2.2.1.1.1, x6, bd_s, ckk_y (r9' _), ckk_y (x4 _), x4', r2a, ck_n (by omega) (by omega), ckk_y (r9' _), ckk_y (r9' _), ckk_y (r9' _), r0', r4a, jI_cl (by omega), kI_sI]
        exact k2))
    (chL M ch l c).length mFU f0 (Nat.le_refl _) (chL_fu hQ c) (fun q hq => by rw [h0 q (by omega), List.drop_length]; rfl)
  exact ⟨f, by rw [← h4]; exact h3, h5, h5'⟩
end V
