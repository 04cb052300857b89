-- part 28: keys of sets and maps
section V
variable {M : mSt} {ra : Nat → Nat} {sl ch : Nat → Int32} {made : Nat → Prop} {mkO : Nat → Option Nat} {S S' : cSt} {bk la va ua up vb : Nat} {l : List Nat} {W : Nat → Prop}
theorem k_forgetKeys (hQ : cQ M ra sl ch made mkO S bk la va ua up vb l) : ∃ g, fk_10_forgetKeys S va = some (sO S (vb + 3) g) ∧ ∀ x, x < 64 → g x = none := by
  unfold fk_10_forgetKeys
  obtain ⟨b, h1, g, h2, h3⟩ := loopI (σ := Nat → Option Nat) (β := cSt) (N := 64) (F := fun n g i => fk_10_forgetKeys_2 n (sO S (vb + 3) g) va (Int32.ofNat i)) (Q := fun b => ∃ g, b = sO S (vb + 3) g ∧ ∀ i, i < 64 → g i = none) (fun i g => ∀ j, j < i → g j = none)
    (fun n g h => ⟨sO S (vb + 3) g, by
      show fk_10_forgetKeys_2 (n + 1) (sO S (vb + 3) g) va (Int32.ofNat 64) = _
      rw [fk_10_forgetKeys_2]
      exact if_pos (by decide), g, rfl, h⟩)
    (fun n g i hi h => Or.inl ⟨upo g i none, fun j hj => by
      by_cases e : j = i
      · rw [e, upo_s]
      · rw [upo_o _ _ e]; exact h j (by omega), by
      show fk_10_forgetKeys_2 (n + 1) (sO S (vb + 3) g) va (Int32.ofNat i) = _
      have h6 := cQ_sO hQ (p := vb + 3) g (by omega)
      obtain ⟨⟨a0, a3, a4, a5, a6⟩, w0, w0', w1, w1', w2, w2', w3, w3', -⟩ := h6.2.2.2.2.1
      rw [fk_10_forgetKeys_2]
      refine (if_neg (jK 64 64 (b := i) rfl (by omega) (by decide))).trans ?_
      rw [ckk_y h6.2.2.1.1.1, a5, bd_s, ckk_y w3, w3', ck_n hi (by omega)]
      have hq : ∀ {K : Option cSt}, ckq (sO S (vb + 3) g) none 9 K = K := fun {K} => rfl
      rw [hq, lt_d, jI_cl (by omega), wO_sO, lt_d, show (1 : Int32) = Int32.ofNat 1 from rfl, jI_add]⟩)
    64 0 mFU (kO S (vb + 3)) (by omega) (by decide) (fun j hj => absurd hj (by omega))
  refine ⟨g, ?_, h3⟩
  rw [← h2, ← h1]
  show _ = fk_10_forgetKeys_2 mFU (sO S (vb + 3) (kO S (vb + 3))) va (Int32.ofNat 0)
  rw [sO_id]; rfl
/-- the enters by which x is in a set: the last of them -/
def enP (M : mSt) (ch : Nat → Int32) (l : List Nat) (up c r : Nat) : Bool := decide (M.2 9 r = 7) && (gv M l up r && decide (∀ t ∈ chL M ch l c, M.2 9 t = 8 → gv M l up t = true → M.2 12 t = M.2 12 r → ¬ Int32.ofNat (rM r) ≤ M.2 16 (4 * t + rN r)))
def enR (M : mSt) (ch : Nat → Int32) (l : List Nat) (up c x : Nat) : Option Nat := (chL M ch l c).reverse.find? (fun r => decide (M.2 12 r = Int32.ofNat x) && enP M ch l up c r)
theorem k_findMembers {c : Nat} (hc : c < 385) (hQ : cQ M ra sl ch made mkO S bk la va ua up vb l) (hv : ∀ r ∈ chL M ch l c, ∃ x, x < 64 ∧ M.2 12 r = Int32.ofNat x) : ∃ f g, fk_10_findMembers S va (Int32.ofNat c) = some (sO (sI S (vb + 2) f) (vb + 3) g) ∧ ∀ x, x < 64 → g x = (enR M ch l up c x).map ra := by
  obtain ⟨g0, e0, hg0⟩ := k_forgetKeys hQ
  unfold fk_10_findMembers
  have hQ1 := cQ_sO hQ (p := vb + 3) g0 (by omega)
  obtain ⟨⟨a0, a3, a4, a5, a6⟩, w0, w0', w1, w1', w2, w2', w3, w3', -⟩ := hQ1.2.2.2.2.1
  obtain ⟨f0, e1, hf0⟩ := k_fill w2 w2' (by decide) 0
  rw [ckk_y hQ.2.2.1.1.1, e0, bd_s, ckk_y hQ1.2.2.1.1.1, a4, bd_s, e1, bd_s]
  have hQ2 := cQ_sI hQ1 (p := vb + 2) f0 (by omega)
  rw [ckk_y hQ2.2.2.1.1.1, hQ2.2.2.1.1.2.2.2.1, bd_s, k_at hc hQ2.2.1]
  have hsep := hQ.2.2.2.2.2
  have key := walkDI (σ := Nat → Int32) (β := cSt) (ra := ra) (L := chL M ch l c) (F := fun n f o => fk_10_findMembers_22 n (sI (sO S (vb + 3) g0) (vb + 2) f) va (Int32.ofNat c) o) (Q := fun b => ∃ f g, b = sO (sI S (vb + 2) f) (vb + 3) g ∧ ∀ x, x < 64 → g x = (enR M ch l up c x).map ra)
    (fun i f => ∀ x, x < 64 → ∀ q, q < 4 → ∀ y : Int32, y ≤ f (4 * x + q) ↔ y ≤ 0 ∨ ∃ t ∈ (chL M ch l c).drop i, M.2 9 t = 8 ∧ gv M l up t = true ∧ M.2 12 t = Int32.ofNat x ∧ y ≤ M.2 16 (4 * t + q))
    (fun n f h => by
      have h6 := cQ_sI hQ1 (p := vb + 2) f (by omega)
      show ∃ b, fk_10_findMembers_22 (n + 1) (sI (sO S (vb + 3) g0) (vb + 2) f) va (Int32.ofNat c) none = some b ∧ _
      rw [fk_10_findMembers_22]
      show ∃ b, ckk (sI (sO S (vb + 3) g0) (vb + 2) f) va 11 _ = some b ∧ _
      rw [ckk_y h6.2.2.1.1.1, h6.2.2.1.1.2.2.2.1, bd_s, k_at0 hc h6.2.1]
      rw [List.drop_zero] at h
      have key2 := walkAI (σ := Nat → Option Nat) (β := cSt) (ra := ra) (L := chL M ch l c) (F := fun n g o => fk_10_findMembers_86 n (sO (sI S (vb + 2) f) (vb + 3) g) va o) (Q := fun b => ∃ f g, b = sO (sI S (vb + 2) f) (vb + 3) g ∧ ∀ x, x < 64 → g x = (enR M ch l up c x).map ra)
        (fun i g => ∀ x, x < 64 → g x = (((chL M ch l c).take i).reverse.find? (fun r => decide (M.2 12 r = Int32.ofNat x) && enP M ch l up c r)).map ra)
        (fun n g h => ⟨_, by rw [fk_10_findMembers_86]; rfl, f, g, rfl, by rw [List.take_length] at h; exact h⟩)
        (fun n g i hi hI => Or.inl (by
          have h7 := cQ_sO (cQ_sI hQ (p := vb + 2) f (by omega)) (p := vb + 3) g (by omega)
          obtain ⟨q1, q2, r9, ⟨r0, -, -, r4, -⟩, ⟨r2, r2', -⟩, -⟩ := chL_row hQ hi
          have go : ∀ g, fk_10_findMembers_140 (fk_10_findMembers_86 n) (sO (sI S (vb + 2) f) (vb + 3) g) va (some (ra (chL M ch l c)[i])) = fk_10_findMembers_86 n (sO (sI S (vb + 2) f) (vb + 3) g) va (nxL ra (chL M ch l c) (i + 1)) := fun g => by
            have h7 := cQ_sO (cQ_sI hQ (p := vb + 2) f (by omega)) (p := vb + 3) g (by omega)
            unfold fk_10_findMembers_140
            rw [ckk_y h7.2.2.1.1.1, h7.2.2.1.1.2.2.2.1, bd_s]
            exact k_up hc h7.1 h7.2.1 h7.2.2.2.1 hi (fun o => fk_10_findMembers_86 n (sO (sI S (vb + 2) f) (vb + 3) g) va o)
          show ∃ st', _ ∧ fk_10_findMembers_86 (n + 1) (sO (sI S (vb + 2) f) (vb + 3) g) va (some (ra (chL M ch l c)[i])) = _
          rw [fk_10_findMembers_86]
          obtain ⟨x0, hx0, ex0⟩ := hv _ (List.getElem_mem hi)
          have hn4 := rN_lt q1
          have hkn : ∀ y : Int32, y ≤ f (4 * x0 + rN (chL M ch l c)[i]) ↔ _ := h x0 hx0 (rN (chL M ch l c)[i]) hn4
          have kn : kI (sO (sI S (vb + 2) f) (vb + 3) g) (vb + 2) = f := by show kI (sI S (vb + 2) f) (vb + 2) = f; rw [kI_sI]
          obtain ⟨⟨y0, y3, y4, y5, y6⟩, z0, z0', z1, z1', z2, z2', z3, z3', -⟩ := h7.2.2.2.2.1
          have r9' : kK (sO (sI S (vb + 2) f) (vb + 3) g) (ra (chL M ch l c)[i]) = 9 := r9
          have r0' : kF (sO (sI S (vb + 2) f) (vb + 3) g) (ra (chL M ch l c)[i]) 0 = _ := r0
          have r4' : kF (sO (sI S (vb + 2) f) (vb + 3) g) (ra (chL M ch l c)[i]) 4 = _ := r4
          have r2a : kF (sO (sI S (vb + 2) f) (vb + 3) g) (ra (chL M ch l c)[i]) 6 = _ := r2
          have r2b : kF (sO (sI S (vb + 2) f) (vb + 3) g) (ra (chL M ch l c)[i]) 7 = _ := r2'
          have skip : enP M ch l up c (chL M ch l c)[i] = false → ∀ x, x < 64 → g x = (((chL M ch l c).take (i + 1)).reverse.find? (fun r => decide (M.2 12 r = Int32.ofNat x) && enP M ch l up c r)).map ra := fun hp x hx => by
            rw [take_rev hi, List.find?_cons, hp, Bool.and_false]; exact hI x hx
          show ∃ st', _ ∧ ckk (sO (sI S (vb + 2) f) (vb + 3) g) (ra (chL M ch l c)[i]) 9 _ = _
          rw [ckk_y r9', r0']
          by_cases h70 : M.2 9 (chL M ch l c)[i] = 7
          · rw [if_pos h70, ckk_y h7.2.2.1.1.1, k_isGood h7.1 h7.2.1 h7.2.2.1 h7.2.2.2.1 q1 q2, bd_s]
            cases hg : gv M l up (chL M ch l c)[i]
            · refine ⟨g, skip (by unfold enP; rw [hg]; simp), ?_⟩
              rw [if_pos bFn, go]
            · rw [if_neg bTn, ckk_y r9', ckk_y h7.2.2.1.1.1, y4, bd_s, ckk_y r9', ckk_y r9', ckk_y z2, z2', r4', r2a, r2b, ex0, show (4 : Int32) = Int32.ofNat 4 from rfl, jI_mul, jI_add, ck_n (by omega) (by omega), jI_cl (by omega), kn]
              have hiff : Int32.ofNat (rM (chL M ch l c)[i]) ≤ f (4 * x0 + rN (chL M ch l c)[i]) ↔ enP M ch l up c (chL M ch l c)[i] = false := by
                rw [hkn]
                unfold enP
                rw [hg, decide_eq_true h70, Bool.true_and, Bool.true_and, decide_eq_false_iff_not, ex0]
                constructor
                · rintro (h9 | ⟨t, ht, h8, hgt, hvt, hle⟩) hh
                  · exact rM_pos _ h9
                  · exact hh t ht h8 hgt hvt hle
                · intro hh
                  refine Or.inr (Classical.byContradiction fun hn => hh (fun t ht h8 hgt hvt hle => hn ⟨t, ht, h8, hgt, hvt, hle⟩))
              cases hp : enP M ch l up c (chL M ch l c)[i]
              · refine ⟨g, skip hp, ?_⟩
                rw [if_pos (hiff.mpr hp), go]
              · refine ⟨upo g x0 (some (ra (chL M ch l c)[i])), fun x hx => ?_, ?_⟩
                · rw [take_rev hi, List.find?_cons, hp, Bool.and_true]
                  by_cases ex : x = x0
                  · subst ex
                    rw [upo_s, decide_eq_true ex0]; rfl
                  · rw [upo_o _ _ ex, decide_eq_false (fun q => ex ((jI_inj (by omega) (by omega)).mp (ex0.symm.trans q)).symm)]
                    exact hI x hx
                · rw [if_neg (fun q => by rw [hiff.mp q] at hp; cases hp), ckk_y h7.2.2.1.1.1, y5, bd_s, ckk_y r9', ckk_y z3, z3', ck_n hx0 (by omega)]
                  show ckk (sO (sI S (vb + 2) f) (vb + 3) g) (ra (chL M ch l c)[i]) 9 _ = _
                  rw [ckk_y r9', lt_d, jI_cl (by omega), wO_sO, go]
          · rw [if_neg h70]
            exact ⟨g, skip (by unfold enP; rw [decide_eq_false h70]; rfl), go g⟩))
        (chL M ch l c).length 0 mFU g0 (by omega) (chL_fu hQ c) (fun x hx => by rw [hg0 x hx]; simp)
      obtain ⟨b, hb, hb2⟩ := key2
      exact ⟨b, hb, hb2⟩)
    (fun n f i hi h => Or.inl (by
      have h6 := cQ_sI hQ1 (p := vb + 2) f (by omega)
      obtain ⟨q1, q2, r9, ⟨r0, -, -, r4, -⟩, r2, r3, r3', vv, r5, r6, r7, r8, r10⟩ := chL_row hQ hi
      have hvv := hQ.1.1.2.2.2.2.2 _ q2
      have go : ∀ g, fk_10_findMembers_60 (fk_10_findMembers_22 n) (sI (sO S (vb + 3) g0) (vb + 2) g) va (Int32.ofNat c) (some (ra (chL M ch l c)[i])) = fk_10_findMembers_22 n (sI (sO S (vb + 3) g0) (vb + 2) g) va (Int32.ofNat c) (pvL ra (chL M ch l c) i) := fun g => by
        have h7 := cQ_sI hQ1 (p := vb + 2) g (by omega)
        unfold fk_10_findMembers_60
        rw [ckk_y h7.2.2.1.1.1, h7.2.2.1.1.2.2.2.1, bd_s]
        exact k_dn hc h7.1 h7.2.1 h7.2.2.2.1 hi (fun o => fk_10_findMembers_22 n (sI (sO S (vb + 3) g0) (vb + 2) g) va (Int32.ofNat c) o)
      show ∃ st', _ ∧ fk_10_findMembers_22 (n + 1) (sI (sO S (vb + 3) g0) (vb + 2) f) va (Int32.ofNat c) (some (ra (chL M ch l c)[i])) = _
      rw [fk_10_findMembers_22]
      obtain ⟨x0, hx0, ex0⟩ := hv _ (List.getElem_mem hi)
      have r9' : kK (sI (sO S (vb + 3) g0) (vb + 2) f) (ra (chL M ch l c)[i]) = 9 := r9
      have r0' : kF (sI (sO S (vb + 3) g0) (vb + 2) f) (ra (chL M ch l c)[i]) 0 = _ := r0
      have r4' : kF (sI (sO S (vb + 3) g0) (vb + 2) f) (ra (chL M ch l c)[i]) 4 = _ := r4
      have r6' : kR (sI (sO S (vb + 3) g0) (vb + 2) f) (ra (chL M ch l c)[i]) 10 = some vv := r6
      have hd := List.drop_eq_getElem_cons hi
      show ∃ st', _ ∧ ckk (sI (sO S (vb + 3) g0) (vb + 2) f) (ra (chL M ch l c)[i]) 9 _ = _
      rw [ckk_y r9', r0']
      by_cases h80 : M.2 9 (chL M ch l c)[i] = 8
      · rw [if_pos h80, ckk_y h6.2.2.1.1.1, k_isGood h6.1 h6.2.1 h6.2.2.1 h6.2.2.2.1 q1 q2, bd_s]
        cases hg : gv M l up (chL M ch l c)[i]
        · refine ⟨f, fun x hx q hq y => ?_, ?_⟩
          · rw [h x hx q hq y, hd]; simp only [List.mem_cons, or_and_right, exists_or, exists_eq_left, hg, Bool.false_eq_true, false_and, and_false, false_or]
          · rw [if_pos bFn, go]
        · obtain ⟨f', e1, e2, e3⟩ := k_raise (S := sO S (vb + 3) g0) (p := vb + 2) (q := vv) (N := 256) (st := 4 * x0) w2 w2' r7 r8 (by omega) (by omega) (by omega) f
          refine ⟨f', fun x hx q hq y => ?_, ?_⟩
          · by_cases ex : x = x0
            · subst ex
              rw [e2 q hq, le_mx, h x hx q hq y, hd, show kI (sO S (vb + 3) g0) vv = kI S vv from rfl, r10 q hq]
              simp only [List.mem_cons, or_and_right, exists_or, exists_eq_left, hg, h80, ex0, true_and]
              constructor
              · rintro ((h | h) | h)
                · exact Or.inl h
                · exact Or.inr (Or.inr h)
                · exact Or.inr (Or.inl h)
              · rintro (h | h | h)
                · exact Or.inl (Or.inl h)
                · exact Or.inr h
                · exact Or.inl (Or.inr h)
            · rw [e3 _ (by omega), h x hx q hq y, hd]
              have hne : ¬ M.2 12 (chL M ch l c)[i] = Int32.ofNat x := fun q => ex ((jI_inj (by omega) (by omega)).mp (ex0.symm.trans q)).symm
              simp only [List.mem_cons, or_and_right, exists_or, exists_eq_left, hne, false_and, and_false, false_or]
          · rw [if_neg bTn, ckk_y h6.2.2.1.1.1, h6.2.2.2.2.1.1.2.2.1, bd_s, ckk_y r9', ckk_y r9', r6', bd_s, r4', ex0, show (4 : Int32) = Int32.ofNat 4 from rfl, jI_mul, e1, bd_s, go]
      · refine ⟨f, fun x hx q hq y => ?_, ?_⟩
        · rw [h x hx q hq y, hd]; simp only [List.mem_cons, or_and_right, exists_or, exists_eq_left, h80, false_and, false_or]
        · rw [if_neg h80, go]))
    (chL M ch l c).length mFU f0 (Nat.le_refl _) (chL_fu hQ c) (fun x hx q hq y => by rw [hf0 _ (by omega), List.drop_length]; simp)
  obtain ⟨b, h3, f, g, h4, h5⟩ := key
  exact ⟨f, g, by rw [← h4]; exact h3, h5⟩
theorem k_enterOf {c : Nat} (hc : c < 385) (hQ : cQ M ra sl ch made mkO S bk la va ua up vb l) (hv : ∀ r ∈ chL M ch l c, ∃ x, x < 64 ∧ M.2 12 r = Int32.ofNat x) (x : Int32) : ∃ S', fk_10_enterOf S va (Int32.ofNat c) x = some (if 0 ≤ x ∧ x < 64 then (enR M ch l up c x.toNatClampNeg).map ra else none, S') ∧ cEq (inV vb) S S' := by
  unfold fk_10_enterOf fk_11_isKey fk_11_isKey_14 fk_11_isKey_15
  by_cases h1 : x < 0
  · rw [if_pos h1, ckz_0, bd_s, if_pos rfl, if_neg (fun q => absurd q.1 (Int32.not_le.mpr h1))]
    exact ⟨S, rfl, cEq_refl _ _⟩
  · rw [if_neg h1]
    by_cases h2 : (64 : Int32) ≤ x
    · rw [if_pos h2, ckz_0, bd_s, if_pos rfl, if_neg (fun q => absurd q.2 (Int32.not_lt.mpr h2))]
      exact ⟨S, rfl, cEq_refl _ _⟩
    · obtain ⟨f, g, e1, e2⟩ := k_findMembers hc hQ hv
      have h7 := cQ_sO (cQ_sI hQ (p := vb + 2) f (by omega)) (p := vb + 3) g (by omega)
      obtain ⟨⟨y0, y3, y4, y5, y6⟩, z0, z0', z1, z1', z2, z2', z3, z3', -⟩ := h7.2.2.2.2.1
      rw [if_neg h2, ckz_1, bd_s, if_neg (by decide), ckk_y hQ.2.2.1.1.1, e1, bd_s, ckk_y h7.2.2.1.1.1, y5, bd_s, ckk_y z3, z3', if_pos ⟨Int32.not_lt.mp h1, Int32.not_le.mp h2⟩]
      have hx : x.toNatClampNeg < 64 := by
        have h3 := Int32.not_le.mp h2
        rw [jI_of h1] at h3
        exact (jI_lt (b := 64) (jI_clt x) (by decide)).mp h3
      rw [← e2 _ hx]
      refine ⟨sO (sI S (vb + 2) f) (vb + 3) g, ?_, cEq_trans (cEq_sI f (show inV vb (vb + 2) by unfold inV; omega)) (cEq_sO g (show inV vb (vb + 3) by unfold inV; omega))⟩
      rw [show ck x 64 (lt (kO (sO (sI S (vb + 2) f) (vb + 3) g) (vb + 3) x.toNatClampNeg) fun o5 => some (o5, sO (sI S (vb + 2) f) (vb + 3) g)) = ck (Int32.ofNat x.toNatClampNeg) 64 (lt (kO (sO (sI S (vb + 2) f) (vb + 3) g) (vb + 3) x.toNatClampNeg) fun o5 => some (o5, sO (sI S (vb + 2) f) (vb + 3) g)) by rw [← jI_of h1], ck_n hx (by omega), lt_d, kO_sO]
end V
