-- part 27: several, keys
section V
variable {M : mSt} {ra : Nat → Nat} {sl ch : Nat → Int32} {made : Nat → Prop} {mkO : Nat → Option Nat} {S S' : cSt} {bk la va ua up vb : Nat} {l : List Nat} {W : Nat → Prop}
theorem chL_row (hQ : cQ M ra sl ch made mkO S bk la va ua up vb l) {c i : Nat} (hi : i < (chL M ch l c).length) : (chL M ch l c)[i] < 1000 ∧ made (chL M ch l c)[i] ∧ cRow M sl ch S (chL M ch l c)[i] (ra (chL M ch l c)[i]) := by
  obtain ⟨q1, q2⟩ := hQ.2.2.2.1.2.2 _ (chL_mem.mp (List.getElem_mem hi)).1
  exact ⟨q1, q2, (hQ.1.2.2.1 _ q1 q2).2⟩
theorem chL_fu (hQ : cQ M ra sl ch made mkO S bk la va ua up vb l) (c : Nat) : (chL M ch l c).length < mFU := Nat.lt_of_le_of_lt (Nat.le_trans (chL_len c) hQ.2.2.2.1.2.1) (by decide)
theorem take_rev {L : List Nat} {i : Nat} (h : i < L.length) : (L.take (i + 1)).reverse = L[i] :: (L.take i).reverse := by
  rw [List.take_succ, List.getElem?_eq_getElem h, Option.toList_some, List.reverse_append]; rfl
theorem take_app {L : List Nat} {i : Nat} (h : i < L.length) : L.take (i + 1) = L.take i ++ [L[i]] := by
  rw [List.take_succ, List.getElem?_eq_getElem h, Option.toList_some]
/-- what the good rows of a chain knew -/
theorem k_gatherKnown {c : Nat} (hc : c < 385) (hQ : cQ M ra sl ch made mkO S bk la va ua up vb l) : ∃ f, fk_10_gatherKnown S va (Int32.ofNat c) = some (sI S (vb + 1) f) ∧ ∀ q, q < 4 → ∀ x : Int32, x ≤ f q ↔ x ≤ 0 ∨ ∃ t ∈ chL M ch l c, gv M l up t = true ∧ x ≤ M.2 16 (4 * t + q) := by
  obtain ⟨⟨a0, a3, a4, a5, a6⟩, w0, w0', w1, w1', -⟩ := hQ.2.2.2.2.1
  unfold fk_10_gatherKnown
  obtain ⟨f0, e0, h0⟩ := k_fill w1 w1' (by decide) 0
  rw [ckk_y hQ.2.2.1.1.1, a3, bd_s, e0, bd_s]
  have h2 := cQ_sI hQ (p := vb + 1) f0 (by omega)
  rw [ckk_y h2.2.2.1.1.1, h2.2.2.1.1.2.2.2.1, bd_s, k_at hc h2.2.1]
  obtain ⟨b, h3, f, h4, h5⟩ := walkDI (σ := Nat → Int32) (β := cSt) (ra := ra) (L := chL M ch l c) (F := fun n f o => fk_10_gatherKnown_18 n (sI S (vb + 1) f) va o) (Q := fun b => ∃ f, b = sI S (vb + 1) f ∧ ∀ q, q < 4 → ∀ x : Int32, x ≤ f q ↔ x ≤ 0 ∨ ∃ t ∈ chL M ch l c, gv M l up t = true ∧ x ≤ M.2 16 (4 * t + q))
    (fun i f => ∀ q, q < 4 → ∀ x : Int32, x ≤ f q ↔ x ≤ 0 ∨ ∃ t ∈ (chL M ch l c).drop i, gv M l up t = true ∧ x ≤ M.2 16 (4 * t + q))
    (fun n f h => ⟨sI S (vb + 1) f, by rw [fk_10_gatherKnown_18]; rfl, f, rfl, h⟩)
    (fun n f i hi h => Or.inl (by
      have h6 := cQ_sI hQ (p := vb + 1) f (by omega)
      obtain ⟨q1, q2, r9, r1, r2, r3, r4, vv, r5, r6, r7, r8, r10⟩ := chL_row hQ hi
      have hv := hQ.1.1.2.2.2.2.2 _ q2
      have hsep := hQ.2.2.2.2.2
      have go : ∀ g, fk_10_gatherKnown_42 (fk_10_gatherKnown_18 n) (sI S (vb + 1) g) va (some (ra (chL M ch l c)[i])) = fk_10_gatherKnown_18 n (sI S (vb + 1) g) va (pvL ra (chL M ch l c) i) := fun g => by
        have h7 := cQ_sI hQ (p := vb + 1) g (by omega)
        unfold fk_10_gatherKnown_42
        rw [ckk_y h7.2.2.1.1.1, h7.2.2.1.1.2.2.2.1, bd_s]
        exact k_dn hc h7.1 h7.2.1 h7.2.2.2.1 hi (fun o => fk_10_gatherKnown_18 n (sI S (vb + 1) g) va o)
      show ∃ st', _ ∧ fk_10_gatherKnown_18 (n + 1) (sI S (vb + 1) f) va (some (ra (chL M ch l c)[i])) = _
      rw [fk_10_gatherKnown_18]
      have hd := List.drop_eq_getElem_cons hi
      cases hg : gv M l up (chL M ch l c)[i]
      · refine ⟨f, fun q hq x => ?_, ?_⟩
        · rw [h q hq x, hd]; simp only [List.mem_cons, or_and_right, exists_or, exists_eq_left, hg, Bool.false_eq_true, false_and, false_or]
        · show ckk (sI S (vb + 1) f) va 11 _ = _
          rw [ckk_y h6.2.2.1.1.1, k_isGood h6.1 h6.2.1 h6.2.2.1 h6.2.2.2.1 q1 q2, bd_s, hg, if_pos bFn, go]
      · obtain ⟨f', e1, e2, e3⟩ := k_raise (S := S) (p := vb + 1) (q := vv) (N := 4) (st := 0) w1 w1' r7 r8 (by omega) (by omega) (by omega) f
        refine ⟨f', fun q hq x => ?_, ?_⟩
        · have e4 := e2 q hq
          rw [Nat.zero_add] at e4
          rw [e4, le_mx, h q hq x, hd, r10 q hq]
          simp only [List.mem_cons, or_and_right, exists_or, exists_eq_left, hg, true_and]
          constructor
          · rintro ((h | h) | h)
            · exact Or.inl h
            · exact Or.inr (Or.inr h)
            · exact Or.inr (Or.inl h)
          · rintro (h | h | h)
            · exact Or.inl (Or.inl h)
            · exact Or.inr h
            · exact Or.inl (Or.inr h)
        · show ckk (sI S (vb + 1) f) va 11 _ = _
          have r9' : kK (sI S (vb + 1) f) (ra (chL M ch l c)[i]) = 9 := r9
          have r6' : kR (sI S (vb + 1) f) (ra (chL M ch l c)[i]) 10 = some vv := r6
          rw [ckk_y h6.2.2.1.1.1, k_isGood h6.1 h6.2.1 h6.2.2.1 h6.2.2.2.1 q1 q2, bd_s, hg, if_neg bTn, ckk_y h6.2.2.1.1.1, h6.2.2.2.2.1.1.2.1, bd_s, ckk_y r9', r6', bd_s]
          have e1' : fk_10_raise (sI S (vb + 1) f) (vb + 1) 0 vv = some (sI S (vb + 1) f') := e1
          rw [e1', bd_s, go]))
    (chL M ch l c).length mFU f0 (Nat.le_refl _) (chL_fu hQ c) (fun q hq x => by rw [h0 q hq, List.drop_length]; simp)
  exact ⟨f, by rw [← h4]; exact h3, h5⟩
/-- the puts of which no good one knew -/
def svP (M : mSt) (ch : Nat → Int32) (l : List Nat) (up c r : Nat) : Bool := gv M l up r && decide (∀ t ∈ chL M ch l c, gv M l up t = true → ¬ Int32.ofNat (rM r) ≤ M.2 16 (4 * t + rN r))
def svL (M : mSt) (ch : Nat → Int32) (l : List Nat) (up c : Nat) : List Nat := (chL M ch l c).filter (svP M ch l up c)
theorem rM_pos (r : Nat) : ¬ Int32.ofNat (rM r) ≤ 0 := jI_p (by have := rM_le r; omega) (rM_le r).1
theorem k_findSeveral {c : Nat} (hc : c < 385) (hQ : cQ M ra sl ch made mkO S bk la va ua up vb l) (h4 : (svL M ch l up c).length ≤ 4) : ∃ f g, fk_10_findSeveral S va (Int32.ofNat c) = some (Int32.ofNat (svL M ch l up c).length, sO (sI S (vb + 1) f) vb g) ∧ ∀ i (h : i < (svL M ch l up c).length), g i = some (ra (svL M ch l up c)[i]) := by
  obtain ⟨f, e0, hf⟩ := k_gatherKnown hc hQ
  have h1 := cQ_sI hQ (p := vb + 1) f (by omega)
  obtain ⟨⟨a0, a3, a4, a5, a6⟩, w0, w0', w1, w1', -⟩ := h1.2.2.2.2.1
  unfold fk_10_findSeveral
  rw [ckk_y hQ.2.2.1.1.1, e0, bd_s, ckk_y h1.2.2.1.1.1, h1.2.2.1.1.2.2.2.1, bd_s, k_at0 hc h1.2.1]
  have hfl : ∀ i, i ≤ (chL M ch l c).length → (((chL M ch l c).take i).filter (svP M ch l up c)).length ≤ (svL M ch l up c).length := fun i _ => ((List.take_sublist i _).filter _).length_le
  obtain ⟨b, h3, g, h5, h6⟩ := walkAI (σ := Nat × (Nat → Option Nat)) (β := Int32 × cSt) (ra := ra) (L := chL M ch l c) (F := fun n st o => fk_10_findSeveral_17 n (sO (sI S (vb + 1) f) vb st.2) va (Int32.ofNat st.1) o) (Q := fun b => ∃ g, b = (Int32.ofNat (svL M ch l up c).length, sO (sI S (vb + 1) f) vb g) ∧ ∀ i (h : i < (svL M ch l up c).length), g i = some (ra (svL M ch l up c)[i]))
    (fun i st => st.1 = (((chL M ch l c).take i).filter (svP M ch l up c)).length ∧ ∀ k (h : k < (((chL M ch l c).take i).filter (svP M ch l up c)).length), st.2 k = some (ra (((chL M ch l c).take i).filter (svP M ch l up c))[k]))
    (fun n st h => by
      rw [List.take_length] at h
      exact ⟨_, by show fk_10_findSeveral_17 (n + 1) _ va _ none = _; rw [fk_10_findSeveral_17]; rfl, st.2, by rw [h.1]; rfl, h.2⟩)
    (fun n st i hi h => Or.inl (by
      have h6 := cQ_sO h1 (p := vb) st.2 (by omega)
      obtain ⟨q1, q2, r9, r1, ⟨r2, r2', -⟩, -⟩ := chL_row hQ hi
      have hsep := hQ.2.2.2.2.2
      have go : ∀ g (x : Int32), fk_10_findSeveral_60 (fk_10_findSeveral_17 n) (sO (sI S (vb + 1) f) vb g) va x (some (ra (chL M ch l c)[i])) = fk_10_findSeveral_17 n (sO (sI S (vb + 1) f) vb g) va x (nxL ra (chL M ch l c) (i + 1)) := fun g x => by
        have h7 := cQ_sO h1 (p := vb) g (by omega)
        unfold fk_10_findSeveral_60
        rw [ckk_y h7.2.2.1.1.1, h7.2.2.1.1.2.2.2.1, bd_s]
        exact k_up hc h7.1 h7.2.1 h7.2.2.2.1 hi (fun o => fk_10_findSeveral_17 n (sO (sI S (vb + 1) f) vb g) va x o)
      show ∃ st', _ ∧ fk_10_findSeveral_17 (n + 1) (sO (sI S (vb + 1) f) vb st.2) va (Int32.ofNat st.1) (some (ra (chL M ch l c)[i])) = _
      rw [fk_10_findSeveral_17]
      have hl1 := hfl i (by omega)
      have hl2 := hfl (i + 1) (by omega)
      rw [take_app hi, List.filter_append] at hl2 ⊢
      have hkn : ∀ x : Int32, x ≤ f (rN (chL M ch l c)[i]) ↔ _ := hf (rN (chL M ch l c)[i]) (rN_lt q1)
      have kn : kI (sO (sI S (vb + 1) f) vb st.2) (vb + 1) = f := by show kI (sI S (vb + 1) f) (vb + 1) = f; rw [kI_sI]
      cases hp : svP M ch l up c (chL M ch l c)[i]
      · refine ⟨st, ?_, ?_⟩
        · simpa [hp] using h
        · show (if (4 : Int32) ≤ Int32.ofNat st.1 then _ else _) = _
          by_cases h8 : (4 : Int32) ≤ Int32.ofNat st.1
          · rw [if_pos h8, go]
          · rw [if_neg h8, ckk_y h6.2.2.1.1.1, k_isGood h6.1 h6.2.1 h6.2.2.1 h6.2.2.2.1 q1 q2, bd_s]
            cases hg : gv M l up (chL M ch l c)[i]
            · rw [if_pos bFn, go]
            · have r9' : kK (sO (sI S (vb + 1) f) vb st.2) (ra (chL M ch l c)[i]) = 9 := r9
              have r2a : kF (sO (sI S (vb + 1) f) vb st.2) (ra (chL M ch l c)[i]) 6 = _ := r2
              have r2b : kF (sO (sI S (vb + 1) f) vb st.2) (ra (chL M ch l c)[i]) 7 = _ := r2'
              have b3 := h6.2.2.2.2.1.1.2.1
              have b4 := h6.2.2.2.2.1.2.2.2.1
              have b5 := h6.2.2.2.2.1.2.2.2.2.1
              have := rN_lt q1
              rw [if_neg bTn, ckk_y r9', ckk_y h6.2.2.1.1.1, b3, bd_s, ckk_y r9', ckk_y b4, b5, r2a, r2b, ck_n (rN_lt q1) (by omega), jI_cl (by omega), kn, if_pos, go]
              rw [hkn]
              unfold svP at hp
              rw [hg, Bool.true_and, decide_eq_false_iff_not] at hp
              refine Or.inr (Classical.byContradiction fun hn => hp (fun t ht hgt hle => hn ⟨t, ht, hgt, hle⟩))
      · simp only [hp, List.filter_cons_of_pos, List.filter_nil, List.length_append, List.length_singleton] at hl2 ⊢
        have hlt : st.1 < 4 := by rw [h.1]; omega
        have hp' := hp
        unfold svP at hp'
        rw [Bool.and_eq_true, decide_eq_true_iff] at hp'
        refine ⟨(st.1 + 1, upo st.2 st.1 (some (ra (chL M ch l c)[i]))), ⟨by rw [h.1], fun k hk => ?_⟩, ?_⟩
        · by_cases e : k = st.1
          · subst e
            show upo st.2 st.1 _ st.1 = _
            rw [upo_s]
            congr 2
            rw [List.getElem_append_right (by rw [h.1]; exact Nat.le_refl _)]
            simp
          · show upo st.2 st.1 _ k = _
            rw [upo_o _ _ e]
            have hk2 : k < (((chL M ch l c).take i).filter (svP M ch l up c)).length := by have := h.1; omega
            rw [h.2 k hk2, List.getElem_append_left hk2]
        · show (if (4 : Int32) ≤ Int32.ofNat st.1 then _ else _) = _
          have r9' : kK (sO (sI S (vb + 1) f) vb st.2) (ra (chL M ch l c)[i]) = 9 := r9
          have r2a : kF (sO (sI S (vb + 1) f) vb st.2) (ra (chL M ch l c)[i]) 6 = _ := r2
          have r2b : kF (sO (sI S (vb + 1) f) vb st.2) (ra (chL M ch l c)[i]) 7 = _ := r2'
          have b3 := h6.2.2.2.2.1.1.2.1
          have b4 := h6.2.2.2.2.1.2.2.2.1
          have b5 := h6.2.2.2.2.1.2.2.2.2.1
          have b0 := h6.2.2.2.2.1.1.1
          have b1 := h6.2.2.2.2.1.2.1
          have b1' := h6.2.2.2.2.1.2.2.1
          have := rN_lt q1
          rw [if_neg (jK 4 4 (b := st.1) rfl (by omega) (by decide)), ckk_y h6.2.2.1.1.1, k_isGood h6.1 h6.2.1 h6.2.2.1 h6.2.2.2.1 q1 q2, bd_s, hp'.1, if_neg bTn, ckk_y r9', ckk_y h6.2.2.1.1.1, b3, bd_s, ckk_y r9', ckk_y b4, b5, r2a, r2b, ck_n (rN_lt q1) (by omega), jI_cl (by omega), kn, if_neg, ckk_y h6.2.2.1.1.1, b0, bd_s, ckk_y b1, b1', ck_n hlt (by omega)]
          · show ckk (sO (sI S (vb + 1) f) vb st.2) (ra (chL M ch l c)[i]) 9 _ = _
            rw [ckk_y r9', lt_d, jI_cl (by omega), wO_sO, lt_d, show (1 : Int32) = Int32.ofNat 1 from rfl, jI_add, go]
          · rw [hkn]
            rintro (h9 | ⟨t, ht, hgt, hle⟩)
            · exact rM_pos _ h9
            · exact hp'.2 t ht hgt hle))
    (chL M ch l c).length 0 mFU (0, kO (sI S (vb + 1) f) vb) (by omega) (chL_fu hQ c) ⟨by simp, fun k hk => absurd hk (by simp)⟩
  refine ⟨f, g, ?_, h6⟩
  rw [← h5, ← h3]
  show _ = fk_10_findSeveral_17 mFU (sO (sI S (vb + 1) f) vb (kO (sI S (vb + 1) f) vb)) va (Int32.ofNat 0) (nxL ra (chL M ch l c) 0)
  rw [sO_id]; rfl
end V
