-- part 40: a text read
section V
variable {M : mSt} {ra : Nat → Nat} {sl ch : Nat → Int32} {made : Nat → Prop} {mkO : Nat → Option Nat} {S S' : cSt} {bk la va ua up vb tx : Nat} {l : List Nat} {W : Nat → Prop}
def tlL (M : mSt) (ch : Nat → Int32) (l : List Nat) (up c : Nat) : List Nat := txL M ((tcL M ch l up c).filter (inP9 M))
def tsL (M : mSt) (ch : Nat → Int32) (l : List Nat) (up c : Nat) : List Nat := (tlL M ch l up c).filter (sdP M l up (tcL M ch l up c))
theorem chL_nd (h : l.Nodup) (c : Nat) : (chL M ch l c).Nodup := by
  unfold chL
  exact (perm_srt _ _).nodup_iff.mpr (h.sublist List.filter_sublist)
theorem sI_sI2 (S : cSt) {a b : Nat} (f g : Nat → Int32) (x : Nat → Int32) (h : a ≠ b) : sI (sI (sI S a f) b g) a x = sI (sI S a x) b g := by
  unfold sI
  congr 4
  funext c
  unfold upr
  by_cases h1 : c = a
  · subst h1; simp [h]
  · simp [h1]
theorem txA_eq (h : txA S tx bk) (e : cEq W S S') (h1 : kR S' tx = kR S tx) : txA S' tx bk := by
  unfold txA
  simp only [e.1, e.2.1, h1]
  exact h
theorem tc_in {c : Nat} (ho : tcOk M ch l up c) {i : Nat} (hi : i ≤ (chL M ch l c).length) {e : Nat} (he : e ∈ ((chL M ch l c).take i).filter (apP l up)) (h10 : M.2 9 e = 10) : ∃ t, rOf (M.2 13 e) = some t ∧ t ∈ ((chL M ch l c).take i).filter (apP l up) ∧ M.2 9 t = 9 := by
  obtain ⟨h1, h2⟩ := List.mem_filter.mp he
  obtain ⟨j, hj, ej⟩ := List.mem_iff_getElem.mp h1
  rw [List.length_take] at hj
  rw [List.getElem_take] at ej
  subst ej
  rcases ho j (by omega) h2 with ⟨h9, -⟩ | ⟨-, t, k1, k2, k3⟩
  · rw [h9] at h10; exact absurd h10 (by decide)
  · refine ⟨t, k1, ?_, k3⟩
    obtain ⟨m1, m2⟩ := List.mem_filter.mp k2
    refine List.mem_filter.mpr ⟨?_, m2⟩
    have : (chL M ch l c).take j = ((chL M ch l c).take i).take j := by rw [List.take_take, Nat.min_eq_left (by omega)]
    rw [this] at m1
    exact List.mem_of_mem_take m1
set_option maxHeartbeats 4000000 in
theorem k_read {c : Nat} (hc : c < 385) (hQ : cQ M ra sl ch made mkO S bk la va ua up vb l) (hT : txA S tx bk) (hsep : bk + 5 ≤ tx ∧ tx + 4 ≤ la ∧ (ua < tx ∨ tx + 4 ≤ ua) ∧ (va < tx ∨ tx + 4 ≤ va)) (ho : tcOk M ch l up c) : ∃ S', fk_9_read S tx va (Int32.ofNat c) = some S' ∧ cEq (inT tx) S S' ∧ kR S' tx = kR S tx ∧ (∀ k, k ≠ 1 → kF S' tx k = kF S tx k) ∧ kF S' tx 1 = Int32.ofNat (tsL M ch l up c).length ∧ (∀ i (h : i < (tsL M ch l up c).length), kO S' (tx + 1) i = some (ra (tsL M ch l up c)[i])) ∧ lkd (kI S' (tx + 2)) 0 (tlL M ch l up c) ∧ ∀ r ∈ tlL M ch l up c, kI S' (tx + 3) (r + 1) = b2 (sdP M l up (tcL M ch l up c) r = false) := by
  have hsz := hQ.2.2.2.2.2
  obtain ⟨⟨t0, t1, t2, t3, t4⟩, u1, u1', u2, u2', u3, u3'⟩ := id hT
  have hnd := chL_nd (M := M) (ch := ch) hQ.2.2.2.1.1 c
  have wW : ∀ f g, cQ M ra sl ch made mkO (sI (sI S (tx + 2) f) (tx + 3) g) bk la va ua up vb l := fun f g => cQ_w (W := inT tx) hQ (cEq_trans (cEq_sI f (show inT tx (tx + 2) by unfold inT; omega)) (cEq_sI g (show inT tx (tx + 3) by unfold inT; omega))) (fun a ha => by unfold inT at ha; omega)
  have hrow : ∀ r, r ∈ chL M ch l c → r < 1000 ∧ made r ∧ kO S (bk + 1) r = some (ra r) ∧ cRow M sl ch S r (ra r) := fun r hr => by
    obtain ⟨q1, q2⟩ := hQ.2.2.2.1.2.2 _ (chL_mem.mp hr).1
    exact ⟨q1, q2, (hQ.1.2.2.1 _ q1 q2).1, (hQ.1.2.2.1 _ q1 q2).2⟩
  have key := walkAI (σ := (Nat → Int32) × (Nat → Int32)) (β := cSt) (ra := ra) (L := chL M ch l c) (F := fun n st o => fk_9_read_17 n (sI (sI S (tx + 2) st.1) (tx + 3) st.2) tx va o) (Q := fun S' => cEq (inT tx) S S' ∧ kR S' tx = kR S tx ∧ (∀ k, k ≠ 1 → kF S' tx k = kF S tx k) ∧ kF S' tx 1 = Int32.ofNat (tsL M ch l up c).length ∧ (∀ i (h : i < (tsL M ch l up c).length), kO S' (tx + 1) i = some (ra (tsL M ch l up c)[i])) ∧ lkd (kI S' (tx + 2)) 0 (tlL M ch l up c) ∧ ∀ r ∈ tlL M ch l up c, kI S' (tx + 3) (r + 1) = b2 (sdP M l up (tcL M ch l up c) r = false))
    (fun i st => lkd st.1 0 (txL M ((((chL M ch l c).take i).filter (apP l up)).filter (inP9 M))) ∧ ∀ r ∈ ((chL M ch l c).take i).filter (apP l up), M.2 9 r = 9 → st.2 (r + 1) = b2 (sdP M l up (((chL M ch l c).take i).filter (apP l up)) r = false))
    (fun n st hI => by
      rw [List.take_length] at hI
      show ∃ b, fk_9_read_17 (n + 1) (sI (sI S (tx + 2) st.1) (tx + 3) st.2) tx va none = some b ∧ _
      rw [fk_9_read_17]
      show ∃ b, ckk (sI (sI S (tx + 2) st.1) (tx + 3) st.2) tx 10 _ = some b ∧ _
      have z0 : kK (sI (sI S (tx + 2) st.1) (tx + 3) st.2) tx = 10 := t0
      have e1 : kI (sI (sI S (tx + 2) st.1) (tx + 3) st.2) (tx + 2) = st.1 := by rw [kI_sIo _ _ (by omega), kI_sI]
      have e2 : kI (sI (sI S (tx + 2) st.1) (tx + 3) st.2) (tx + 3) = st.2 := kI_sI _ _ _
      have hmem : ∀ r ∈ tlL M ch l up c, r ∈ tcL M ch l up c ∧ M.2 9 r = 9 := fun r hr => by
        have := List.mem_filter.mp (txL_mem.mp hr)
        exact ⟨this.1, of_decide_eq_true this.2⟩
      have hlen : (tlL M ch l up c).length ≤ 1000 := by
        unfold tlL tcL
        rw [txL_len]
        exact Nat.le_trans (Nat.le_trans (List.length_filter_le _ _) (List.length_filter_le _ _)) (Nat.le_trans (chL_len c) hQ.2.2.2.1.2.1)
      obtain ⟨S', s1, s2, s2a, s2b, s3, s4⟩ := k_gather (S := sI (sI S (tx + 2) st.1) (tx + 3) st.2) (wW st.1 st.2).1 (tx := tx) hT (by omega) (Ln := tlL M ch l up c) (gn := sdP M l up (tcL M ch l up c)) hlen (fun r hr => by
        have := hrow r (List.mem_filter.mp (hmem r hr).1).1
        exact ⟨this.1, this.2.1⟩) (by rw [e1]; exact hI.1) (fun r hr => by rw [e2]; exact hI.2 r (hmem r hr).1 (hmem r hr).2)
      have s5 := s2.2.2.2.2 (tx + 2) (by intro q; rcases q with q | q <;> omega)
      have s6 := s2.2.2.2.2 (tx + 3) (by intro q; rcases q with q | q <;> omega)
      rw [ckk_y z0, s1, bd_s]
      refine ⟨S', rfl, cEq_trans (cEq_trans (cEq_sI st.1 (show inT tx (tx + 2) by unfold inT; omega)) (cEq_sI st.2 (show inT tx (tx + 3) by unfold inT; omega))) (cEq_mono s2 (fun a ha => by unfold inT; rcases ha with ha | ha <;> omega)), ?_, ?_, s3, s4, ?_, ?_⟩
      · exact s2a
      · exact s2b
      · rw [s5.2.2.1, e1]; exact hI.1
      · intro r hr
        rw [s6.2.2.1, e2]; exact hI.2 r (hmem r hr).1 (hmem r hr).2)
    (fun n st i hi hI => Or.inl (by
      have h6 := wW st.1 st.2
      obtain ⟨q1, q2, -, r9, ⟨r0, -, -, -, r5, -⟩, ⟨-, -, -, r12⟩, -⟩ := hrow _ (List.getElem_mem hi)
      have go : ∀ f g, fk_9_read_146 (fk_9_read_17 n) (sI (sI S (tx + 2) f) (tx + 3) g) tx va (some (ra (chL M ch l c)[i])) = fk_9_read_17 n (sI (sI S (tx + 2) f) (tx + 3) g) tx va (nxL ra (chL M ch l c) (i + 1)) := fun f g => by
        have h7 := wW f g
        unfold fk_9_read_146
        rw [ckk_y h7.2.2.1.1.1, h7.2.2.1.1.2.2.2.1, bd_s]
        exact k_up hc h7.1 h7.2.1 h7.2.2.2.1 hi (fun o => fk_9_read_17 n (sI (sI S (tx + 2) f) (tx + 3) g) tx va o)
      show ∃ st', _ ∧ fk_9_read_17 (n + 1) (sI (sI S (tx + 2) st.1) (tx + 3) st.2) tx va (some (ra (chL M ch l c)[i])) = fk_9_read_17 n (sI (sI S (tx + 2) _) (tx + 3) _) tx va _
      rw [fk_9_read_17]
      show ∃ st', _ ∧ ckk (sI (sI S (tx + 2) st.1) (tx + 3) st.2) va 11 _ = _
      rw [ckk_y h6.2.2.1.1.1, k_isApplied h6.1 h6.2.1 h6.2.2.1 h6.2.2.2.1 q1 q2, bd_s, take_app hi, List.filter_append]
      by_cases ha : (chL M ch l c)[i] ∈ l.take up
      · have hap : apP l up (chL M ch l c)[i] = true := decide_eq_true ha
        have hf1 : List.filter (apP l up) [(chL M ch l c)[i]] = [(chL M ch l c)[i]] := by simp [hap]
        have hPin : ∀ e ∈ ((chL M ch l c).take i).filter (apP l up), e ∈ chL M ch l c := fun e he => List.mem_of_mem_take (List.mem_filter.mp he).1
        have hnew : (chL M ch l c)[i] ∉ ((chL M ch l c).take i).filter (apP l up) := fun q => absurd ((mem_take hnd hi).mp (List.mem_filter.mp q).1) (by omega)
        have hP10 := fun e he h10 => tc_in ho (Nat.le_of_lt hi) (e := e) he h10
        have hcase := ho i hi hap
        obtain ⟨hI1, hI2⟩ := hI
        have hndP : (((chL M ch l c).take i).filter (apP l up)).Nodup := (hnd.sublist (List.take_sublist _ _)).sublist List.filter_sublist
        rw [hf1]
        generalize ((chL M ch l c).take i).filter (apP l up) = P at hPin hnew hP10 hcase hI1 hI2 hndP
        generalize hrr : (chL M ch l c)[i] = r at *
        have y0 : ∀ f g, kK (sI (sI S (tx + 2) f) (tx + 3) g) tx = 10 := fun _ _ => t0
        have y2 : ∀ f g, kR (sI (sI S (tx + 2) f) (tx + 3) g) tx 2 = some bk := fun _ _ => t2
        have y3 : ∀ f g, kR (sI (sI S (tx + 2) f) (tx + 3) g) tx 3 = some (tx + 2) := fun _ _ => t3
        have y4 : ∀ f g, kR (sI (sI S (tx + 2) f) (tx + 3) g) tx 4 = some (tx + 3) := fun _ _ => t4
        have z2 : ∀ f g, kK (sI (sI S (tx + 2) f) (tx + 3) g) (tx + 2) = 20 := fun _ _ => u2
        have z2' : ∀ f g, kL (sI (sI S (tx + 2) f) (tx + 3) g) (tx + 2) = 1001 := fun _ _ => u2'
        have z3 : ∀ f g, kK (sI (sI S (tx + 2) f) (tx + 3) g) (tx + 3) = 20 := fun _ _ => u3
        have z3' : ∀ f g, kL (sI (sI S (tx + 2) f) (tx + 3) g) (tx + 3) = 1001 := fun _ _ => u3'
        have e2 : ∀ f g, kI (sI (sI S (tx + 2) f) (tx + 3) g) (tx + 2) = f := fun f g => by rw [kI_sIo _ _ (by omega), kI_sI]
        have x9 : ∀ f g, kK (sI (sI S (tx + 2) f) (tx + 3) g) (ra r) = 9 := fun _ _ => r9
        have x0 : ∀ f g, kF (sI (sI S (tx + 2) f) (tx + 3) g) (ra r) 0 = M.2 9 r := fun _ _ => r0
        have x5 : kF (sI (sI S (tx + 2) st.1) (tx + 3) st.2) (ra r) 5 = M.2 13 r := r5
        have x12 : ∀ f g, kF (sI (sI S (tx + 2) f) (tx + 3) g) (ra r) 12 = Int32.ofNat r := fun _ _ => r12
        have hr1 : Int32.ofNat r + 1 = Int32.ofNat (r + 1) := jI_add r 1
        have sdNo : ∀ q, (¬ M.2 9 r = 10 ∨ ¬ M.2 13 r = Int32.ofNat (rNm q) ∨ gv M l up r = false) → sdP M l up (P ++ [r]) q = sdP M l up P q := fun q hq => by
          unfold sdP
          rw [List.any_append]
          have : ([r].any (fun e => decide (M.2 9 e = 10) && (decide (M.2 13 e = Int32.ofNat (rNm q)) && gv M l up e))) = false := by
            rw [List.any_cons, List.any_nil, Bool.or_false]
            rcases hq with h | h | h
            · rw [decide_eq_false h]; rfl
            · rw [decide_eq_false h]; simp
            · rw [h]; simp
          rw [this, Bool.or_false]
        -- an insert behind the link lk
        have insG : ∀ (lk : Nat) (Ln' : List Nat), lk < 1001 → M.2 9 r = 9 → lkd (upd (upd st.1 (r + 1) (st.1 lk)) lk (Int32.ofNat (r + 1))) 0 Ln' → Ln' = txL M ((P ++ [r]).filter (inP9 M)) → ∃ st' : (Nat → Int32) × (Nat → Int32), (lkd st'.1 0 (txL M ((P ++ [r]).filter (inP9 M))) ∧ ∀ q ∈ P ++ [r], M.2 9 q = 9 → st'.2 (q + 1) = b2 (sdP M l up (P ++ [r]) q = false)) ∧ fk_9_read_61 (fk_9_read_17 n) (sI (sI S (tx + 2) st.1) (tx + 3) st.2) tx va (some (ra r)) (Int32.ofNat lk) = fk_9_read_17 n (sI (sI S (tx + 2) st'.1) (tx + 3) st'.2) tx va (nxL ra (chL M ch l c) (i + 1)) := fun lk Ln' hlk h9 hl eL => by
          refine ⟨(upd (upd st.1 (r + 1) (st.1 lk)) lk (Int32.ofNat (r + 1)), upd st.2 (r + 1) (b2 (gv M l up r = false))), ⟨eL ▸ hl, fun q hq h9q => ?_⟩, ?_⟩
          · rcases List.mem_append.mp hq with hq | hq
            · have hne : q ≠ r := fun e => hnew (e ▸ hq)
              show upd st.2 (r + 1) _ (q + 1) = _
              rw [upd_o _ _ (by omega), sdNo q (Or.inl (by rw [h9]; decide))]
              exact hI2 q hq h9q
            · have : q = r := List.mem_singleton.mp hq
              subst this
              show upd st.2 (q + 1) _ (q + 1) = _
              rw [upd_s, sdNo q (Or.inl (by rw [h9]; decide))]
              have : sdP M l up P q = gv M l up q := by
                unfold sdP
                have : (P.any (fun e => decide (M.2 9 e = 10) && (decide (M.2 13 e = Int32.ofNat (rNm q)) && gv M l up e))) = false := by
                  rw [List.any_eq_false]
                  intro e he hh
                  simp at hh
                  obtain ⟨t, k1, k2, k3⟩ := hP10 e he hh.1
                  rw [hh.2.1, rOf_nm q1] at k1
                  cases k1
                  exact hnew k2
                rw [this]; simp
              rw [this]
          · unfold fk_9_read_61 fk_9_read_126
            rw [bd_s, ckk_y (x9 _ _), x0, if_pos h9, ckk_y (y0 _ _), y3, bd_s, ckk_y (x9 _ _), ckk_y (y0 _ _), bd_s, ckk_y (z2 _ _), z2', ck_n hlk (by omega), ckk_y (z2 _ _), x12, hr1, ck_n (by omega) (by omega), lt_d, jI_cl (by omega), jI_cl (by omega), e2, wI_sI2 _ _ _ _ _ (by omega)]
            rw [ckk_y (y0 _ _), y3, bd_s, ckk_y (x9 _ _), ckk_y (z2 _ _), z2', ck_n hlk (by omega), lt_d, x12, hr1, wI_sI2 _ _ _ _ _ (by omega)]
            have h8 := wW (upd (upd st.1 (r + 1) (st.1 lk)) lk (Int32.ofNat (r + 1))) st.2
            rw [ckk_y (y0 _ _), y4, bd_s, ckk_y (x9 _ _), ckk_y h8.2.2.1.1.1, k_isGood h8.1 h8.2.1 h8.2.2.1 h8.2.2.2.1 q1 q2, bd_s, x12, hr1]
            cases hg : gv M l up r
            · rw [if_pos bFn, ckk_y (z3 _ _), z3', ck_n (by omega) (by omega), lt_d, jI_cl (by omega), wI_sI, go]; rfl
            · rw [if_neg bTn, ckk_y (z3 _ _), z3', ck_n (by omega) (by omega), lt_d, jI_cl (by omega), wI_sI, go]; rfl
        rw [b2_t ha, if_neg n10, ckk_y (y0 _ _), y2, bd_s, ckk_y (x9 _ _), ckk_y h6.1.1.1, x5, k_rowNamed h6.1, bd_s]
        have tgt : ∀ t, rOf (M.2 13 r) = some t → t ∈ P → t < 1000 ∧ kO (sI (sI S (tx + 2) st.1) (tx + 3) st.2) (bk + 1) t = some (ra t) ∧ kK (sI (sI S (tx + 2) st.1) (tx + 3) st.2) (ra t) = 9 ∧ kF (sI (sI S (tx + 2) st.1) (tx + 3) st.2) (ra t) 12 = Int32.ofNat t := fun t _ ht => by
          obtain ⟨p1, p2, p3, p4, -, ⟨-, -, -, p5⟩, -⟩ := hrow t (hPin t ht)
          exact ⟨p1, p3, p4, p5⟩
        rcases hcase with ⟨h9, hw⟩ | ⟨h10, t, k1, k2, k3⟩
        · have hin9 : (P ++ [r]).filter (inP9 M) = P.filter (inP9 M) ++ [r] := by rw [List.filter_append]; simp [inP9, h9]
          have hndL : (txL M (P.filter (inP9 M))).Nodup := (txL_perm _ _).nodup_iff.mpr (hndP.sublist List.filter_sublist)
          have hrL : r ∉ txL M (P.filter (inP9 M)) := fun q => hnew (List.mem_filter.mp (txL_mem.mp q)).1
          rcases hw with hw0 | ⟨t, k1, k2, k3⟩
          · rw [hw0, rOf_0]
            exact insG 0 (r :: txL M (P.filter (inP9 M))) (by decide) h9 (lkd_head hI1 hrL) (by rw [hin9, txL_app]; unfold txS; rw [hw0, rOf_0])
          · obtain ⟨g1, g2, g3, g4⟩ := tgt t k1 k2
            have htr : t ≠ r := fun e => hnew (e ▸ k2)
            rw [k1]
            show ∃ st', _ ∧ cs (kO _ (bk + 1) t) _ _ = _
            rw [g2]
            show ∃ st', _ ∧ ckk _ (ra t) 9 _ = _
            rw [ckk_y g3, g4, show Int32.ofNat t + 1 = Int32.ofNat (t + 1) from jI_add t 1]
            exact insG (t + 1) (insA t r (txL M (P.filter (inP9 M)))) (by omega) h9 (lkd_insA htr hndL (txL_mem.mpr (List.mem_filter.mpr ⟨k2, decide_eq_true k3⟩)) hrL (by omega) (by omega) hI1) (by rw [hin9, txL_app]; unfold txS; rw [k1])
        · obtain ⟨g1, g2, g3, g4⟩ := tgt t k1 k2
          have hn9 : ¬ M.2 9 r = 9 := by rw [h10]; decide
          have hin9 : (P ++ [r]).filter (inP9 M) = P.filter (inP9 M) := by rw [List.filter_append]; simp [inP9, hn9]
          rw [k1]
          show ∃ st', _ ∧ cs (kO _ (bk + 1) t) _ _ = _
          rw [g2]
          show ∃ st', _ ∧ ckk _ (ra t) 9 _ = _
          rw [ckk_y g3, g4, show Int32.ofNat t + 1 = Int32.ofNat (t + 1) from jI_add t 1, hin9]
          unfold fk_9_read_61
          rw [bd_s, ckk_y (x9 _ _), x0, if_neg hn9, ckk_y h6.2.2.1.1.1, k_isGood h6.1 h6.2.1 h6.2.2.1 h6.2.2.2.1 q1 q2, bd_s]
          cases hg : gv M l up r
          · refine ⟨st, ⟨hI1, fun q hq h9q => ?_⟩, by rw [if_pos bFn, go]⟩
            rcases List.mem_append.mp hq with hq | hq
            · rw [sdNo q (Or.inr (Or.inr hg))]; exact hI2 q hq h9q
            · have : q = r := List.mem_singleton.mp hq
              subst this; exact absurd h9q hn9
          · refine ⟨(st.1, upd st.2 (t + 1) 1), ⟨hI1, fun q hq h9q => ?_⟩, ?_⟩
            · rcases List.mem_append.mp hq with hq | hq
              · by_cases eq : q = t
                · subst eq
                  show upd st.2 (q + 1) 1 (q + 1) = _
                  rw [upd_s, b2_t]
                  unfold sdP
                  have : ((P ++ [r]).any (fun e => decide (M.2 9 e = 10) && (decide (M.2 13 e = Int32.ofNat (rNm q)) && gv M l up e))) = true := List.any_eq_true.mpr ⟨r, List.mem_append.mpr (Or.inr (List.mem_singleton.mpr rfl)), by rw [decide_eq_true h10, decide_eq_true (rOf_inv k1), hg]; rfl⟩
                  rw [this]; simp
                · show upd st.2 (t + 1) 1 (q + 1) = _
                  rw [upd_o _ _ (by omega), sdNo q (Or.inr (Or.inl (fun e => eq (rNm_inj (hrow q (hPin q hq)).1 g1 (e.symm.trans (rOf_inv k1))))))]
                  exact hI2 q hq h9q
              · have : q = r := List.mem_singleton.mp hq
                subst this; exact absurd h9q hn9
            · rw [if_neg bTn, ckk_y (y0 _ _), y4, bd_s, ckk_y (z3 _ _), z3', ck_n (by omega) (by omega), lt_d, jI_cl (by omega), wI_sI, go]
      · have hap : apP l up (chL M ch l c)[i] = false := decide_eq_false ha
        have hf1 : List.filter (apP l up) [(chL M ch l c)[i]] = [] := by simp [hap]
        rw [b2_f ha, if_pos rfl, go, hf1, List.append_nil]
        exact ⟨st, hI, rfl⟩))
    (chL M ch l c).length 0 mFU (upd (kI S (tx + 2)) 0 0, kI S (tx + 3)) (by omega) (chL_fu hQ c) ⟨by show upd (kI S (tx + 2)) 0 0 0 = 0; exact upd_s _ _ _, fun r hr => absurd hr (by simp)⟩
  unfold fk_9_read
  have h2 := wW (upd (kI S (tx + 2)) 0 0) (kI S (tx + 3))
  have hst : sI (sI S (tx + 2) (upd (kI S (tx + 2)) 0 0)) (tx + 3) (kI S (tx + 3)) = sI S (tx + 2) (upd (kI S (tx + 2)) 0 0) := by
    have := sI_id (sI S (tx + 2) (upd (kI S (tx + 2)) 0 0)) (tx + 3)
    rw [kI_sIo _ _ (by omega)] at this
    exact this
  obtain ⟨S', k1, k2⟩ := key
  have k1' : fk_9_read_17 mFU (sI (sI S (tx + 2) (upd (kI S (tx + 2)) 0 0)) (tx + 3) (kI S (tx + 3))) tx va (nxL ra (chL M ch l c) 0) = some S' := k1
  rw [hst] at k1' h2
  refine ⟨S', ?_, k2⟩
  rw [ckk_y t0, t3, bd_s, ckk_y u2, u2']
  refine (ck_n (i := 0) (by decide) (by decide)).trans ?_
  have hw : cWi S (tx + 2) (Int32.toNatClampNeg 0) 0 = sI S (tx + 2) (upd (kI S (tx + 2)) 0 0) := by rw [show Int32.toNatClampNeg 0 = 0 from rfl]; exact cWi_sI _ _ _ _
  rw [lt_d, hw, ckk_y h2.2.2.1.1.1, h2.2.2.1.1.2.2.2.1, bd_s, k_at0 hc h2.2.1]
  exact k1'
end V
