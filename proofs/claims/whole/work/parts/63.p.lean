-- part 63: the reference applies a row
section R
variable {M A : mSt} {mkO : Nat → Option Nat} {sl : Nat → Int32} {n r : Nat} {l : List Nat}
def lEq (M A : mSt) : Prop := ∀ k, (5 ≤ k ∧ k ≤ 16) ∨ (32 ≤ k ∧ k ≤ 36) → A.2 k = M.2 k
theorem lEq_r (e : lEq M A) : rEq M A := fun k h1 h2 => e k (Or.inl ⟨h1, h2⟩)
theorem lEq_mEx {W : Nat → Prop} (e : mEx W M A) (hW : ∀ k, W k → ¬ ((5 ≤ k ∧ k ≤ 16) ∨ (32 ≤ k ∧ k ≤ 36))) : lEq M A := fun k h => (e k (fun q => hW k q h)).2
theorem inLs_l (e : lEq M A) : inLs A = inLs M := by
  have h : ltV A = ltV M := by funext l o p; unfold ltV oV; rw [ltB_r (lEq_r e), e 12 (by omega)]
  funext n l q m
  unfold inLs
  rw [h, thN_r (lEq_r e), e 32 (by omega), e 33 (by omega), e 34 (by omega), e 35 (by omega), e 36 (by omega), e 12 (by omega)]
theorem liL_l (e : lEq M A) : liL A = liL M := by
  funext n l q; unfold liL; rw [inLs_l e, obL_r (lEq_r e)]
theorem lsM_l (h : lsM M n) (e : lEq M A) : lsM A n := by
  unfold lsM; rw [e 32 (by omega), e 33 (by omega), e 34 (by omega), e 6 (by omega)]; exact h
theorem vbL_r (e : rEq M A) : vbL A = vbL M := by
  have h : bnd A = bnd M := by funext x; unfold bnd; rw [e 9 (by decide) (by decide), e 13 (by decide) (by decide)]
  funext V; unfold vbL; rw [h]
theorem m_isOnPart {s : Nat} (hs : s < 19) : fm_isOnPart (Int32.ofNat s) = some (if ruS (Int32.ofNat s) = 0 then 0 else 1) := by
  have key : ∀ s, s < 19 → fm_isOnPart (Int32.ofNat s) = some (if ruS (Int32.ofNat s) = 0 then 0 else 1) := by decide +kernel
  exact key s hs
theorem rng_ext {L : List Nat} {α : Type} {p : Nat → Bool} {Q : Nat → Bool} {f : Nat → α} {g : Nat → α} (h1 : ∀ k (h : k < L.length), p k = Q L[k]) (h2 : ∀ k (h : k < L.length), f k = g L[k]) : ((List.range L.length).filter p).map f = (L.filter Q).map g := by
  have key : ∀ N, N ≤ L.length → ((List.range N).filter p).map f = ((L.take N).filter Q).map g := by
    intro N
    induction N with
    | zero => intro _; simp
    | succ N ih =>
      intro hN
      have hlt : N < L.length := by omega
      rw [rng_flt, take_app hlt, List.map_append, List.filter_append, List.map_append, ih (by omega), h1 N hlt]
      congr 1
      cases hq : Q L[N]
      · simp [hq]
      · simp [hq, h2 N hlt]
  have := key L.length (Nat.le_refl _)
  rwa [List.take_length] at this
/-- what an apply may change -/
def sc2 : Nat → Prop := fun k => 47 ≤ k ∧ k ≠ 76 ∧ (k < 71 ∨ 73 < k)
def wAp : Nat → Prop := fun k => wMid k ∨ (27 ≤ k ∧ k ≤ 30) ∨ (37 ≤ k ∧ k ≤ 41) ∨ (47 ≤ k ∧ k ≠ 76 ∧ (k < 71 ∨ 73 < k))
theorem mR_app (h : mR M mkO sl n l) (hr : nxt M l r) {B : mSt} (e : rEq M B) (ha : apd M B n r l) : mR B mkO sl n (l ++ [r]) := by
  obtain ⟨hA, hc, h2, h23⟩ := h
  have hcl := cl_app hc hr
  refine ⟨rA_r e hA, cl_r e hcl, ⟨h2.1, cl_len hcl, fun i hi => ?_⟩, ?_⟩
  · rw [ha.1]
    by_cases hil : i < l.length
    · have e1 : (l ++ [r])[i] = l[i] := List.getElem_append_left hil
      rw [e1, upd_o _ _ (by omega)]
      exact h2.2.2 i hil
    · have hi2 : i = l.length := by rw [List.length_append, List.length_singleton] at hi; omega
      subst hi2
      have e1 : (l ++ [r])[l.length] = r := by rw [List.getElem_append_right (Nat.le_refl _)]; simp
      rw [e1, upd_s]
      exact ⟨rfl, hr.1.1⟩
  · rw [ha.2.1, upd_s, List.length_append, List.length_singleton]
theorem apd_e {B C : mSt} {W : Nat → Prop} (h : apd M B n r l) (e : mEx W B C) (hW : ∀ k, W k → ¬ wMid k) : apd M C n r l := by
  have f : ∀ k, wMid k → C.2 k = B.2 k := fun k hk => (e k (fun q => hW k q hk)).2
  unfold apd
  rw [f 24 (by unfold wMid; omega), f 23 (by unfold wMid; omega), f 20 (by unfold wMid; omega), f 18 (by unfold wMid; omega), f 19 (by unfold wMid; omega)]
  exact h
/-- the last step: turns of lists -/
theorem m_apEnd (h : mR M mkO sl n l) (hls : lsM M n) (hr : nxt M l r) {B : mSt} (eB : mEx (fun k => (47 ≤ k ∧ k ≠ 76 ∧ (k < 71 ∨ 73 < k)) ∨ wMid k) M B) (ha : apd M B n r l) (hK : ∀ q, q < 4 → inK B q (liL M n l q)) {Wt : List Nat} (hW : mWt B n Wt) (hoW : otW M B n) {E' F : List En} (hF : mTu M n F) {T : mSt} (eT : mEx (fun k => ((47 ≤ k ∧ k ≠ 76 ∧ (k < 71 ∨ 73 < k)) ∧ k ≠ 65 ∧ k ≠ 66) ∨ wNw k) B T) (hE : mNw T n E') (hoN : otN B T n) : ∃ C, fm_apply_559 T (Int32.ofNat n) (Int32.ofNat r) = some C ∧ mEx wAp M C ∧ apd M C n r l ∧ mWt C n Wt ∧ otW M C n ∧ mNw C n E' ∧ otN M C n ∧ mTu C n ((tuA r (liL M n l) (liL M n (l ++ [r])) 4).foldl (adE 200) F) ∧ otT M C n := by
  have hlB : lEq M B := lEq_mEx eB (fun k hk => by unfold wMid at hk; omega)
  have hRB := mR_app h hr (lEq_r hlB) ha
  have kT : kEq B T := kEq_mEx eT (fun k hk => by unfold wNw at hk; omega)
  have lT : lEq B T := lEq_mEx eT (fun k hk => by unfold wNw at hk; omega)
  have hRT := mR_k hRB kT
  have hlsT := lsM_k (lsM_l hls hlB) kT
  have hFB : mTu B n F := mTu_e hF eB (fun k hk => by unfold wMid at hk; omega)
  have hFT : mTu T n F := mTu_e hFB eT (fun k hk => by unfold wNw at hk; omega)
  have hKT : ∀ q, q < 4 → inK T q (liL M n l q) := fun q hq => by
    unfold inK
    rw [(eT 66 (by unfold wNw; omega)).2, (eT 65 (by unfold wNw; omega)).2]; exact hK q hq
  obtain ⟨C, c1, c2, c3, c4⟩ := m_tellLists hRT hlsT hr.1.1 (old := liL M n l) (fun q => ⟨liL_len h.1 h.2.1 q, fun x hx => cl_lt h.2.1 x (obL_mem.mp (List.mem_filter.mp hx).1).1⟩) hFT hKT
  rw [liL_l lT, liL_l hlB] at c3
  refine ⟨C, ?_, ?_, ?_, ?_, ?_, mNw_e hE c2 (fun k hk => by unfold wY wF wTu at hk; omega), ?_, c3, ?_⟩
  · unfold fm_apply_559; rw [c1, bd_s]
  · refine mEx_trans (mEx_mono eB (fun k hk => ?_)) (mEx_trans (mEx_mono eT (fun k hk => ?_)) (mEx_mono c2 (fun k hk => ?_)))
    · unfold wAp; rcases hk with hk | hk
      · omega
      · exact Or.inl hk
    · unfold wAp; unfold wNw at hk; omega
    · unfold wAp; unfold wY wF wTu at hk; omega
  · exact apd_e (apd_e ha eT (fun k hk => by unfold wNw at hk; unfold wMid; omega)) c2 (fun k hk => by unfold wY wF wTu at hk; unfold wMid; omega)
  · unfold mWt
    rw [(c2 25 (by unfold wY wF wTu; omega)).2, (c2 26 (by unfold wY wF wTu; omega)).2, (eT 25 (by unfold wNw; omega)).2, (eT 26 (by unfold wNw; omega)).2]
    exact hW
  · intro n' hne
    rw [(c2 25 (by unfold wY wF wTu; omega)).2, (c2 26 (by unfold wY wF wTu; omega)).2, (eT 25 (by unfold wNw; omega)).2, (eT 26 (by unfold wNw; omega)).2]
    exact hoW n' hne
  · exact otN_trans (otN_mEx eB (fun k hk => by unfold wMid at hk; omega) n) (otN_trans hoN (otN_mEx c2 (fun k hk => by unfold wY wF wTu at hk; omega) n))
  · exact otT_trans (otT_mEx eB (fun k hk => by unfold wMid at hk; omega) n) (otT_trans (otT_mEx eT (fun k hk => by unfold wNw at hk; omega) n) c4)
theorem b2_eq {p q : Prop} [Decidable p] [Decidable q] : b2 p = b2 q ↔ (p ↔ q) := by
  unfold b2
  by_cases hp : p <;> by_cases hq : q <;> simp [hp, hq]
theorem m_apply (h : mR M mkO sl n l) (hls : lsM M n) (hr : nxt M l r) {Wt : List Nat} (hW : mWt M n Wt) {E F : List En} (hE : mNw M n E) (hF : mTu M n F) : ∃ C, fm_apply M (Int32.ofNat n) (Int32.ofNat r) = some C ∧ mEx wAp M C ∧ apd M C n r l ∧ mWt C n (Wt.filter (fun q => decide (q ≠ r))) ∧ otW M C n ∧ mNw C n ((nwC M mkO r (sbj M r) (sgt M mkO sl l (sbj M r)) (sgt M mkO sl (l ++ [r]) (sbj M r))).foldl (adE 250) E) ∧ otN M C n ∧ mTu C n ((tuA r (liL M n l) (liL M n (l ++ [r])) 4).foldl (adE 200) F) ∧ otT M C n := by
  have h' := h
  obtain ⟨hA, hc, h2, h23⟩ := h
  have hn := h2.1
  have hr1 := hr.1.1
  have hcl := cl_app hc hr
  have hmt := sbj_md hA hr.1
  have hnt := sbj_nt hA hr.1
  have en : ∀ k : Nat, Int32.ofNat k + 1 = Int32.ofNat (k + 1) := fun k => by rw [show (1 : Int32) = Int32.ofNat 1 from rfl, jI_add]
  obtain ⟨s, hs, es⟩ := (hA.1 _ hmt).1
  have ht1 := hmt.1
  have e0 : fm_apply M (Int32.ofNat n) (Int32.ofNat r) = fm_apply_69 M (Int32.ofNat n) (Int32.ofNat r) (Int32.ofNat (sbj M r)) (M.2 9 (sbj M r)) (if ruS (M.2 9 (sbj M r)) = 0 then 0 else 1) (nmT M (sbj M r)) := by
    have e1 : fm_apply M (Int32.ofNat n) (Int32.ofNat r) = fm_apply_35 M (Int32.ofNat n) (Int32.ofNat r) (Int32.ofNat (sbj M r)) := by
      unfold fm_apply fm_apply_22
      rw [ck_n hr1 (by omega), rd_n _ _ (by omega)]
      have tu : tuS (M.2 9 r) → ck (Int32.ofNat r) 1000 (bd (fm_rowOf (rd M 13 (Int32.ofNat r))) fun r1 => fm_apply_35 M (Int32.ofNat n) (Int32.ofNat r) r1) = fm_apply_35 M (Int32.ofNat n) (Int32.ofNat r) (Int32.ofNat (sbj M r)) := fun ht => by
        rw [ck_n hr1 (by omega), rd_n _ _ (by omega), m_rowOf, bd_s, (sbj_tu hA hr.1 ht).2.1]; rfl
      by_cases h13 : M.2 9 r = 13
      · rw [if_pos h13]; exact tu (Or.inl h13)
      · rw [if_neg h13, ck_n hr1 (by omega)]
        by_cases h14 : M.2 9 r = 14
        · rw [if_pos h14]; exact tu (Or.inr h14)
        · rw [if_neg h14, sbj_no (fun q => q.elim h13 h14)]
    rw [e1]
    unfold fm_apply_35 nmT
    rw [ck_n ht1 (by omega), lt_d, rd_n _ _ (by omega), es, m_isOnPart hs, bd_s, ← es]
    by_cases h0 : M.2 9 (sbj M r) = 0
    · rw [if_pos h0, m_nameOf ht1, bd_s, if_pos h0]
    · rw [if_neg h0, ck_n ht1 (by omega), rd_n _ _ (by omega), if_neg h0]
  rw [e0]
  unfold fm_apply_69
  rw [ck_n hn (by omega), lt_d, rd_n _ _ (by omega), h23]
  have wk : ∀ k, wK k → (47 ≤ k ∧ k ≠ 76 ∧ (k < 71 ∨ 73 < k)) := fun k hk => by unfold wK wF at hk; omega
  by_cases hp : ruS (M.2 9 (sbj M r)) = 0
  · rw [if_pos hp, if_pos rfl]
    by_cases h11 : M.2 9 (sbj M r) = 11
    · -- a move
      rw [if_pos h11, h11]
      obtain ⟨B1, b1, b2', b3, b4⟩ := m_findParents (mEx_refl sc M) h2 (jOkL_cl hA hc) hA.2.2.2 (kInj_cl hA hc) (slK_cl hA hc) (ob48 hA hc) (mvOk_cl hA hc)
      have h48 : (obL M l).length ≤ 48 := by rw [obL_obS hA hc]; exact obS_len l 48
      obtain ⟨s', k1, k2, k3⟩ := m_keepP (Int32.ofNat n) (Int32.ofNat r) (Int32.ofNat (sbj M r)) 11 0 (nmT M (sbj M r)) (Int32.ofNat l.length) 0 h48 (obL M l).length 0 mFU B1 (by omega) (Nat.lt_of_le_of_lt h48 (by decide)) b3.1 (fun k hk => absurd hk (by omega))
      have k1' : fm_apply_175 mFU B1 (Int32.ofNat n) (Int32.ofNat r) (Int32.ofNat (sbj M r)) 11 0 (nmT M (sbj M r)) (Int32.ofNat l.length) 0 0 = _ := k1
      rw [b1, bd_s, k1']
      have eS2 : mEx sc2 M s' := mEx_trans (mEx_mono b2' (fun k hk => by unfold wPa at hk; unfold sc2; omega)) (mEx_mono k2 (fun k hk => by unfold sc2; omega))
      have eS : mEx sc M s' := mEx_mono eS2 (fun k hk => hk.1)
      obtain ⟨B, m1, m2, m3, m4, m5, m6⟩ := m_mid h' hls eS hr hW (Int32.ofNat (sbj M r)) 11 0 (nmT M (sbj M r)) 0
      rw [m1]
      have eB : mEx (fun k => (47 ≤ k ∧ k ≠ 76 ∧ (k < 71 ∨ 73 < k)) ∨ wMid k) M B := mEx_trans (mEx_mono eS2 (fun k hk => Or.inl hk)) (mEx_mono m2 (fun k hk => hk.elim (fun q => Or.inl (wk k q)) Or.inr))
      have rB : rEq M B := lEq_r (lEq_mEx eB (fun k hk => by unfold wMid at hk; omega))
      have hRB := mR_app h' hr rB m3
      obtain ⟨hAB, hcB, h2B, h23B⟩ := hRB
      have hlen : (l ++ [r]).length = l.length + 1 := by rw [List.length_append, List.length_singleton]
      obtain ⟨C, c1, c2, c3, c4⟩ := m_findParents (mEx_refl sc B) h2B (jOkL_cl hAB hcB) hAB.2.2.2 (kInj_cl hAB hcB) (slK_cl hAB hcB) (ob48 hAB hcB) (mvOk_cl hAB hcB)
      rw [hlen] at c1
      rw [obL_r rB] at c3 c4
      rw [mvL_r rB, paL_r rB] at c4
      unfold apRest
      rw [if_pos rfl, if_pos rfl, en, c1, bd_s]
      have hne0 : M.2 9 r ≠ 0 := fun q => by
        have e := sbj_no (M := M) (r := r) (by rw [q]; unfold tuS; decide)
        rw [e, q] at h11; exact absurd h11 (by decide)
      have hob : obL M (l ++ [r]) = obL M l := by
        unfold obL
        rw [List.filter_append, List.filter_cons]
        have : mkP M r = false := decide_eq_false hne0
        rw [this]; simp
      rw [hob] at c3 c4
      have hEC : mNw C n E := mNw_e (mNw_e hE eB (fun k hk => by unfold wMid at hk; omega)) c2 (fun k hk => by unfold wPa at hk; omega)
      obtain ⟨T, t1, t2, t3, t4⟩ := m_sameP hn hr1 h48 (nm := fun k => C.2 55 k) (obL M l).length 0 mFU C E (by omega) (Nat.lt_of_le_of_lt h48 (by decide)) c3.1 (fun k _ => rfl) hEC
      have t1' : fm_apply_483 mFU C (Int32.ofNat n) (Int32.ofNat r) 0 = fm_apply_559 T (Int32.ofNat n) (Int32.ofNat r) := t1
      rw [t1']
      have hmk : ∀ k (hk : k < (obL M l).length), ∃ j, mkO j = some (obL M l)[k] ∧ (slF mkO (Int32.ofNat (rNm (obL M l)[k]))).getD 0 = j := fun k hk => by
        have hml := obL_mem.mp (List.getElem_mem hk)
        obtain ⟨⟨j, _, j2, _⟩, _⟩ := (hA.1 _ (cl_mem hc hml.1)).2.2.2.2.1 hml.2
        exact ⟨j, j2, by rw [slF_mk hA.2.1.2.1 (fun j m h => ⟨(hA.2.1.1 j m h).1, (hA.2.1.1 j m h).2.1.1⟩) j2]; rfl⟩
      have h64 : ∀ k (hk : k < (obL M l).length), C.2 64 k = nmP mkO (paL M mkO sl (mvL M l)) (obL M l)[k] := fun k hk => by
        obtain ⟨j, j1, j2⟩ := hmk k hk
        unfold nmP
        rw [(c2 64 (by unfold wPa; omega)).2, (m2 64 (by unfold wK wF wMid; omega)).2, k3 k hk, j2]
        exact b4 k hk j j1
      have h56 : ∀ k (hk : k < (obL M l).length), C.2 56 k = nmP mkO (paL M mkO sl (mvL M (l ++ [r]))) (obL M l)[k] := fun k hk => by
        obtain ⟨j, j1, j2⟩ := hmk k hk
        unfold nmP
        rw [j2]
        exact c4 k hk j j1
      have hD : (((List.range (obL M l).length).drop 0).filter (fun k => decide (C.2 64 k ≠ C.2 56 k))).map (fun k => (Int32.ofNat (rNm r), C.2 55 k, (6 : Int32), (0 : Int32))) = nwC M mkO r (sbj M r) (sgt M mkO sl l (sbj M r)) (sgt M mkO sl (l ++ [r]) (sbj M r)) := by
        rw [nw_move hA hc hr h11, hob, List.drop_zero]
        exact rng_ext (fun k hk => by rw [h64 k hk, h56 k hk]) (fun k hk => by rw [c3.2 k hk])
      rw [hD] at t3
      exact m_apEnd h' hls hr eB m3 m6 m4 m5 hF (mEx_trans (mEx_mono c2 (fun k hk => by unfold wPa at hk; omega)) (mEx_mono t2 (fun k hk => Or.inr hk))) t3 (otN_trans (otN_mEx c2 (fun k hk => by unfold wPa at hk; omega) n) t4)
    · -- makes, drops, leases
      rw [if_neg h11]
      obtain ⟨B1, b1, b2'⟩ := m_isThere (mEx_refl sc M) h2 (jOkL_cl hA hc) (nmT M (sbj M r))
      rw [b1, bd_s, lt_d, lt_d]
      have eS2 : mEx sc2 M B1 := mEx_mono b2' (fun k hk => by unfold wJ at hk; unfold sc2; omega)
      have eS : mEx sc M B1 := mEx_mono eS2 (fun k hk => hk.1)
      obtain ⟨B, m1, m2, m3, m4, m5, m6⟩ := m_mid h' hls eS hr hW (Int32.ofNat (sbj M r)) (M.2 9 (sbj M r)) 0 (nmT M (sbj M r)) (b2 (thN M l (nmT M (sbj M r)) = true))
      rw [m1]
      have eB : mEx (fun k => (47 ≤ k ∧ k ≠ 76 ∧ (k < 71 ∨ 73 < k)) ∨ wMid k) M B := mEx_trans (mEx_mono eS2 (fun k hk => Or.inl hk)) (mEx_mono m2 (fun k hk => hk.elim (fun q => Or.inl (wk k q)) Or.inr))
      have rB : rEq M B := lEq_r (lEq_mEx eB (fun k hk => by unfold wMid at hk; omega))
      have hRB := mR_app h' hr rB m3
      obtain ⟨hAB, hcB, h2B, h23B⟩ := hRB
      have hlen : (l ++ [r]).length = l.length + 1 := by rw [List.length_append, List.length_singleton]
      obtain ⟨C, c1, c2⟩ := m_isThere (mEx_refl sc B) h2B (jOkL_cl hAB hcB) (nmT M (sbj M r))
      rw [hlen, thN_r rB] at c1
      unfold apRest
      rw [if_pos rfl, if_neg h11, en, c1, bd_s, lt_d, lt_d]
      have hEC : mNw C n E := mNw_e (mNw_e hE eB (fun k hk => by unfold wMid at hk; omega)) c2 (fun k hk => by unfold wJ at hk; omega)
      have hru := (ru_of hA hmt).2.2.2.2.2.2.2.mp hp
      have hsg : (M.2 9 (sbj M r) = 0 ∨ M.2 9 (sbj M r) = 12) → ∀ u i, sgt M mkO sl u (sbj M r) i = if i = 0 then b2 (thN M u (nmT M (sbj M r)) = true) else 0 := fun h0 u i => by
        unfold sgt nmT
        rcases h0 with h0 | h0
        · rw [if_pos h0, if_pos h0]
        · have n0 : ¬ M.2 9 (sbj M r) = 0 := by rw [h0]; decide
          rw [if_neg n0, if_pos h0, if_neg n0]
      have hsn : ¬ (M.2 9 (sbj M r) = 0 ∨ M.2 9 (sbj M r) = 12) → (∀ u i, sgt M mkO sl u (sbj M r) i = 0) ∧ thN M (l ++ [r]) (nmT M (sbj M r)) = thN M l (nmT M (sbj M r)) := fun h0 => by
        have h0' : M.2 9 (sbj M r) ≠ 0 := fun q => h0 (Or.inl q)
        have h12' : M.2 9 (sbj M r) ≠ 12 := fun q => h0 (Or.inr q)
        refine ⟨fun u i => ?_, th_same hA hr (fun q => absurd q h0') (fun q => absurd q h12')⟩
        have h1718 : M.2 9 (sbj M r) = 17 ∨ M.2 9 (sbj M r) = 18 := by
          rcases hru with q | q | q | q | q | q | q
          · exact absurd q h0'
          · exact absurd q h11
          · exact absurd q h12'
          · exact absurd (Or.inl q) hnt
          · exact absurd (Or.inr q) hnt
          · exact Or.inl q
          · exact Or.inr q
        unfold sgt
        rcases h1718 with q | q <;> (rw [q]; simp)
      by_cases hth : b2 (thN M l (nmT M (sbj M r)) = true) = b2 (thN M (l ++ [r]) (nmT M (sbj M r)) = true)
      · rw [if_pos hth]
        have hD : nwC M mkO r (sbj M r) (sgt M mkO sl l (sbj M r)) (sgt M mkO sl (l ++ [r]) (sbj M r)) = [] := by
          unfold nwC
          rw [if_neg h11, if_neg]
          rw [Bool.not_eq_true, List.any_eq_false]
          intro i _
          by_cases h0 : M.2 9 (sbj M r) = 0 ∨ M.2 9 (sbj M r) = 12
          · rw [hsg h0, hsg h0, hth]; simp
          · rw [(hsn h0).1, (hsn h0).1]; simp
        rw [hD]
        exact m_apEnd h' hls hr eB m3 m6 m4 m5 hF (mEx_mono c2 (fun k hk => by unfold wJ at hk; omega)) hEC (otN_mEx c2 (fun k hk => by unfold wJ at hk; omega) n)
      · rw [if_neg hth]
        have h0 : M.2 9 (sbj M r) = 0 ∨ M.2 9 (sbj M r) = 12 := Classical.byContradiction fun q => hth (by rw [(hsn q).2])
        obtain ⟨T, t1, t2, t3, t4⟩ := m_tell hn hr1 hEC (nmT M (sbj M r)) 7
        rw [t1, bd_s]
        have hD : nwC M mkO r (sbj M r) (sgt M mkO sl l (sbj M r)) (sgt M mkO sl (l ++ [r]) (sbj M r)) = [(Int32.ofNat (rNm r), nmT M (sbj M r), 7, 0)] := by
          unfold nwC
          rw [if_neg h11, if_pos, if_pos h0]
          rw [List.any_eq_true]
          refine ⟨0, List.mem_range.mpr (by decide), decide_eq_true ?_⟩
          rw [hsg h0, hsg h0, if_pos rfl, if_pos rfl]; exact hth
        rw [hD]
        exact m_apEnd h' hls hr eB m3 m6 m4 m5 hF (mEx_trans (mEx_mono c2 (fun k hk => by unfold wJ at hk; omega)) (mEx_mono t2 (fun k hk => Or.inr hk))) t3 (otN_trans (otN_mEx c2 (fun k hk => by unfold wJ at hk; omega) n) t4)
  · -- a part
    obtain ⟨j, m, kd, pp, b1, b2', b3, b4, b5, b6, b7, b8⟩ := row_pt hA hmt hp
    have hn0 : M.2 9 (sbj M r) ≠ 0 := fun q => by rw [q] at hp; exact hp (by decide)
    have hn11 : M.2 9 (sbj M r) ≠ 11 := fun q => by rw [q] at hp; exact hp (by decide)
    have hn12 : M.2 9 (sbj M r) ≠ 12 := fun q => by rw [q] at hp; exact hp (by decide)
    have hnm : nmT M (sbj M r) = Int32.ofNat (rNm m) := by unfold nmT; rw [if_neg hn0, b2']
    have hrs : ruS (M.2 9 (sbj M r)) = 65 ∨ ruS (M.2 9 (sbj M r)) = 66 ∨ ruS (M.2 9 (sbj M r)) = 67 ∨ ruS (M.2 9 (sbj M r)) = 76 ∨ ruS (M.2 9 (sbj M r)) = 77 ∨ ruS (M.2 9 (sbj M r)) = 83 ∨ ruS (M.2 9 (sbj M r)) = 84 := by
      have key : ∀ s, s < 19 → ruS (Int32.ofNat s) = 0 ∨ ruS (Int32.ofNat s) = 65 ∨ ruS (Int32.ofNat s) = 66 ∨ ruS (Int32.ofNat s) = 67 ∨ ruS (Int32.ofNat s) = 76 ∨ ruS (Int32.ofNat s) = 77 ∨ ruS (Int32.ofNat s) = 83 ∨ ruS (Int32.ofNat s) = 84 := by decide +kernel
      rw [es] at hp ⊢
      exact (key s hs).resolve_left hp
    have hnw := nw_part hA hc hr hp
    rw [if_neg hp, if_neg n10, ck_n ht1 (by omega), rd_n _ _ (by omega), b3, hnm]
    obtain ⟨B1, l1, l2, l3, -⟩ := m_lookR h' (mEx_refl sc M) b1 hrs l.length (Nat.le_refl _)
    rw [List.take_length] at l3
    rw [b2', b3] at hnw
    generalize hVd : vaL M l (Int32.ofNat (rNm m)) (Int32.ofNat pp) (ruS (M.2 9 (sbj M r))) = V at l3 hnw
    have hVok : vOk V := by rw [← hVd]; exact vaL_ok hc _ _ _
    rw [l1, bd_s, lt_d]
    have eL2 : mEx sc2 M (pu B1 61 (B1.1 49)) := mEx_trans (mEx_mono l2 (fun k hk => by unfold wL at hk; unfold sc2; omega)) (mEx_pu (by unfold sc2; omega) _)
    have eL : mEx sc M (pu B1 61 (B1.1 49)) := mEx_mono eL2 (fun k hk => hk.1)
    have pL : inP (pu B1 61 (B1.1 49)) V := inP_e l3 (mEx_pu (W := fun k => k = 61) rfl _) (by omega) (by omega) (by omega)
    obtain ⟨s', k1, k2, k3⟩ := m_keepV hVok (Int32.ofNat n) (Int32.ofNat r) (Int32.ofNat (sbj M r)) (M.2 9 (sbj M r)) 1 (Int32.ofNat (rNm m)) (Int32.ofNat l.length) 0 V.length 0 mFU (pu B1 61 (B1.1 49)) (by omega) (Nat.lt_of_le_of_lt hVok.1 (by decide)) eL pL (by rw [pu_s]; exact l3.1) (fun k _ hk => absurd hk (by omega))
    have k1' : fm_apply_113 mFU (pu B1 61 (B1.1 49)) (Int32.ofNat n) (Int32.ofNat r) (Int32.ofNat (sbj M r)) (M.2 9 (sbj M r)) 1 (Int32.ofNat (rNm m)) (Int32.ofNat l.length) 0 0 = _ := k1
    rw [k1']
    have eS2 : mEx sc2 M s' := mEx_trans eL2 (mEx_mono k2 (fun k hk => by unfold sc2; omega))
    have eS : mEx sc M s' := mEx_mono eS2 (fun k hk => hk.1)
    obtain ⟨B, m1, m2, m3, m4, m5, m6⟩ := m_mid h' hls eS hr hW (Int32.ofNat (sbj M r)) (M.2 9 (sbj M r)) 1 (Int32.ofNat (rNm m)) 0
    rw [m1]
    have eB : mEx (fun k => (47 ≤ k ∧ k ≠ 76 ∧ (k < 71 ∨ 73 < k)) ∨ wMid k) M B := mEx_trans (mEx_mono eS2 (fun k hk => Or.inl hk)) (mEx_mono m2 (fun k hk => hk.elim (fun q => Or.inl (wk k q)) Or.inr))
    have rB : rEq M B := lEq_r (lEq_mEx eB (fun k hk => by unfold wMid at hk; omega))
    have hRB := mR_app h' hr rB m3
    have hlen : (l ++ [r]).length = l.length + 1 := by rw [List.length_append, List.length_singleton]
    have hptB : ptO B mkO j m kd pp (ruS (M.2 9 (sbj M r))) := by unfold ptO; rw [rB 12 (by decide) (by decide), rB 6 (by decide) (by decide)]; exact b1
    obtain ⟨C, c1, c2, c3, -⟩ := m_lookR hRB (mEx_refl sc B) hptB hrs (l ++ [r]).length (Nat.le_refl _)
    rw [List.take_length, vaL_r rB] at c3
    generalize hVd' : vaL M (l ++ [r]) (Int32.ofNat (rNm m)) (Int32.ofNat pp) (ruS (M.2 9 (sbj M r))) = V' at c3 hnw
    have hVok' : vOk V' := by rw [← hVd']; exact vaL_ok hcl _ _ _
    rw [hlen] at c1
    have q3 : inQ C (vbL M V) := inQ_e (inQ_e k3 m2 (by unfold wK wF wMid; omega) (by unfold wK wF wMid; omega) (by unfold wK wF wMid; omega)) c2 (by unfold wL; omega) (by unfold wL; omega) (by unfold wL; omega)
    have hvl : (vbL M V).length = V.length := by unfold vbL; rw [List.length_map]
    have hvl' : (vbL M V').length = V'.length := by unfold vbL; rw [List.length_map]
    have e11 : rd B 11 (Int32.ofNat (sbj M r)) = Int32.ofNat pp := by rw [rd_n _ _ (by omega), rB 11 (by decide) (by decide), b3]
    unfold apRest
    rw [if_neg n10, ck_n ht1 (by omega), e11, en, c1, bd_s, c3.1, q3.1, hvl]
    unfold fm_apply_377
    have hl1 := hVok.1
    have hl2 := hVok'.1
    have e42 : (if Int32.ofNat V'.length = Int32.ofNat V.length then fm_apply_382 mFU C (Int32.ofNat n) (Int32.ofNat r) (Int32.ofNat (sbj M r)) (Int32.ofNat (rNm m)) 1 0 else fm_apply_382 mFU C (Int32.ofNat n) (Int32.ofNat r) (Int32.ofNat (sbj M r)) (Int32.ofNat (rNm m)) 0 0) = fm_apply_442 C (Int32.ofNat n) (Int32.ofNat r) (Int32.ofNat (sbj M r)) (Int32.ofNat (rNm m)) (b2 (vbL M V = vbL M V')) := by
      by_cases hll : V'.length = V.length
      · rw [if_pos (by rw [hll])]
        have := m_sameV (M := B) hVok' (Int32.ofNat n) (Int32.ofNat r) (Int32.ofNat (sbj M r)) (Int32.ofNat (rNm m)) (W := vbL M V) (by rw [hvl, hll]) (s := C) (mEx_mono c2 (fun k hk => by unfold wL at hk; unfold sc; omega)) c3 q3 V'.length 0 mFU (by omega) (Nat.lt_of_le_of_lt hl2 (by decide)) (fun k _ hk => absurd hk (by omega))
        rw [vbL_r rB] at this
        exact this
      · rw [if_neg (fun q => hll ((jI_inj (by omega) (by omega)).mp q))]
        have hne : ¬ vbL M V = vbL M V' := fun q => hll (by rw [← hvl', ← q, hvl])
        rw [b2_f hne]
        have : mFU = (mFU - 1) + 1 := by decide
        rw [this, fm_apply_382]
        split
        · rfl
        · rw [if_pos rfl]
    rw [e42]
    unfold fm_apply_442 fm_apply_461
    have hEC : mNw C n E := mNw_e (mNw_e hE eB (fun k hk => by unfold wMid at hk; omega)) c2 (fun k hk => by unfold wL at hk; omega)
    by_cases hsame : vbL M V = vbL M V'
    · have hD : nwC M mkO r (sbj M r) (sgt M mkO sl l (sbj M r)) (sgt M mkO sl (l ++ [r]) (sbj M r)) = [] := by
        unfold nwC
        rw [if_neg hn11, if_neg]
        rw [Bool.not_eq_true, List.any_eq_false]
        intro i hi
        rw [hnw.mpr hsame i (List.mem_range.mp hi)]; simp
      rw [b2_t hsame, if_neg n10, hD]
      exact m_apEnd h' hls hr eB m3 m6 m4 m5 hF (mEx_mono c2 (fun k hk => by unfold wL at hk; omega)) hEC (otN_mEx c2 (fun k hk => by unfold wL at hk; omega) n)
    · have hD : nwC M mkO r (sbj M r) (sgt M mkO sl l (sbj M r)) (sgt M mkO sl (l ++ [r]) (sbj M r)) = [(Int32.ofNat (rNm r), Int32.ofNat (rNm m), Int32.ofNat pp, 0)] := by
        unfold nwC
        rw [if_neg hn11, if_pos, hnm, if_neg (fun q => q.elim hn0 hn12), b3]
        refine Classical.byContradiction fun q => hsame (hnw.mp fun i hi => ?_)
        rw [Bool.not_eq_true, List.any_eq_false] at q
        have := q i (List.mem_range.mpr hi)
        simpa using this
      obtain ⟨T, t1, t2, t3, t4⟩ := m_tell hn hr1 hEC (Int32.ofNat (rNm m)) (Int32.ofNat pp)
      have e11' : rd C 11 (Int32.ofNat (sbj M r)) = Int32.ofNat pp := by rw [rd_n _ _ (by omega), (c2 11 (by unfold wL; omega)).2, rB 11 (by decide) (by decide), b3]
      rw [b2_f hsame, if_pos rfl, ck_n ht1 (by omega), e11', t1, bd_s, hD]
      exact m_apEnd h' hls hr eB m3 m6 m4 m5 hF (mEx_trans (mEx_mono c2 (fun k hk => by unfold wL at hk; omega)) (mEx_mono t2 (fun k hk => Or.inr hk))) t3 (otN_trans (otN_mEx c2 (fun k hk => by unfold wL at hk; omega) n) t4)
end R
