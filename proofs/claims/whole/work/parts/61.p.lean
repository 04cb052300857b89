-- part 61: the reference keeps and compares what a part shows
def vOk (V : List (Int32 × Int32)) : Prop := V.length ≤ 1000 ∧ ∀ e ∈ V, e.2 = -1 ∨ ∃ r, r < 1000 ∧ e.2 = Int32.ofNat r
section R
variable {M A : mSt} {mkO : Nat → Option Nat} {sl : Nat → Int32} {n : Nat} {l : List Nat}
theorem kvL_ok {f : Nat → Option Nat} (h : ∀ x r, f x = some r → r < 1000) : vOk (kvL f 64) := by
  refine ⟨Nat.le_trans (kvL_len f 64) (by decide), fun e he => Or.inr ?_⟩
  unfold kvL at he
  obtain ⟨x, _, hx⟩ := List.mem_filterMap.mp he
  cases hf : f x with
  | none => rw [hf] at hx; cases hx
  | some r =>
    rw [hf] at hx
    have hx : (Int32.ofNat x, Int32.ofNat r) = e := Option.some.inj hx
    subst hx
    exact ⟨r, h x r hf, rfl⟩
theorem map_ok {L : List Nat} (h1 : L.length ≤ 1000) (h2 : ∀ q ∈ L, q < 1000) : vOk (L.map (fun r => (M.2 12 r, Int32.ofNat r))) := by
  refine ⟨by rw [List.length_map]; exact h1, fun e he => Or.inr ?_⟩
  obtain ⟨q, hq, rfl⟩ := List.mem_map.mp he
  exact ⟨q, h2 q hq, rfl⟩
theorem vaL_ok {u : List Nat} (hc : cl M u) (o p rl : Int32) : vOk (vaL M u o p rl) := by
  have hlt := cl_lt hc
  have hle := cl_len hc
  unfold vaL
  split
  · exact kvL_ok fun x r h => hlt r (stB_s h).1
  split
  · refine ⟨by simp, fun e he => Or.inl ?_⟩
    simp only [List.mem_cons, List.not_mem_nil, or_false] at he
    rcases he with h | h | h | h | h <;> rw [h]
  split
  · refine ⟨by simp, fun e he => Or.inl ?_⟩
    rw [List.mem_singleton.mp he]
  split
  · refine ⟨by simp, fun e he => ?_⟩
    rw [List.mem_singleton.mp he]
    cases h : ltB M u o p with
    | none => exact Or.inl rfl
    | some q => exact Or.inr ⟨q, hlt q (ltB_s h).1, rfl⟩
  split
  · exact kvL_ok fun x r h => hlt r (kyC_s h).1
  split
  · refine map_ok ?_ fun q hq => ?_
    · rw [len_srt]; exact Nat.le_trans (List.length_filter_le _ _) hle
    · exact hlt q (List.mem_filter.mp (mem_srt.mp hq)).1
  · refine map_ok ?_ fun q hq => ?_
    · refine Nat.le_trans (List.length_filter_le _ _) ?_
      unfold txR
      rw [txL_len, len_srt]
      exact Nat.le_trans (List.length_filter_le _ _) hle
    · exact hlt q (txR_mem.mp (List.mem_filter.mp hq).1).1
theorem m_boundAt (e : mEx sc M A) {V : List (Int32 × Int32)} (hV : vOk V) (hP : inP A V) {k : Nat} (hk : k < V.length) : fm_boundAt A (Int32.ofNat k) = some (bnd M V[k].2) := by
  have hl := hV.1
  unfold fm_boundAt fm_boundAt_40 fm_boundAt_41 bnd
  rw [ck_n (by omega) (by omega), rd_n _ _ (by omega), (hP.2 k hk).2]
  rcases hV.2 _ (List.getElem_mem hk) with h | ⟨r, hr, h⟩
  · rw [h, if_pos rfl, if_pos rfl]
  · rw [h, if_neg (jI_ne (by omega)), if_neg (jI_ne (by omega)), ck_n (by omega) (by omega), ck_n hr (by omega), rd_e e (by decide) (by omega), jI_cl (by omega)]
    by_cases h15 : M.2 9 r = 15
    · rw [if_pos h15, if_pos h15, ck_n (by omega) (by omega), ck_n hr (by omega), rd_e e (by decide) (by omega)]
    · rw [if_neg h15, if_neg h15]
/-- what was shown is kept -/
def inQ (B : mSt) (V : List (Int32 × Int32)) : Prop := B.1 61 = Int32.ofNat V.length ∧ ∀ i (h : i < V.length), B.2 62 i = V[i].1 ∧ B.2 63 i = V[i].2
theorem inP_e {B : mSt} {W : Nat → Prop} {V : List (Int32 × Int32)} (h : inP A V) (e : mEx W A B) (h1 : ¬ W 49) (h2 : ¬ W 50) (h3 : ¬ W 51) : inP B V := by
  unfold inP
  rw [(e 49 h1).1, (e 50 h2).2, (e 51 h3).2]; exact h
theorem inQ_e {B : mSt} {W : Nat → Prop} {V : List (Int32 × Int32)} (h : inQ A V) (e : mEx W A B) (h1 : ¬ W 61) (h2 : ¬ W 62) (h3 : ¬ W 63) : inQ B V := by
  unfold inQ
  rw [(e 61 h1).1, (e 62 h2).2, (e 63 h3).2]; exact h
theorem m_keepV {V : List (Int32 × Int32)} (hV : vOk V) (v1 v2 v3 v4 v5 v6 v7 v8 : Int32) : ∀ (j i fu : Nat) (s : mSt), i + j = V.length → j < fu → mEx sc M s → inP s V → s.1 61 = Int32.ofNat V.length → (∀ k (h : k < V.length), k < i → s.2 62 k = V[k].1 ∧ s.2 63 k = bnd M V[k].2) → ∃ s', fm_apply_113 fu s v1 v2 v3 v4 v5 v6 v7 v8 (Int32.ofNat i) = fm_apply_218 s' v1 v2 v3 v4 v5 v6 v7 v8 ∧ mEx (fun k => k = 62 ∨ k = 63) s s' ∧ inQ s' (vbL M V) := by
  intro j
  induction j with
  | zero =>
    intro i fu s hi hf e hP h61 h0
    obtain ⟨fu, rfl⟩ : ∃ z, fu = z + 1 := ⟨fu - 1, by omega⟩
    have hl := hV.1
    refine ⟨s, ?_, mEx_refl _ _, ?_⟩
    · rw [fm_apply_113, hP.1, if_pos ((jI_le (by omega) (by omega)).mpr (by omega))]
    · unfold vbL
      refine ⟨by rw [List.length_map]; exact h61, fun k hk => ?_⟩
      rw [List.length_map] at hk
      rw [List.getElem_map]
      exact h0 k hk (by omega)
  | succ j ih =>
    intro i fu s hi hf e hP h61 h0
    obtain ⟨fu, rfl⟩ : ∃ z, fu = z + 1 := ⟨fu - 1, by omega⟩
    have hl := hV.1
    have hil : i < V.length := by omega
    have e2 : mEx (fun k => k = 62 ∨ k = 63) s (wr s 62 (Int32.ofNat i) V[i].1) := mEx_wr (by simp) _ _
    have P2 := inP_e hP e2 (by omega) (by omega) (by omega)
    have eM2 : mEx sc M (wr s 62 (Int32.ofNat i) V[i].1) := mEx_trans e (mEx_mono e2 (fun k hk => by unfold sc; omega))
    have e3 : mEx (fun k => k = 62 ∨ k = 63) s (wr (wr s 62 (Int32.ofNat i) V[i].1) 63 (Int32.ofNat i) (bnd M V[i].2)) := mEx_trans e2 (mEx_wr (by simp) _ _)
    obtain ⟨s', a1, a2, a3⟩ := ih (i + 1) fu (wr (wr s 62 (Int32.ofNat i) V[i].1) 63 (Int32.ofNat i) (bnd M V[i].2)) (by omega) (by omega) (mEx_trans e (mEx_mono e3 (fun k hk => by unfold sc; omega))) (inP_e hP e3 (by omega) (by omega) (by omega)) h61 (fun k hk hki => by
      rw [wr_s _ _ (by omega), wr_o _ _ _ (show (62 : Nat) ≠ 63 by decide), wr_s _ _ (by omega), wr_o _ _ _ (show (63 : Nat) ≠ 62 by decide)]
      by_cases hk2 : k = i
      · subst hk2; rw [upd_s, upd_s]; exact ⟨rfl, rfl⟩
      · rw [upd_o _ _ hk2, upd_o _ _ hk2]; exact h0 k hk (by omega))
    refine ⟨s', ?_, mEx_trans e3 a2, a3⟩
    rw [← a1, fm_apply_113, hP.1, if_neg (fun z => absurd ((jI_le (by omega) (by omega)).mp z) (by omega)), ck_n (by omega) (by omega), ck_n (by omega) (by omega), lt_d, rd_n _ _ (by omega), (hP.2 i hil).1, m_boundAt eM2 hV P2 hil, bd_s, ck_n (by omega) (by omega), lt_d, lt_d, show (1 : Int32) = Int32.ofNat 1 from rfl, jI_add]
/-- what was shown is compared with what is shown -/
theorem m_sameV {V W : List (Int32 × Int32)} (hV : vOk V) (v1 v2 v3 v6 : Int32) (hlen : W.length = V.length) {s : mSt} (e : mEx sc M s) (hP : inP s V) (hQ : inQ s W) : ∀ (j i fu : Nat), i + j = V.length → j < fu → (∀ k (h : k < V.length), k < i → W[k]'(by omega) = (V[k].1, bnd M V[k].2)) → fm_apply_382 fu s v1 v2 v3 v6 1 (Int32.ofNat i) = fm_apply_442 s v1 v2 v3 v6 (b2 (W = vbL M V)) := by
  have hl := hV.1
  have no : ∀ (fu i : Nat), 0 < fu → W ≠ vbL M V → fm_apply_382 fu s v1 v2 v3 v6 0 (Int32.ofNat i) = fm_apply_442 s v1 v2 v3 v6 (b2 (W = vbL M V)) := fun fu i hf hne => by
    obtain ⟨fu, rfl⟩ : ∃ z, fu = z + 1 := ⟨fu - 1, by omega⟩
    rw [fm_apply_382, b2_f hne]
    split
    · rfl
    · rw [if_pos rfl]
  intro j
  induction j with
  | zero =>
    intro i fu hi hf h0
    obtain ⟨fu, rfl⟩ : ∃ z, fu = z + 1 := ⟨fu - 1, by omega⟩
    have he : W = vbL M V := by
      unfold vbL
      refine List.ext_getElem (by rw [List.length_map]; exact hlen) fun k k1 k2 => ?_
      rw [List.getElem_map]
      exact h0 k (by omega) (by omega)
    rw [fm_apply_382, hP.1, if_pos ((jI_le (by omega) (by omega)).mpr (by omega)), b2_t he]
  | succ j ih =>
    intro i fu hi hf h0
    obtain ⟨fu, rfl⟩ : ∃ z, fu = z + 1 := ⟨fu - 1, by omega⟩
    have hil : i < V.length := by omega
    have en : Int32.ofNat i + 1 = Int32.ofNat (i + 1) := by rw [show (1 : Int32) = Int32.ofNat 1 from rfl, jI_add]
    obtain ⟨q1, q2⟩ := hQ.2 i (by omega)
    rw [fm_apply_382, hP.1, if_neg (fun z => absurd ((jI_le (by omega) (by omega)).mp z) (by omega)), if_neg (by decide), ck_n (by omega) (by omega), ck_n (by omega) (by omega), rd_n _ _ (by omega), rd_n _ _ (by omega), (hP.2 i hil).1, q1]
    unfold fm_apply_433 fm_apply_434
    by_cases h1 : (W[i]'(by omega)).1 = V[i].1
    · rw [if_pos h1, ck_n (by omega) (by omega), m_boundAt e hV hP hil, bd_s, rd_n _ _ (by omega), q2]
      by_cases h2 : (W[i]'(by omega)).2 = bnd M V[i].2
      · rw [if_pos h2, lt_d, en]
        exact ih (i + 1) fu (by omega) (by omega) (fun k hk hki => by
          by_cases hk2 : k = i
          · subst hk2; exact Prod.ext h1 h2
          · exact h0 k hk (by omega))
      · rw [if_neg h2, lt_d, en]
        refine no fu (i + 1) (by omega) (fun q => h2 ?_)
        have : (W[i]'(by omega)) = (vbL M V)[i]'(by unfold vbL; rw [List.length_map]; exact hil) := by congr 1
        rw [this]
        unfold vbL
        rw [List.getElem_map]
    · rw [if_neg h1, lt_d, en]
      refine no fu (i + 1) (by omega) (fun q => h1 ?_)
      have : (W[i]'(by omega)) = (vbL M V)[i]'(by unfold vbL; rw [List.length_map]; exact hil) := by congr 1
      rw [this]
      unfold vbL
      rw [List.getElem_map]
theorem m_keepP (v1 v2 v3 v4 v5 v6 v7 v8 : Int32) {N : Nat} (hN : N ≤ 48) : ∀ (j i fu : Nat) (s : mSt), i + j = N → j < fu → s.1 54 = Int32.ofNat N → (∀ k, k < i → s.2 64 k = s.2 56 k) → ∃ s', fm_apply_175 fu s v1 v2 v3 v4 v5 v6 v7 v8 (Int32.ofNat i) = fm_apply_218 s' v1 v2 v3 v4 v5 v6 v7 v8 ∧ mEx (fun k => k = 64) s s' ∧ ∀ k, k < N → s'.2 64 k = s.2 56 k := by
  intro j
  induction j with
  | zero =>
    intro i fu s hi hf h54 h0
    obtain ⟨fu, rfl⟩ : ∃ z, fu = z + 1 := ⟨fu - 1, by omega⟩
    refine ⟨s, ?_, mEx_refl _ _, fun k hk => h0 k (by omega)⟩
    rw [fm_apply_175, h54, if_pos ((jI_le (by omega) (by omega)).mpr (by omega))]
  | succ j ih =>
    intro i fu s hi hf h54 h0
    obtain ⟨fu, rfl⟩ : ∃ z, fu = z + 1 := ⟨fu - 1, by omega⟩
    obtain ⟨s', a1, a2, a3⟩ := ih (i + 1) fu (wr s 64 (Int32.ofNat i) (s.2 56 i)) (by omega) (by omega) h54 (fun k hk => by
      rw [wr_s _ _ (by omega), wr_o _ _ _ (by decide)]
      by_cases h : k = i
      · subst h; rw [upd_s]
      · rw [upd_o _ _ h]; exact h0 k (by omega))
    refine ⟨s', ?_, mEx_trans (mEx_wr1 _ _) a2, fun k hk => ?_⟩
    · rw [← a1, fm_apply_175, h54, if_neg (fun z => absurd ((jI_le (by omega) (by omega)).mp z) (by omega)), ck_n (by omega) (by omega), ck_n (by omega) (by omega), lt_d, lt_d, rd_n _ _ (by omega), show (1 : Int32) = Int32.ofNat 1 from rfl, jI_add]
    · rw [a3 k hk, wr_o _ _ _ (by decide)]
/-- news of a move, by places -/
theorem m_sameP (hn : n < 4) {r N : Nat} (hr : r < 1000) (hN : N ≤ 48) {nm : Nat → Int32} : ∀ (j i fu : Nat) (s : mSt) (E : List En), i + j = N → j < fu → s.1 54 = Int32.ofNat N → (∀ k, k < N → s.2 55 k = nm k) → mNw s n E → ∃ s', fm_apply_483 fu s (Int32.ofNat n) (Int32.ofNat r) (Int32.ofNat i) = fm_apply_559 s' (Int32.ofNat n) (Int32.ofNat r) ∧ mEx wNw s s' ∧ mNw s' n (((((List.range N).drop i).filter (fun k => decide (s.2 64 k ≠ s.2 56 k))).map (fun k => (Int32.ofNat (rNm r), nm k, (6 : Int32), (0 : Int32)))).foldl (adE 250) E) ∧ otN s s' n := by
  intro j
  induction j with
  | zero =>
    intro i fu s E hi hf h54 h55 hE
    obtain ⟨fu, rfl⟩ : ∃ z, fu = z + 1 := ⟨fu - 1, by omega⟩
    refine ⟨s, ?_, mEx_refl _ _, ?_, otN_refl _ _⟩
    · rw [fm_apply_483, h54, if_pos ((jI_le (by omega) (by omega)).mpr (by omega))]
    · rw [List.drop_eq_nil_of_le (by rw [List.length_range]; omega)]; exact hE
  | succ j ih =>
    intro i fu s E hi hf h54 h55 hE
    obtain ⟨fu, rfl⟩ : ∃ z, fu = z + 1 := ⟨fu - 1, by omega⟩
    have hd : (List.range N).drop i = i :: (List.range N).drop (i + 1) := by
      rw [List.drop_eq_getElem_cons (by rw [List.length_range]; omega), List.getElem_range]
    have en : Int32.ofNat i + 1 = Int32.ofNat (i + 1) := by rw [show (1 : Int32) = Int32.ofNat 1 from rfl, jI_add]
    rw [hd, List.filter_cons]
    rw [fm_apply_483, h54, if_neg (fun z => absurd ((jI_le (by omega) (by omega)).mp z) (by omega)), ck_n (by omega) (by omega), ck_n (by omega) (by omega), rd_n _ _ (by omega), rd_n _ _ (by omega)]
    unfold fm_apply_524
    by_cases hs : s.2 64 i = s.2 56 i
    · obtain ⟨s', a1, a2, a3, a4⟩ := ih (i + 1) fu s E (by omega) (by omega) h54 h55 hE
      refine ⟨s', ?_, a2, ?_, a4⟩
      · rw [if_pos hs, lt_d, en]; exact a1
      · simpa [hs] using a3
    · obtain ⟨T, t1, t2, t3, t4⟩ := m_tell hn hr hE (nm i) 6
      have f64 := (t2 64 (by unfold wNw; omega)).2
      have f56 := (t2 56 (by unfold wNw; omega)).2
      obtain ⟨s', a1, a2, a3, a4⟩ := ih (i + 1) fu T _ (by omega) (by omega) (by rw [(t2 54 (by unfold wNw; omega)).1]; exact h54) (fun k hk => by rw [(t2 55 (by unfold wNw; omega)).2]; exact h55 k hk) t3
      refine ⟨s', ?_, mEx_trans t2 a2, ?_, otN_trans t4 a4⟩
      · rw [if_neg hs, ck_n (by omega) (by omega), rd_n _ _ (by omega), h55 i (by omega), t1, bd_s, lt_d, en]; exact a1
      · rw [f64, f56] at a3
        simp only [decide_eq_true (show s.2 64 i ≠ s.2 56 i from hs), if_true, List.map_cons, List.foldl_cons]
        exact a3
end R
