-- part 100: letters of rules; a fault on the tape
section V
variable {S S' : cSt} {M M' A : mSt} {x0 n k : Nat}
theorem m_isRule (v : Int32) : fm_isRule v = some (b2 (v = 65 ∨ v = 66 ∨ v = 67 ∨ v = 76 ∨ v = 77 ∨ v = 83 ∨ v = 84)) := by
  unfold fm_isRule fm_isRule_42 fm_isRule_47
  by_cases e1 : v = 76
  · rw [if_pos e1, ckz_1, b2_t (by simp [e1])]
  rw [if_neg e1]
  by_cases e2 : v = 83
  · rw [if_pos e2, ckz_1, b2_t (by simp [e2])]
  rw [if_neg e2]
  by_cases e3 : v = 67
  · rw [if_pos e3, ckz_1, b2_t (by simp [e3])]
  rw [if_neg e3]
  by_cases e4 : v = 66
  · rw [if_pos e4, ckz_1, b2_t (by simp [e4])]
  rw [if_neg e4]
  by_cases e5 : v = 65
  · rw [if_pos e5, ckz_1, b2_t (by simp [e5])]
  rw [if_neg e5]
  by_cases e6 : v = 84
  · rw [if_pos e6, ckz_1, b2_t (by simp [e6])]
  rw [if_neg e6]
  by_cases e7 : v = 77
  · rw [if_pos e7, ckz_1, b2_t (by simp [e7])]
  rw [if_neg e7, ckz_0, b2_f (by simp [e1, e2, e3, e4, e5, e6, e7])]
theorem k_ixGo {b : Nat} {x : Int32} (h23 : kK S b = 23) (h7 : kL S b = 7) : ∀ (j i fu : Nat), i + j = 7 → j < fu → (∀ q, q < i → kI S b q ≠ x) → ∃ r, fk_101_indexOfChar_4cfef_7 S fu b (Int32.ofNat 7) x (Int32.ofNat i) = some r ∧ (0 ≤ r ↔ ∃ q, q < 7 ∧ kI S b q = x) := by
  intro j
  induction j with
  | zero =>
    intro i fu hi hfu h
    obtain ⟨fu, rfl⟩ : ∃ q, fu = q + 1 := ⟨fu - 1, by omega⟩
    refine ⟨-1, ?_, ?_⟩
    · rw [fk_101_indexOfChar_4cfef_7, if_pos ((jI_le (by decide) (by omega)).mpr (by omega))]
    · constructor
      · intro q; exact absurd q (by decide)
      · rintro ⟨q, q1, q2⟩; exact absurd q2 (h q (by omega))
  | succ j ih =>
    intro i fu hi hfu h
    obtain ⟨fu, rfl⟩ : ∃ q, fu = q + 1 := ⟨fu - 1, by omega⟩
    rw [fk_101_indexOfChar_4cfef_7, if_neg (fun q => absurd ((jI_le (by decide) (by omega)).mp q) (by omega)), ckk_y h23, h7, ck_n (by omega) (by omega), jI_cl (by omega)]
    by_cases c : kI S b i = x
    · rw [if_pos c]
      exact ⟨_, rfl, ⟨fun _ => ⟨i, by omega, c⟩, fun _ => Int32.not_lt.mp (jI_nn (by omega))⟩⟩
    · rw [if_neg c, lt_d, show Int32.ofNat i + 1 = Int32.ofNat (i + 1) from jI_add i 1]
      refine ih (i + 1) fu (by omega) (by omega) (fun q hq => ?_)
      by_cases e : q = i
      · rw [e]; exact c
      · exact h q (by omega)
theorem k_indexOf (hh : hsI x0 S M) {c : Nat} (hc : c < 128) : ∃ r, fk_100_indexOf_0f7a4 S (kT S 1) (Int32.ofNat c) = some r ∧ (0 ≤ r ↔ isRl (Int32.ofNat c)) := by
  obtain ⟨-, -, -, -, b0, b1, -, -, ⟨p1, p2, p3, p4, p5, p6⟩⟩ := hh
  have e8 : (Int32.ofNat c).toInt8.toInt32 = Int32.ofNat c := by
    have : ∀ x : Fin 128, (Int32.ofNat x.1).toInt8.toInt32 = Int32.ofNat x.1 := by decide
    exact this ⟨c, hc⟩
  obtain ⟨r, r1, r2⟩ := k_ixGo (S := S) (b := b1) (x := Int32.ofNat c) p4 p5 7 0 mFU rfl (by decide) (fun q hq => absurd hq (by omega))
  refine ⟨r, ?_, r2.trans ?_⟩
  · unfold fk_100_indexOf_0f7a4 fk_100_indexOf_7cf53 fk_100_isLatin1_aae02 fk_100_isLatin1_aae02_18 fk_100_length_8abf5 fk_100_coder_7d493
    have q0 : (Int32.ofNat 7 >>> ((0 : Int32) &&& 31)) = Int32.ofNat 7 := by decide
    have q1 : (if (0 : Int32) < 0 then (0 : Int32) else 0) = 0 := by decide
    have q2 : (if Int32.ofNat 7 < Int32.ofNat 7 then Int32.ofNat 7 else Int32.ofNat 7) = Int32.ofNat 7 := by decide
    have q3 : fk_101_canEncode_9a6ad (Int32.ofNat c) = some 1 := by
      unfold fk_101_canEncode_9a6ad fk_101_canEncode_9a6ad_16
      rw [if_neg (jI_nn (by omega)), if_neg (show ¬ (255 : Int32) < Int32.ofNat c from fun q => absurd ((jI_lt (a := 255) (b := c) (by decide) (by omega)).mp q) (by omega)), ckz_1]
    have q4 : fk_101_indexOf_4cfef S b1 (Int32.ofNat c) 0 (Int32.ofNat 7) = some r := by
      unfold fk_101_indexOf_4cfef fk_101_indexOfChar_4cfef
      rw [q3, bd_s, if_neg n10, lt_d, q1, ckk_y p4, lt_d, p5, q2, if_pos (show (0 : Int32) < Int32.ofNat 7 by decide), lt_d, e8]
      have r1' : fk_101_indexOfChar_4cfef_7 S mFU b1 (Int32.ofNat 7) (Int32.ofNat c) 0 = some r := r1
      rw [r1', bd_s]
    unfold fk_100_coder_7d493_14
    rw [ckk_y p1, ckk_y p1, if_neg n10, ckk_y p1, if_pos p3, ckz_1, bd_s, if_neg n10, ckk_y p1, p2, bd_s, ckk_y p1, ckk_y p1, bd_s, ckk_y p4, ckk_y p1, if_neg n10, ckk_y p1, p3, ckp_y (by decide), bd_s, bd_s, p5, q0, q4, bd_s, bd_s]
  · constructor
    · rintro ⟨q, q1, q2⟩
      rw [p6 q q1] at q2
      rw [← q2]
      have : q = 0 ∨ q = 1 ∨ q = 2 ∨ q = 3 ∨ q = 4 ∨ q = 5 ∨ q = 6 := by omega
      unfold isRl
      rcases this with e | e | e | e | e | e | e <;> subst e <;> decide
    · intro h
      rcases h with e | e | e | e | e | e | e
      · exact ⟨4, by decide, by rw [p6 4 (by decide), e]; rfl⟩
      · exact ⟨3, by decide, by rw [p6 3 (by decide), e]; rfl⟩
      · exact ⟨2, by decide, by rw [p6 2 (by decide), e]; rfl⟩
      · exact ⟨0, by decide, by rw [p6 0 (by decide), e]; rfl⟩
      · exact ⟨6, by decide, by rw [p6 6 (by decide), e]; rfl⟩
      · exact ⟨1, by decide, by rw [p6 1 (by decide), e]; rfl⟩
      · exact ⟨5, by decide, by rw [p6 5 (by decide), e]; rfl⟩
/-- both find the same fault -/
theorem t_fault (hh : hsI x0 S M) (hkd : kdI x0 S M) {tp : Nat} (htp : tp ≤ 40) : ∃ (F : Int32) (ok : Bool), fk_3_faultIn S (x0 + 1) (Int32.ofNat tp) = some F ∧ fm_kind_12 mFU M (Int32.ofNat tp) 0 = fm_kind_66 M (Int32.ofNat tp) (b2 (ok = true)) F ∧ (ok = true ↔ F = -1) ∧ (ok = true → 1 ≤ tp ∧ tp ≤ 6 ∧ ∀ i, i < tp → isRl (M.2 2 i)) := by
  obtain ⟨⟨a1, a2, -, -, a5, a6, -⟩, -, h3, -⟩ := hkd
  have p1 : kK S (kT S 1) = 13 := by obtain ⟨-, -, -, -, b0, b1, -, -, ⟨p1, -⟩⟩ := hh; exact p1
  by_cases h0 : tp = 0
  · subst h0
    refine ⟨0, false, ?_, ?_, by decide, fun h => by cases h⟩
    · unfold fk_3_faultIn; rw [if_pos (show Int32.ofNat 0 = 0 from rfl)]
    · have : mFU = 199999 + 1 := rfl
      rw [this, fm_kind_12, if_pos (show Int32.ofNat 0 ≤ 0 by decide)]
      unfold fm_kind_41 fm_kind_54 fm_kind_55
      rw [if_pos (show Int32.ofNat 0 ≤ 0 by decide), if_pos rfl]; rfl
  have hmin : (if (6 : Int32) < Int32.ofNat tp then (6 : Int32) else Int32.ofNat tp) = Int32.ofNat (min 6 tp) := by
    by_cases c : 6 < tp
    · rw [if_pos (show (6 : Int32) < Int32.ofNat tp from (jI_lt (a := 6) (by decide) (by omega)).mpr c), Nat.min_eq_left (by omega)]; rfl
    · rw [if_neg (show ¬ (6 : Int32) < Int32.ofNat tp from fun q => c ((jI_lt (a := 6) (by decide) (by omega)).mp q)), Nat.min_eq_right (by omega)]
  have hx : min 6 tp ≤ 6 ∧ min 6 tp ≤ tp ∧ (min 6 tp = 6 ∨ min 6 tp = tp) := by omega
  generalize min 6 tp = x at hmin hx
  have key : ∀ (j i fu fu' : Nat), i + j = x → j < fu → j < fu' → (∀ q, q < i → isRl (M.2 2 q)) → ∃ (F : Int32) (ok : Bool), fk_3_faultIn_15 S fu (x0 + 1) (Int32.ofNat tp) (Int32.ofNat x) (Int32.ofNat i) = some F ∧ fm_kind_12 fu' M (Int32.ofNat tp) (Int32.ofNat i) = fm_kind_66 M (Int32.ofNat tp) (b2 (ok = true)) F ∧ (ok = true ↔ F = -1) ∧ (ok = true → 1 ≤ tp ∧ tp ≤ 6 ∧ ∀ i, i < tp → isRl (M.2 2 i)) := by
    intro j
    have bad : ∀ i, i < tp → fm_kind_41 M (Int32.ofNat tp) (Int32.ofNat i) = fm_kind_66 M (Int32.ofNat tp) (b2 (false = true)) (Int32.ofNat i) := fun i hi => by
      unfold fm_kind_41 fm_kind_54 fm_kind_55
      rw [if_neg (jI_p (by omega) (by omega)), if_neg (fun q => absurd ((jI_inj (by omega) (by omega)).mp q) (by omega)), if_pos rfl]; rfl
    induction j with
    | zero =>
      intro i fu fu' hi hfu hfu' hq
      obtain ⟨fu, rfl⟩ : ∃ q, fu = q + 1 := ⟨fu - 1, by omega⟩
      obtain ⟨fu', rfl⟩ : ∃ q, fu' = q + 1 := ⟨fu' - 1, by omega⟩
      have e : i = x := by omega
      subst e
      rw [fk_3_faultIn_15, if_pos (Int32.le_refl _), fm_kind_12]
      unfold fk_3_faultIn_54
      by_cases c : tp ≤ 6
      · have e : i = tp := by omega
        subst e
        refine ⟨-1, true, by rw [if_pos (show Int32.ofNat i ≤ 6 from (jI_le (b := 6) (by omega) (by decide)).mpr c)], ?_, by decide, fun _ => ⟨by omega, c, hq⟩⟩
        rw [if_pos (Int32.le_refl _)]
        unfold fm_kind_41 fm_kind_55
        rw [if_neg (jI_p (by omega) (by omega)), if_pos rfl, if_neg n10]; rfl
      · have e : i = 6 := by omega
        subst e
        refine ⟨6, false, by rw [if_neg (show ¬ Int32.ofNat tp ≤ 6 from fun q => c ((jI_le (b := 6) (by omega) (by decide)).mp q))], ?_, by decide, fun h => by cases h⟩
        rw [if_neg (fun q => absurd ((jI_le (by omega) (by omega)).mp q) (by omega)), if_pos (show (6 : Int32) ≤ Int32.ofNat 6 by decide)]
        exact bad 6 (by omega)
    | succ j ih =>
      intro i fu fu' hi hfu hfu' hq
      obtain ⟨fu, rfl⟩ : ∃ q, fu = q + 1 := ⟨fu - 1, by omega⟩
      obtain ⟨fu', rfl⟩ : ∃ q, fu' = q + 1 := ⟨fu' - 1, by omega⟩
      obtain ⟨e1, c, c1, c2⟩ := h3 i (by omega)
      obtain ⟨r, r1, r2⟩ := k_indexOf hh c1
      rw [fk_3_faultIn_15, if_neg (fun q => absurd ((jI_le (by omega) (by omega)).mp q) (by omega)), lt_d, ckk_y a1, a2, bd_s, ckk_y a5, a6, ck_n (by omega) (by omega), ckk_y p1, jI_cl (by omega), e1, c2, r1, bd_s, fm_kind_12, if_neg (fun q => absurd ((jI_le (by omega) (by omega)).mp q) (by omega)), if_neg (jK 6 6 rfl (by omega) (by decide)), ck_n (by omega) (by omega), rd_n _ _ (by omega), m_isRule, bd_s, c2]
      by_cases hr : isRl (Int32.ofNat c)
      · rw [if_pos (r2.mpr hr), b2_t (show Int32.ofNat c = 65 ∨ Int32.ofNat c = 66 ∨ Int32.ofNat c = 67 ∨ Int32.ofNat c = 76 ∨ Int32.ofNat c = 77 ∨ Int32.ofNat c = 83 ∨ Int32.ofNat c = 84 from hr), if_neg n10, lt_d, lt_d, show Int32.ofNat i + 1 = Int32.ofNat (i + 1) from jI_add i 1]
        refine ih (i + 1) fu fu' (by omega) (by omega) (by omega) (fun q h => ?_)
        by_cases e : q = i
        · rw [e, c2]; exact hr
        · exact hq q (by omega)
      · rw [if_neg (fun q => hr (r2.mp q)), b2_f (show ¬ (Int32.ofNat c = 65 ∨ Int32.ofNat c = 66 ∨ Int32.ofNat c = 67 ∨ Int32.ofNat c = 76 ∨ Int32.ofNat c = 77 ∨ Int32.ofNat c = 83 ∨ Int32.ofNat c = 84) from hr), if_pos rfl]
        refine ⟨Int32.ofNat i, false, rfl, bad i (by omega), ⟨fun h => (by cases h), fun h => absurd h (jI_ne (a := i) (by omega))⟩, fun h => (by cases h)⟩
  unfold fk_3_faultIn
  rw [if_neg (jN 0 0 rfl h0 (by omega) (by decide)), lt_d, hmin]
  exact key x 0 mFU mFU (by omega) (Nat.lt_of_le_of_lt hx.1 (by decide)) (Nat.lt_of_le_of_lt hx.1 (by decide)) (fun q hq => absurd hq (by omega))
end V
