-- part 144: the class's table of what two texts have in common
theorem byt {x : Nat} (h : x < 41) : (Int32.ofNat x).toInt8.toInt32 = Int32.ofNat x := by
  have : ∀ x : Fin 41, (Int32.ofNat x.1).toInt8.toInt32 = Int32.ofNat x.1 := by decide
  exact this ⟨x, h⟩
theorem idx_in {i i' j j' w : Nat} (hj : j < w) (hj' : j' < w) (h : i * w + j = i' * w + j') : i = i' ∧ j = j' := by
  rcases Nat.lt_trichotomy i i' with c | c | c
  · have := Nat.mul_le_mul_right w (show i + 1 ≤ i' from c)
    rw [Nat.succ_mul] at this; omega
  · subst c; omega
  · have := Nat.mul_le_mul_right w (show i' + 1 ≤ i from c)
    rw [Nat.succ_mul] at this; omega
theorem idx_lt {i j a b : Nat} (hi : i ≤ a) (hj : j ≤ b) (ha : a ≤ 1000) (hb : b ≤ 40) : i * (b + 1) + j < (a + 1) * (b + 1) ∧ (a + 1) * (b + 1) ≤ 41041 ∧ i * (b + 1) ≤ 41041 := by
  have h1 := Nat.mul_le_mul_right (b + 1) hi
  have h2 : (a + 1) * (b + 1) ≤ 1001 * 41 := Nat.mul_le_mul (by omega) (by omega)
  have h3 : (a + 1) * (b + 1) = a * (b + 1) + (b + 1) := Nat.succ_mul _ _
  omega
section V
variable {S S' T : cSt} {tx tb pa : Nat} {rr : Nat → Nat} {X Y : List Int32} {i j : Nat}
def cmS (S : cSt) (tx tb pa : Nat) (rr : Nat → Nat) (X Y : List Int32) : Prop :=
  (kK S tx = 10 ∧ kR S tx 0 = some (tx + 1) ∧ kF S tx 1 = Int32.ofNat X.length ∧ kR S tx 5 = some pa ∧ kF S tx 6 = Int32.ofNat Y.length ∧ kR S tx 7 = some tb) ∧ (kK S (tx + 1) = 30 ∧ kL S (tx + 1) = 1000 ∧ kK S tb = 21 ∧ (X.length + 1) * (Y.length + 1) ≤ kL S tb ∧ kK S pa = 22 ∧ kL S pa = 40) ∧ (X.length ≤ 1000 ∧ Y.length ≤ 40 ∧ kL S tb < 2147483648) ∧
  (∀ i (h : i < X.length), kO S (tx + 1) i = some (rr i) ∧ kK S (rr i) = 9 ∧ kF S (rr i) 4 = X[i]) ∧ (∀ j (h : j < Y.length), kI S pa j = Y[j]) ∧ tb ≠ pa
theorem cmS_t (h : cmS S tx tb pa rr X Y) (f : Nat → Int32) : cmS (sI S tb f) tx tb pa rr X Y := by
  obtain ⟨h1, h2, h3, h4, h5, h6⟩ := h
  exact ⟨h1, h2, h3, h4, fun j hj => by rw [kI_sIo _ _ (Ne.symm h6)]; exact h5 j hj, h6⟩
theorem k_sameN (h : cmS S tx tb pa rr X Y) (hi : i ≤ X.length) (hj : j ≤ Y.length) (hn : ¬ (i < X.length ∧ j < Y.length)) : fk_9_isSame S tx (Int32.ofNat i) (Int32.ofNat j) = some 0 := by
  obtain ⟨⟨a1, a2, a3, a4, a5, a6⟩, -, ⟨b1, b2', -⟩, -⟩ := h
  unfold fk_9_isSame fk_9_isSame_38 fk_9_isSame_39
  rw [ckk_y a1, a3]
  by_cases c : X.length ≤ i
  · rw [if_pos ((jI_le (by omega) (by omega)).mpr c), ckz_0]
  · rw [if_neg (fun q => c ((jI_le (by omega) (by omega)).mp q)), ckk_y a1, a5, if_pos ((jI_le (by omega) (by omega)).mpr (by omega)), ckz_0]
theorem k_sameY (h : cmS S tx tb pa rr X Y) (hi : i < X.length) (hj : j < Y.length) : fk_9_isSame S tx (Int32.ofNat i) (Int32.ofNat j) = some (b2 (X[i] = Y[j])) := by
  obtain ⟨⟨a1, a2, a3, a4, a5, a6⟩, ⟨c1, c2, c3, c4, c5, c6⟩, ⟨b1, b2', -⟩, d, d', -⟩ := h
  obtain ⟨d1, d2, d3⟩ := d i hi
  unfold fk_9_isSame fk_9_isSame_38 fk_9_isSame_39
  rw [ckk_y a1, a3, if_neg (fun q => absurd ((jI_le (by omega) (by omega)).mp q) (by omega)), ckk_y a1, a5, if_neg (fun q => absurd ((jI_le (by omega) (by omega)).mp q) (by omega)), ckk_y a1, a2, bd_s, ckk_y c1, c2, ck_n (by omega) (by omega), lt_d, jI_cl (by omega), d1, bd_s, ckk_y d2, ckk_y a1, a4, bd_s, ckk_y c5, c6, ck_n (by omega) (by omega), jI_cl (by omega), d3, d' j hj]
  by_cases c : X[i] = Y[j]
  · rw [if_pos c, b2_t c, ckz_1]
  · rw [if_neg c, b2_f c, ckz_0]
theorem k_cmn (h : cmS S tx tb pa rr X Y) (hi : i ≤ X.length) (hj : j ≤ Y.length) (ht : kI S tb (i * (Y.length + 1) + j) = Int32.ofNat (cmn X Y i j)) : fk_9_common S tx (Int32.ofNat i) (Int32.ofNat j) = some (Int32.ofNat (cmn X Y i j)) := by
  obtain ⟨⟨a1, a2, a3, a4, a5, a6⟩, ⟨c1, c2, c3, c4, c5, c6⟩, ⟨b1, b2', b3⟩, -⟩ := h
  obtain ⟨e1, e2, e3⟩ := idx_lt hi hj b1 b2'
  have ei : Int32.ofNat i * (Int32.ofNat Y.length + 1) + Int32.ofNat j = Int32.ofNat (i * (Y.length + 1) + j) := by
    rw [show Int32.ofNat Y.length + 1 = Int32.ofNat (Y.length + 1) from jI_add _ 1, jI_mul, jI_add]
  unfold fk_9_common fk_9_common_35
  rw [ckk_y a1, a3, if_neg (fun q => absurd ((jI_lt (by omega) (by omega)).mp q) (by omega)), ckk_y a1, a5, if_neg (fun q => absurd ((jI_lt (by omega) (by omega)).mp q) (by omega)), ckk_y a1, a6, bd_s, ckk_y a1, ckk_y c3, ei, ck_n (by omega) (by omega), jI_cl (by omega), ht]
theorem k_from (h : cmS S tx tb pa rr X Y) (hi : i ≤ X.length) (hj : j ≤ Y.length) (ht : ∀ i' j', i' ≤ X.length → j' ≤ Y.length → (i < i' ∨ (i' = i ∧ j + 1 ≤ j')) → kI S tb (i' * (Y.length + 1) + j') = Int32.ofNat (cmn X Y i' j')) : fk_9_commonFrom S tx (Int32.ofNat i) (Int32.ofNat j) = some (Int32.ofNat (cmn X Y i j)) := by
  obtain ⟨⟨a1, a2, a3, a4, a5, a6⟩, ⟨c1, c2, c3, c4, c5, c6⟩, ⟨b1, b2', b3⟩, -⟩ := id h
  unfold fk_9_commonFrom fk_9_commonFrom_16
  rw [ckk_y a1, a3]
  by_cases c : X.length ≤ i
  · rw [if_pos ((jI_le (by omega) (by omega)).mpr c), cmn_x c]; rfl
  · rw [if_neg (fun q => c ((jI_le (by omega) (by omega)).mp q)), ckk_y a1, a5]
    by_cases d : j < Y.length
    · have hi' : i < X.length := by omega
      have si : Int32.ofNat i + 1 = Int32.ofNat (i + 1) := jI_add _ 1
      have sj : Int32.ofNat j + 1 = Int32.ofNat (j + 1) := jI_add _ 1
      rw [if_pos ((jI_lt (by omega) (by omega)).mpr d), ckk_y a1, k_sameY h hi' d, bd_s, cmn_c hi' d]
      by_cases e : X[i] = Y[j]
      · rw [b2_t e, if_neg n10, if_pos e, ckk_y a1, si, sj, k_cmn h (by omega) (by omega) (ht _ _ (by omega) (by omega) (by omega)), bd_s]
        congr 1
        exact jI_add 1 _
      · have l1 := cmn_le X Y (i + 1) j
        have l2 := cmn_le X Y i (j + 1)
        rw [b2_f e, if_pos rfl, if_neg e, ckk_y a1, si, k_cmn h (by omega) (by omega) (ht _ _ (by omega) (by omega) (by omega)), bd_s, ckk_y a1, sj, k_cmn h (by omega) (by omega) (ht _ _ (by omega) (by omega) (by omega)), bd_s]
        congr 1
        by_cases z : cmn X Y (i + 1) j < cmn X Y i (j + 1)
        · rw [if_pos ((jI_lt (by omega) (by omega)).mpr z), Nat.max_eq_right (by omega)]
        · rw [if_neg (fun q => z ((jI_lt (by omega) (by omega)).mp q)), Nat.max_eq_left (by omega)]
    · rw [if_neg (fun q => d ((jI_lt (by omega) (by omega)).mp q)), cmn_y (by omega)]; rfl
/-- the table is right from a place on -/
def tbR (f : Nat → Int32) (X Y : List Int32) (i c : Nat) : Prop := ∀ i' j', i' ≤ X.length → j' ≤ Y.length → (i < i' ∨ (i' = i ∧ c ≤ j')) → f (i' * (Y.length + 1) + j') = Int32.ofNat (cmn X Y i' j')
theorem k_cmp67 (h : cmS S tx tb pa rr X Y) (hi : i ≤ X.length) (g : cSt → Nat → Int32 → Option cSt) : ∀ (c fu : Nat) (f : Nat → Int32), c ≤ Y.length + 1 → c < fu → tbR f X Y i c → ∃ f', fk_9_compare_67 g fu (sI S tb f) tx (Int32.ofNat i) (Int32.ofNat c + -1) = g (sI S tb f') tx (Int32.ofNat i + -1) ∧ tbR f' X Y i 0 := by
  intro c
  induction c with
  | zero =>
    intro fu f hc hf ht
    obtain ⟨fu, rfl⟩ : ∃ q, fu = q + 1 := ⟨fu - 1, by omega⟩
    rw [fk_9_compare_67, if_pos (show Int32.ofNat 0 + -1 < 0 by decide), lt_d]
    exact ⟨f, rfl, ht⟩
  | succ c ih =>
    intro fu f hc hf ht
    obtain ⟨fu, rfl⟩ : ∃ q, fu = q + 1 := ⟨fu - 1, by omega⟩
    have h' := cmS_t h f
    obtain ⟨⟨a1, a2, a3, a4, a5, a6⟩, ⟨c1, c2, c3, c4, c5, c6⟩, ⟨b1, b2', b3⟩, -⟩ := id h'
    have hc' : c ≤ Y.length := by omega
    obtain ⟨e1, e2, e3⟩ := idx_lt hi hc' b1 b2'
    have hle := (cmn_le X Y i c).1
    have ei : Int32.ofNat i * (Int32.ofNat Y.length + 1) + Int32.ofNat c = Int32.ofNat (i * (Y.length + 1) + c) := by
      rw [show Int32.ofNat Y.length + 1 = Int32.ofNat (Y.length + 1) from jI_add _ 1, jI_mul, jI_add]
    have hfr := k_from h' hi hc' (fun i' j' x1 x2 x3 => by rw [kI_sI]; exact ht i' j' x1 x2 x3)
    rw [jPre, fk_9_compare_67, if_neg (jI_nn (by omega)), ckk_y a1, a6, bd_s, ckk_y a1, ckk_y a1, hfr, bd_s, ckk_y c3, a5, ei, ck_n (by omega) (by omega), ckp_y (nar8 _), lt_d, jI_cl (by omega), byt (by omega), cWi_sI, kI_sI, sI_sI, lt_d]
    refine ih fu _ (by omega) (by omega) (fun i' j' x1 x2 x3 => ?_)
    by_cases z : i' = i ∧ j' = c
    · rw [z.1, z.2, upd_s]
    · rw [upd_o _ _ (fun q => z (by have := idx_in (show j' < Y.length + 1 by omega) (show c < Y.length + 1 by omega) q; exact this))]
      exact ht i' j' x1 x2 (by omega)
theorem k_cmp56 (h : cmS S tx tb pa rr X Y) : ∀ (c fu : Nat) (f : Nat → Int32), c ≤ X.length + 1 → c < fu → (∀ i' j', i' ≤ X.length → j' ≤ Y.length → c ≤ i' → f (i' * (Y.length + 1) + j') = Int32.ofNat (cmn X Y i' j')) → ∃ f', fk_9_compare_56 fu (sI S tb f) tx (Int32.ofNat c + -1) = some (sI S tb f') ∧ ∀ i' j', i' ≤ X.length → j' ≤ Y.length → f' (i' * (Y.length + 1) + j') = Int32.ofNat (cmn X Y i' j') := by
  intro c
  induction c with
  | zero =>
    intro fu f hc hf ht
    obtain ⟨fu, rfl⟩ : ∃ q, fu = q + 1 := ⟨fu - 1, by omega⟩
    rw [fk_9_compare_56, if_pos (show Int32.ofNat 0 + -1 < 0 by decide)]
    exact ⟨f, rfl, fun i' j' x1 x2 => ht i' j' x1 x2 (Nat.zero_le _)⟩
  | succ c ih =>
    intro fu f hc hf ht
    obtain ⟨fu, rfl⟩ : ∃ q, fu = q + 1 := ⟨fu - 1, by omega⟩
    obtain ⟨⟨a1, a2, a3, a4, a5, a6⟩, -, ⟨b1, b2', b3⟩, -⟩ := cmS_t h f
    obtain ⟨f', g1, g2⟩ := k_cmp67 h (show c ≤ X.length by omega) (fk_9_compare_56 fu) (Y.length + 1) mFU f (Nat.le_refl _) (Nat.lt_of_le_of_lt (show Y.length + 1 ≤ 41 by omega) (by decide)) (fun i' j' x1 x2 x3 => ht i' j' x1 x2 (by omega))
    rw [jPre] at g1
    rw [jPre, fk_9_compare_56, if_neg (jI_nn (by omega)), ckk_y a1, a5, lt_d, g1]
    exact ih fu f' (by omega) (by omega) (fun i' j' x1 x2 x3 => g2 i' j' x1 x2 (by omega))
end V
