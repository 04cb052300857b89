-- part 145: the reference's table of what two texts have in common
section V
variable {M C : mSt} {X Y : List Int32} {i : Nat}
theorem fc149 (g2 : mSt → Int32 → Int32 → Int32 → Option mSt) (g9 : mSt → Int32 → Int32 → Int32 → Int32 → Option mSt) (v1 v2 v3 v4 : Int32) {x : Nat} (hx : x < 41041) (y : Int32) : fm_findCommon_149 g2 g9 C v1 v2 v3 v4 (Int32.ofNat x) y = g9 (wr C 71 (Int32.ofNat x) y) v1 v2 v3 (v4 + -1) := by
  unfold fm_findCommon_149
  rw [ck_n hx (by omega), lt_d, lt_d]
theorem fc126 (g2 : mSt → Int32 → Int32 → Int32 → Option mSt) (g9 : mSt → Int32 → Int32 → Int32 → Int32 → Option mSt) (v1 v2 v3 v4 : Int32) {x y : Nat} (hx : x < 41041) (hy : y < 2147483648) : fm_findCommon_126 g2 g9 C v1 v2 v3 v4 (Int32.ofNat x) (Int32.ofNat y) = g9 (wr C 71 (Int32.ofNat x) (Int32.ofNat y)) v1 v2 v3 (v4 + -1) := by
  unfold fm_findCommon_126 fm_findCommon_127
  rw [if_pos (Int32.not_lt.mp (jI_nn hy)), fc149 _ _ _ _ _ _ hx]
def tbQ (f : Nat → Int32) (X Y : List Int32) (i c : Nat) : Prop := ∀ i' j', i' ≤ X.length → j' ≤ Y.length → (i < i' ∨ (i' = i ∧ c ≤ j')) → f (41 * i' + j') = Int32.ofNat (cmn X Y i' j')
theorem m_fc9 (hX : X.length ≤ 1000) (hY : Y.length ≤ 40) (h73 : ∀ i (h : i < X.length), M.2 73 i = X[i]) (h2 : ∀ j (h : j < Y.length), M.2 2 j = Y[j]) (hi : i ≤ X.length) (g : mSt → Int32 → Int32 → Int32 → Option mSt) : ∀ (c fu : Nat) (C : mSt), c ≤ Y.length + 1 → c < fu → mEx (fun k => k = 71) M C → tbQ (C.2 71) X Y i c → ∃ C', fm_findCommon_9 g fu C (Int32.ofNat X.length) (Int32.ofNat Y.length) (Int32.ofNat i) (Int32.ofNat c + -1) = g C' (Int32.ofNat X.length) (Int32.ofNat Y.length) (Int32.ofNat i + -1) ∧ mEx (fun k => k = 71) M C' ∧ tbQ (C'.2 71) X Y i 0 := by
  intro c
  induction c with
  | zero =>
    intro fu C hc hf e ht
    obtain ⟨fu, rfl⟩ : ∃ q, fu = q + 1 := ⟨fu - 1, by omega⟩
    rw [fm_findCommon_9, if_pos (show Int32.ofNat 0 + -1 < 0 by decide), lt_d]
    exact ⟨C, rfl, e, ht⟩
  | succ c ih =>
    intro fu C hc hf e ht
    obtain ⟨fu, rfl⟩ : ∃ q, fu = q + 1 := ⟨fu - 1, by omega⟩
    have hc' : c ≤ Y.length := by omega
    have e1 : (41 : Int32) * Int32.ofNat i + Int32.ofNat c = Int32.ofNat (41 * i + c) := by rw [show (41 : Int32) = Int32.ofNat 41 from rfl, jI_mul, jI_add]
    have fin : ∀ y : Nat, y = cmn X Y i c → ∃ C', fm_findCommon_9 g fu (wr C 71 (Int32.ofNat (41 * i + c)) (Int32.ofNat y)) (Int32.ofNat X.length) (Int32.ofNat Y.length) (Int32.ofNat i) (Int32.ofNat c + -1) = g C' (Int32.ofNat X.length) (Int32.ofNat Y.length) (Int32.ofNat i + -1) ∧ mEx (fun k => k = 71) M C' ∧ tbQ (C'.2 71) X Y i 0 := fun y hy => by
      refine ih fu _ (by omega) (by omega) (mEx_trans e (mEx_wr (W := fun k => k = 71) rfl _ _)) (fun i' j' x1 x2 x3 => ?_)
      rw [wr_s _ _ (by omega)]
      by_cases z : i' = i ∧ j' = c
      · rw [z.1, z.2, upd_s, hy]
      · rw [upd_o _ _ (by omega)]; exact ht i' j' x1 x2 (by omega)
    rw [jPre, fm_findCommon_9, if_neg (jI_nn (by omega)), e1, lt_d]
    have zero : cmn X Y i c = 0 → (X.length ≤ i ∨ Y.length ≤ c) → ∃ C', fm_findCommon_34 g (fm_findCommon_9 g fu) C (Int32.ofNat X.length) (Int32.ofNat Y.length) (Int32.ofNat i) (Int32.ofNat c) (Int32.ofNat (41 * i + c)) = g C' (Int32.ofNat X.length) (Int32.ofNat Y.length) (Int32.ofNat i + -1) ∧ mEx (fun k => k = 71) M C' ∧ tbQ (C'.2 71) X Y i 0 := fun h0 h1 => by
      unfold fm_findCommon_34 fm_findCommon_82
      have st := fin 0 h0.symm
      by_cases d : X.length ≤ i
      · rw [if_pos ((jI_le (by omega) (by omega)).mpr d), show (0 : Int32) = Int32.ofNat 0 from rfl, fc126 _ _ _ _ _ _ (by omega) (by omega)]; exact st
      · rw [if_neg (fun q => d ((jI_le (by omega) (by omega)).mp q)), if_pos ((jI_le (by omega) (by omega)).mpr (by omega)), show (0 : Int32) = Int32.ofNat 0 from rfl, fc126 _ _ _ _ _ _ (by omega) (by omega)]; exact st
    by_cases c1 : i = X.length
    · rw [if_pos (by rw [c1])]; exact zero (cmn_x (by omega)) (Or.inl (by omega))
    rw [if_neg (fun q => c1 ((jI_inj (by omega) (by omega)).mp q))]
    by_cases c2 : c = Y.length
    · rw [if_pos (by rw [c2])]; exact zero (cmn_y (by omega)) (Or.inr (by omega))
    rw [if_neg (fun q => c2 ((jI_inj (by omega) (by omega)).mp q))]
    have hi' : i < X.length := by omega
    have hj' : c < Y.length := by omega
    have e41 : Int32.ofNat (41 * i + c) + 41 = Int32.ofNat (41 * (i + 1) + c) := by rw [show (41 : Int32) = Int32.ofNat 41 from rfl, jI_add]; congr 1; omega
    have e01 : Int32.ofNat (41 * i + c) + 1 = Int32.ofNat (41 * i + (c + 1)) := jI_add _ 1
    have e42 : Int32.ofNat (41 * i + c) + 42 = Int32.ofNat (41 * (i + 1) + (c + 1)) := by rw [show (42 : Int32) = Int32.ofNat 42 from rfl, jI_add]; congr 1; omega
    have r41 : rd C 71 (Int32.ofNat (41 * (i + 1) + c)) = Int32.ofNat (cmn X Y (i + 1) c) := by rw [rd_n _ _ (by omega)]; exact ht _ _ (by omega) (by omega) (by omega)
    have r01 : rd C 71 (Int32.ofNat (41 * i + (c + 1))) = Int32.ofNat (cmn X Y i (c + 1)) := by rw [rd_n _ _ (by omega)]; exact ht _ _ (by omega) (by omega) (by omega)
    have r42 : rd C 71 (Int32.ofNat (41 * (i + 1) + (c + 1))) = Int32.ofNat (cmn X Y (i + 1) (c + 1)) := by rw [rd_n _ _ (by omega)]; exact ht _ _ (by omega) (by omega) (by omega)
    have l1 := cmn_le X Y (i + 1) c
    have l2 := cmn_le X Y i (c + 1)
    have l3 := cmn_le X Y (i + 1) (c + 1)
    have mm := cmn_m hi' hj'
    have hcc := cmn_c hi' hj'
    have rest : ∀ m0 : Nat, m0 = max (cmn X Y (i + 1) c) (cmn X Y i (c + 1)) → ∃ C', fm_findCommon_82 g (fm_findCommon_9 g fu) C (Int32.ofNat X.length) (Int32.ofNat Y.length) (Int32.ofNat i) (Int32.ofNat c) (Int32.ofNat (41 * i + c)) (Int32.ofNat m0) = g C' (Int32.ofNat X.length) (Int32.ofNat Y.length) (Int32.ofNat i + -1) ∧ mEx (fun k => k = 71) M C' ∧ tbQ (C'.2 71) X Y i 0 := fun m0 hm0 => by
      unfold fm_findCommon_82
      rw [if_neg (fun q => absurd ((jI_le (by omega) (by omega)).mp q) (by omega)), if_neg (fun q => absurd ((jI_le (by omega) (by omega)).mp q) (by omega)), ck_n (by omega) (by omega), ck_n (by omega) (by omega), rd_n _ _ (by omega), rd_n _ _ (by omega), (e 73 (by decide)).2, (e 2 (by decide)).2, h73 i hi', h2 c hj']
      by_cases z : X[i] = Y[c]
      · rw [if_pos z] at hcc
        rw [if_pos z, e42, ck_n (by omega) (by omega), r42, show (1 : Int32) + Int32.ofNat (cmn X Y (i + 1) (c + 1)) = Int32.ofNat (1 + cmn X Y (i + 1) (c + 1)) from jI_add 1 _]
        unfold fm_findCommon_127
        by_cases y : 1 + cmn X Y (i + 1) (c + 1) ≤ m0
        · rw [if_pos ((jI_le (by omega) (by omega)).mpr y), fc149 _ _ _ _ _ _ (by omega)]
          exact fin m0 (by omega)
        · rw [if_neg (fun q => y ((jI_le (by omega) (by omega)).mp q)), fc149 _ _ _ _ _ _ (by omega)]
          exact fin _ hcc.symm
      · rw [if_neg z] at hcc
        rw [if_neg z, fc126 _ _ _ _ _ _ (by omega) (by omega)]
        exact fin m0 (by omega)
    rw [e41, ck_n (by omega) (by omega), e01, ck_n (by omega) (by omega), r41, r01]
    by_cases y : cmn X Y (i + 1) c ≤ cmn X Y i (c + 1)
    · rw [if_pos ((jI_le (by omega) (by omega)).mpr y), ck_n (by omega) (by omega)]
      exact rest _ (by omega)
    · rw [if_neg (fun q => y ((jI_le (by omega) (by omega)).mp q)), ck_n (by omega) (by omega)]
      exact rest _ (by omega)
theorem m_fc2 (hX : X.length ≤ 1000) (hY : Y.length ≤ 40) (h73 : ∀ i (h : i < X.length), M.2 73 i = X[i]) (h2 : ∀ j (h : j < Y.length), M.2 2 j = Y[j]) : ∀ (c fu : Nat) (C : mSt), c ≤ X.length + 1 → c < fu → mEx (fun k => k = 71) M C → (∀ i' j', i' ≤ X.length → j' ≤ Y.length → c ≤ i' → C.2 71 (41 * i' + j') = Int32.ofNat (cmn X Y i' j')) → ∃ C', fm_findCommon_2 fu C (Int32.ofNat X.length) (Int32.ofNat Y.length) (Int32.ofNat c + -1) = some C' ∧ mEx (fun k => k = 71) M C' ∧ ∀ i' j', i' ≤ X.length → j' ≤ Y.length → C'.2 71 (41 * i' + j') = Int32.ofNat (cmn X Y i' j') := by
  intro c
  induction c with
  | zero =>
    intro fu C hc hf e ht
    obtain ⟨fu, rfl⟩ : ∃ q, fu = q + 1 := ⟨fu - 1, by omega⟩
    rw [fm_findCommon_2, if_pos (show Int32.ofNat 0 + -1 < 0 by decide)]
    exact ⟨C, rfl, e, fun i' j' x1 x2 => ht i' j' x1 x2 (Nat.zero_le _)⟩
  | succ c ih =>
    intro fu C hc hf e ht
    obtain ⟨fu, rfl⟩ : ∃ q, fu = q + 1 := ⟨fu - 1, by omega⟩
    obtain ⟨C', g1, g2, g3⟩ := m_fc9 hX hY h73 h2 (show c ≤ X.length by omega) (fm_findCommon_2 fu) (Y.length + 1) mFU C (Nat.le_refl _) (Nat.lt_of_le_of_lt (show Y.length + 1 ≤ 41 by omega) (by decide)) e (fun i' j' x1 x2 x3 => ht i' j' x1 x2 (by omega))
    rw [jPre] at g1
    rw [jPre, fm_findCommon_2, if_neg (jI_nn (by omega)), g1]
    exact ih fu C' (by omega) (by omega) g2 (fun i' j' x1 x2 x3 => g3 i' j' x1 x2 (by omega))
theorem m_findCommon (hX : X.length ≤ 1000) (hY : Y.length ≤ 40) (h73 : ∀ i (h : i < X.length), M.2 73 i = X[i]) (h2 : ∀ j (h : j < Y.length), M.2 2 j = Y[j]) : ∃ C', fm_findCommon M (Int32.ofNat X.length) (Int32.ofNat Y.length) = some C' ∧ mEx (fun k => k = 71) M C' ∧ ∀ i' j', i' ≤ X.length → j' ≤ Y.length → C'.2 71 (41 * i' + j') = Int32.ofNat (cmn X Y i' j') := by
  unfold fm_findCommon
  have := m_fc2 hX hY h73 h2 (X.length + 1) mFU M (Nat.le_refl _) (Nat.lt_of_le_of_lt (show X.length + 1 ≤ 1001 by omega) (by decide)) (mEx_refl _ _) (fun i' j' x1 x2 x3 => absurd x3 (by omega))
  rw [jPre] at this
  exact this
end V
