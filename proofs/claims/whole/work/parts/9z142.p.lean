-- part 142: join, whole
section V
variable {S S' S0 S1 T : cSt} {M M' A : mSt} {ra : Nat → Nat} {sl ch : Nat → Int32} {mkO : Nat → Option Nat} {L Wt : Nat → List Nat} {ro fa : Nat → Nat} {x0 n m k Bt la lb bk nd md : Nat} {l W : List Nat}
theorem k_hasAll {kn km : Nat → Nat} {p : Bool} (hp : p = true ↔ ∀ q, q < 4 → kn q ≤ km q) (k8 : kK S nd = 8) (k8' : kK S md = 8) (hn : ∀ q, q < 4 → fk_7_knownOf S nd (Int32.ofNat q) = some (Int32.ofNat (kn q)) ∧ kn q ≤ 250) (hm : ∀ q, q < 4 → fk_7_knownOf S md (Int32.ofNat q) = some (Int32.ofNat (km q)) ∧ km q ≤ 250) : ∀ (j i fu : Nat), i + j = 4 → j < fu → (∀ q, q < i → kn q ≤ km q) → fk_7_hasAllOf_2 S fu md nd (Int32.ofNat i) = some (b2 (p = true)) := by
  intro j
  induction j with
  | zero =>
    intro i fu hi hf h
    obtain ⟨fu, rfl⟩ : ∃ q, fu = q + 1 := ⟨fu - 1, by omega⟩
    have e1 : i = 4 := by omega
    subst e1
    rw [fk_7_hasAllOf_2, if_pos (show (4 : Int32) ≤ Int32.ofNat 4 by decide), ckz_1, b2_t (hp.mpr h)]
  | succ j ih =>
    intro i fu hi hf h
    obtain ⟨fu, rfl⟩ : ∃ q, fu = q + 1 := ⟨fu - 1, by omega⟩
    have a1 := hn i (by omega)
    have a2 := hm i (by omega)
    rw [fk_7_hasAllOf_2, if_neg (jK 4 4 rfl (by omega) (by decide)), ckk_y k8', a2.1, bd_s, ckk_y k8, a1.1, bd_s]
    by_cases c : kn i ≤ km i
    · rw [if_pos ((jI_le (by omega) (by omega)).mpr c), lt_d, show Int32.ofNat i + 1 = Int32.ofNat (i + 1) from jI_add _ 1]
      refine ih (i + 1) fu (by omega) (by omega) (fun q hq => ?_)
      by_cases e : q = i
      · rw [e]; exact c
      · exact h q (by omega)
    · rw [if_neg (fun z => c ((jI_le (by omega) (by omega)).mp z)), ckz_0, b2_f (fun z => c (hp.mp z i (by omega)))]
theorem m_jn41 {kn km : Nat → Nat} {p : Bool} (hp : p = true ↔ ∀ q, q < 4 → kn q ≤ km q) (hn4 : n < 4) (hm4 : m < 4) (hn : ∀ q, q < 4 → M.2 20 (4 * n + q) = Int32.ofNat (kn q) ∧ kn q ≤ 250) (hm : ∀ q, q < 4 → M.2 20 (4 * m + q) = Int32.ofNat (km q) ∧ km q ≤ 250) : ∀ (j i fu : Nat), i + j = 4 → j < fu → (∀ q, q < i → kn q ≤ km q) → fm_join_41 fu M (Int32.ofNat n) (Int32.ofNat m) (Int32.ofNat i) = if p = true then fm_join_71 mFU M (Int32.ofNat n) (Int32.ofNat m) 0 else some (0, M) := by
  intro j
  induction j with
  | zero =>
    intro i fu hi hf h
    obtain ⟨fu, rfl⟩ : ∃ q, fu = q + 1 := ⟨fu - 1, by omega⟩
    have e1 : i = 4 := by omega
    subst e1
    rw [fm_join_41, if_pos (show (4 : Int32) ≤ Int32.ofNat 4 by decide), if_pos (hp.mpr h)]
  | succ j ih =>
    intro i fu hi hf h
    obtain ⟨fu, rfl⟩ : ∃ q, fu = q + 1 := ⟨fu - 1, by omega⟩
    have a1 := hn i (by omega)
    have a2 := hm i (by omega)
    rw [fm_join_41, if_neg (jK 4 4 rfl (by omega) (by decide)), m_knownOf (mEx_refl _ _) hm4 (by omega), bd_s, m_knownOf (mEx_refl _ _) hn4 (by omega), bd_s, a1.1, a2.1]
    by_cases c : kn i ≤ km i
    · rw [if_pos ((jI_le (by omega) (by omega)).mpr c), lt_d, show Int32.ofNat i + 1 = Int32.ofNat (i + 1) from jI_add _ 1]
      refine ih (i + 1) fu (by omega) (by omega) (fun q hq => ?_)
      by_cases e : q = i
      · rw [e]; exact c
      · exact h q (by omega)
    · rw [if_neg (fun z => c ((jI_le (by omega) (by omega)).mp z)), ckz_0, if_neg (fun z => c (hp.mp z i (by omega)))]
theorem c_join (hk : k + 1 < 900) : lC_join x0 (Inv x0 k) (Inv x0 (k + 1)) := by
  intro S M v1 v2 h
  have h0 := Inv_0 h (by omega)
  unfold fk_11_join fm_join fk_11_join_28 fm_join_37
  rw [lt_d, k_isNode, bd_s, k_isNode, m_wb, m_wb, ckz_0, ckz_0]
  generalize pu M 0 0 = A at h0 ⊢
  have h1 := Inv_1 h0 hk
  obtain ⟨ra, sl, mkO, L, Wt, ro, fa, hIb⟩ := h0
  have hIb : Ib x0 k S A ra sl mkO L Wt ro fa := hIb
  have hh := hIb.2.1
  have no : ∃ r S1 M1, some ((0 : Int32), S) = some (r, S1) ∧ some ((0 : Int32), A) = some (r, M1) ∧ Inv x0 (k + 1) S1 M1 := ⟨_, _, _, rfl, rfl, h1⟩
  by_cases hv : 0 ≤ v1 ∧ v1 ≤ 3
  · rw [b2_t hv, if_neg n10, if_neg n10]
    by_cases hv2 : 0 ≤ v2 ∧ v2 ≤ 3
    · rw [b2_t hv2, bd_s, if_neg n10, if_neg n10]
      by_cases e12 : v1 = v2
      · rw [if_pos e12, if_pos e12]; exact no
      · rw [if_neg e12, if_neg e12, ckk_y hh.1.1]
        obtain ⟨n, hn, rfl⟩ := wi3.mp hv
        obtain ⟨m, hm, rfl⟩ := wi3.mp hv2
        have hmn : n ≠ m := fun z => e12 (by rw [z])
        obtain ⟨q, q1, q2⟩ := hh.2.1.2
        rw [hh.2.1.1, q2]
        by_cases c40 : q = 40
        · subst c40
          rw [if_neg (by decide), if_pos (show Int32.ofNat 40 = 40 from rfl)]; exact no
        · have hq : q < 40 := by omega
          rw [if_pos (show Int32.ofNat q < 40 from (jI_lt (b := 40) (by omega) (by decide)).mpr hq), if_neg (jN 40 40 rfl c40 (by omega) (by decide))]
          obtain ⟨kn, n1, n2, n3⟩ := kn_of hIb hn
          obtain ⟨km, m1, m2, m3⟩ := kn_of hIb hm
          have k8 : kK S (sN x0 n) = 8 := (hIb.1.2.2.1 n hn).1.2.1.1.1.1
          have k8' : kK S (sN x0 m) = 8 := (hIb.1.2.2.1 m hm).1.2.1.1.1.1
          obtain ⟨p, hp⟩ : ∃ p : Bool, (p = true ↔ ∀ q, q < 4 → kn q ≤ km q) := by
            by_cases z : ∀ q, q < 4 → kn q ≤ km q
            · exact ⟨true, fun _ => z, fun _ => rfl⟩
            · exact ⟨false, fun q => (by cases q), fun q => absurd q z⟩
          have hall := k_hasAll hp k8 k8' n1 m1 4 0 mFU rfl (by decide) (fun q hq => absurd hq (by omega))
          have hall' : fk_7_hasAllOf S (sN x0 m) (sN x0 n) = some (b2 (p = true)) := hall
          have h41 := m_jn41 hp hn hm n2 m2 4 0 mFU rfl (by decide) (fun q hq => absurd hq (by omega))
          have h41' : fm_join_41 mFU A (Int32.ofNat n) (Int32.ofNat m) 0 = if p = true then fm_join_71 mFU A (Int32.ofNat n) (Int32.ofNat m) 0 else some (0, A) := h41
          rw [k_nd hh hm, k_nd hh hn, bd_s, bd_s, ckk_y k8', hall', bd_s, h41']
          by_cases ca : p = true
          · rw [b2_t ca, if_neg n10, if_pos ca]
            have hsub : ∀ q ∈ L n, q ∈ L m := fun q hq => by
              have q3 : q < 1000 := (cl_mem (hIb.1.2.2.1 n hn).1.1.1.2.1 hq).1
              have := (n3 q q3).mp hq
              exact (m3 q q3).mpr (Nat.le_trans this (hp.mp ca _ (rN_lt q3)))
            obtain ⟨S', M', g1, g2, g3, g4, g5, g6⟩ := Ib_join hIb hn hm hmn hsub
            rw [k_nd hh hn, k_nd hh hm, bd_s, bd_s, ckk_y k8, g1, bd_s, ckk_y (g5.trans hh.1.1), ckk_y (g5.trans hh.1.1), lt_d, ckz_1, g2]
            exact ⟨_, _, _, rfl, rfl, Inv_1 (Inv_b (Ib_45 g6 hq (g3.trans q2))) hk⟩
          · rw [b2_f ca, if_pos rfl, if_neg ca]; exact no
    · rw [b2_f hv2, bd_s, if_pos rfl, if_pos rfl]; exact no
  · rw [b2_f hv, if_pos rfl, if_pos rfl]; exact no
end V
