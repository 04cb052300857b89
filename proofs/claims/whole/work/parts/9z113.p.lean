-- part 113: what fits: shares, members, keys
section V
variable {S S' : cSt} {M A : mSt} {ra : Nat → Nat} {sl : Nat → Int32} {mkO : Nat → Option Nat} {L Wt : Nat → List Nat} {x0 n Bt : Nat} {l : List Nat}
theorem lkE_F (hn : n < 4) (e : cEq (inV (sN x0 n + 21)) S S') : kF S' (x0 + 19) = kF S (x0 + 19) := (e.2.2.2.2 (x0 + 19) (fun q => by have := q.1; unfold sN at this; omega)).1
/-- the own share -/
def shO (M : mSt) (n : Nat) (l : List Nat) (m p : Nat) : Int32 := shB M l (Int32.ofNat (rNm m)) (Int32.ofNat p) n
theorem shO_get (hn : n < 4) {m p : Nat} : ∃ h : n < (vaL M l (Int32.ofNat (rNm m)) (Int32.ofNat p) 66).length, (vaL M l (Int32.ofNat (rNm m)) (Int32.ofNat p) 66)[n].1 = shO M n l m p := by
  refine ⟨by show n < 5; omega, ?_⟩
  have : n = 0 ∨ n = 1 ∨ n = 2 ∨ n = 3 := by omega
  rcases this with e | e | e | e <;> subst e <;> rfl
theorem k_isOwned (hh : hsI x0 S M) (h : core x0 Bt S M ra sl mkO L Wt) (hn : n < 4) {j m kd p : Nat} (hp : ptO M mkO j m kd p 66) (hd1 : kF S (x0 + 19) 1 = Int32.ofNat j) (hd3 : kF S (x0 + 19) 3 = Int32.ofNat p) (v : Int32) : ∃ S', fk_11_isOwned S x0 (sN x0 n) v = some (b2 ((1 ≤ v ∧ v ≤ 1000) ∧ v ≤ shO M n (L n) m p), S') ∧ lkE x0 S S' ∧ kF S' (x0 + 19) = kF S (x0 + 19) := by
  have g6 := hh.1.2.2.2.2.2.2.2.1
  have gk := hh.2.2.2.1.1
  have g12 := hh.1.1
  obtain ⟨⟨hA, hsl, -, -⟩, ⟨hB, -⟩, hN, -⟩ := h
  obtain ⟨⟨hM1, ⟨⟨hy, hv', -⟩, -⟩⟩, -⟩ := hN n hn
  have hcl := hM1.1.2.1
  have hnd : x0 + 5 + 5 ≤ sN x0 n ∧ sN x0 n + 26 ≤ x0 + 5 + 128 := by unfold sN; omega
  obtain ⟨hlen, hget⟩ := shO_get (M := M) (l := L n) (m := m) (p := p) hn
  obtain ⟨S', s1, s2⟩ := k_shareV hA hcl (cQ_nv hcl hB hv' hnd) hp hlen
  rw [hget] at s1
  unfold fk_11_isOwned fk_11_isOwned_51 fk_11_isOwned_52
  simp only [ckk_y g12, ckk_y gk, g6, bd_s, lt_d, hd1, hd3, k_c8, ckk_y hy.1.1, hy.1.2.2.2.1, ckk_y hv'.2.1.1.1, hy.1.2.1, s1, ckz_0, ckz_1]
  by_cases c1 : v < 1
  · rw [if_pos c1, b2_f (fun q => absurd q.1.1 (Int32.not_le.mpr c1))]; exact ⟨S, rfl, lkE_refl _ _, rfl⟩
  · by_cases c2 : 1000 < v
    · rw [if_neg c1, if_pos c2, b2_f (fun q => absurd q.1.2 (Int32.not_le.mpr c2))]; exact ⟨S, rfl, lkE_refl _ _, rfl⟩
    · rw [if_neg c1, if_neg c2]
      refine ⟨S', ?_, lkE_V hn s2, lkE_F hn s2⟩
      by_cases c3 : shO M n (L n) m p < v
      · rw [if_pos c3, b2_f (fun q => absurd q.2 (Int32.not_le.mpr c3))]
      · rw [if_neg c3, b2_t ⟨⟨Int32.not_lt.mp c1, Int32.not_lt.mp c2⟩, Int32.not_lt.mp c3⟩]
theorem fit_5 (hh : hsI x0 S M) (h : core x0 Bt S M ra sl mkO L Wt) (hn : n < 4) {j m kd p : Nat} (hp : ptO M mkO j m kd p 66) (e : mEx sc M A) (v5 v6 : Int32) (hd0 : kF S (x0 + 19) 0 = 5) (hd1 : kF S (x0 + 19) 1 = Int32.ofNat j) (hd3 : kF S (x0 + 19) 3 = Int32.ofNat p) (hd5 : kF S (x0 + 19) 5 = 0) : fitR x0 n S M A mkO l 5 (Int32.ofNat (rNm m)) (Int32.ofNat p) v5 v6 := by
  have g6 : kR (cPi S (x0 + 19) 4 v5) x0 6 = some (x0 + 19) := hh.1.2.2.2.2.2.2.2.1
  have gk : kK (cPi S (x0 + 19) 4 v5) (x0 + 19) = 2 := hh.2.2.2.1.1
  have g12 : kK (cPi S (x0 + 19) 4 v5) x0 = 12 := hh.1.1
  have gf : kF (cPi S (x0 + 19) 4 v5) (x0 + 19) 0 = 5 := by rw [fP]; exact hd0
  have gf1 : kF (cPi S (x0 + 19) 4 v5) (x0 + 19) 1 = Int32.ofNat j := by rw [fP]; exact hd1
  have gf3 : kF (cPi S (x0 + 19) 4 v5) (x0 + 19) 3 = Int32.ofNat p := by rw [fP]; exact hd3
  obtain ⟨S', s1, s2, s3⟩ := k_isOwned (hsI_P hh 4 v5) (core_P h 4 v5) hn hp gf1 gf3 v5
  obtain ⟨⟨hA, hsl, -, -⟩, ⟨hB, -⟩, hN, -⟩ := h
  obtain ⟨⟨hM1, -⟩, -⟩ := hN n hn
  have e4 : mEx sc M (pu (pu (pu (pu A 69 0) 70 0) 69 v5) 70 0) := mEx_trans (pu3 e) (mEx_pu (by unfold sc; omega) _)
  obtain ⟨B, b1, b2', b3, -⟩ := m_lookR hM1.1 e4 hp (Or.inr (Or.inl rfl)) (L n).length (Nat.le_refl _)
  rw [List.take_length] at b3
  obtain ⟨hlen, hget⟩ := shO_get (M := M) (l := L n) (m := m) (p := p) hn
  have hb3 := (b3.2 n hlen).1
  rw [hget] at hb3
  have fin : ∀ (C : mSt), mEx sc M C → C.1 69 = v5 → C.1 70 = 0 → fm_refusal A (Int32.ofNat n) 5 (Int32.ofNat (rNm m)) (Int32.ofNat p) v5 v6 = some (if (1 ≤ v5 ∧ v5 ≤ 1000) ∧ v5 ≤ shO M n (L n) m p then 0 else 5, C) → fitR x0 n S M A mkO l 5 (Int32.ofNat (rNm m)) (Int32.ofNat p) v5 v6 := fun C eC c69 c70 hC => by
    refine ⟨decide ((1 ≤ v5 ∧ v5 ≤ 1000) ∧ v5 ≤ shO M n (L n) m p), S', _, C, ?_, lkE_t (lkE_P _ _) s2, fun i hi => ?_, hC, ite05 _, eC, fun _ => ⟨?_, ?_, ?_⟩⟩
    · rw [k_fitV (Or.inr (Or.inl rfl)) hh hd0, b2_d]
      unfold fk_11_fitsByValue
      simp only [ckk_y g12, ckk_y gk, g6, bd_s, lt_d]
      rw [gf, if_neg (by decide), if_pos rfl]
      simp only [s1, bd_s, ckz_b]
    · rw [s3, fP]; exact upd_o _ _ (by omega)
    · rw [s3, fP, upd_s, c69]
    · rw [s3, fP, upd_o _ _ (by decide), hd5, c70]
    · exact dF_no (by unfold tuS; decide) (by decide) (by decide) (by decide) (by decide) (by decide)
  have hun : fm_refusal A (Int32.ofNat n) 5 (Int32.ofNat (rNm m)) (Int32.ofNat p) v5 v6 = bd (fm_within v5 (1 : Int32) (1000 : Int32)) fun r2 => if r2 = 0 then fm_refusal_188 (pu (pu (pu (pu A 69 0) 70 0) 69 v5) 70 0) else fm_refusal_190 (pu (pu (pu (pu A 69 0) 70 0) 69 v5) 70 0) (Int32.ofNat n) (Int32.ofNat (rNm m)) (Int32.ofNat p) v5 := by
    unfold fm_refusal fm_refusal_132 fm_refusal_151
    simp only [lt_d]
    rw [if_neg (by decide), if_neg (by decide), if_neg (by decide), if_neg (by decide), if_neg (by decide), if_pos trivial, if_neg (by decide), if_neg (by decide)]
  rw [m_wb] at hun
  by_cases c : 1 ≤ v5 ∧ v5 ≤ 1000
  · refine fin B (mEx_trans e4 (mEx_mono b2' wL_sc)) (by rw [(b2' 69 (by unfold wL; omega)).1, pu_o _ _ (by decide), pu_s]) (by rw [(b2' 70 (by unfold wL; omega)).1, pu_s]) ?_
    rw [hun, b2_t c, if_neg n10]
    unfold fm_refusal_190 fm_refusal_220
    rw [ck_n hn (by omega), rd_e e4 (by decide) (by omega), hM1.1.2.2.2, b1, bd_s, ck_n (by omega) (by omega), rd_n _ _ (by omega), hb3]
    by_cases c3 : shO M n (L n) m p < v5
    · rw [if_pos c3, if_neg (fun q => absurd q.2 (Int32.not_le.mpr c3))]
    · rw [if_neg c3, if_pos ⟨c, Int32.not_lt.mp c3⟩]
  · refine fin _ e4 (by rw [pu_o _ _ (by decide), pu_s]) (by rw [pu_s]) ?_
    rw [hun, b2_f c, if_pos rfl, if_neg (fun q => c q.1)]; rfl
theorem fit_6 (hh : hsI x0 S M) (h : core x0 Bt S M ra sl mkO L Wt) (hn : n < 4) {j m kd p : Nat} (hp : ptO M mkO j m kd p 66) (e : mEx sc M A) (v5 v6 : Int32) (hd0 : kF S (x0 + 19) 0 = 6) (hd1 : kF S (x0 + 19) 1 = Int32.ofNat j) (hd3 : kF S (x0 + 19) 3 = Int32.ofNat p) : fitR x0 n S M A mkO l 6 (Int32.ofNat (rNm m)) (Int32.ofNat p) v5 v6 := by
  have k2 := hh.2.2.2.1.1
  have k6 := hh.1.2.2.2.2.2.2.2.1
  have g6 : kR (cPi S (x0 + 19) 4 v5) x0 6 = some (x0 + 19) := hh.1.2.2.2.2.2.2.2.1
  have gk : kK (cPi S (x0 + 19) 4 v5) (x0 + 19) = 2 := hh.2.2.2.1.1
  have g12 : kK (cPi S (x0 + 19) 4 v5) x0 = 12 := hh.1.1
  have gf1 : kF (cPi (cPi S (x0 + 19) 4 v5) (x0 + 19) 5 v6) (x0 + 19) 1 = Int32.ofNat j := by rw [fP, fP]; exact hd1
  have gf3 : kF (cPi (cPi S (x0 + 19) 4 v5) (x0 + 19) 5 v6) (x0 + 19) 3 = Int32.ofNat p := by rw [fP, fP]; exact hd3
  have hc6 := core_P (core_P h 4 v5) 5 v6
  obtain ⟨S', s1, s2, s3⟩ := k_isOwned (hsI_P (hsI_P hh 4 v5) 5 v6) hc6 hn hp gf1 gf3 v5
  have y8 : kK (cPi (cPi S (x0 + 19) 4 v5) (x0 + 19) 5 v6) (sN x0 n) = 8 := by
    obtain ⟨-, -, hN, -⟩ := hc6
    obtain ⟨⟨-, ⟨⟨hy, -, -⟩, -⟩⟩, -⟩ := hN n hn
    exact hy.1.1
  have y0 : kF (cPi (cPi S (x0 + 19) 4 v5) (x0 + 19) 5 v6) (sN x0 n) 0 = Int32.ofNat n := by
    obtain ⟨-, -, hN, -⟩ := hc6
    obtain ⟨⟨-, ⟨⟨hy, -, -⟩, -⟩⟩, -⟩ := hN n hn
    exact hy.1.2.1
  have g12' : kK (cPi (cPi S (x0 + 19) 4 v5) (x0 + 19) 5 v6) x0 = 12 := hh.1.1
  obtain ⟨⟨hA, hsl, -, -⟩, ⟨hB, -⟩, hN, -⟩ := h
  obtain ⟨⟨hM1, -⟩, -⟩ := hN n hn
  have e4 : mEx sc M (pu (pu (pu (pu A 69 0) 70 0) 69 v5) 70 v6) := mEx_trans (pu3 e) (mEx_pu (by unfold sc; omega) _)
  obtain ⟨B, b1, b2', b3, -⟩ := m_lookR hM1.1 e4 hp (Or.inr (Or.inl rfl)) (L n).length (Nat.le_refl _)
  rw [List.take_length] at b3
  obtain ⟨hlen, hget⟩ := shO_get (M := M) (l := L n) (m := m) (p := p) hn
  have hb3 := (b3.2 n hlen).1
  rw [hget] at hb3
  let P : Prop := ((0 ≤ v6 ∧ v6 ≤ 3) ∧ v6 ≠ Int32.ofNat n) ∧ (1 ≤ v5 ∧ v5 ≤ 1000) ∧ v5 ≤ shO M n (L n) m p
  have dP : Decidable P := by unfold P; infer_instance
  have hcl : ∃ S', fk_11_fits S x0 (sN x0 n) v5 v6 = some (b2 P, S') ∧ lkE x0 S S' ∧ kF S' (x0 + 19) = upd (upd (kF S (x0 + 19)) 4 v5) 5 v6 := by
    unfold fk_11_fits fk_11_fits_206 fk_11_fits_207
    simp only [ckz_0, ckz_1]
    rw [ckk_y hh.1.1, k6, bd_s, ckk_y k2, hd0, if_pos rfl, ckk_y hh.1.1, bd_s, ckk_y k2, lt_d, ckk_y g12, g6, bd_s, ckk_y gk, lt_d, k_isNode, bd_s]
    by_cases c1 : 0 ≤ v6 ∧ v6 ≤ 3
    · rw [b2_t c1, if_neg n10, ckk_y y8, y0]
      by_cases c2 : v6 = Int32.ofNat n
      · rw [if_pos c2, b2_f (fun q => q.1.2 c2)]; exact ⟨_, rfl, lkE_t (lkE_P _ _) (lkE_P _ _), by rw [fP, fP]⟩
      · rw [if_neg c2, ckk_y g12', s1, bd_s, lt_d, lt_d]
        by_cases c3 : (1 ≤ v5 ∧ v5 ≤ 1000) ∧ v5 ≤ shO M n (L n) m p
        · refine ⟨S', ?_, lkE_t (lkE_t (lkE_P _ _) (lkE_P _ _)) s2, by rw [s3, fP, fP]⟩
          show (if b2 _ = 0 then _ else _) = _
          rw [b2_t c3, if_neg n10, b2_t ⟨⟨c1, c2⟩, c3⟩]
        · refine ⟨S', ?_, lkE_t (lkE_t (lkE_P _ _) (lkE_P _ _)) s2, by rw [s3, fP, fP]⟩
          show (if b2 _ = 0 then _ else _) = _
          rw [b2_f c3, if_pos rfl, b2_f (fun q => c3 q.2)]
    · rw [b2_f c1, if_pos rfl, b2_f (fun q => c1 q.1.1)]; exact ⟨_, rfl, lkE_t (lkE_P _ _) (lkE_P _ _), by rw [fP, fP]⟩
  obtain ⟨S2, q1, q2, q3⟩ := hcl
  have fin : ∀ (C : mSt), mEx sc M C → C.1 69 = v5 → C.1 70 = v6 → fm_refusal A (Int32.ofNat n) 6 (Int32.ofNat (rNm m)) (Int32.ofNat p) v5 v6 = some (if P then 0 else 5, C) → fitR x0 n S M A mkO l 6 (Int32.ofNat (rNm m)) (Int32.ofNat p) v5 v6 := fun C eC c69 c70 hC => by
    refine ⟨decide P, S2, _, C, ?_, q2, fun i hi => ?_, hC, ite05 _, eC, fun hb => ⟨?_, ?_, ?_⟩⟩
    · rw [b2_d]; exact q1
    · rw [q3, upd_o _ _ (by omega)]; exact upd_o _ _ (by omega)
    · rw [q3, upd_o _ _ (by decide), upd_s, c69]
    · rw [q3, upd_s, c70]
    · rw [c70]
      obtain ⟨x, -, x2, x3⟩ := rng 0 3 (by decide) (of_decide_eq_true hb).1.1 (by decide)
      refine ⟨fun q => ?_, fun _ => ⟨x, by omega, x3⟩, fun q => ?_, fun q => ?_, fun q => ?_, fun q => ?_⟩ <;> exfalso <;> revert q <;> (try unfold tuS) <;> decide
  have hun : fm_refusal A (Int32.ofNat n) 6 (Int32.ofNat (rNm m)) (Int32.ofNat p) v5 v6 = fm_refusal_151 (pu (pu (pu A 69 0) 70 0) 69 v5) (Int32.ofNat n) 6 (Int32.ofNat (rNm m)) (Int32.ofNat p) v5 v6 v6 := by
    unfold fm_refusal fm_refusal_132
    rw [lt_d, lt_d, if_neg (by decide), if_neg (by decide), if_neg (by decide), if_neg (by decide), if_neg (by decide), if_neg (by decide), if_pos rfl, lt_d, if_pos rfl]
  unfold fm_refusal_151 at hun
  rw [lt_d, m_wb, if_pos rfl, m_wb] at hun
  by_cases c : 1 ≤ v5 ∧ v5 ≤ 1000
  · by_cases c1 : 0 ≤ v6 ∧ v6 ≤ 3
    · by_cases c2 : v6 = Int32.ofNat n
      · refine fin _ e4 (by rw [pu_o _ _ (by decide), pu_s]) (by rw [pu_s]) ?_
        rw [hun, b2_t c, if_neg n10, b2_t c1, if_neg n10, if_pos c2, if_neg (fun q => q.1.2 c2)]; rfl
      · refine fin B (mEx_trans e4 (mEx_mono b2' wL_sc)) (by rw [(b2' 69 (by unfold wL; omega)).1, pu_o _ _ (by decide), pu_s]) (by rw [(b2' 70 (by unfold wL; omega)).1, pu_s]) ?_
        rw [hun, b2_t c, if_neg n10, b2_t c1, if_neg n10, if_neg c2]
        unfold fm_refusal_190 fm_refusal_220
        rw [ck_n hn (by omega), rd_e e4 (by decide) (by omega), hM1.1.2.2.2, b1, bd_s, ck_n (by omega) (by omega), rd_n _ _ (by omega), hb3]
        by_cases c3 : shO M n (L n) m p < v5
        · rw [if_pos c3, if_neg (fun q => absurd q.2.2 (Int32.not_le.mpr c3))]
        · rw [if_neg c3, if_pos ⟨⟨c1, c2⟩, c, Int32.not_lt.mp c3⟩]
    · refine fin _ e4 (by rw [pu_o _ _ (by decide), pu_s]) (by rw [pu_s]) ?_
      rw [hun, b2_t c, if_neg n10, b2_f c1, if_pos rfl, if_neg (fun q => c1 q.1.1)]; rfl
  · refine fin _ e4 (by rw [pu_o _ _ (by decide), pu_s]) (by rw [pu_s]) ?_
    rw [hun, b2_f c, if_pos rfl, if_neg (fun q => c q.2.1)]; rfl
theorem m_ref267 {B : mSt} {V : List (Int32 × Int32)} (hP : inP B V) (hV : V.length ≤ 1000) (v : Int32) : ∃ r, fm_refusal_267 mFU B v 0 = some (r, B) ∧ (r = 0 ↔ ∃ i, ∃ h : i < V.length, V[i].1 = v) := by
  have key : ∀ (j i fu : Nat), i + j = V.length → j < fu → (∀ q (h : q < V.length), q < i → V[q].1 ≠ v) → ∃ r, fm_refusal_267 fu B v (Int32.ofNat i) = some (r, B) ∧ (r = 0 ↔ ∃ i, ∃ h : i < V.length, V[i].1 = v) := by
    intro j
    induction j with
    | zero =>
      intro i fu hi hfu hq
      obtain ⟨fu, rfl⟩ : ∃ q, fu = q + 1 := ⟨fu - 1, by omega⟩
      rw [fm_refusal_267, hP.1, if_pos ((jI_le (by omega) (by omega)).mpr (by omega))]
      refine ⟨5, rfl, fun q => absurd q (by decide), ?_⟩
      rintro ⟨q, h1, h2⟩
      exact absurd h2 (hq q h1 (by omega))
    | succ j ih =>
      intro i fu hi hfu hq
      obtain ⟨fu, rfl⟩ : ∃ q, fu = q + 1 := ⟨fu - 1, by omega⟩
      have hi' : i < V.length := by omega
      rw [fm_refusal_267, hP.1, if_neg (fun q => absurd ((jI_le (by omega) (by omega)).mp q) (by omega)), ck_n (by omega) (by omega), rd_n _ _ (by omega), (hP.2 i hi').1]
      by_cases c : V[i].1 = v
      · rw [if_pos c]; exact ⟨0, rfl, fun _ => ⟨i, hi', c⟩, fun _ => rfl⟩
      · rw [if_neg c, lt_d, show (1 : Int32) = Int32.ofNat 1 from rfl, jI_add]
        refine ih (i + 1) fu (by omega) (by omega) (fun q h1 h2 => ?_)
        by_cases e : q = i
        · subst e; exact c
        · exact hq q h1 (by omega)
  exact key V.length 0 mFU (by omega) (Nat.lt_of_le_of_lt hV (by decide)) (fun q _ h => absurd h (by omega))
theorem kv_has {f : Nat → Option Nat} {v : Int32} : (∃ i, ∃ h : i < (kvL f 64).length, (kvL f 64)[i].1 = v) ↔ ∃ x r, x < 64 ∧ f x = some r ∧ v = Int32.ofNat x := by
  constructor
  · rintro ⟨i, hi, e⟩
    obtain ⟨x, r, h1, h2, h3⟩ := kvL_mem.mp (List.getElem_mem hi)
    exact ⟨x, r, h1, h2, by rw [← e, h3]⟩
  · rintro ⟨x, r, h1, h2, rfl⟩
    obtain ⟨i, hi, e⟩ := List.mem_iff_getElem.mp (kvL_mem.mpr ⟨x, r, h1, h2, rfl⟩ : (Int32.ofNat x, Int32.ofNat r) ∈ kvL f 64)
    exact ⟨i, hi, by rw [e]⟩
theorem m_ref244 (hM : mR M mkO sl n l) (e : mEx sc M A) {j m kd p : Nat} {rl : Int32} (hp : ptO M mkO j m kd p rl) (hrl : rl = 65 ∨ rl = 77) (v : Int32) : ∃ r C, fm_refusal_244 (pu (pu A 69 0) 70 0) (Int32.ofNat n) (Int32.ofNat (rNm m)) (Int32.ofNat p) v = some (r, C) ∧ mEx sc M C ∧ C.1 69 = v ∧ C.1 70 = 0 ∧ (r = 0 ↔ ∃ i, ∃ h : i < (vaL M l (Int32.ofNat (rNm m)) (Int32.ofNat p) rl).length, (vaL M l (Int32.ofNat (rNm m)) (Int32.ofNat p) rl)[i].1 = v) := by
  obtain ⟨B, b1, b2', b3, -⟩ := m_lookR hM (pu3 (v := v) e) hp (by rcases hrl with e | e <;> subst e <;> decide) l.length (Nat.le_refl _)
  rw [List.take_length] at b3
  have hlen : (vaL M l (Int32.ofNat (rNm m)) (Int32.ofNat p) rl).length ≤ 1000 := va_len hM.1 hM.2.1 (by rcases hrl with e | e <;> subst e <;> unfold isRl <;> decide)
  obtain ⟨r, r1, r2⟩ := m_ref267 b3 hlen v
  refine ⟨r, B, ?_, mEx_trans (pu3 e) (mEx_mono b2' wL_sc), by rw [(b2' 69 (by unfold wL; omega)).1, pu_s], by rw [(b2' 70 (by unfold wL; omega)).1, pu_o _ _ (by decide), pu_s], r2⟩
  have hn := hM.2.2.1.1
  unfold fm_refusal_244
  rw [lt_d, ck_n hn (by omega), rd_e (pu3 e) (by decide) (by omega), hM.2.2.2, b1, bd_s, r1]
theorem fit_8 (hh : hsI x0 S M) (h : core x0 Bt S M ra sl mkO L Wt) (hn : n < 4) {j m kd p : Nat} (hp : ptO M mkO j m kd p 65) (e : mEx sc M A) (v5 v6 : Int32) (hd0 : kF S (x0 + 19) 0 = 8) (hd1 : kF S (x0 + 19) 1 = Int32.ofNat j) (hd3 : kF S (x0 + 19) 3 = Int32.ofNat p) (hd5 : kF S (x0 + 19) 5 = 0) : fitR x0 n S M A mkO l 8 (Int32.ofNat (rNm m)) (Int32.ofNat p) v5 v6 := by
  have g6 : kR (cPi S (x0 + 19) 4 v5) x0 6 = some (x0 + 19) := hh.1.2.2.2.2.2.2.2.1
  have gk : kK (cPi S (x0 + 19) 4 v5) (x0 + 19) = 2 := hh.2.2.2.1.1
  have g12 : kK (cPi S (x0 + 19) 4 v5) x0 = 12 := hh.1.1
  have gf : kF (cPi S (x0 + 19) 4 v5) (x0 + 19) 0 = 8 := by rw [fP]; exact hd0
  have gf1 : kF (cPi S (x0 + 19) 4 v5) (x0 + 19) 1 = Int32.ofNat j := by rw [fP]; exact hd1
  have gf3 : kF (cPi S (x0 + 19) 4 v5) (x0 + 19) 3 = Int32.ofNat p := by rw [fP]; exact hd3
  obtain ⟨⟨hA, hsl, -, -⟩, ⟨hB, -⟩, hN, -⟩ := core_P h 4 v5
  obtain ⟨⟨hM1, ⟨⟨hy, hv', -⟩, -⟩⟩, -⟩ := hN n hn
  have hcl := hM1.1.2.1
  have hnd : x0 + 5 + 5 ≤ sN x0 n ∧ sN x0 n + 26 ≤ x0 + 5 + 128 := by unfold sN; omega
  have hj := (hA.2.1.1 j m hp.1).1
  have hp6 := hp.2.2.2.1
  have hup : (L n).take 1000 = L n := List.take_of_length_le (cl_len hcl)
  obtain ⟨S', s1, s2⟩ := k_enterOf (c := 8 * j + p) (by omega) (cQ_nv hcl hB hv' hnd) (ky_rng hA hcl hp (Or.inl rfl)) v5
  obtain ⟨r, C, r1, r2, r3, r4, r5⟩ := m_ref244 hM1.1 e hp (Or.inl rfl) v5
  have s3 := lkE_F hn s2
  have hiff : ∀ o : Option Nat, o = (if 0 ≤ v5 ∧ v5 < 64 then (enR M (chF M sl) (L n) 1000 (8 * j + p) v5.toNatClampNeg).map ra else none) → (o.isSome = true ↔ ∃ x q, x < 64 ∧ stB M (L n) (Int32.ofNat (rNm m)) (Int32.ofNat p) x = some q ∧ v5 = Int32.ofNat x) := fun o ho => by
    rw [ho]
    by_cases c : 0 ≤ v5 ∧ v5 < 64
    · obtain ⟨x, x1, x2⟩ := wiK (v := v5) (N := 64) (by decide) (Int32.not_lt.mpr c.1) (Int32.not_le.mpr c.2)
      subst x2
      rw [if_pos c, jI_cl (by omega), lk_A hA hcl hp 1000 x, hup]
      cases hf : stB M (L n) (Int32.ofNat (rNm m)) (Int32.ofNat p) x with
      | none =>
        refine ⟨fun q => (by cases q), ?_⟩
        rintro ⟨y, q, y1, y2, y3⟩
        have := (jI_inj (by omega) (by omega)).mp y3
        subst this
        rw [hf] at y2; cases y2
      | some q => exact ⟨fun _ => ⟨x, q, x1, hf, rfl⟩, fun _ => rfl⟩
    · rw [if_neg c]
      refine ⟨fun q => (by cases q), ?_⟩
      rintro ⟨y, q, y1, y2, rfl⟩
      exact absurd ⟨Int32.not_lt.mp (jI_nn (by omega)), Int32.not_le.mp (jK 64 64 rfl y1 (by decide))⟩ c
  generalize (if 0 ≤ v5 ∧ v5 < 64 then (enR M (chF M sl) (L n) 1000 (8 * j + p) v5.toNatClampNeg).map ra else none) = o at s1 hiff
  have hv : o.isSome = true ↔ r = 0 := by
    rw [hiff o rfl, r5]
    exact kv_has.symm
  refine ⟨o.isSome, S', r, C, ?_, lkE_t (lkE_P _ _) (lkE_V hn s2), fun i hi => ?_, ?_, hv.symm, r2, fun hb => ⟨?_, ?_, ?_⟩⟩
  · rw [k_fitV (Or.inr (Or.inr (Or.inr (Or.inl rfl)))) hh hd0]
    unfold fk_11_fitsByValue fk_11_fitsByValue_143
    simp only [ckk_y g12, ckk_y gk, g6, bd_s, lt_d]
    rw [gf, if_neg (by decide), if_neg (by decide), if_neg (by decide), if_neg (by decide), if_pos rfl, ckk_y hy.1.1, hy.1.2.2.2.1, bd_s, gf1, gf3, k_c8, ckk_y hv'.2.1.1.1, s1, bd_s]
    cases o <;> rfl
  · rw [s3, fP]; exact upd_o _ _ (by omega)
  · unfold fm_refusal
    rw [lt_d, lt_d, if_neg (by decide), if_neg (by decide), if_neg (by decide), if_neg (by decide), if_neg (by decide), if_neg (by decide), if_neg (by decide), if_neg (by decide), if_pos rfl, r1]
  · rw [s3, fP, upd_s, r3]
  · rw [s3, fP, upd_o _ _ (by decide), hd5, r4]
  · rw [r3]
    obtain ⟨x, q, x1, -, x3⟩ := (hiff o rfl).mp hb
    exact dF_v (Or.inr (Or.inl rfl)) ⟨x, x1, x3⟩
theorem fit_16 (hh : hsI x0 S M) (h : core x0 Bt S M ra sl mkO L Wt) (hn : n < 4) {j m kd p : Nat} (hp : ptO M mkO j m kd p 77) (e : mEx sc M A) (v5 v6 : Int32) (hd0 : kF S (x0 + 19) 0 = 16) (hd1 : kF S (x0 + 19) 1 = Int32.ofNat j) (hd3 : kF S (x0 + 19) 3 = Int32.ofNat p) (hd5 : kF S (x0 + 19) 5 = 0) : fitR x0 n S M A mkO l 16 (Int32.ofNat (rNm m)) (Int32.ofNat p) v5 v6 := by
  have g6 : kR (cPi S (x0 + 19) 4 v5) x0 6 = some (x0 + 19) := hh.1.2.2.2.2.2.2.2.1
  have gk : kK (cPi S (x0 + 19) 4 v5) (x0 + 19) = 2 := hh.2.2.2.1.1
  have g12 : kK (cPi S (x0 + 19) 4 v5) x0 = 12 := hh.1.1
  have gf : kF (cPi S (x0 + 19) 4 v5) (x0 + 19) 0 = 16 := by rw [fP]; exact hd0
  have gf1 : kF (cPi S (x0 + 19) 4 v5) (x0 + 19) 1 = Int32.ofNat j := by rw [fP]; exact hd1
  have gf3 : kF (cPi S (x0 + 19) 4 v5) (x0 + 19) 3 = Int32.ofNat p := by rw [fP]; exact hd3
  obtain ⟨⟨hA, hsl, -, -⟩, ⟨hB, -⟩, hN, -⟩ := core_P h 4 v5
  obtain ⟨⟨hM1, ⟨⟨hy, hv', -⟩, -⟩⟩, -⟩ := hN n hn
  have hcl := hM1.1.2.1
  have hj := (hA.2.1.1 j m hp.1).1
  have hp6 := hp.2.2.2.1
  have hup : (L n).take 1000 = L n := List.take_of_length_le (cl_len hcl)
  have hM0 := fun x => lk_M0 hA hcl hp 1000 x
  rw [hup] at hM0
  have s1 := k_bindOf (c := 8 * j + p) (by omega) hB hv'.1 hv'.2.1 (lOk_cl hcl) v5
  obtain ⟨r, C, r1, r2, r3, r4, r5⟩ := m_ref244 hM1.1 e hp (Or.inr rfl) v5
  have hkc : ∀ x, kyC M (L n) (Int32.ofNat (rNm m)) (Int32.ofNat p) x = (match kyB M (L n) (Int32.ofNat (rNm m)) (Int32.ofNat p) x with | none => none | some r => if M.2 9 r = 15 then some r else none) := fun _ => rfl
  obtain ⟨o, s2, hiff⟩ : ∃ o : Option Nat, fk_10_bindOf (cPi S (x0 + 19) 4 v5) (sN x0 n + 20) (Int32.ofNat (8 * j + p)) v5 = some o ∧ (o.isSome = true ↔ ∃ x q, x < 64 ∧ kyC M (L n) (Int32.ofNat (rNm m)) (Int32.ofNat p) x = some q ∧ v5 = Int32.ofNat x) := by
    refine ⟨_, s1, ?_⟩
    constructor
    · intro hs
      cases hb : bdR M (chF M sl) (L n) 1000 (8 * j + p) v5 with
      | none => rw [hb] at hs; cases hs
      | some q =>
        have hq := find_p hb
        rw [Bool.and_eq_true] at hq
        have hq1 : M.2 12 q = v5 := of_decide_eq_true hq.1.1
        obtain ⟨x, y1, y2⟩ := ky_rng hA hcl hp (Or.inr rfl) q (List.mem_reverse.mp hq.2)
        have hv4 : v5 = Int32.ofNat x := hq1.symm.trans y2
        rw [hb] at hs
        have hs' : (if M.2 9 q = 15 then some (ra q) else none).isSome = true := hs
        by_cases e15 : M.2 9 q = 15
        · refine ⟨x, q, y1, ?_, hv4⟩
          rw [hkc, ← hM0 x, ← hv4, hb]
          exact if_pos e15
        · rw [if_neg e15] at hs'; cases hs'
    · rintro ⟨x, q, x1, x2, rfl⟩
      rw [hkc, ← hM0 x] at x2
      cases hb : bdR M (chF M sl) (L n) 1000 (8 * j + p) (Int32.ofNat x) with
      | none => rw [hb] at x2; cases x2
      | some q' =>
        rw [hb] at x2
        have x2' : (if M.2 9 q' = 15 then some q' else none) = some q := x2
        by_cases e15 : M.2 9 q' = 15
        · show (if M.2 9 q' = 15 then some (ra q') else none).isSome = true
          rw [if_pos e15]; rfl
        · rw [if_neg e15] at x2'; cases x2'
  have hv : o.isSome = true ↔ r = 0 := by
    rw [hiff, r5]
    exact kv_has.symm
  refine ⟨o.isSome, cPi S (x0 + 19) 4 v5, r, C, ?_, lkE_P _ _, fun i hi => ?_, ?_, hv.symm, r2, fun hb => ⟨?_, ?_, ?_⟩⟩
  · rw [k_fitV (Or.inr (Or.inr (Or.inr (Or.inr (Or.inl rfl))))) hh hd0]
    unfold fk_11_fitsByValue fk_11_fitsByValue_161
    simp only [ckk_y g12, ckk_y gk, g6, bd_s, lt_d]
    rw [gf, if_neg (by decide), if_neg (by decide), if_neg (by decide), if_neg (by decide), if_neg (by decide), if_neg (by decide), if_neg (by decide), if_neg (by decide), if_neg (by decide), if_neg (by decide), if_neg (by decide), if_neg (by decide), if_pos rfl, ckk_y hy.1.1, hy.1.2.2.2.1, bd_s, gf1, gf3, k_c8, ckk_y hv'.2.1.1.1, s2, bd_s]
    cases o <;> rfl
  · rw [fP]; exact upd_o _ _ (by omega)
  · unfold fm_refusal
    rw [lt_d, lt_d, if_neg (by decide), if_neg (by decide), if_neg (by decide), if_neg (by decide), if_neg (by decide), if_neg (by decide), if_neg (by decide), if_neg (by decide), if_neg (by decide), if_neg (by decide), if_neg (by decide), if_neg (by decide), if_neg (by decide), if_neg (by decide), if_neg (by decide), if_neg (by decide), if_pos rfl, r1]
  · rw [fP, upd_s, r3]
  · rw [fP, upd_o _ _ (by decide), hd5, r4]
  · rw [r3]
    obtain ⟨x, q, x1, -, x3⟩ := hiff.mp hb
    exact dF_v (Or.inr (Or.inr (Or.inr rfl))) ⟨x, x1, x3⟩
end V
