-- part 74: the calls: what is read from cells alone
theorem wiE {v : Int32} {N : Nat} (hN : N < 2147483648) : (0 ≤ v ∧ v ≤ Int32.ofNat N - 1) ↔ ∃ i, i < N ∧ v = Int32.ofNat i := by
  constructor
  · rintro ⟨h1, h2⟩
    have hv := jI_of (Int32.not_lt.mpr h1)
    have hc := jI_clt v
    rcases Nat.eq_zero_or_pos N with h0 | h0
    · subst h0
      have h3 : v ≤ -1 := h2
      exact absurd (Int32.le_trans h1 h3) (by decide)
    · rw [show (1 : Int32) = Int32.ofNat 1 from rfl, jI_sub h0, hv, jI_le hc (by omega)] at h2
      exact ⟨v.toNatClampNeg, by omega, hv⟩
  · rintro ⟨i, hi, rfl⟩
    refine ⟨Int32.not_lt.mp (jI_nn (by omega)), ?_⟩
    rw [show (1 : Int32) = Int32.ofNat 1 from rfl, jI_sub (by omega), jI_le (by omega) (by omega)]
    omega
theorem wiK {v : Int32} {N : Nat} (hN : N < 2147483648) (h1 : ¬ v < 0) (h2 : ¬ Int32.ofNat N ≤ v) : ∃ i, i < N ∧ v = Int32.ofNat i := by
  have hv := jI_of h1
  have hc := jI_clt v
  refine ⟨v.toNatClampNeg, ?_, hv⟩
  rw [hv, jI_le hN hc] at h2
  omega
theorem wi3 {v : Int32} : (0 ≤ v ∧ v ≤ 3) ↔ ∃ n, n < 4 ∧ v = Int32.ofNat n := wiE (N := 4) (by decide)
theorem k_isNode (v : Int32) : fk_11_isNode v = some (b2 (0 ≤ v ∧ v ≤ 3)) := by
  unfold fk_11_isNode fk_11_isNode_13 fk_11_isNode_14
  by_cases h : v < 0
  · rw [if_pos h, ckz_0, b2_f (fun q => absurd q.1 (Int32.not_le.mpr h))]
  · rw [if_neg h]
    by_cases h2 : (4 : Int32) ≤ v
    · rw [if_pos h2, ckz_0, b2_f]
      rintro ⟨-, q⟩
      exact absurd (Int32.le_trans h2 q) (by decide)
    · rw [if_neg h2, ckz_1, b2_t]
      exact wi3.mpr (wiK (N := 4) (by decide) h h2)
section A
variable {S : cSt} {M : mSt} {x0 k n : Nat}
theorem k_nd {α : Type} (hh : hsI x0 S M) (hn : n < 4) (K : Option Nat → Option α) : ckk S x0 12 (bd (kR S x0 2) fun a3 => ckk S a3 31 (ck (Int32.ofNat n) (kL S a3) (lt (kO S a3 (Int32.toNatClampNeg (Int32.ofNat n))) K))) = K (some (sN x0 n)) := by
  obtain ⟨⟨h1, -, -, h2, -⟩, -, ⟨h3, h4, h5⟩, -⟩ := hh
  rw [ckk_y h1, h2, bd_s, ckk_y h3, h4, ck_n hn (by omega), lt_d, jI_cl (by omega), h5 n hn]
theorem Inv_0 (h : Inv x0 k S M) (hk : k < 900) : Inv x0 k S (pu M 0 0) := Inv_sc h (Nat.le_refl _) hk (mEx_pu (Or.inl rfl) _) (cEq_refl _ _) rfl (fun _ _ => rfl)
theorem Inv_1 (h : Inv x0 k S M) (hk : k + 1 < 900) : Inv x0 (k + 1) S M := Inv_sc h (by omega) hk (mEx_refl _ _) (cEq_refl _ _) rfl (fun _ _ => rfl)
theorem Inv_m {M' : mSt} (h : Inv x0 k S M) (hk : k + 1 < 900) (e : mEx sc M M') : Inv x0 (k + 1) S M' := Inv_sc h (by omega) hk (mEx_mono e (fun _ h => Or.inr h)) (cEq_refl _ _) rfl (fun _ _ => rfl)
theorem c_fault (hk : k + 1 < 900) : lC_fault x0 (Inv x0 k) (Inv x0 (k + 1)) := by
  intro S M h
  have h0 := Inv_0 h (by omega)
  unfold fk_11_fault fm_fault
  rw [lt_d]
  generalize pu M 0 0 = N at h0 ⊢
  have h1 := Inv_1 h0 hk
  obtain ⟨ra, sl, mkO, L, Wt, ro, fa, hc, hh, hk1, ht, hx, hr, hl, hn⟩ := h0
  refine ⟨_, _, ?_, rfl, h1⟩
  rw [ckk_y hh.1.1, hh.1.2.1, bd_s, ckk_y hk1.1.1, hk1.2.1.2.2]
theorem k_rowsInAll {ra : Nat → Nat} {sl ch : Nat → Int32} {made : Nat → Prop} {mkO : Nat → Option Nat} {bk : Nat} (hB : cBk M ra sl ch made mkO S bk) : fk_0_rowsInAll S bk = some (kI S (bk + 3) 0 + kI S (bk + 3) 1 + kI S (bk + 3) 2 + kI S (bk + 3) 3) := by
  obtain ⟨⟨b1, b2, b3, b4, b5, -⟩, ⟨-, -, -, -, c1, c2, -⟩, -⟩ := hB
  unfold fk_0_rowsInAll
  have z0 : ∀ K : Option Int32, ck 0 4 K = K := fun K => ck_n (i := 0) (by decide) (by decide)
  have z1 : ∀ K : Option Int32, ck 1 4 K = K := fun K => ck_n (i := 1) (by decide) (by decide)
  have z2 : ∀ K : Option Int32, ck 2 4 K = K := fun K => ck_n (i := 2) (by decide) (by decide)
  have z3 : ∀ K : Option Int32, ck 3 4 K = K := fun K => ck_n (i := 3) (by decide) (by decide)
  rw [ckk_y b1, b4, bd_s, ckk_y c1, c2, z0, ckk_y b1, bd_s, ckk_y c1, c2, z1, ckk_y b1, bd_s, ckk_y c1, c2, z2, ckk_y b1, bd_s, ckk_y c1, c2, z3]
  rfl
theorem c_total (hk : k + 1 < 900) : lC_total x0 (Inv x0 k) (Inv x0 (k + 1)) := by
  intro S M v h
  have h0 := Inv_0 h (by omega)
  unfold fk_11_total fm_total
  rw [lt_d]
  generalize pu M 0 0 = N at h0 ⊢
  have h1 := Inv_1 h0 hk
  obtain ⟨ra, sl, mkO, L, Wt, ro, fa, hc, hh, hk1, ht, hx, hr, hl, hn⟩ := h0
  obtain ⟨⟨a1, a2, a3, a4, a5, -⟩, -⟩ := hh
  obtain ⟨⟨b1, -⟩, ⟨b2, b3, b4⟩, -⟩ := hk1
  obtain ⟨⟨l1, -⟩, ⟨l2, l3, l4⟩, -⟩ := hl
  obtain ⟨-, ⟨hB, hBa⟩, -⟩ := hc
  by_cases e : v = 0
  · rw [if_pos e, if_pos e]
    refine ⟨_, _, ?_, rfl, h1⟩
    rw [ckk_y a1, a2, bd_s, ckk_y b1, b3]
  rw [if_neg e, if_neg e]
  by_cases e : v = 1
  · rw [if_pos e, if_pos e]
    refine ⟨_, _, ?_, rfl, h1⟩
    rw [ckk_y a1, a2, bd_s, ckk_y b1, b2]
  rw [if_neg e, if_neg e]
  by_cases e : v = 2
  · rw [if_pos e, if_pos e]
    refine ⟨_, _, ?_, rfl, h1⟩
    rw [ckk_y a1, a5, bd_s, ckk_y l1, l2]
  rw [if_neg e, if_neg e]
  by_cases e : v = 3
  · rw [if_pos e, if_pos e]
    refine ⟨_, _, ?_, rfl, h1⟩
    rw [ckk_y a1, a5, bd_s, ckk_y l1, l3]
  rw [if_neg e, if_neg e]
  by_cases e : v = 4
  · rw [if_pos e, if_pos e]
    refine ⟨_, _, ?_, rfl, h1⟩
    rw [ckk_y a1, a3, bd_s, ckk_y hB.1.1, k_rowsInAll hB, bd_s]
    have q0 := (hBa 0 (by decide)).1
    have q1 := (hBa 1 (by decide)).1
    have q2 := (hBa 2 (by decide)).1
    have q3 := (hBa 3 (by decide)).1
    show some (kI S (x0 + 8) 0 + kI S (x0 + 8) 1 + kI S (x0 + 8) 2 + kI S (x0 + 8) 3) = _
    rw [q0, q1, q2, q3]
    rfl
  rw [if_neg e, if_neg e]
  by_cases e : v = 5
  · rw [if_pos e, if_pos e]
    refine ⟨_, _, ?_, rfl, h1⟩
    rw [ckk_y a1, a5, bd_s, ckk_y l1, l4]
  rw [if_neg e, if_neg e]
  exact ⟨_, _, rfl, rfl, h1⟩
/-- a log's entry -/
def enA (e : En) (v : Int32) : Int32 := if v = 0 then e.1 else if v = 1 then e.2.1 else if v = 2 then e.2.2.1 else e.2.2.2
theorem k_logN {lg w N : Nat} {E : List En} (h : cLg S lg w N E) (v2 v3 : Int32) (hw : w = 3 ∨ w = 4) (hN : w * N ≤ 1000) (hv : ¬ ((∃ i, i < E.length ∧ v2 = Int32.ofNat i) ∧ ∃ c, c < w ∧ v3 = Int32.ofNat c)) : fk_6_read S lg v2 v3 = some (-1) := by
  obtain ⟨h0, ⟨h1, h2, h3, h4, h5⟩, ⟨h6, h7⟩, h8⟩ := h
  have n0 : fk_6_read_28 S lg v2 v3 = some (-1) := by unfold fk_6_read_28 fk_6_read_29 fk_6_read_51; exact if_pos rfl
  have hE : E.length ≤ 1000 := by rcases hw with e | e <;> subst e <;> omega
  unfold fk_6_read
  by_cases e1 : v2 < 0
  · rw [if_pos e1, n0]
  rw [if_neg e1, ckk_y h1, h2]
  by_cases e2 : Int32.ofNat E.length ≤ v2
  · rw [if_pos e2, n0]
  rw [if_neg e2]
  by_cases e3 : v3 < 0
  · rw [if_pos e3, n0]
  rw [if_neg e3, ckk_y h1, h3]
  by_cases e4 : Int32.ofNat w ≤ v3
  · rw [if_pos e4, n0]
  exact absurd ⟨wiK (by omega) e1 e2, wiK (by omega) e3 e4⟩ hv
theorem k_logY {lg w N : Nat} {E : List En} (h : cLg S lg w N E) (hw : w = 3 ∨ w = 4) (hN : w * N ≤ 1000) {i c : Nat} (hi : i < E.length) (hc : c < w) : fk_6_read S lg (Int32.ofNat i) (Int32.ofNat c) = some (enA E[i] (Int32.ofNat c)) := by
  obtain ⟨h0, ⟨h1, h2, h3, h4, h5⟩, ⟨h6, h7⟩, h8⟩ := h
  have hE : E.length ≤ 1000 := by rcases hw with e | e <;> subst e <;> omega
  unfold fk_6_read
  rw [if_neg (jI_nn (by omega)), ckk_y h1, h2, if_neg (fun q => absurd ((jI_le (by omega) (by omega)).mp q) (by omega)), if_neg (jI_nn (by omega)), ckk_y h1, h3, if_neg (fun q => absurd ((jI_le (by omega) (by omega)).mp q) (by omega))]
  unfold fk_6_read_29 fk_6_read_51
  have hx : w * i + c < w * N := by rcases hw with e | e <;> subst e <;> omega
  rw [if_neg (by decide), ckk_y h1, h5, bd_s, ckk_y h1, ckk_y h6, h3, jI_mul, jI_add, h7, Nat.mul_comm, ck_n hx (by omega), jI_cl (by omega)]
  obtain ⟨q0, q1, q2, q3⟩ := h8 i hi
  have : c = 0 ∨ c = 1 ∨ c = 2 ∨ (c = 3 ∧ 3 < w) := by omega
  rcases this with e | e | e | ⟨e, e'⟩
  · subst e; show some (kI S (lg + 1) (w * i)) = _; rw [q0]; rfl
  · subst e; rw [q1]; rfl
  · subst e; rw [q2]; rfl
  · subst e; rw [q3 e']; rfl
theorem c_turned (hk : k + 1 < 900) : lC_turned x0 (Inv x0 k) (Inv x0 (k + 1)) := by
  intro S M v1 v2 v3 h
  have h0 := Inv_0 h (by omega)
  unfold fk_11_turned fm_turned fk_11_turned_25 fm_turned_30
  rw [lt_d, k_isNode, bd_s, m_within, bd_s]
  generalize pu M 0 0 = A at h0 ⊢
  have h1 := Inv_1 h0 hk
  obtain ⟨ra, sl, mkO, L, Wt, ro, fa, hc, hh, -⟩ := h0
  by_cases hv : 0 ≤ v1 ∧ v1 ≤ 3
  · obtain ⟨n, hn, rfl⟩ := wi3.mp hv
    rw [b2_t hv, if_neg n10, if_neg n10, k_nd hh hn, bd_s]
    obtain ⟨⟨-, ⟨hy, -, -⟩, -, ⟨F, hF, f1, f2, f3⟩, -⟩, -⟩ := hc.2.2.1 n hn
    rw [ckk_y hy.1.1, hy.1.2.2.2.2.2.1, bd_s, ckk_y hF.2.1.1, ck_n hn (by omega), m_within, bd_s, rd_n _ _ (by omega), f2, show (b2 ((0 : Int32) ≤ v2 ∧ v2 ≤ Int32.ofNat F.length - 1)) = b2 (∃ i, i < F.length ∧ v2 = Int32.ofNat i) from by unfold b2; simp only [wiE (v := v2) (N := F.length) (by omega)]]
    by_cases hi : ∃ i, i < F.length ∧ v2 = Int32.ofNat i
    · rw [b2_t hi, if_neg n10, lt_d]
      obtain ⟨i, hi', rfl⟩ := hi
      obtain ⟨y0, y1, y2, y3⟩ := f3 i hi'
      have hx : (200 : Int32) * Int32.ofNat n + Int32.ofNat i = Int32.ofNat (200 * n + i) := by rw [show (200 : Int32) = Int32.ofNat 200 from rfl, jI_mul, jI_add]
      rw [hx]
      by_cases e : v3 = 0
      · rw [if_pos e, ck_n (by omega) (by omega), rd_n _ _ (by omega), y0, e]
        exact ⟨_, _, by rw [show (0 : Int32) = Int32.ofNat 0 from rfl, k_logY hF (Or.inr rfl) (by decide) hi' (by decide), bd_s]; rfl, rfl, h1⟩
      rw [if_neg e]
      by_cases e : v3 = 1
      · rw [if_pos e, ck_n (by omega) (by omega), rd_n _ _ (by omega), y1, e]
        exact ⟨_, _, by rw [show (1 : Int32) = Int32.ofNat 1 from rfl, k_logY hF (Or.inr rfl) (by decide) hi' (by decide), bd_s]; rfl, rfl, h1⟩
      rw [if_neg e]
      by_cases e : v3 = 2
      · rw [if_pos e, ck_n (by omega) (by omega), rd_n _ _ (by omega), y2, e]
        exact ⟨_, _, by rw [show (2 : Int32) = Int32.ofNat 2 from rfl, k_logY hF (Or.inr rfl) (by decide) hi' (by decide), bd_s]; rfl, rfl, h1⟩
      rw [if_neg e]
      by_cases e : v3 = 3
      · rw [if_pos e, ck_n (by omega) (by omega), rd_n _ _ (by omega), y3, e]
        exact ⟨_, _, by rw [show (3 : Int32) = Int32.ofNat 3 from rfl, k_logY hF (Or.inr rfl) (by decide) hi' (by decide), bd_s]; rfl, rfl, h1⟩
      rw [if_neg e]
      refine ⟨_, _, ?_, rfl, h1⟩
      rw [k_logN hF _ _ (Or.inr rfl) (by decide), bd_s]
      rintro ⟨-, c, hc', rfl⟩
      have : c = 0 ∨ c = 1 ∨ c = 2 ∨ c = 3 := by omega
      rcases this with q | q | q | q <;> subst q <;> contradiction
    · rw [b2_f hi, if_pos rfl]
      exact ⟨_, _, by rw [k_logN hF _ _ (Or.inr rfl) (by decide) (fun q => hi q.1), bd_s], rfl, h1⟩
  · rw [b2_f hv, if_pos rfl, if_pos rfl]
    exact ⟨_, _, rfl, rfl, h1⟩
theorem c_news (hk : k + 1 < 900) : lC_news x0 (Inv x0 k) (Inv x0 (k + 1)) := by
  intro S M v1 v2 v3 h
  have h0 := Inv_0 h (by omega)
  unfold fk_11_news fm_news fk_11_news_25 fm_news_30 fm_news_86
  rw [lt_d, k_isNode, bd_s, m_within, bd_s]
  generalize pu M 0 0 = A at h0 ⊢
  have h1 := Inv_1 h0 hk
  obtain ⟨ra, sl, mkO, L, Wt, ro, fa, hc, hh, -⟩ := h0
  by_cases hv : 0 ≤ v1 ∧ v1 ≤ 3
  · obtain ⟨n, hn, rfl⟩ := wi3.mp hv
    rw [b2_t hv, if_neg n10, if_neg n10, k_nd hh hn, bd_s]
    obtain ⟨⟨-, ⟨hy, -, -⟩, ⟨F, hF, f1, f2, f3⟩, -⟩, -⟩ := hc.2.2.1 n hn
    rw [ckk_y hy.1.1, hy.1.2.2.2.2.1, bd_s, ckk_y hF.2.1.1, ck_n hn (by omega), m_within, bd_s, rd_n _ _ (by omega), f2, show (b2 ((0 : Int32) ≤ v2 ∧ v2 ≤ Int32.ofNat F.length - 1)) = b2 (∃ i, i < F.length ∧ v2 = Int32.ofNat i) from by unfold b2; simp only [wiE (v := v2) (N := F.length) (by omega)]]
    by_cases hi : ∃ i, i < F.length ∧ v2 = Int32.ofNat i
    · rw [b2_t hi, if_neg n10, lt_d]
      obtain ⟨i, hi', rfl⟩ := hi
      obtain ⟨y0, y1, y2⟩ := f3 i hi'
      have hx : (250 : Int32) * Int32.ofNat n + Int32.ofNat i = Int32.ofNat (250 * n + i) := by rw [show (250 : Int32) = Int32.ofNat 250 from rfl, jI_mul, jI_add]
      rw [hx]
      by_cases e : v3 = 0
      · rw [if_pos e, ck_n (by omega) (by omega), rd_n _ _ (by omega), y0, e]
        exact ⟨_, _, by rw [show (0 : Int32) = Int32.ofNat 0 from rfl, k_logY hF (Or.inl rfl) (by decide) hi' (by decide), bd_s]; rfl, rfl, h1⟩
      rw [if_neg e]
      by_cases e : v3 = 1
      · rw [if_pos e, ck_n (by omega) (by omega), rd_n _ _ (by omega), y1, e]
        exact ⟨_, _, by rw [show (1 : Int32) = Int32.ofNat 1 from rfl, k_logY hF (Or.inl rfl) (by decide) hi' (by decide), bd_s]; rfl, rfl, h1⟩
      rw [if_neg e]
      by_cases e : v3 = 2
      · rw [if_pos e, ck_n (by omega) (by omega), rd_n _ _ (by omega), y2, e]
        exact ⟨_, _, by rw [show (2 : Int32) = Int32.ofNat 2 from rfl, k_logY hF (Or.inl rfl) (by decide) hi' (by decide), bd_s]; rfl, rfl, h1⟩
      rw [if_neg e]
      refine ⟨_, _, ?_, rfl, h1⟩
      rw [k_logN hF _ _ (Or.inl rfl) (by decide), bd_s]
      rintro ⟨-, c, hc', rfl⟩
      have : c = 0 ∨ c = 1 ∨ c = 2 := by omega
      rcases this with q | q | q <;> subst q <;> contradiction
    · rw [b2_f hi, if_pos rfl]
      exact ⟨_, _, by rw [k_logN hF _ _ (Or.inl rfl) (by decide) (fun q => hi q.1), bd_s], rfl, h1⟩
  · rw [b2_f hv, if_pos rfl, if_pos rfl]
    exact ⟨_, _, rfl, rfl, h1⟩
end A
