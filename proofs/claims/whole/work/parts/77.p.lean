-- part 77: kinds and rules; stand
section K
variable {S S' : cSt} {M M' : mSt} {x0 k n : Nat}
/-- a rule's letter, if there is such a part -/
def rlO (M : mSt) (v1 v2 : Int32) : Option Int32 := if (0 ≤ v1 ∧ v1 ≤ M.1 4 - 1) ∧ 0 ≤ v2 ∧ v2 ≤ M.2 5 v1.toNatClampNeg - 1 then some (M.2 6 (6 * v1.toNatClampNeg + v2.toNatClampNeg)) else none
theorem k_kHas (h : kdI x0 S M) (v1 : Int32) : fk_3_has S (x0 + 1) v1 = some (b2 (0 ≤ v1 ∧ v1 ≤ M.1 4 - 1)) := by
  obtain ⟨h1, h2, h3, h4, h5, tp, kn, h6, h7, h8, h9, h10, h11⟩ := h
  unfold fk_3_has fk_3_has_16 fk_3_has_17
  by_cases e : v1 < 0
  · rw [if_pos e, b2_f (fun q => absurd q.1 (Int32.not_le.mpr e)), ckz_0]
  rw [if_neg e, ckk_y h1.1, h2.2.1, h9]
  by_cases e2 : Int32.ofNat kn ≤ v1
  · rw [if_pos e2, b2_f, ckz_0]
    intro q
    obtain ⟨i, i1, rfl⟩ := (wiE (by omega)).mp q
    rw [jI_le (by omega) (by omega)] at e2
    omega
  · rw [if_neg e2, b2_t ((wiE (by omega)).mpr (wiK (by omega) e e2)), ckz_1]
theorem rlO_y (h : kdI x0 S M) {v1 v2 : Int32} {x : Int32} (hx : rlO M v1 v2 = some x) : ∃ kd p, kd < 8 ∧ p < 6 ∧ v1 = Int32.ofNat kd ∧ v2 = Int32.ofNat p ∧ x = M.2 6 (6 * kd + p) ∧ isRl x ∧ (∃ kn, kn ≤ 8 ∧ M.1 4 = Int32.ofNat kn ∧ kd < kn) ∧ ∃ np, np ≤ 6 ∧ M.2 5 kd = Int32.ofNat np ∧ p < np := by
  obtain ⟨h1, h2, h3, h4, h5, tp, kn, h6, h7, h8, h9, h10, h11⟩ := h
  unfold rlO at hx
  by_cases q : (0 ≤ v1 ∧ v1 ≤ M.1 4 - 1) ∧ 0 ≤ v2 ∧ v2 ≤ M.2 5 v1.toNatClampNeg - 1
  · rw [if_pos q] at hx
    obtain ⟨q1, q2⟩ := q
    rw [h9] at q1
    obtain ⟨kd, kd1, rfl⟩ := (wiE (by omega)).mp q1
    rw [jI_cl (by omega)] at q2 hx
    obtain ⟨np, n1, n2, n3, n4, n5, n6⟩ := h10 kd (by omega)
    rw [n2] at q2
    obtain ⟨p, p1, rfl⟩ := (wiE (by omega)).mp q2
    rw [jI_cl (by omega)] at hx
    cases hx
    exact ⟨kd, p, by omega, by omega, rfl, rfl, rfl, n3 p p1, ⟨kn, h7, h9, kd1⟩, np, n1, n2, p1⟩
  · rw [if_neg q] at hx; cases hx
theorem rlO_i (h : kdI x0 S M) {kd p np kn : Nat} (h1 : kd < kn) (h2 : kn ≤ 8) (h3 : M.1 4 = Int32.ofNat kn) (h4 : p < np) (h5 : np ≤ 6) (h6 : M.2 5 kd = Int32.ofNat np) : rlO M (Int32.ofNat kd) (Int32.ofNat p) = some (M.2 6 (6 * kd + p)) := by
  unfold rlO
  rw [jI_cl (by omega), jI_cl (by omega), if_pos]
  exact ⟨by rw [h3]; exact (wiE (by omega)).mpr ⟨kd, h1, rfl⟩, by rw [h6]; exact (wiE (by omega)).mpr ⟨p, h4, rfl⟩⟩
theorem nar_n {x : Nat} (h : x < 128) : vp_nar .char (Int32.ofNat x) = Int32.ofNat x := by
  have : ∀ x : Fin 128, vp_nar .char (Int32.ofNat x.1) = Int32.ofNat x.1 := by decide
  exact this ⟨x, h⟩
theorem k_ruleOf (h : kdI x0 S M) (v1 v2 : Int32) : fk_3_ruleOf S (x0 + 1) v1 v2 = some ((rlO M v1 v2).getD 32) := by
  have hh := h
  obtain ⟨⟨a1, a2, a3, a4, a5, a6, a7, a8, a9, a10⟩, h2, h3, h4, h5, tp, kn, h6, h7, h8, h9, h10, h11⟩ := hh
  have z : fk_3_ruleOf_22 S = some 32 := by unfold fk_3_ruleOf_22; exact ckp_y (by decide)
  unfold fk_3_ruleOf
  rw [ckk_y a1, k_kHas h, bd_s, z]
  by_cases q1 : 0 ≤ v1 ∧ v1 ≤ M.1 4 - 1
  · rw [b2_t q1, if_neg n10]
    have q1' := q1
    rw [h9] at q1'
    obtain ⟨kd, kd1, rfl⟩ := (wiE (by omega)).mp q1'
    obtain ⟨np, n1, n2, n3, n4, n5, n6⟩ := h10 kd (by omega)
    by_cases q2 : v2 < 0
    · rw [if_pos q2]
      unfold rlO
      rw [if_neg (fun q => absurd q.2.1 (Int32.not_le.mpr q2))]; rfl
    rw [if_neg q2, ckk_y a1, a4, bd_s, ckk_y a9, a10, ck_n (by omega) (by omega), jI_cl (by omega), h5 kd (by omega), n2]
    by_cases q3 : v2 < Int32.ofNat np
    · rw [if_pos q3]
      obtain ⟨p, p1, rfl⟩ := wiK (by omega) q2 (Int32.not_le.mpr q3)
      rw [rlO_i h kd1 h7 h9 p1 n1 n2, ckk_y a1, a3, bd_s, ckk_y a7, a8, show (6 : Int32) = Int32.ofNat 6 from rfl, jI_mul, jI_add, ck_n (by omega) (by omega), jI_cl (by omega), Nat.mul_comm kd 6]
      obtain ⟨e1, c, c1, c2⟩ := h4 (6 * kd + p) (by omega)
      rw [e1, c2, ckp_y (nar_n c1)]; rfl
    · rw [if_neg q3]
      unfold rlO
      rw [if_neg]; · rfl
      rintro ⟨-, q⟩
      rw [jI_cl (by omega), n2] at q
      obtain ⟨p, p1, rfl⟩ := (wiE (by omega)).mp q
      exact q3 ((jI_lt (by omega) (by omega)).mpr p1)
  · rw [b2_f q1, if_pos rfl]
    unfold rlO
    rw [if_neg (fun q => q1 q.1)]; rfl
theorem m_canBeAsked (h : kdI x0 S M) {n : Nat} (hn : n < 4) (v1 v2 : Int32) : fm_canBeAsked M (Int32.ofNat n) v1 v2 = some (b2 (rlO M v1 v2 = some 76)) := by
  have hh := h
  obtain ⟨-, h2, h3, h4, h5, tp, kn, h6, h7, h8, h9, h10, h11⟩ := hh
  unfold fm_canBeAsked fm_canBeAsked_59 fm_canBeAsked_60
  rw [m_within, bd_s, b2_t (wi3.mpr ⟨n, hn, rfl⟩), if_neg n10, m_within, bd_s]
  by_cases q1 : 0 ≤ v1 ∧ v1 ≤ M.1 4 - 1
  · rw [b2_t q1, if_neg n10]
    have q1' := q1
    rw [h9] at q1'
    obtain ⟨kd, kd1, rfl⟩ := (wiE (by omega)).mp q1'
    obtain ⟨np, n1, n2, n3, n4, n5, n6⟩ := h10 kd (by omega)
    rw [ck_n (by omega) (by omega), m_within, bd_s, rd_n _ _ (by omega), n2]
    by_cases q2 : 0 ≤ v2 ∧ v2 ≤ Int32.ofNat np - 1
    · rw [b2_t q2, if_neg n10]
      obtain ⟨p, p1, rfl⟩ := (wiE (by omega)).mp q2
      rw [show (6 : Int32) = Int32.ofNat 6 from rfl, jI_mul, jI_add, ck_n (by omega) (by omega), rd_n _ _ (by omega), rlO_i h kd1 h7 h9 p1 n1 n2]
      by_cases q3 : M.2 6 (6 * kd + p) = 76
      · rw [if_pos q3, b2_t (by rw [q3]), ckz_1]
      · rw [if_neg q3, b2_f (fun q => q3 (Option.some.inj q)), ckz_0]
    · rw [b2_f q2, if_pos rfl, ckz_0, b2_f]
      unfold rlO
      rw [if_neg]; · simp
      rintro ⟨-, q⟩
      rw [jI_cl (by omega), n2] at q
      exact q2 q
  · rw [b2_f q1, if_pos rfl, ckz_0, b2_f]
    unfold rlO
    rw [if_neg (fun q => q1 q.1)]; simp
theorem tBd_f {Bt : Nat} (h : tBd M Bt) (r : rEq M M') (f : ∀ k, k = 17 ∨ k = 18 ∨ k = 19 → M'.2 k = M.2 k) : tBd M' Bt := by
  unfold tBd
  rw [f 17 (by decide), f 18 (by decide), f 19 (by decide), tot_r r, mde_r r, r 14 (by decide) (by decide), r 15 (by decide) (by decide)]
  exact h
theorem k_putList {nd n bk : Nat} (hy : cNy S nd bk n) {q : Nat} (hq : q < 4) (a b c d : Int32) : fk_7_putList S nd (Int32.ofNat q) a b c d = some (sI S (nd + 11) (upd (upd (upd (upd (kI S (nd + 11)) (4 * q) (a + 1)) (4 * q + 1) b) (4 * q + 2) c) (4 * q + 3) d)) := by
  have h1 := hy.1.1
  have h2 := hy.2.1.2.2.2.2
  have h3 := hy.2.2.2.2.2.2.2.2.1
  have h4 := hy.2.2.2.2.2.2.2.2.2
  have g : ∀ f, kK (sI S (nd + 11) f) nd = 8 ∧ kR (sI S (nd + 11) f) nd 16 = some (nd + 11) ∧ kK (sI S (nd + 11) f) (nd + 11) = 20 ∧ kL (sI S (nd + 11) f) (nd + 11) = 16 := fun f => ⟨h1, h2, h3, h4⟩
  unfold fk_7_putList
  rw [ckk_y h1, h2, bd_s, ckk_y h3, h4, show (4 : Int32) = Int32.ofNat 4 from rfl, jI_mul, show (1 : Int32) = Int32.ofNat 1 from rfl, show (2 : Int32) = Int32.ofNat 2 from rfl, show (3 : Int32) = Int32.ofNat 3 from rfl, jI_add, jI_add, jI_add, ck_n (by omega) (by omega), lt_d, jI_cl (by omega), jI_cl (by omega), jI_cl (by omega), jI_cl (by omega), cWi_sI]
  obtain ⟨g1, g2, g3, g4⟩ := g (upd (kI S (nd + 11)) (4 * q) (a + Int32.ofNat 1))
  rw [ckk_y g1, g2, bd_s, ckk_y g3, g4, ck_n (by omega) (by omega), lt_d, wI_sI]
  obtain ⟨g1, g2, g3, g4⟩ := g (upd (upd (kI S (nd + 11)) (4 * q) (a + Int32.ofNat 1)) (4 * q + 1) b)
  rw [ckk_y g1, g2, bd_s, ckk_y g3, g4, ck_n (by omega) (by omega), lt_d, wI_sI]
  obtain ⟨g1, g2, g3, g4⟩ := g (upd (upd (upd (kI S (nd + 11)) (4 * q) (a + Int32.ofNat 1)) (4 * q + 1) b) (4 * q + 2) c)
  rw [ckk_y g1, g2, bd_s, ckk_y g3, g4, ck_n (by omega) (by omega), lt_d, wI_sI]
theorem wr5 {A B : mSt} {i : Nat} (hi : i < 2147483648) {a b c d e : Int32} (h : B = wr (wr (wr (wr (wr A 32 (Int32.ofNat i) a) 33 (Int32.ofNat i) b) 34 (Int32.ofNat i) c) 35 (Int32.ofNat i) d) 36 (Int32.ofNat i) e) : mEx (fun k => 32 ≤ k ∧ k ≤ 36) A B ∧ B.2 32 = upd (A.2 32) i a ∧ B.2 33 = upd (A.2 33) i b ∧ B.2 34 = upd (A.2 34) i c ∧ B.2 35 = upd (A.2 35) i d ∧ B.2 36 = upd (A.2 36) i e := by
  subst h
  refine ⟨?_, ?_, ?_, ?_, ?_, ?_⟩
  · refine mEx_trans (mEx_trans (mEx_trans (mEx_trans (mEx_wr (by simp) _ _) (mEx_wr (by simp) _ _)) (mEx_wr (by simp) _ _)) (mEx_wr (by simp) _ _)) (mEx_wr (by simp) _ _)
  · rw [wr_o _ _ _ (by decide), wr_o _ _ _ (by decide), wr_o _ _ _ (by decide), wr_o _ _ _ (by decide), wr_s _ _ hi]
  · rw [wr_o _ _ _ (by decide), wr_o _ _ _ (by decide), wr_o _ _ _ (by decide), wr_s _ _ hi, wr_o _ _ _ (by decide)]
  · rw [wr_o _ _ _ (by decide), wr_o _ _ _ (by decide), wr_s _ _ hi, wr_o _ _ _ (by decide), wr_o _ _ _ (by decide)]
  · rw [wr_o _ _ _ (by decide), wr_s _ _ hi, wr_o _ _ _ (by decide), wr_o _ _ _ (by decide), wr_o _ _ _ (by decide)]
  · rw [wr_s _ _ hi, wr_o _ _ _ (by decide), wr_o _ _ _ (by decide), wr_o _ _ _ (by decide), wr_o _ _ _ (by decide)]
theorem c_stand (hk : k + 1 < 900) : lC_stand x0 (Inv x0 k) (Inv x0 (k + 1)) := by
  intro S M v1 v2 v3 v4 v5 v6 h
  have h0 := Inv_0 h (by omega)
  unfold fk_11_stand fm_stand fk_11_stand_31 fm_stand_25
  rw [lt_d, k_isNode, bd_s, ckz_0, ckz_0]
  generalize pu M 0 0 = A at h0 ⊢
  have h1 := Inv_1 h0 hk
  obtain ⟨ra, sl, mkO, L, Wt, ro, fa, hc, hh, hkd, hth, htx, hro, hl, hnu⟩ := h0
  by_cases hv : 0 ≤ v1 ∧ v1 ≤ 3
  · obtain ⟨n, hn, rfl⟩ := wi3.mp hv
    rw [b2_t hv, if_neg n10, m_canBeAsked hkd hn, bd_s, m_within, bd_s, ckk_y hh.1.1, hh.1.2.1, bd_s, ckk_y hkd.1.1, k_ruleOf hkd, bd_s]
    by_cases hr : rlO A v3 v4 = some 76
    · rw [b2_t hr, if_neg n10, hr]
      by_cases h2 : 0 ≤ v2 ∧ v2 ≤ 3
      · rw [b2_t h2, if_neg n10, if_neg (Int32.not_lt.mpr h2.1), if_neg (Int32.not_lt.mpr h2.2), if_pos (show (some (76 : Int32)).getD 32 = 76 from rfl), lt_d]
        obtain ⟨q, hq, rfl⟩ := wi3.mp h2
        obtain ⟨kd, p, d1, d2, rfl, rfl, d5, -⟩ := rlO_y hkd hr
        have hc' := hc
        obtain ⟨⟨hA, hsl, htb, hBt⟩, -, hN, -⟩ := hc'
        obtain ⟨⟨hM1, hC1⟩, ⟨hw1, hw2, hw3⟩, hown⟩ := hN n hn
        have hC2 := hC1
        obtain ⟨⟨hy, -, hls⟩, -, -, ⟨f8, f9, f10⟩, hs, hsn, hcu⟩ := hC1
        rw [k_nd hh hn, bd_s, ckk_y hy.1.1, k_putList hy hq, bd_s, ckz_1, ckz_1, show (4 : Int32) * Int32.ofNat n + Int32.ofNat q = Int32.ofNat (4 * n + q) from by rw [show (4 : Int32) = Int32.ofNat 4 from rfl, jI_mul, jI_add], ck_n (by omega) (by omega), lt_d, ck_n (by omega) (by omega), lt_d, ck_n (by omega) (by omega), lt_d, ck_n (by omega) (by omega), lt_d, ck_n (by omega) (by omega), lt_d, ckz_1]
        refine ⟨_, _, _, rfl, rfl, ?_⟩
        generalize hS8 : sI S (sN x0 n + 11) _ = S8
        generalize hM8 : wr _ 36 _ _ = M8
        have eS : cEq (fun a => a = sN x0 n + 11) S S8 := by rw [← hS8]; exact cEq_sI _ rfl
        obtain ⟨eM, m32, m33, m34, m35, m36⟩ := wr5 (by omega) hM8.symm
        have i8 := kI_sI S (sN x0 n + 11) (upd (upd (upd (upd (kI S (sN x0 n + 11)) (4 * q) (Int32.ofNat kd + 1)) (4 * q + 1) (Int32.ofNat p)) (4 * q + 2) v5) (4 * q + 3) v6)
        rw [hS8] at i8
        have r : rEq A M8 := fun k h1 h2 => (eM k (by omega)).2
        have fm : ∀ k, ¬ (32 ≤ k ∧ k ≤ 36) → M8.2 k = A.2 k := fun k hk => (eM k hk).2
        have hW : ∀ a, a = sN x0 n + 11 → x0 + 22 ≤ a ∧ a < x0 + 126 := fun a ha => by subst ha; unfold sN; omega
        have eS0 := eS.2.2.2.2 (sN x0 n) (by omega)
        have hlsM : lsM M8 n := by
          intro q' hq'
          rw [m32, m33, m34, fm 6 (by decide)]
          by_cases e : q' = q
          · subst e
            rw [upd_s, upd_s, upd_s]
            exact Or.inr ⟨rfl, kd, p, d1, d2, rfl, rfl, d5.symm⟩
          · rw [upd_o _ _ (by omega), upd_o _ _ (by omega), upd_o _ _ (by omega)]
            exact hM1.2.2.1 q' hq'
        have hcLs : cLs S8 M8 (sN x0 n) n := by
          intro q' hq'
          rw [m32, m33, m34, m35, m36, fm 6 (by decide), i8]
          by_cases e : q' = q
          · subst e
            refine Or.inr ⟨upd_s _ _ _, kd, p, d1, d2, upd_s _ _ _, upd_s _ _ _, d5.symm, ?_, ?_, ?_, ?_⟩
            · rw [upd_o _ _ (by omega), upd_o _ _ (by omega), upd_o _ _ (by omega), upd_s]; exact jI_add kd 1
            · rw [upd_o _ _ (by omega), upd_o _ _ (by omega), upd_s]
            · rw [upd_s (A.2 35), upd_o _ _ (by omega), upd_s]
            · rw [upd_s (A.2 36), upd_s]
          · have g : ∀ j, j / 4 = q' → upd (upd (upd (upd (kI S (sN x0 n + 11)) (4 * q) (Int32.ofNat kd + 1)) (4 * q + 1) (Int32.ofNat p)) (4 * q + 2) v5) (4 * q + 3) v6 j = kI S (sN x0 n + 11) j := fun j hj => by
              rw [upd_o _ _ (by omega), upd_o _ _ (by omega), upd_o _ _ (by omega), upd_o _ _ (by omega)]
            have u : ∀ (f : Nat → Int32) (x : Int32), upd f (4 * n + q) x (4 * n + q') = f (4 * n + q') := fun f x => upd_o _ _ (by omega)
            rw [u, u, u, u, u, g (4 * q') (by omega), g (4 * q' + 1) (by omega), g (4 * q' + 2) (by omega), g (4 * q' + 3) (by omega)]
            exact hls q' hq'
        have hco : core x0 (1000 * (k + 1)) S8 M8 ra sl mkO (updL L n (L n)) (updL Wt n (Wt n)) := by
          refine core_n1 hc hn eS (fun a ha => by subst ha; omega) r (fun n' hn' e => nEq_of r (fun k k1 k2 i hi => ?_)) (tBd_mono (tBd_f htb r (fun k hk => fm k (by omega))) (by omega)) (by omega) ⟨⟨nM_w hM1 r (fun k hk => fm k (by omega)) hlsM, nC_w hC2 eS (fun a ha => by subst ha; omega) eS0.2.1 (by rw [eS0.1]) r (fun k hk => fm k (by omega)) hcLs ⟨?_, ?_, ?_⟩ ?_ ?_ ?_⟩, ⟨?_, ?_, wOk_r hw3 r⟩, hown⟩
          · by_cases e17 : 32 ≤ k ∧ k ≤ 36
            · have hw : wdt k = 4 := by unfold wdt; rw [if_pos (Or.inr e17)]
              rw [hw] at hi
              have : k = 32 ∨ k = 33 ∨ k = 34 ∨ k = 35 ∨ k = 36 := by omega
              rcases this with e | e | e | e | e <;> subst e
              · rw [m32, upd_o _ _ (by omega)]
              · rw [m33, upd_o _ _ (by omega)]
              · rw [m34, upd_o _ _ (by omega)]
              · rw [m35, upd_o _ _ (by omega)]
              · rw [m36, upd_o _ _ (by omega)]
            · rw [fm k e17]
          · rw [eS0.1, fm 17 (by decide)]; exact f8
          · rw [eS0.1, fm 18 (by decide)]; exact f9
          · rw [eS0.1, fm 19 (by decide)]; exact f10
          · unfold snV; rw [(eS.2.2.2.2 (sN x0 n + 5) (by omega)).2.2.1, fm 20 (by decide), fm 21 (by decide)]; exact hs
          · rw [(eS.2.2.2.2 (sN x0 n + 6) (by omega)).2.2.1, fm 22 (by decide)]; exact hsn
          · rw [(eS.2.2.2.2 (sN x0 n + 7) (by omega)).2.2.1, fm 31 (by decide)]; exact hcu
          · unfold mWt; rw [fm 25 (by decide), fm 26 (by decide)]; exact hw1
          · unfold nW; rw [eS0.1, (eS.2.2.2.2 (sN x0 n + 8) (by omega)).2.2.2]; exact hw2
        rw [updL_id, updL_id] at hco
        refine Inv_n hh hkd hth htx hro hl (by omega) (fun j m hj => (hA.2.1.1 j m hj).2.1) (mEx_mono eM (fun k hk => by omega)) eS hW hco ?_
        exact nuI_g hnu (lvM_r (mEx_mono eM (fun k hk => by omega))) (ra := ra) (ra' := ra) ⟨fun _ _ => rfl, fun _ _ h => h, fun j m hj => (hA.2.1.1 j m hj).2.1⟩ (by omega) (fm 21 (by decide)) (fm 22 (by decide)) (fm 31 (by decide))
      · rw [b2_f h2, if_pos rfl]
        by_cases e1 : v2 < 0
        · rw [if_pos e1]; exact ⟨_, _, _, rfl, rfl, h1⟩
        · rw [if_neg e1, if_pos (Int32.not_le.mp (fun q => h2 ⟨Int32.not_lt.mp e1, q⟩))]; exact ⟨_, _, _, rfl, rfl, h1⟩
    · rw [b2_f hr, if_pos rfl]
      refine ⟨_, _, _, ?_, rfl, h1⟩
      by_cases e1 : v2 < 0
      · rw [if_pos e1]
      rw [if_neg e1]
      by_cases e2 : (3 : Int32) < v2
      · rw [if_pos e2]
      rw [if_neg e2, if_neg]
      intro q
      cases hx : rlO A v3 v4 with
      | none => rw [hx] at q; exact absurd q (by decide)
      | some y => rw [hx] at q; exact hr (by rw [hx]; exact congrArg some q)
  · have hz : fm_canBeAsked A v1 v3 v4 = some 0 := by
      unfold fm_canBeAsked fm_canBeAsked_59 fm_canBeAsked_60
      rw [m_within, bd_s, b2_f hv, if_pos rfl, ckz_0]
    rw [b2_f hv, if_pos rfl, hz, bd_s, if_pos rfl]
    exact ⟨_, _, _, rfl, rfl, h1⟩
end K
