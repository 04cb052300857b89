-- part 108: a cursor set, in the cells
section V
variable {S S' : cSt} {M M' A : mSt} {ra : Nat → Nat} {sl : Nat → Int32} {mkO : Nat → Option Nat} {L Wt : Nat → List Nat} {x0 n k Bt : Nat}
theorem k_setCursor {nd bk : Nat} (hn : n < 4) (hy : cNy S nd bk n) (a b c : Int32) : fk_7_setCursor S nd a b c = some (sI S (nd + 7) (upd (upd (upd (upd (kI S (nd + 7)) (4 * n) (kI S (nd + 7) (4 * n) + 1)) (4 * n + 1) a) (4 * n + 2) b) (4 * n + 3) c)) := by
  have h1 := hy.1.1
  have h2 := hy.1.2.2.2.2.2.2.2.2
  have h3 := hy.2.2.2.2.1.1
  have h4 := hy.2.2.2.2.1.2
  have h5 := hy.1.2.1
  have g : ∀ f, kK (sI S (nd + 7) f) nd = 8 ∧ kR (sI S (nd + 7) f) nd 7 = some (nd + 7) ∧ kK (sI S (nd + 7) f) (nd + 7) = 20 ∧ kL (sI S (nd + 7) f) (nd + 7) = 16 ∧ kF (sI S (nd + 7) f) nd 0 = Int32.ofNat n := fun f => ⟨h1, h2, h3, h4, h5⟩
  have e0 : (4 : Int32) * Int32.ofNat n = Int32.ofNat (4 * n) := jI_mul 4 n
  have e1 : Int32.ofNat (4 * n) + 1 = Int32.ofNat (4 * n + 1) := jI_add _ 1
  have e2 : Int32.ofNat (4 * n) + 2 = Int32.ofNat (4 * n + 2) := jI_add _ 2
  have e3 : Int32.ofNat (4 * n) + 3 = Int32.ofNat (4 * n + 3) := jI_add _ 3
  unfold fk_7_setCursor
  rw [ckk_y h1, h2, bd_s, ckk_y h1, ckk_y h3, h4, h5, e0, ck_n (by omega) (by omega), ckk_y h3, ck_n (by omega) (by omega), lt_d, jI_cl (by omega), cWi_sI]
  obtain ⟨g1, g2, g3, g4, g5⟩ := g (upd (kI S (nd + 7)) (4 * n) (kI S (nd + 7) (4 * n) + 1))
  rw [ckk_y g1, g2, bd_s, ckk_y g1, ckk_y g3, g4, g5, e0, e1, ck_n (by omega) (by omega), lt_d, jI_cl (by omega), wI_sI]
  obtain ⟨g1, g2, g3, g4, g5⟩ := g (upd (upd (kI S (nd + 7)) (4 * n) (kI S (nd + 7) (4 * n) + 1)) (4 * n + 1) a)
  rw [ckk_y g1, g2, bd_s, ckk_y g1, ckk_y g3, g4, g5, e0, e2, ck_n (by omega) (by omega), lt_d, jI_cl (by omega), wI_sI]
  obtain ⟨g1, g2, g3, g4, g5⟩ := g (upd (upd (upd (kI S (nd + 7)) (4 * n) (kI S (nd + 7) (4 * n) + 1)) (4 * n + 1) a) (4 * n + 2) b)
  rw [ckk_y g1, g2, bd_s, ckk_y g1, ckk_y g3, g4, g5, e0, e3, ck_n (by omega) (by omega), lt_d, jI_cl (by omega), wI_sI]
theorem wr31 {B : mSt} {i : Nat} (hi : i + 3 < 2147483648) {a b c d : Int32} (h : B = wr (wr (wr (wr A 31 (Int32.ofNat i) a) 31 (Int32.ofNat (i + 1)) b) 31 (Int32.ofNat (i + 2)) c) 31 (Int32.ofNat (i + 3)) d) : mEx (fun k => k = 31) A B ∧ B.2 31 = upd (upd (upd (upd (A.2 31) i a) (i + 1) b) (i + 2) c) (i + 3) d := by
  subst h
  refine ⟨mEx_trans (mEx_trans (mEx_trans (mEx_wr1 _ _) (mEx_wr1 _ _)) (mEx_wr1 _ _)) (mEx_wr1 _ _), ?_⟩
  rw [wr_s _ _ (by omega), wr_s _ _ (by omega), wr_s _ _ (by omega), wr_s _ _ (by omega)]
/-- a node's own cursor set in both -/
theorem Inv_cu {k' : Nat} (h : Inv x0 k S M) (hkk : k + 1 ≤ k') (hk : k' < 900) (hn : n < 4) {a b c : Int32} (hcu : ∀ ra sl mkO L Wt, core x0 (1000 * k) S M ra sl mkO L Wt → ∃ j m kd p, ptO M mkO j m kd p 84 ∧ a = Int32.ofNat (rNm m) ∧ b = Int32.ofNat p ∧ (c = 0 ∨ ∃ t, mde M t ∧ isO M 9 a b t ∧ c = Int32.ofNat (rNm t))) (hM : mEx (fun k => k = 31) M M') (h31 : M'.2 31 = upd (upd (upd (upd (M.2 31) (20 * n) (M.2 31 (20 * n) + 1)) (20 * n + 1) a) (20 * n + 2) b) (20 * n + 3) c) : Inv x0 k' (sI S (sN x0 n + 7) (upd (upd (upd (upd (kI S (sN x0 n + 7)) (4 * n) (kI S (sN x0 n + 7) (4 * n) + 1)) (4 * n + 1) a) (4 * n + 2) b) (4 * n + 3) c)) M' := by
  obtain ⟨ra, sl, mkO, L, Wt, ro, fa, hc, hh, hkd, hth, htx, hro, hl, hnu⟩ := h
  obtain ⟨j, m, kd, p, c1, c2, c3, c4⟩ := hcu ra sl mkO L Wt hc
  have hc' := hc
  obtain ⟨⟨hA, hsl, htb, hBt⟩, -, hN, -⟩ := hc'
  obtain ⟨⟨hM1, hC1⟩, ⟨hw1, hw2, hw3⟩, hown⟩ := hN n hn
  have hC2 := hC1
  obtain ⟨⟨hy, -, hls⟩, -, -, ⟨f8, f9, f10⟩, hs, hsn, hcur⟩ := hC1
  generalize hS8 : sI S (sN x0 n + 7) _ = S8
  have eS : cEq (fun a => a = sN x0 n + 7) S S8 := by rw [← hS8]; exact cEq_sI _ rfl
  have i8 : kI S8 (sN x0 n + 7) = upd (upd (upd (upd (kI S (sN x0 n + 7)) (4 * n) (kI S (sN x0 n + 7) (4 * n) + 1)) (4 * n + 1) a) (4 * n + 2) b) (4 * n + 3) c := by rw [← hS8]; exact kI_sI _ _ _
  have r : rEq M M' := fun k h1 h2 => (hM k (by omega)).2
  have fm : ∀ k, k ≠ 31 → M'.2 k = M.2 k := fun k hk => (hM k hk).2
  have hW : ∀ a, a = sN x0 n + 7 → x0 + 22 ≤ a ∧ a < x0 + 126 := fun a ha => by subst ha; unfold sN; omega
  have eS0 := eS.2.2.2.2 (sN x0 n) (by omega)
  have hco : core x0 (1000 * k') S8 M' ra sl mkO (updL L n (L n)) (updL Wt n (Wt n)) := by
    refine core_n1 hc hn eS (fun a ha => by subst ha; omega) r (fun n' hn' e => nEq_of r (fun k k1 k2 i hi => ?_)) (tBd_mono (tBd_f htb r (fun k hk => fm k (by omega))) (by omega)) (by omega) ⟨⟨nM_w hM1 r (fun k hk => fm k (by omega)) (lsM_f hM1.2.2.1 (fun k hk => fm k (by omega))), nC_w hC2 eS (fun a ha => by subst ha; omega) eS0.2.1 (by rw [eS0.1]) r (fun k hk => fm k (by omega)) (cLs_f hls (fun k hk => fm k (by omega)) (eS.2.2.2.2 _ (by omega)).2.2.1) ⟨?_, ?_, ?_⟩ ?_ ?_ ?_⟩, ⟨?_, ?_, wOk_r hw3 r⟩, hown⟩
    · by_cases e31 : k = 31
      · subst e31
        have hi' : i / 16 = n' := hi
        rw [h31, upd_o _ _ (by omega), upd_o _ _ (by omega), upd_o _ _ (by omega), upd_o _ _ (by omega)]
      · rw [fm k e31]
    · rw [eS0.1, fm 17 (by decide)]; exact f8
    · rw [eS0.1, fm 18 (by decide)]; exact f9
    · rw [eS0.1, fm 19 (by decide)]; exact f10
    · unfold snV; rw [(eS.2.2.2.2 (sN x0 n + 5) (by omega)).2.2.1, fm 20 (by decide), fm 21 (by decide)]; exact hs
    · rw [(eS.2.2.2.2 (sN x0 n + 6) (by omega)).2.2.1, fm 22 (by decide)]; exact hsn
    · intro q hq
      have e0 := hcur (4 * n) (by omega)
      rw [show 16 * n + 4 * n = 20 * n by omega] at e0
      rw [i8, h31, e0]
      have step : ∀ (f g : Nat → Int32) (x : Nat) (y : Int32), f q = g (16 * n + q) → upd f (4 * n + x) y q = upd g (20 * n + x) y (16 * n + q) := fun f g x y hfg => by
        by_cases e : q = 4 * n + x
        · rw [e, upd_s, show 16 * n + (4 * n + x) = 20 * n + x by omega, upd_s]
        · rw [upd_o _ _ e, upd_o _ _ (by omega)]; exact hfg
      exact step _ _ 3 c (step _ _ 2 b (step _ _ 1 a (step _ _ 0 _ (hcur q hq))))
    · unfold mWt; rw [fm 25 (by decide), fm 26 (by decide)]; exact hw1
    · unfold nW; rw [eS0.1, (eS.2.2.2.2 (sN x0 n + 8) (by omega)).2.2.2]; exact hw2
  rw [updL_id, updL_id] at hco
  have hm : ∀ j m, mkO j = some m → mde M m := fun j m hj => (hA.2.1.1 j m hj).2.1
  refine Inv_n hh hkd hth htx hro hl (by omega) hm (mEx_mono hM (fun k hk => by omega)) eS hW hco ?_
  intro n' hn'
  obtain ⟨q1, q2⟩ := hnu n' hn'
  refine ⟨fun m' q hm' hq => by rw [fm 21 (by decide), fm 22 (by decide), mdN_r r]; exact q1 m' q hm' hq, fun m' hm' => ?_⟩
  rw [h31]
  by_cases e : n' = n ∧ m' = n
  · obtain ⟨rfl, rfl⟩ := e
    obtain ⟨⟨x, x1, x2⟩, -⟩ := q2 m' hm'
    rw [show 16 * m' + 4 * m' = 20 * m' by omega] at x2 ⊢
    rw [upd_o _ _ (by omega), upd_o _ _ (by omega), upd_o _ _ (by omega), upd_s, upd_o _ _ (by omega), upd_o _ _ (by omega), upd_s, upd_o _ _ (by omega), upd_s, upd_s, x2]
    refine ⟨⟨x + 1, by omega, jI_add x 1⟩, fun _ => ⟨j, m, kd, p, ?_, c2, c3, ?_⟩⟩
    · unfold ptO; rw [fm 12 (by decide), fm 6 (by decide)]; exact c1
    · rcases c4 with c4 | ⟨t, t1, t2, t3⟩
      · exact Or.inl c4
      · refine Or.inr ⟨t, by rw [mde_r r]; exact t1, ?_, t3⟩
        show M'.2 9 t = 9 ∧ M'.2 10 t = a ∧ M'.2 11 t = b
        rw [fm 9 (by decide), fm 10 (by decide), fm 11 (by decide)]; exact t2
  · have g : ∀ i, i < 4 → upd (upd (upd (upd (M.2 31) (20 * n) (M.2 31 (20 * n) + 1)) (20 * n + 1) a) (20 * n + 2) b) (20 * n + 3) c (16 * n' + 4 * m' + i) = M.2 31 (16 * n' + 4 * m' + i) := fun i hi => by
      rw [upd_o _ _ (by omega), upd_o _ _ (by omega), upd_o _ _ (by omega), upd_o _ _ (by omega)]
    have g0 : upd (upd (upd (upd (M.2 31) (20 * n) (M.2 31 (20 * n) + 1)) (20 * n + 1) a) (20 * n + 2) b) (20 * n + 3) c (16 * n' + 4 * m') = M.2 31 (16 * n' + 4 * m') := g 0 (by decide)
    rw [g0, g 1 (by decide), g 2 (by decide), g 3 (by decide)]
    exact cuI_r r (by omega) (q2 m' hm')
end V
