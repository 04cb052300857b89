-- part 130: what a node knows of others changes; a frame sent
section V
variable {S S' S0 S1 : cSt} {M M' A : mSt} {ra : Nat → Nat} {sl ch : Nat → Int32} {mkO : Nat → Option Nat} {L Wt : Nat → List Nat} {ro ro' fa fa' : Nat → Nat} {x0 n m k k' Bt nf w : Nat} {l : List Nat}
theorem Ib_nd (h : Ib x0 k S M ra sl mkO L Wt ro fa) (hkk : k ≤ k') (hk : k' < 900) (hn : n < 4) (eS : cEq (fun a => a = sN x0 n + 5 ∨ a = sN x0 n + 6 ∨ a = sN x0 n + 7) S S') (e : mEx (fun j => j = 0 ∨ j = 21 ∨ j = 22 ∨ j = 31 ∨ 47 ≤ j) M M') (out : ∀ j, j = 21 ∨ j = 22 ∨ j = 31 → ∀ q, (q < 16 * n ∨ 16 * n + 16 ≤ q) → M'.2 j q = M.2 j q) (hs : ∀ m q, m < 4 → q < 4 → kI S' (sN x0 n + 5) (4 * m + q) = snV M' n m q) (ht : ∀ k, k < 16 → kI S' (sN x0 n + 6) k = M'.2 22 (16 * n + k)) (hu : ∀ k, k < 16 → kI S' (sN x0 n + 7) k = M'.2 31 (16 * n + k))
    (hnu' : (∀ m q, m < 4 → q < 4 → (∃ x, x ≤ mdN M q ∧ M'.2 21 (16 * n + 4 * m + q) = Int32.ofNat x) ∧ ∃ x, x ≤ mdN M q ∧ M'.2 22 (16 * n + 4 * m + q) = Int32.ofNat x) ∧ ∀ m, m < 4 → cuI M mkO (1000 * k') (M'.2 31 (16 * n + 4 * m)) (M'.2 31 (16 * n + 4 * m + 1)) (M'.2 31 (16 * n + 4 * m + 2)) (M'.2 31 (16 * n + 4 * m + 3))) : Ib x0 k' S' M' ra sl mkO L Wt ro fa := by
  obtain ⟨hc, hh, hkd, hth, htx, hro, hl, hnu⟩ := h
  have hc' := hc
  obtain ⟨⟨hA, hsl, htb, hBt⟩, -, hN, -⟩ := hc'
  obtain ⟨⟨hM1, hC1⟩, ⟨hw1, hw2, hw3⟩, hown⟩ := hN n hn
  have hC2 := hC1
  obtain ⟨⟨hy, -, hls⟩, -, -, ⟨f8, f9, f10⟩, -⟩ := hC1
  have r : rEq M M' := fun k h1 h2 => (e k (by omega)).2
  have fm : ∀ k, 1 ≤ k → k ≠ 21 → k ≠ 22 → k ≠ 31 → k < 47 → M'.2 k = M.2 k := fun k _ _ _ _ _ => (e k (by omega)).2
  have hW : ∀ a, (a = sN x0 n + 5 ∨ a = sN x0 n + 6 ∨ a = sN x0 n + 7) → x0 + 22 ≤ a ∧ a < x0 + 126 := fun a ha => by unfold sN at ha; omega
  have z0 := eS.2.2.2.2 (sN x0 n) (by omega)
  have hco : core x0 (1000 * k') S' M' ra sl mkO (updL L n (L n)) (updL Wt n (Wt n)) := by
    refine core_n1 hc hn eS (fun a ha => by omega) r (fun n' hn' en => nEq_of r (fun k k1 k2 i hi => ?_)) ⟨fun n' hn' => ?_, fun q hq => ?_⟩ (by omega) ⟨⟨nM_w hM1 r (fun k hk => fm k (by omega) (by omega) (by omega) (by omega) (by omega)) (lsM_f hM1.2.2.1 (fun k hk => fm k (by omega) (by omega) (by omega) (by omega) (by omega))), nC_w hC2 eS (fun a ha => by omega) z0.2.1 (by rw [z0.1]) r (fun k hk => fm k (by omega) (by omega) (by omega) (by omega) (by omega)) (cLs_f hls (fun k hk => fm k (by omega) (by omega) (by omega) (by omega) (by omega)) (eS.2.2.2.2 _ (by omega)).2.2.1) ⟨?_, ?_, ?_⟩ hs ht hu⟩, ⟨?_, ?_, wOk_r hw3 r⟩, hown⟩
    · by_cases ek : k = 21 ∨ k = 22 ∨ k = 31
      · have hw : wdt k = 16 := by rcases ek with q | q | q <;> subst q <;> rfl
        rw [hw] at hi
        exact out k ek i (by omega)
      · rw [fm k (by omega) (by omega) (by omega) (by omega) (by omega)]
    · obtain ⟨⟨W, W1, W2⟩, T', C', g1, g2, g3, g4⟩ := htb.1 n' hn'
      exact ⟨⟨W, by omega, by rw [fm 17 (by decide) (by decide) (by decide) (by decide) (by decide)]; exact W2⟩, T', C', by rw [fm 18 (by decide) (by decide) (by decide) (by decide) (by decide)]; exact g1, by rw [fm 19 (by decide) (by decide) (by decide) (by decide) (by decide)]; exact g2, by omega, by rw [tot_r r]; exact g4⟩
    · rw [mde_r r] at hq
      obtain ⟨t', c', g1, g2, g3, g4⟩ := htb.2 q hq
      exact ⟨t', c', by rw [r 14 (by decide) (by decide)]; exact g1, by rw [r 15 (by decide) (by decide)]; exact g2, by omega, by rw [tot_r r]; exact g4⟩
    · rw [z0.1, fm 17 (by decide) (by decide) (by decide) (by decide) (by decide)]; exact f8
    · rw [z0.1, fm 18 (by decide) (by decide) (by decide) (by decide) (by decide)]; exact f9
    · rw [z0.1, fm 19 (by decide) (by decide) (by decide) (by decide) (by decide)]; exact f10
    · unfold mWt; rw [fm 25 (by decide) (by decide) (by decide) (by decide) (by decide), fm 26 (by decide) (by decide) (by decide) (by decide) (by decide)]; exact hw1
    · unfold nW; rw [z0.1, (eS.2.2.2.2 (sN x0 n + 8) (by omega)).2.2.2]; exact hw2
  rw [updL_id, updL_id] at hco
  have hm : ∀ j m, mkO j = some m → mde M m := fun j m hj => (hA.2.1.1 j m hj).2.1
  have eM := lvM_r (M := M) (M' := M') (mEx_mono e (fun k hk => by omega))
  have eC := lvC_eq eS hW
  have eR : lvR M ra ra mkO mkO := ⟨fun _ _ => rfl, fun _ _ h => h, hm⟩
  refine ⟨hco, hsI_g hh eC (e 45 (by decide)).1, kdI_g hkd eM (fun k hk => e k (by omega)) (cSm_eq eS (fun a ha q => by have := hW a q; omega)) (fun m _ h1 h2 => absurd (by rw [mde_r r] at h1; exact h1) h2), thI_g hth eC, txI_g htx eC (fun _ _ => rfl), ?_, lnI_g hl eM eR (fun k hk => e k (by omega)) eC (cSm_eq eS (fun a ha q => by have := hW a q; omega)) (fun _ _ => rfl) (by omega), fun n' hn' => ?_⟩
  · unfold roI; rw [mde_r r]; exact hro
  · rw [mdN_r r]
    by_cases en : n' = n
    · subst en
      exact ⟨hnu'.1, fun m hm => cuI_r r (Nat.le_refl _) (hnu'.2 m hm)⟩
    · obtain ⟨h1, h2⟩ := hnu n' hn'
      refine ⟨fun m q hm hq => ?_, fun m hm => ?_⟩
      · rw [out 21 (by decide) _ (by omega), out 22 (by decide) _ (by omega)]; exact h1 m q hm hq
      · rw [out 31 (by decide) _ (by omega), out 31 (by decide) _ (by omega), out 31 (by decide) _ (by omega), out 31 (by decide) _ (by omega)]
        exact cuI_r r (by omega) (h2 m hm)
/-- a frame's head, in the class -/
theorem k_frBegin {f nd bk : Nat} (hy : cNy S nd bk n) (hn : n < 4) {ask : Int32} (hask : ask = 0 ∨ ask = 1) {wa ta : Nat} (hL : fLy S f wa ta) (hne : nd ≠ f ∧ nd + 5 ≠ f + 1 ∧ nd + 7 ≠ f + 1 ∧ nd + 5 ≠ f + 2 ∧ nd + 7 ≠ f + 2) : ∃ S', fk_2_begin S f nd (Int32.ofNat m) ask = some S' ∧ cEq (fun a => a = f ∨ a = f + 1 ∨ a = f + 2) S S' ∧ kR S' = kR S ∧ kO S' = kO S ∧ (kF S' f 3 = Int32.ofNat n ∧ kF S' f 4 = Int32.ofNat m ∧ kF S' f 5 = ask ∧ kF S' f 6 = 0 ∧ kF S' f 7 = 0 ∧ kF S' f 8 = 0) ∧ (∀ q, q < 4 → kI S' (f + 1) q = kI S (nd + 5) (4 * n + q)) ∧ ∀ c, c < 16 → kI S' (f + 2) c = kI S (nd + 7) c := by
  obtain ⟨⟨l1, l2, l3, l4, l5, l6⟩, ⟨l7, l8, l9, l10, l11, l12⟩, -⟩ := hL
  generalize hT6 : cPi (cPi (cPi (cPi (cPi (cPi S f 3 (Int32.ofNat n)) f 4 (Int32.ofNat m)) f 5 ask) f 6 0) f 7 0) f 8 0 = T6
  have t6F : kF T6 f 3 = Int32.ofNat n ∧ kF T6 f 4 = Int32.ofNat m ∧ kF T6 f 5 = ask ∧ kF T6 f 6 = 0 ∧ kF T6 f 7 = 0 ∧ kF T6 f 8 = 0 := by
    rw [← hT6]
    simp only [fP]
    exact ⟨rfl, rfl, rfl, rfl, rfl, rfl⟩
  have t6 : (∀ a, kK T6 a = kK S a) ∧ (∀ a, kL T6 a = kL S a) ∧ (∀ a, kR T6 a = kR S a) ∧ (∀ a, kI T6 a = kI S a) := by
    rw [← hT6]; exact ⟨fun _ => rfl, fun _ => rfl, fun _ => rfl, fun _ => rfl⟩
  have e6 : cEq (fun a => a = f ∨ a = f + 1 ∨ a = f + 2) S T6 := by
    rw [← hT6]
    exact cEq_trans (cEq_trans (cEq_trans (cEq_trans (cEq_trans (cEq_cPi _ (Or.inl rfl)) (cEq_cPi _ (Or.inl rfl))) (cEq_cPi _ (Or.inl rfl))) (cEq_cPi _ (Or.inl rfl))) (cEq_cPi _ (Or.inl rfl))) (cEq_cPi _ (Or.inl rfl))
  have kc : ∀ (X : cSt) (j : Nat) (x : Int32), kK (cPi X f j x) = kK X := fun _ _ _ => rfl
  have z5 : ∀ {K : Option cSt}, ckz ask K = K := fun {K} => by rcases hask with q | q <;> rw [q] <;> rfl
  have h4n : (4 : Int32) * Int32.ofNat n = Int32.ofNat (4 * n) := jI_mul 4 n
  have eC1 : cCp T6 (nd + 5) (4 * n) (f + 1) (Int32.toNatClampNeg 0) (Int32.toNatClampNeg 4) = sI T6 (f + 1) (va_cpy (kI S (nd + 5)) (kI S (f + 1)) (4 * n) 0 4) := by
    show sI T6 (f + 1) (va_cpy (kI T6 (nd + 5)) (kI T6 (f + 1)) (4 * n) 0 4) = _
    rw [t6.2.2.2, t6.2.2.2]
  generalize hT7 : sI T6 (f + 1) (va_cpy (kI S (nd + 5)) (kI S (f + 1)) (4 * n) 0 4) = T7 at eC1
  have t7 : (∀ a, kK T7 a = kK S a) ∧ (∀ a, kL T7 a = kL S a) ∧ (∀ a, kR T7 a = kR S a) := by
    rw [← hT7]; exact ⟨t6.1, t6.2.1, t6.2.2.1⟩
  have eC2 : cCp T7 (nd + 7) (Int32.toNatClampNeg 0) (f + 2) (Int32.toNatClampNeg 0) (Int32.toNatClampNeg 16) = sI T7 (f + 2) (va_cpy (kI S (nd + 7)) (kI S (f + 2)) 0 0 16) := by
    show sI T7 (f + 2) (va_cpy (kI T7 (nd + 7)) (kI T7 (f + 2)) 0 0 16) = _
    rw [← hT7, kI_sIo _ _ hne.2.2.1, kI_sIo _ _ (show f + 2 ≠ f + 1 by omega), t6.2.2.2, t6.2.2.2]
  refine ⟨sI T7 (f + 2) (va_cpy (kI S (nd + 7)) (kI S (f + 2)) 0 0 16), ?_, ?_, ?_, ?_, ?_, fun q hq => ?_, fun c hc => ?_⟩
  · unfold fk_2_begin
    simp only [lt_d]
    rw [ckk_y hy.1.1, ckk_y l1, hy.1.2.1, ckk_y (by rw [kc]; exact l1), ckk_y (by rw [kc, kc]; exact l1), z5, ckk_y (by rw [kc, kc, kc]; exact l1), ckk_y (by rw [kc, kc, kc, kc]; exact l1), ckk_y (by rw [kc, kc, kc, kc, kc]; exact l1), hT6, ckk_y (by rw [t6.1]; exact hy.1.1), t6.2.2.1, hy.1.2.2.2.2.2.2.1, bd_s, ckk_y (by rw [t6.1]; exact l1), t6F.1, h4n, ckk_y (by rw [t6.1]; exact l1), t6.2.2.1, l2, bd_s, ckk_y (by rw [t6.1]; exact hy.2.2.1.1), ckk_y (by rw [t6.1]; exact l7), jI_cl (by omega), ckp_y ⟨⟨jI_nn (by omega), by decide, by decide⟩, by rw [t6.2.1, hy.2.2.1.2]; show 4 * n + 4 ≤ 16; omega, by rw [t6.2.1, l8]; decide⟩, eC1, ckk_y (by rw [t7.1]; exact hy.1.1), t7.2.2, hy.1.2.2.2.2.2.2.2.2, bd_s, ckk_y (by rw [t7.1]; exact l1), t7.2.2, l3, bd_s, ckk_y (by rw [t7.1]; exact hy.2.2.2.2.1.1), ckk_y (by rw [t7.1]; exact l9), ckp_y ⟨by decide, by rw [t7.2.1, hy.2.2.2.2.1.2]; decide, by rw [t7.2.1, l10]; decide⟩, eC2]
  · refine cEq_trans (cEq_trans e6 ?_) (cEq_sI _ (Or.inr (Or.inr rfl)))
    rw [← hT7]; exact cEq_sI _ (Or.inr (Or.inl rfl))
  · funext a; exact t7.2.2 a
  · show kO T7 = _; rw [← hT7]; show kO T6 = _; rw [← hT6]; rfl
  · show kF T7 f 3 = _ ∧ kF T7 f 4 = _ ∧ kF T7 f 5 = _ ∧ kF T7 f 6 = _ ∧ kF T7 f 7 = _ ∧ kF T7 f 8 = _
    rw [← hT7]; exact t6F
  · rw [kI_sIo _ _ (by omega), ← hT7, kI_sI]; unfold va_cpy; rw [if_pos ⟨by omega, by omega⟩, Nat.sub_zero]
  · rw [kI_sI]; unfold va_cpy; rw [if_pos ⟨by omega, by omega⟩, Nat.zero_add, Nat.sub_zero]
end V
