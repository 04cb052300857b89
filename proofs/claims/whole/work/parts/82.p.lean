-- part 82: type
section T
variable {S S' : cSt} {M M' A : mSt} {ra : Nat → Nat} {sl : Nat → Int32} {mkO : Nat → Option Nat} {L Wt : Nat → List Nat} {x0 k n bk Bt : Nat} {l : List Nat} {W : Nat → Prop}
theorem core_o {Bt' : Nat} (h : core x0 Bt S M ra sl mkO L Wt) (e : ∀ k, 5 ≤ k → k < 42 → M'.2 k = M.2 k) (eS : cEq W S S') (hW : ∀ a, W a → a < x0 + 5 ∨ (x0 + 10 ≤ a ∧ a < x0 + 22) ∨ (x0 + 126 ≤ a ∧ a < x0 + 133)) (hle : Bt ≤ Bt') (hB' : Bt' < 1000000) : core x0 Bt' S' M' ra sl mkO L Wt := by
  obtain ⟨⟨hA, hsl, htb, -⟩, ⟨hB, hBa⟩, hN, hz, hra⟩ := h
  have r : rEq M M' := fun k h1 h2 => e k h1 (by omega)
  have eN : ∀ n, nEq M M' n := fun n => nEq_of r (fun k h1 h2 i _ => by rw [e k (by omega) (by omega)])
  refine ⟨⟨rA_r r hA, ?_, tBd_mono (tBd_f htb r (fun k hk => e k (by omega) (by omega))) hle, hB'⟩, ⟨cBk_r r (cBk_eq hB eS (fun a ha => by have := hW a ha; omega)), fun n hn => ?_⟩, fun n hn => ?_, by rw [eS.2.2.1]; exact hz, fun q hq => ?_⟩
  · unfold slI; rw [r 8 (by decide) (by decide)]; exact hsl
  · rw [(eS.2.2.2.2 (x0 + 8) (fun q => by have := hW _ q; omega)).2.2.1, (eS.2.2.2.2 (x0 + 9) (fun q => by have := hW _ q; omega)).2.2.1, r 7 (by decide) (by decide), r 8 (by decide) (by decide)]
    exact hBa n hn
  · obtain ⟨⟨h1, h2⟩, ⟨h3, h4, h5⟩, h6⟩ := hN n hn
    have hs : ∀ a, W a → a < sN x0 n ∨ sN x0 n + 26 ≤ a := fun a ha => by have := hW a ha; unfold sN; omega
    refine ⟨⟨nM_eq h1 (eN n), nC_eq h2 eS hs (eN n)⟩, ⟨mWt_n h3 (eN n), nW_eq h4 eS (fun q => by have := hs _ q; omega) (fun q => by have := hs _ q; omega), wOk_r h5 r⟩, ?_⟩
    rw [mde_r r]; exact h6
  · rw [mde_r r] at hq; rw [eS.2.2.1]; exact hra q hq
/-- tape and kinds change, no row -/
theorem Inv_k {k' : Nat} (h : Inv x0 k S M) (hkk : k ≤ k') (hk : k' < 900) (e : mEx (fun j => j ≤ 4 ∨ 47 ≤ j) M M') (eS : cEq W S S') (hW : ∀ a, W a → x0 + 1 ≤ a ∧ a < x0 + 5) (hkd : kdI x0 S' M') : Inv x0 k' S' M' := by
  obtain ⟨ra, sl, mkO, L, Wt, ro, fa, hc, hh, -, ht, hx, hr, hl, hn⟩ := h
  have r : rEq M M' := fun k h1 h2 => (e k (by omega)).2
  have eM : lvM M M' := ⟨trivial, fun q hq => by rw [mde_r r]; exact hq, fun q _ => by rw [mdN_r r]; exact Nat.le_refl _, (rOn_of r _).1, fun i _ => by rw [r 6 (by decide) (by decide)]⟩
  have eC : lvC x0 S S' := by
    refine ⟨cSm_eq eS (fun a ha q => ?_), fun a _ => ⟨eS.1 a, eS.2.1 a⟩, (eS.2.2.2.2 _ (fun q => ?_)).2.1, fun j _ => ?_, eS.2.2.2.1, by rw [eS.2.2.1]; exact Nat.le_refl _⟩
    · have := hW a q; unfold kp at ha; omega
    · have := hW _ q; omega
    · rw [(eS.2.2.2.2 (x0 + 126) (fun q => by have := hW _ q; omega)).2.1]
  have hm : ∀ j m, mkO j = some m → mde M m := fun j m hj => (hc.1.1.2.1.1 j m hj).2.1
  have eR : lvR M ra ra mkO mkO := ⟨fun _ _ => rfl, fun _ _ h => h, hm⟩
  refine ⟨ra, sl, mkO, L, Wt, ro, fa, core_o hc (fun k h1 h2 => (e k (by omega)).2) eS (fun a ha => by have := hW a ha; omega) (by omega) (by omega), hsI_g hh eC (e 45 (by decide)).1, hkd, thI_g ht eC, txI_g hx eC (fun _ _ => rfl), ?_, lnI_g hl eM eR (fun k hk => e k (by omega)) eC (cSm_eq eS (fun a ha q => by have := hW a q; omega)) (fun _ _ => rfl) (by omega), nuI_g hn eM eR (by omega) (e 21 (by decide)).2 (e 22 (by decide)).2 (e 31 (by decide)).2⟩
  unfold roI; rw [mde_r r]; exact hr
/-- one octet more on the tape -/
theorem kdI_put (h : kdI x0 S M) {tp c : Nat} (htp : M.1 1 = Int32.ofNat tp) (ht : tp < 40) (hc : c < 128) : kdI x0 (cPi (cWi S (x0 + 2) tp (Int32.ofNat c)) (x0 + 1) 1 (Int32.ofNat (tp + 1))) (pu (wr M 2 (Int32.ofNat tp) (Int32.ofNat c)) 1 (Int32.ofNat (tp + 1))) := by
  generalize hS : cPi (cWi S (x0 + 2) tp (Int32.ofNat c)) (x0 + 1) 1 (Int32.ofNat (tp + 1)) = S'
  generalize hM : pu (wr M 2 (Int32.ofNat tp) (Int32.ofNat c)) 1 (Int32.ofNat (tp + 1)) = M'
  obtain ⟨h1, h2, h3, h4, h5, tp', kn, h6, h7, h8, h9, h10, h11⟩ := h
  have kk : ∀ a, kK S' a = kK S a := fun a => by rw [← hS]; rfl
  have kl : ∀ a, kL S' a = kL S a := fun a => by rw [← hS]; rfl
  have kr : ∀ a, kR S' a = kR S a := fun a => by rw [← hS]; rfl
  have f1 : kF S' (x0 + 1) 1 = Int32.ofNat (tp + 1) := by rw [← hS]; exact kF_cPi _ _ _ _
  have fo : ∀ j, j ≠ 1 → kF S' (x0 + 1) j = kF S (x0 + 1) j := fun j hj => by rw [← hS]; exact kF_cPo _ _ (by omega)
  have i2 : kI S' (x0 + 2) = upd (kI S (x0 + 2)) tp (Int32.ofNat c) := by rw [← hS]; exact kI_cWi _ _ _ _
  have io : ∀ a, a ≠ x0 + 2 → kI S' a = kI S a := fun a ha => by rw [← hS]; show kI (cWi S (x0 + 2) tp (Int32.ofNat c)) a = _; rw [cWi_sI, kI_sIo _ _ ha]
  have m1 : M'.1 1 = Int32.ofNat (tp + 1) := by rw [← hM]; exact pu_s _ _ _
  have mo : ∀ k, k ≠ 1 → M'.1 k = M.1 k := fun k hk => by rw [← hM, pu_o _ _ hk]; rfl
  have m2 : M'.2 2 = upd (M.2 2) tp (Int32.ofNat c) := by rw [← hM, pu_2]; exact wr_s _ _ (by omega) _
  have mw : ∀ k, k ≠ 2 → M'.2 k = M.2 k := fun k hk => by rw [← hM, pu_2]; exact wr_o _ _ _ hk
  have hmd : mde M' = mde M := by unfold mde mdN; rw [mw 7 (by decide)]
  refine ⟨?_, ⟨by rw [f1, m1], by rw [fo 2 (by decide), mo 4 (by decide)]; exact h2.2.1, by rw [fo 3 (by decide), mo 3 (by decide)]; exact h2.2.2⟩, fun i hi => ?_, ?_, ?_, tp + 1, kn, by omega, h7, m1, by rw [mo 4 (by decide)]; exact h9, by rw [mw 5 (by decide), mw 6 (by decide)]; exact h10, by rw [hmd, mw 9 (by decide), mw 12 (by decide)]; exact h11⟩
  · rw [kk, kr, kk, kl, kk, kl, kk, kl]; exact h1
  · rw [i2, m2]
    by_cases e : i = tp
    · subst e; rw [upd_s, upd_s]; exact ⟨rfl, c, hc, rfl⟩
    · rw [upd_o _ _ e, upd_o _ _ e]; exact h3 i hi
  · rw [io (x0 + 3) (by omega), mw 6 (by decide)]; exact h4
  · rw [io (x0 + 4) (by omega), mw 5 (by decide)]; exact h5
theorem oct_n {x : Int32} (h1 : ¬ x < 32) (h2 : x ≤ 126) : ∃ c, c < 128 ∧ x = Int32.ofNat c := by
  obtain ⟨c, -, c2, c3⟩ := rng 32 126 (by decide) ⟨Int32.not_lt.mp h1, h2⟩ (by decide)
  exact ⟨c, by omega, c3⟩
theorem chr_n {c : Nat} (h : c < 128) : (Int32.toUInt32 (Int32.ofNat c) % 65536).toInt32 = Int32.ofNat c := by
  have : ∀ x : Fin 128, (Int32.toUInt32 (Int32.ofNat x.1) % 65536).toInt32 = Int32.ofNat x.1 := by decide
  exact this ⟨c, h⟩
def oct (v : Int64) (i : Nat) : Int32 := Int64.toInt32 ((v >>> (Int32.toInt64 ((8 : Int32) * Int32.ofNat i) &&& 63)) &&& (255 : Int64))
theorem sh8 (x : BitVec 64) (s : Nat) (hs : s + 8 ≤ 64) : ((x >>> s).setWidth 32) &&& 255#32 = ((x.sshiftRight s) &&& 255#64).setWidth 32 := by
  apply BitVec.eq_of_getLsbD_eq
  intro i hi
  have b : ∀ i : Fin 32, (255#32).getLsbD i.1 = decide (i.1 < 8) ∧ (255#64).getLsbD i.1 = decide (i.1 < 8) := by decide
  obtain ⟨b1, b2⟩ := b ⟨i, hi⟩
  rw [BitVec.getLsbD_and, BitVec.getLsbD_setWidth, BitVec.getLsbD_setWidth, BitVec.getLsbD_and, BitVec.getLsbD_ushiftRight, BitVec.getLsbD_sshiftRight, show (255#32).getLsbD i = decide (i < 8) from b1, show (255#64).getLsbD i = decide (i < 8) from b2]
  by_cases c : i < 8
  · rw [decide_eq_true c, decide_eq_true hi, decide_eq_false (show ¬ 64 ≤ i by omega), if_pos (show s + i < 64 by omega)]
    simp
  · rw [decide_eq_false c]; simp
theorem k_byteOf (v : Int64) {i : Nat} (hi : i < 8) : fk_3_byteOf v (Int32.ofNat i) = some (oct v i) := by
  unfold fk_3_byteOf oct
  congr 1
  apply Int32.toBitVec_inj.mp
  have a1 : ∀ i : Fin 8, (((Int32.toInt64 ((8 : Int32) * Int32.ofNat i.1)) &&& 63).toBitVec.smod 64#64).toNat = 8 * i.1 := by decide
  have a2 : ∀ i : Fin 8, ((Int64.toUInt64 (Int32.toInt64 ((8 : Int32) * Int32.ofNat i.1)) &&& Int64.toUInt64 63).toBitVec % 64#64).toNat = 8 * i.1 := by decide
  have b1 := a1 ⟨i, hi⟩
  have b2 := a2 ⟨i, hi⟩
  have key := sh8 v.toBitVec (8 * i) (by omega)
  rw [Int32.toBitVec_and, Int64.toBitVec_toInt32, Int64.toBitVec_toInt32, Int64.toBitVec_and, UInt64.toBitVec_toInt64, UInt64.toBitVec_shiftRight, Int64.toBitVec_shiftRight, Int64.toBitVec_toUInt64, BitVec.sshiftRight_eq', BitVec.ushiftRight_eq', BitVec.signExtend_eq_setWidth_of_le _ (by decide), BitVec.signExtend_eq_setWidth_of_le _ (by decide)]
  refine Eq.trans ?_ (key.trans ?_)
  · exact congrArg (fun s => (v.toBitVec >>> s).setWidth 32 &&& 255#32) b2
  · exact congrArg (fun s => (v.toBitVec.sshiftRight s &&& 255#64).setWidth 32) b1.symm
theorem t_put (v : Int64) : ∀ (j fu fu' : Nat) (S : cSt) (M : mSt) (tp : Nat), j ≤ 8 → j < fu → j < fu' → kdI x0 S M → M.1 1 = Int32.ofNat tp → tp + j ≤ 40 → (∀ i, i < j → ∃ c, c < 128 ∧ oct v i = Int32.ofNat c) → ∃ S' M', fk_3_put_68 fu S (x0 + 1) v (Int32.ofNat j - 1) = some (1, S') ∧ fm_type_79 fu' M v (Int32.ofNat j - 1) = some (1, M') ∧ kdI x0 S' M' ∧ cEq (fun a => x0 + 1 ≤ a ∧ a < x0 + 5) S S' ∧ mEx (fun j => j ≤ 4 ∨ 47 ≤ j) M M' := by
  intro j
  induction j with
  | zero =>
    intro fu fu' S M tp _ hf hf' h htp ht ho
    obtain ⟨fu, rfl⟩ : ∃ q, fu = q + 1 := ⟨fu - 1, by omega⟩
    obtain ⟨fu', rfl⟩ : ∃ q, fu' = q + 1 := ⟨fu' - 1, by omega⟩
    refine ⟨S, M, ?_, ?_, h, cEq_refl _ _, mEx_refl _ _⟩
    · rw [fk_3_put_68, if_pos (show Int32.ofNat 0 - 1 < 0 by decide), ckz_1]
    · rw [fm_type_79, if_pos (show Int32.ofNat 0 - 1 < 0 by decide), ckz_1]
  | succ j ih =>
    intro fu fu' S M tp hj8 hf hf' h htp ht ho
    obtain ⟨fu, rfl⟩ : ∃ q, fu = q + 1 := ⟨fu - 1, by omega⟩
    obtain ⟨fu', rfl⟩ : ∃ q, fu' = q + 1 := ⟨fu' - 1, by omega⟩
    obtain ⟨c, c1, c2⟩ := ho j (by omega)
    have h' := kdI_put h htp (by omega) c1
    obtain ⟨S', M', p1, p2, p3, p4, p5⟩ := ih fu fu' _ _ (tp + 1) (by omega) (by omega) (by omega) h' (pu_s _ _ _) (by omega) (fun i hi => ho i (by omega))
    obtain ⟨⟨a1, a2, a3, a4, a5, a6, -⟩, ⟨b1, -⟩, -⟩ := h
    have e1 : Int32.ofNat (j + 1) - 1 = Int32.ofNat j := by rw [show (1 : Int32) = Int32.ofNat 1 from rfl, jI_sub (by omega)]; rfl
    have e2 : Int32.ofNat j + (-1) = Int32.ofNat j - 1 := (Int32.sub_eq_add_neg _ _).symm
    refine ⟨S', M', ?_, ?_, p3, cEq_trans (cEq_trans (cEq_cWi _ (by omega)) (cEq_cPi _ (by omega))) p4, mEx_trans (mEx_trans (mEx_wr (by simp) _ _) (mEx_pu (by simp) _)) p5⟩
    · rw [fk_3_put_68, e1, if_neg (jI_nn (by omega)), ckk_y a1, a2, bd_s, ckk_y a1, k_byteOf v (by omega), c2, bd_s, ckk_y a5, a6, b1, htp, ck_n (by omega) (by omega), chr_n c1, ckp_y (nar_n c1), lt_d, jI_cl (by omega)]
      have k4 : kK (cWi S (x0 + 2) tp (Int32.ofNat c)) (x0 + 1) = 4 := a1
      have f4 : kF (cWi S (x0 + 2) tp (Int32.ofNat c)) (x0 + 1) 1 = Int32.ofNat tp := b1.trans htp
      rw [ckk_y k4, ckk_y k4, f4, lt_d, lt_d, e2, show (1 : Int32) = Int32.ofNat 1 from rfl, jI_add]
      exact p1
    · rw [fm_type_79, e1, if_neg (jI_nn (by omega)), htp, ck_n (by omega) (by omega)]
      show lt (wr M 2 (Int32.ofNat tp) (oct v j)) _ = _
      rw [c2, lt_d, wr_1, htp, lt_d, lt_d, e2, show (1 : Int32) = Int32.ofNat 1 from rfl, jI_add]
      exact p2
theorem t_chk (v : Int64) {w : Nat} (hw : w ≤ 8) (h : kdI x0 S M) {tp : Nat} (htp : M.1 1 = Int32.ofNat tp) (ht : tp + w ≤ 40) : ∀ (j i fu fu' : Nat), i + j = w → j < fu → j < fu' → (∀ q, q < i → ∃ c, c < 128 ∧ oct v q = Int32.ofNat c) → ∃ r S' M', fk_3_put_27 fu S (x0 + 1) v (Int32.ofNat w) (Int32.ofNat i) = some (r, S') ∧ (r = 0 ∨ r = 1) ∧ fm_type_32 fu' M v (Int32.ofNat w) (Int32.ofNat i) = some (r, M') ∧ kdI x0 S' M' ∧ cEq (fun a => x0 + 1 ≤ a ∧ a < x0 + 5) S S' ∧ mEx (fun j => j ≤ 4 ∨ 47 ≤ j) M M' := by
  intro j
  induction j with
  | zero =>
    intro i fu fu' hi hf hf' ho
    obtain ⟨fu, rfl⟩ : ∃ q, fu = q + 1 := ⟨fu - 1, by omega⟩
    obtain ⟨fu', rfl⟩ : ∃ q, fu' = q + 1 := ⟨fu' - 1, by omega⟩
    have e : i = w := by omega
    subst e
    obtain ⟨S', M', p1, p2, p3⟩ := t_put v i mFU mFU S M tp hw (Nat.lt_of_le_of_lt hw (by decide)) (Nat.lt_of_le_of_lt hw (by decide)) h htp ht ho
    refine ⟨1, S', M', ?_, Or.inr rfl, ?_, p3⟩
    · rw [fk_3_put_27, if_pos (Int32.le_refl _), lt_d]; exact p1
    · rw [fm_type_32, if_pos (Int32.le_refl _), lt_d]; exact p2
  | succ j ih =>
    intro i fu fu' hi hf hf' ho
    obtain ⟨fu, rfl⟩ : ∃ q, fu = q + 1 := ⟨fu - 1, by omega⟩
    obtain ⟨fu', rfl⟩ : ∃ q, fu' = q + 1 := ⟨fu' - 1, by omega⟩
    rw [fk_3_put_27, fm_type_32, if_neg (fun q => absurd ((jI_le (by omega) (by omega)).mp q) (by omega)), if_neg (fun q => absurd ((jI_le (by omega) (by omega)).mp q) (by omega)), k_byteOf v (by omega), bd_s]
    show ∃ r S' M', _ ∧ _ ∧ lt (oct v i) _ = _ ∧ _
    simp only [lt_d]
    unfold fk_3_put_55 fm_type_66
    by_cases c1 : oct v i < 32
    · rw [if_pos c1, if_pos c1]; exact ⟨0, S, M, rfl, Or.inl rfl, rfl, h, cEq_refl _ _, mEx_refl _ _⟩
    rw [if_neg c1, if_neg c1]
    by_cases c2 : oct v i ≤ 126
    · rw [if_pos c2, if_pos c2, show (1 : Int32) = Int32.ofNat 1 from rfl, jI_add]
      refine ih (i + 1) fu fu' (by omega) (by omega) (by omega) (fun q hq => ?_)
      by_cases e : q = i
      · rw [e]; exact oct_n c1 c2
      · exact ho q (by omega)
    · rw [if_neg c2, if_neg c2]; exact ⟨0, S, M, rfl, Or.inl rfl, rfl, h, cEq_refl _ _, mEx_refl _ _⟩
theorem c_type (hk : k + 1 < 900) : lC_type x0 (Inv x0 k) (Inv x0 (k + 1)) := by
  intro S M v1 v3 h
  have h0 := Inv_0 h (by omega)
  unfold fk_11_type fm_type fm_type_27
  rw [lt_d]
  generalize pu M 0 0 = A at h0 ⊢
  have h1 := Inv_1 h0 hk
  have h00 := h0
  obtain ⟨ra, sl, mkO, L, Wt, ro, fa, hc, hh, hkd, hth, htx, hro, hl, hnu⟩ := h0
  have hkd' := hkd
  obtain ⟨⟨a1, -⟩, ⟨b1, -⟩, -, -, -, tp, kn, h6, h7, h8, -⟩ := hkd'
  rw [ckk_y hh.1.1, hh.1.2.1, bd_s, ckk_y a1]
  unfold fk_3_put fk_3_put_22
  by_cases c1 : v3 < 1
  · rw [if_pos c1, if_pos c1]; exact ⟨_, _, _, rfl, rfl, h1⟩
  rw [if_neg c1, if_neg c1]
  by_cases c2 : 8 < v3
  · rw [if_pos c2, if_pos c2]; exact ⟨_, _, _, rfl, rfl, h1⟩
  obtain ⟨w, w1, w2, rfl⟩ := rng 1 8 (by decide) ⟨Int32.not_lt.mp c1, Int32.not_lt.mp c2⟩ (by decide)
  rw [if_neg c2, if_neg c2, ckk_y a1, b1, h8, jI_add]
  by_cases c3 : Int32.ofNat (tp + w) ≤ 40
  · rw [if_pos c3, if_pos c3]
    obtain ⟨r, S', M', p1, p2, p3, p4, p5, p6⟩ := t_chk (S := S) (M := A) v1 w2 hkd h8 ((jI_le (b := 40) (by omega) (by decide)).mp c3) w 0 mFU mFU (by omega) (Nat.lt_of_le_of_lt w2 (by decide)) (Nat.lt_of_le_of_lt w2 (by decide)) (fun q hq => absurd hq (by omega))
    refine ⟨r, S', M', ?_, p3, Inv_k h00 (by omega) hk p6 p5 (fun a ha => ha) p4⟩
    rw [show (0 : Int32) = Int32.ofNat 0 from rfl, p1, bd_s, lt_d, lt_d]
    rcases p2 with e | e <;> rw [e] <;> rfl
  · rw [if_neg c3, if_neg c3]; exact ⟨_, _, _, rfl, rfl, h1⟩
end T
