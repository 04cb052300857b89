-- part 136: a frame taken, its vector and its cursors heard
theorem sI_sw (S : cSt) {a b : Nat} (f g : Nat → Int32) (h : a ≠ b) : sI (sI S a f) b g = sI (sI S b g) a f := by
  unfold sI
  have : upr (upr S.2.2.2.1 a f) b g = upr (upr S.2.2.2.1 b g) a f := by
    funext c
    unfold upr
    by_cases e : c = b
    · rw [if_pos e, if_neg (fun q => h (q.symm.trans e)), if_pos e]
    · rw [if_neg e]
      by_cases e2 : c = a
      · rw [if_pos e2, if_pos e2]
      · rw [if_neg e2, if_neg e2, if_neg e]
  show (_, _, _, upr (upr S.2.2.2.1 a f) b g, _) = _
  rw [this]
theorem rem39_76 : ∀ (fu : Nat) (C D : mSt) (i : Int32), fm_remove_39 fu C i = some D → D.2 76 = C.2 76 := by
  intro fu
  induction fu with
  | zero => intro C D i h; cases h
  | succ fu ih =>
    intro C D i h
    rw [fm_remove_39] at h
    by_cases c : (640 : Int32) * (C.1 42 - 1) ≤ i
    · rw [if_pos c, lt_d] at h
      cases h; rfl
    · rw [if_neg c] at h
      obtain ⟨-, h⟩ := ck_ok h
      obtain ⟨-, h⟩ := ck_ok h
      rw [lt_d, lt_d] at h
      rw [ih _ _ _ h, wr_o _ _ _ (by decide)]
theorem rem_76 {M D : mSt} {v : Nat} (hv : v < 60) (h : fm_remove M (Int32.ofNat v) = some D) : ∀ c, c < 640 → D.2 76 c = M.2 46 (640 * v + c) := by
  have first : ∀ (j i fu : Nat) (C : mSt), i + j = 640 → j < fu → C.2 46 = M.2 46 → (∀ c, c < i → C.2 76 c = M.2 46 (640 * v + c)) → fm_remove_2 fu C (Int32.ofNat v) (Int32.ofNat i) = some D → ∀ c, c < 640 → D.2 76 c = M.2 46 (640 * v + c) := by
    intro j
    induction j with
    | zero =>
      intro i fu C hi hf h46 hC h
      obtain ⟨fu, rfl⟩ : ∃ q, fu = q + 1 := ⟨fu - 1, by omega⟩
      have e : i = 640 := by omega
      subst e
      rw [fm_remove_2, if_pos (show (640 : Int32) ≤ Int32.ofNat 640 by decide), lt_d] at h
      intro c hc
      rw [rem39_76 _ _ _ _ h]; exact hC c hc
    | succ j ih =>
      intro i fu C hi hf h46 hC h
      obtain ⟨fu, rfl⟩ : ∃ q, fu = q + 1 := ⟨fu - 1, by omega⟩
      rw [fm_remove_2, if_neg (jK 640 640 rfl (by omega) (by decide)), show (640 : Int32) * Int32.ofNat v = Int32.ofNat (640 * v) from jI_mul 640 v, jI_add, ck_n (by omega) (by omega), ck_n (by omega) (by omega), lt_d, lt_d, show Int32.ofNat i + 1 = Int32.ofNat (i + 1) from jI_add i 1, rd_n _ _ (by omega)] at h
      refine ih (i + 1) fu _ (by omega) (by omega) (by rw [wr_o _ _ _ (by decide)]; exact h46) (fun c hc => ?_) h
      rw [wr_s _ _ (by omega)]
      by_cases e : c = i
      · subst e; rw [upd_s, h46]
      · rw [upd_o _ _ e]; exact hC c (by omega)
  exact first 640 0 mFU M rfl (by decide) rfl (fun c hc => absurd hc (by omega)) h
theorem m_isBent {M : mSt} {v : Nat} (hv : v < 60) : ∃ bb : Bool, fm_isBent M (Int32.ofNat v) = some (b2 (bb = true)) ∧ (bb = false ↔ ∀ c, 32 ≤ c → c < 640 → gF M v c = 0) := by
  have loop : ∀ (j i fu : Nat), i + j = 640 → j < fu → ∃ bb : Bool, fm_isBent_3 M fu (Int32.ofNat v) (Int32.ofNat i) = some (b2 (bb = true)) ∧ (bb = false ↔ ∀ c, i ≤ c → c < 640 → gF M v c = 0) := by
    intro j
    induction j with
    | zero =>
      intro i fu hi hf
      obtain ⟨fu, rfl⟩ : ∃ q, fu = q + 1 := ⟨fu - 1, by omega⟩
      have e : i = 640 := by omega
      subst e
      rw [fm_isBent_3, if_pos (show (640 : Int32) ≤ Int32.ofNat 640 by decide), ckz_0]
      exact ⟨false, rfl, fun _ c h1 h2 => absurd h1 (by omega), fun _ => rfl⟩
    | succ j ih =>
      intro i fu hi hf
      obtain ⟨fu, rfl⟩ : ∃ q, fu = q + 1 := ⟨fu - 1, by omega⟩
      rw [fm_isBent_3, if_neg (jK 640 640 rfl (by omega) (by decide)), show (640 : Int32) * Int32.ofNat v = Int32.ofNat (640 * v) from jI_mul 640 v, jI_add, ck_n (by omega) (by omega), rd_n _ _ (by omega), show M.2 46 (640 * v + i) = gF M v i from rfl]
      by_cases c : gF M v i = 0
      · obtain ⟨bb, x1, x2⟩ := ih (i + 1) fu (by omega) (by omega)
        rw [if_pos c, lt_d, show Int32.ofNat i + 1 = Int32.ofNat (i + 1) from jI_add i 1, x1]
        refine ⟨bb, rfl, x2.trans ⟨fun h c' h1 h2 => ?_, fun h c' h1 h2 => h c' (by omega) h2⟩⟩
        by_cases e : c' = i
        · rw [e]; exact c
        · exact h c' (by omega) h2
      · rw [if_neg c, ckz_1]
        exact ⟨true, rfl, fun h => (by cases h), fun h => absurd (h i (Nat.le_refl _) (by omega)) c⟩
  exact loop 608 32 mFU rfl (by decide)
section V
variable {S S' S0 S1 : cSt} {M M' A : mSt} {ra : Nat → Nat} {sl ch : Nat → Int32} {mkO : Nat → Option Nat} {L Wt : Nat → List Nat} {ro ro' fa fa' : Nat → Nat} {x0 n m k k' Bt nf w r v : Nat} {l W : List Nat}
theorem rem_both (hI : Ib x0 k S M ra sl mkO L Wt ro fa) (hk : k < 900) (hvw : v < w) (hw60 : w ≤ 60) (h42 : M.1 42 = Int32.ofNat w) : ∃ S5 M6, fk_5_remove S (x0 + 11) (Int32.ofNat v) = some S5 ∧ fm_remove M (Int32.ofNat v) = some M6 ∧ Ib x0 k S5 M6 ra sl mkO L Wt ro (fun i => fa (rmv v w i)) ∧ cEq (fun a => a = x0 + 11 ∨ a = x0 + 12) S S5 ∧ M6.1 42 = Int32.ofNat (w - 1) ∧ mEx (fun k => k = 42 ∨ k = 46 ∨ k = 76) M M6 ∧ (∀ c, c < 640 → M6.2 76 c = M.2 46 (640 * v + c)) := by
  obtain ⟨hc, hh, hkd, hth, htx, hro, hl, hnu⟩ := hI
  have hl0 := hl
  obtain ⟨hs, ⟨f0, f1, f2⟩, nf, w', g1, g2, g3, g4, g5, g6, g7⟩ := hl
  have ew : w' = w := by rw [g3] at h42; exact (jI_inj (by omega) (by omega)).mp h42
  subst ew
  obtain ⟨M', m1, m2, m3, m4⟩ := m_remove (by omega) hvw g3
  obtain ⟨S', g', s1, s2, s3, s4⟩ := k_removeGo (S := S) (x0 := x0) (fa := fa) (by omega) hvw hs.1 hs.2.1 (by rw [f0, g3]) hs.2.2.1 hs.2.2.2 (fun i hi => by obtain ⟨-, wa, ta, y, -⟩ := g7 i (by omega); exact y.1.1) (w' - 1 - v) v mFU (kO S (x0 + 12)) (by omega) (Nat.le_refl _) (Nat.lt_of_lt_of_le (show w' - 1 - v < 60 by omega) (by decide)) (fun q hq => by rw [g4 q (by omega)]; unfold rmv; rw [if_pos hq]) (fun q h1 h2 => g4 q (by omega))
  rw [sO_id] at s1
  have rem : fk_5_remove S (x0 + 11) (Int32.ofNat v) = some S' := by
    unfold fk_5_remove
    rw [ckk_y hs.1, hs.2.1, bd_s, ckk_y hs.2.2.1, hs.2.2.2, ck_n (by omega) (by omega), lt_d, jI_cl (by omega), g4 v (by omega), s1]
  have eS1 : cEq (fun a => a = x0 + 11 ∨ a = x0 + 12) S S' := by rw [s2]; exact cEq_trans (cEq_cPi _ (Or.inl rfl)) (cEq_sO _ (Or.inr rfl))
  have R' : kR S' (x0 + 11) = kR S (x0 + 11) := by rw [s2]; rfl
  have F0 : kF S' (x0 + 11) 0 = Int32.ofNat (w' - 1) := by rw [s2]; exact kF_cPi _ _ _ _
  have Fo : ∀ j, j ≠ 0 → kF S' (x0 + 11) j = kF S (x0 + 11) j := fun j hj => by rw [s2]; exact kF_cPo _ _ (by omega)
  have O' : kO S' (x0 + 12) = g' := by rw [s2]; exact kO_sO _ _ _
  have eM : mEx (fun j => j = 0 ∨ (42 ≤ j ∧ j ≠ 45)) M M' := mEx_mono m3 (fun k hk => by omega)
  have hl' : lnI x0 (1000 * k) S' M' ra mkO ro (fun i => fa (rmv v w' i)) := lnI_rm (v := v) hs g1 g2 hvw g5 g4 g6 g7 (fun k h1 h2 => (eM k (by omega)).2) (Nat.le_refl _) eS1 R' m2 ⟨by rw [F0, m2], by rw [Fo 1 (by decide), (m3 43 (by decide)).1]; exact f1, by rw [Fo 2 (by decide), (m3 44 (by decide)).1]; exact f2⟩ (fun q hq => by rw [O']; exact s3 q hq) (fun q hq => by rw [O']; exact s4 q hq) m4
  refine ⟨S', M', rem, m1, Ib_fr (Nat.le_refl _) hk hc hh hkd hth htx hro hnu eM (cSm_eq eS1 (fun a ha q => by
    rcases ha with ha | ha | ha
    · omega
    · omega
    · omega)) (by rw [eS1.2.2.1]; exact Nat.le_refl _) eS1.2.2.2.1 (fun _ _ => rfl) hl', eS1, m2, m3, rem_76 (by omega) m1⟩
/-- what is seen of a node, raised; a cursor, if it was set more often -/
def mxV (a b : Int32) : Int32 := if a < b then b else a
def cuV (a b : Int32) (x y : Int32) : Int32 := if b ≤ a then x else y
theorem k_hear {nd bk f wa ta : Nat} (hy : cNy S nd bk n) (hL : fLy S f wa ta) (hm : m < 4) (h3 : kF S f 3 = Int32.ofNat m) (hne : f ≠ nd + 5 ∧ f ≠ nd + 7 ∧ f + 1 ≠ nd + 5 ∧ f + 1 ≠ nd + 7 ∧ f + 2 ≠ nd + 5 ∧ f + 2 ≠ nd + 7) : ∃ f5 f7, fk_7_receive S nd f = fk_7_receive_55 mFU (sI (sI S (nd + 5) f5) (nd + 7) f7) nd f 0 0 ∧ (∀ q, q < 4 → f5 (4 * m + q) = mxV (kI S (nd + 5) (4 * m + q)) (kI S (f + 1) q)) ∧ (∀ c, c < 16 → (c < 4 * m ∨ 4 * m + 4 ≤ c) → f5 c = kI S (nd + 5) c) ∧ ∀ q t, q < 4 → t < 4 → f7 (4 * q + t) = cuV (kI S (nd + 7) (4 * q)) (kI S (f + 2) (4 * q)) (kI S (nd + 7) (4 * q + t)) (kI S (f + 2) (4 * q + t)) := by
  obtain ⟨⟨l1, l2, l3, l4, l5, l6⟩, ⟨l7, l8, l9, l10, l11, l12⟩, -⟩ := hL
  have loop : ∀ (j i fu : Nat) (f5 f7 : Nat → Int32), i + j = 4 → j < fu → (∀ q, q < i → f5 (4 * m + q) = mxV (kI S (nd + 5) (4 * m + q)) (kI S (f + 1) q)) → (∀ q, i ≤ q → q < 4 → f5 (4 * m + q) = kI S (nd + 5) (4 * m + q)) → (∀ c, c < 16 → (c < 4 * m ∨ 4 * m + 4 ≤ c) → f5 c = kI S (nd + 5) c) → (∀ q t, q < i → t < 4 → f7 (4 * q + t) = cuV (kI S (nd + 7) (4 * q)) (kI S (f + 2) (4 * q)) (kI S (nd + 7) (4 * q + t)) (kI S (f + 2) (4 * q + t))) → (∀ q t, i ≤ q → q < 4 → t < 4 → f7 (4 * q + t) = kI S (nd + 7) (4 * q + t)) → ∃ f5' f7', fk_7_receive_2 fu (sI (sI S (nd + 5) f5) (nd + 7) f7) nd f (Int32.ofNat i) = fk_7_receive_55 mFU (sI (sI S (nd + 5) f5') (nd + 7) f7') nd f 0 0 ∧ (∀ q, q < 4 → f5' (4 * m + q) = mxV (kI S (nd + 5) (4 * m + q)) (kI S (f + 1) q)) ∧ (∀ c, c < 16 → (c < 4 * m ∨ 4 * m + 4 ≤ c) → f5' c = kI S (nd + 5) c) ∧ ∀ q t, q < 4 → t < 4 → f7' (4 * q + t) = cuV (kI S (nd + 7) (4 * q)) (kI S (f + 2) (4 * q)) (kI S (nd + 7) (4 * q + t)) (kI S (f + 2) (4 * q + t)) := by
    intro j
    induction j with
    | zero =>
      intro i fu f5 f7 hi hf a1 a2 a3 a4 a5
      obtain ⟨fu, rfl⟩ : ∃ q, fu = q + 1 := ⟨fu - 1, by omega⟩
      have e : i = 4 := by omega
      subst e
      rw [fk_7_receive_2, if_pos (show (4 : Int32) ≤ Int32.ofNat 4 by decide)]
      exact ⟨f5, f7, rfl, a1, a3, a4⟩
    | succ j ih =>
      intro i fu f5 f7 hi hf a1 a2 a3 a4 a5
      obtain ⟨fu, rfl⟩ : ∃ q, fu = q + 1 := ⟨fu - 1, by omega⟩
      generalize hT : sI (sI S (nd + 5) f5) (nd + 7) f7 = T
      have tK : ∀ a, kK T a = kK S a ∧ kL T a = kL S a ∧ kR T a = kR S a ∧ kF T a = kF S a := fun a => by rw [← hT]; exact ⟨rfl, rfl, rfl, rfl⟩
      have tI5 : kI T (nd + 5) = f5 := by rw [← hT, kI_sIo _ _ (by omega), kI_sI]
      have tI7 : kI T (nd + 7) = f7 := by rw [← hT, kI_sI]
      have tIo : ∀ a, a ≠ nd + 5 → a ≠ nd + 7 → kI T a = kI S a := fun a h5 h7 => by rw [← hT, kI_sIo _ _ h7, kI_sIo _ _ h5]
      have k3 : kK T f = 3 := by rw [(tK f).1]; exact l1
      have k8 : kK T nd = 8 := by rw [(tK nd).1]; exact hy.1.1
      have r5 : kR T nd 5 = some (nd + 5) := by rw [(tK nd).2.2.1]; exact hy.1.2.2.2.2.2.2.1
      have r7 : kR T nd 7 = some (nd + 7) := by rw [(tK nd).2.2.1]; exact hy.1.2.2.2.2.2.2.2.2
      have k5 : kK T (nd + 5) = 20 ∧ kL T (nd + 5) = 16 := by rw [(tK _).1, (tK _).2.1]; exact hy.2.2.1
      have k7 : kK T (nd + 7) = 20 ∧ kL T (nd + 7) = 16 := by rw [(tK _).1, (tK _).2.1]; exact hy.2.2.2.2.1
      have r0 : kR T f 0 = some (f + 1) := by rw [(tK f).2.2.1]; exact l2
      have kf1 : kK T (f + 1) = 20 ∧ kL T (f + 1) = 4 := by rw [(tK _).1, (tK _).2.1]; exact ⟨l7, l8⟩
      have f3 : kF T f 3 = Int32.ofNat m := by rw [(tK f).2.2.2]; exact h3
      have e4 : (4 : Int32) * Int32.ofNat m + Int32.ofNat i = Int32.ofNat (4 * m + i) := by rw [show (4 : Int32) = Int32.ofNat 4 from rfl, jI_mul, jI_add]
      have e4i : (4 : Int32) * Int32.ofNat i = Int32.ofNat (4 * i) := jI_mul 4 i
      rw [fk_7_receive_2, if_neg (jK 4 4 rfl (by omega) (by decide)), ckk_y k3, f3, e4, lt_d, ckk_y k8, r5, bd_s, ckk_y k8, bd_s, ckk_y k5.1, k5.2, ck_n (by omega) (by omega), ckk_y k3, r0, bd_s, ckk_y kf1.1, kf1.2, ck_n (by omega) (by omega), ckk_y k5.1, ck_n (by omega) (by omega), jI_cl (by omega), jI_cl (by omega), tI5, tIo (f + 1) (by omega) (by omega), a2 i (Nat.le_refl _) (by omega), lt_d]
      have hmx : (if kI S (nd + 5) (4 * m + i) < kI S (f + 1) i then kI S (f + 1) i else kI S (nd + 5) (4 * m + i)) = mxV (kI S (nd + 5) (4 * m + i)) (kI S (f + 1) i) := rfl
      rw [hmx]
      have e6 : cWi T (nd + 5) (4 * m + i) (mxV (kI S (nd + 5) (4 * m + i)) (kI S (f + 1) i)) = sI (sI S (nd + 5) (upd f5 (4 * m + i) (mxV (kI S (nd + 5) (4 * m + i)) (kI S (f + 1) i)))) (nd + 7) f7 := by
        rw [cWi_sI, tI5, ← hT, sI_sw _ _ _ (show nd + 7 ≠ nd + 5 by omega), sI_sI]
      rw [e6]
      generalize hT6 : sI (sI S (nd + 5) (upd f5 (4 * m + i) (mxV (kI S (nd + 5) (4 * m + i)) (kI S (f + 1) i)))) (nd + 7) f7 = T6
      have uK : ∀ a, kK T6 a = kK S a ∧ kL T6 a = kL S a ∧ kR T6 a = kR S a := fun a => by rw [← hT6]; exact ⟨rfl, rfl, rfl⟩
      have uI7 : kI T6 (nd + 7) = f7 := by rw [← hT6, kI_sI]
      have uIo : ∀ a, a ≠ nd + 5 → a ≠ nd + 7 → kI T6 a = kI S a := fun a h5 h7 => by rw [← hT6, kI_sIo _ _ h7, kI_sIo _ _ h5]
      have u8 : kK T6 nd = 8 := by rw [(uK nd).1]; exact hy.1.1
      have u3 : kK T6 f = 3 := by rw [(uK f).1]; exact l1
      have ur1 : kR T6 f 1 = some (f + 2) := by rw [(uK f).2.2]; exact l3
      have uf2 : kK T6 (f + 2) = 20 ∧ kL T6 (f + 2) = 16 := by rw [(uK _).1, (uK _).2.1]; exact ⟨l9, l10⟩
      have ur7 : kR T6 nd 7 = some (nd + 7) := by rw [(uK nd).2.2]; exact hy.1.2.2.2.2.2.2.2.2
      have u7 : kK T6 (nd + 7) = 20 ∧ kL T6 (nd + 7) = 16 := by rw [(uK _).1, (uK _).2.1]; exact hy.2.2.2.2.1
      have b7 : f7 (4 * i) = kI S (nd + 7) (4 * i) := a5 i 0 (Nat.le_refl _) (by omega) (by decide)
      have s1 : Int32.ofNat i + 1 = Int32.ofNat (i + 1) := jI_add _ 1
      rw [ckk_y u8, e4i]
      unfold fk_7_learnCursor fk_7_learnCursor_29
      rw [ckk_y u3, ur1, bd_s, ckk_y uf2.1, uf2.2, ck_n (by omega) (by omega), ckk_y u8, ur7, bd_s, ckk_y u7.1, u7.2, ck_n (by omega) (by omega), jI_cl (by omega), uI7, uIo (f + 2) (by omega) (by omega), b7]
      have n5 : ∀ q, q < i + 1 → upd f5 (4 * m + i) (mxV (kI S (nd + 5) (4 * m + i)) (kI S (f + 1) i)) (4 * m + q) = mxV (kI S (nd + 5) (4 * m + q)) (kI S (f + 1) q) := fun q hq => by
        by_cases e : q = i
        · subst e; exact upd_s _ _ _
        · rw [upd_o _ _ (by omega)]; exact a1 q (by omega)
      have n5b : ∀ q, i + 1 ≤ q → q < 4 → upd f5 (4 * m + i) (mxV (kI S (nd + 5) (4 * m + i)) (kI S (f + 1) i)) (4 * m + q) = kI S (nd + 5) (4 * m + q) := fun q h1 h2 => by rw [upd_o _ _ (by omega)]; exact a2 q (by omega) h2
      have n5c : ∀ c, c < 16 → (c < 4 * m ∨ 4 * m + 4 ≤ c) → upd f5 (4 * m + i) (mxV (kI S (nd + 5) (4 * m + i)) (kI S (f + 1) i)) c = kI S (nd + 5) c := fun c h1 h2 => by rw [upd_o _ _ (by omega)]; exact a3 c h1 h2
      by_cases c : kI S (f + 2) (4 * i) ≤ kI S (nd + 7) (4 * i)
      · rw [if_pos c, bd_s, lt_d, s1, ← hT6]
        refine ih (i + 1) fu _ f7 (by omega) (by omega) n5 n5b n5c (fun q t hq ht => ?_) (fun q t h1 h2 ht => a5 q t (by omega) h2 ht)
        by_cases e : q = i
        · subst e
          unfold cuV
          rw [if_pos c]; exact a5 q t (Nat.le_refl _) (by omega) ht
        · exact a4 q t (by omega) ht
      · have eC : cCp T6 (f + 2) (4 * i) (nd + 7) (4 * i) (Int32.toNatClampNeg 4) = sI (sI S (nd + 5) (upd f5 (4 * m + i) (mxV (kI S (nd + 5) (4 * m + i)) (kI S (f + 1) i)))) (nd + 7) (va_cpy (kI S (f + 2)) f7 (4 * i) (4 * i) 4) := by
          show sI T6 (nd + 7) (va_cpy (kI T6 (f + 2)) (kI T6 (nd + 7)) (4 * i) (4 * i) 4) = _
          rw [uI7, uIo (f + 2) (by omega) (by omega), ← hT6, sI_sI]
        rw [if_neg c, ckk_y u3, bd_s, ckk_y u8, bd_s, ckk_y uf2.1, ckk_y u7.1, ckp_y ⟨⟨jI_nn (by omega), jI_nn (by omega), by decide⟩, by rw [uf2.2]; show 4 * i + 4 ≤ 16; omega, by rw [u7.2]; show 4 * i + 4 ≤ 16; omega⟩, lt_d, eC, bd_s, lt_d, s1]
        refine ih (i + 1) fu _ _ (by omega) (by omega) n5 n5b n5c (fun q t hq ht => ?_) (fun q t h1 h2 ht => ?_)
        · unfold va_cpy
          by_cases e : q = i
          · subst e
            unfold cuV
            rw [if_neg c, if_pos ⟨by omega, by omega⟩]; congr 1; omega
          · rw [if_neg (by omega)]; exact a4 q t (by omega) ht
        · unfold va_cpy; rw [if_neg (by omega)]; exact a5 q t (by omega) h2 ht
  unfold fk_7_receive
  have := loop 4 0 mFU (kI S (nd + 5)) (kI S (nd + 7)) rfl (by decide) (fun q hq => absurd hq (by omega)) (fun q _ _ => rfl) (fun c _ _ => rfl) (fun q t hq => absurd hq (by omega)) (fun q t _ _ _ => rfl)
  rw [sI_id, sI_id] at this
  exact this
theorem m_hear {Rs : Nat → Int32} (hn : n < 4) (hm : m < 4) (h76 : M.2 76 = Rs) (w4 : Int32) : ∃ MA, fm_deliver_77 mFU M (Int32.ofNat m) (Int32.ofNat n) w4 0 = fm_deliver_237 mFU MA (Int32.ofNat m) (Int32.ofNat n) w4 0 ∧ mEx (fun k => k = 21 ∨ k = 31) M MA ∧ (∀ q, q < 4 → MA.2 21 (16 * n + 4 * m + q) = mxV (M.2 21 (16 * n + 4 * m + q)) (Rs (4 + q))) ∧ (∀ c, (c < 16 * n + 4 * m ∨ 16 * n + 4 * m + 4 ≤ c) → MA.2 21 c = M.2 21 c) ∧ (∀ q t, q < 4 → t < 4 → MA.2 31 (16 * n + (4 * q + t)) = cuV (M.2 31 (16 * n + 4 * q)) (Rs (16 + 4 * q)) (M.2 31 (16 * n + (4 * q + t))) (Rs (16 + (4 * q + t)))) ∧ ∀ c, (c < 16 * n ∨ 16 * n + 16 ≤ c) → MA.2 31 c = M.2 31 c := by
  -- the vector
  have vec : ∀ (j i fu : Nat) (C : mSt), i + j = 4 → j < fu → mEx (fun k => k = 21 ∨ k = 31) M C → C.2 31 = M.2 31 → (∀ q, q < i → C.2 21 (16 * n + 4 * m + q) = mxV (M.2 21 (16 * n + 4 * m + q)) (Rs (4 + q))) → (∀ c, (c < 16 * n + 4 * m ∨ 16 * n + 4 * m + i ≤ c) → C.2 21 c = M.2 21 c) → ∃ D, fm_deliver_77 fu C (Int32.ofNat m) (Int32.ofNat n) w4 (Int32.ofNat i) = fm_deliver_150 mFU D (Int32.ofNat m) (Int32.ofNat n) w4 0 ∧ mEx (fun k => k = 21 ∨ k = 31) M D ∧ D.2 31 = M.2 31 ∧ (∀ q, q < 4 → D.2 21 (16 * n + 4 * m + q) = mxV (M.2 21 (16 * n + 4 * m + q)) (Rs (4 + q))) ∧ (∀ c, (c < 16 * n + 4 * m ∨ 16 * n + 4 * m + 4 ≤ c) → D.2 21 c = M.2 21 c) := by
    intro j
    induction j with
    | zero =>
      intro i fu C hi hf eC h31 a1 a2
      obtain ⟨fu, rfl⟩ : ∃ q, fu = q + 1 := ⟨fu - 1, by omega⟩
      have e : i = 4 := by omega
      subst e
      rw [fm_deliver_77, if_pos (show (4 : Int32) ≤ Int32.ofNat 4 by decide)]
      exact ⟨C, rfl, eC, h31, a1, a2⟩
    | succ j ih =>
      intro i fu C hi hf eC h31 a1 a2
      obtain ⟨fu, rfl⟩ : ∃ q, fu = q + 1 := ⟨fu - 1, by omega⟩
      have e1 : (16 : Int32) * Int32.ofNat n + (4 : Int32) * Int32.ofNat m + Int32.ofNat i = Int32.ofNat (16 * n + 4 * m + i) := by rw [show (16 : Int32) = Int32.ofNat 16 from rfl, show (4 : Int32) = Int32.ofNat 4 from rfl, jI_mul, jI_mul, jI_add, jI_add]
      have r76 : rd C 76 (Int32.ofNat (4 + i)) = Rs (4 + i) := by rw [rd_n _ _ (by omega), (eC 76 (by decide)).2, h76]
      have r21 : rd C 21 (Int32.ofNat (16 * n + 4 * m + i)) = M.2 21 (16 * n + 4 * m + i) := by rw [rd_n _ _ (by omega)]; exact a2 _ (by omega)
      have s1 : Int32.ofNat i + 1 = Int32.ofNat (i + 1) := jI_add _ 1
      have fin : ∀ x : Int32, x = mxV (M.2 21 (16 * n + 4 * m + i)) (Rs (4 + i)) → ∃ D, fm_deliver_140 (fm_deliver_77 fu) C (Int32.ofNat m) (Int32.ofNat n) w4 (Int32.ofNat i) (Int32.ofNat (16 * n + 4 * m + i)) x = fm_deliver_150 mFU D (Int32.ofNat m) (Int32.ofNat n) w4 0 ∧ mEx (fun k => k = 21 ∨ k = 31) M D ∧ D.2 31 = M.2 31 ∧ (∀ q, q < 4 → D.2 21 (16 * n + 4 * m + q) = mxV (M.2 21 (16 * n + 4 * m + q)) (Rs (4 + q))) ∧ (∀ c, (c < 16 * n + 4 * m ∨ 16 * n + 4 * m + 4 ≤ c) → D.2 21 c = M.2 21 c) := fun x hx => by
        unfold fm_deliver_140
        rw [ck_n (by omega) (by omega), lt_d, lt_d, s1]
        refine ih (i + 1) fu _ (by omega) (by omega) (mEx_trans eC (mEx_wr (Or.inl rfl) _ _)) (by rw [wr_o _ _ _ (by decide)]; exact h31) (fun q hq => ?_) (fun c hc => ?_)
        · rw [wr_s _ _ (by omega)]
          by_cases e : q = i
          · subst e; rw [upd_s, hx]
          · rw [upd_o _ _ (by omega)]; exact a1 q (by omega)
        · rw [wr_s _ _ (by omega), upd_o _ _ (by omega)]; exact a2 c (by omega)
      rw [fm_deliver_77, if_neg (jK 4 4 rfl (by omega) (by decide)), e1, lt_d, show (4 : Int32) + Int32.ofNat i = Int32.ofNat (4 + i) from jI_add 4 i, ck_n (by omega) (by omega), ck_n (by omega) (by omega), r76, r21]
      by_cases c : Rs (4 + i) ≤ M.2 21 (16 * n + 4 * m + i)
      · rw [if_pos c, ck_n (by omega) (by omega)]
        exact fin _ (by unfold mxV; rw [if_neg (Int32.not_lt.mpr c)])
      · rw [if_neg c, ck_n (by omega) (by omega)]
        exact fin _ (by unfold mxV; rw [if_pos (Int32.not_le.mp c)])
  obtain ⟨D, d1, d2, d3, d4, d5⟩ := vec 4 0 mFU M rfl (by decide) (mEx_refl _ _) rfl (fun q hq => absurd hq (by omega)) (fun _ _ => rfl)
  have d1' : fm_deliver_77 mFU M (Int32.ofNat m) (Int32.ofNat n) w4 0 = _ := d1
  rw [d1']
  have one : ∀ (q : Nat) (G : mSt → Int32 → Int32 → Int32 → Int32 → Option (Int32 × mSt)) (C : mSt), q < 4 → C.2 76 = Rs → (∀ t, t < 4 → C.2 31 (16 * n + (4 * q + t)) = M.2 31 (16 * n + (4 * q + t))) → ∃ E, fm_deliver_170 G mFU C (Int32.ofNat m) (Int32.ofNat n) w4 (Int32.ofNat q) (Int32.ofNat (16 * n + 4 * q)) 3 = G E (Int32.ofNat m) (Int32.ofNat n) w4 (Int32.ofNat (q + 1)) ∧ mEx (fun k => k = 31) C E ∧ (∀ t, t < 4 → E.2 31 (16 * n + (4 * q + t)) = cuV (M.2 31 (16 * n + 4 * q)) (Rs (16 + 4 * q)) (M.2 31 (16 * n + (4 * q + t))) (Rs (16 + (4 * q + t)))) ∧ ∀ c, (c < 16 * n + 4 * q ∨ 16 * n + 4 * q + 4 ≤ c) → E.2 31 c = C.2 31 c := by
    intro q G C hq hC76 hC31
    obtain ⟨fu, hfu⟩ : ∃ fu, mFU = fu + 1 + 1 + 1 + 1 + 1 := ⟨199995, rfl⟩
    have s1 : Int32.ofNat q + 1 = Int32.ofNat (q + 1) := jI_add _ 1
    have e16 : (16 : Int32) + (4 : Int32) * Int32.ofNat q = Int32.ofNat (16 + 4 * q) := by rw [show (16 : Int32) = Int32.ofNat 16 from rfl, show (4 : Int32) = Int32.ofNat 4 from rfl, jI_mul, jI_add]
    have z : ∀ t : Nat, Int32.ofNat (16 + 4 * q) + Int32.ofNat t = Int32.ofNat (16 + (4 * q + t)) := fun t => by rw [jI_add, Nat.add_assoc]
    have y : ∀ t : Nat, Int32.ofNat (16 * n + 4 * q) + Int32.ofNat t = Int32.ofNat (16 * n + (4 * q + t)) := fun t => by rw [jI_add, Nat.add_assoc]
    have h0 := hC31 0 (by decide)
    rw [Nat.add_zero] at h0
    rw [hfu]
    unfold cuV
    by_cases c : Rs (16 + 4 * q) ≤ M.2 31 (16 * n + 4 * q)
    · refine ⟨C, ?_, mEx_refl _ _, fun t ht => by rw [if_pos c]; exact hC31 t ht, fun _ _ => rfl⟩
      rw [fm_deliver_170, if_neg (by decide), e16, ck_n (by omega) (by omega), ck_n (by omega) (by omega), rd_n _ _ (by omega), rd_n _ _ (by omega), hC76, h0, if_pos c]
      unfold fm_deliver_228
      rw [lt_d, s1]
    · let E1 := wr C 31 (Int32.ofNat (16 * n + (4 * q + 3))) (Rs (16 + (4 * q + 3)))
      let E2 := wr E1 31 (Int32.ofNat (16 * n + (4 * q + 2))) (Rs (16 + (4 * q + 2)))
      let E3 := wr E2 31 (Int32.ofNat (16 * n + (4 * q + 1))) (Rs (16 + (4 * q + 1)))
      let E4 := wr E3 31 (Int32.ofNat (16 * n + (4 * q + 0))) (Rs (16 + (4 * q + 0)))
      have g1 : E1.2 31 = upd (C.2 31) (16 * n + (4 * q + 3)) (Rs (16 + (4 * q + 3))) := wr_s _ _ (by omega) _
      have g2 : E2.2 31 = upd (E1.2 31) (16 * n + (4 * q + 2)) (Rs (16 + (4 * q + 2))) := wr_s _ _ (by omega) _
      have g3 : E3.2 31 = upd (E2.2 31) (16 * n + (4 * q + 1)) (Rs (16 + (4 * q + 1))) := wr_s _ _ (by omega) _
      have g4 : E4.2 31 = upd (E3.2 31) (16 * n + (4 * q + 0)) (Rs (16 + (4 * q + 0))) := wr_s _ _ (by omega) _
      have o1 : E1.2 31 (16 * n + 4 * q) = M.2 31 (16 * n + 4 * q) := by rw [g1, upd_o _ _ (by omega)]; exact h0
      have o2 : E2.2 31 (16 * n + 4 * q) = M.2 31 (16 * n + 4 * q) := by rw [g2, upd_o _ _ (by omega)]; exact o1
      have o3 : E3.2 31 (16 * n + 4 * q) = M.2 31 (16 * n + 4 * q) := by rw [g3, upd_o _ _ (by omega)]; exact o2
      have p1 : E1.2 76 = Rs := (wr_o _ _ _ (by decide)).trans hC76
      have p2 : E2.2 76 = Rs := (wr_o _ _ _ (by decide)).trans p1
      have p3 : E3.2 76 = Rs := (wr_o _ _ _ (by decide)).trans p2
      have st : ∀ (fu : Nat) (X : mSt) (t : Nat), t < 4 → X.2 76 = Rs → X.2 31 (16 * n + 4 * q) = M.2 31 (16 * n + 4 * q) → fm_deliver_170 G (fu + 1) X (Int32.ofNat m) (Int32.ofNat n) w4 (Int32.ofNat q) (Int32.ofNat (16 * n + 4 * q)) (Int32.ofNat t) = fm_deliver_170 G fu (wr X 31 (Int32.ofNat (16 * n + (4 * q + t))) (Rs (16 + (4 * q + t)))) (Int32.ofNat m) (Int32.ofNat n) w4 (Int32.ofNat q) (Int32.ofNat (16 * n + 4 * q)) (Int32.ofNat t + -1) := fun fu X t ht hX hX31 => by
        rw [fm_deliver_170, if_neg (jI_nn (by omega)), e16, ck_n (by omega) (by omega), ck_n (by omega) (by omega), rd_n _ _ (by omega), rd_n _ _ (by omega), hX, hX31, if_neg c, z t, y t, ck_n (by omega) (by omega), ck_n (by omega) (by omega), rd_n _ _ (by omega), hX, lt_d, lt_d]
      refine ⟨E4, ?_, ?_, fun t ht => ?_, fun c' hc' => ?_⟩
      · have h3 := st (fu + 1 + 1 + 1 + 1) C 3 (by decide) hC76 h0
        have h2 := st (fu + 1 + 1 + 1) E1 2 (by decide) p1 o1
        have h1 := st (fu + 1 + 1) E2 1 (by decide) p2 o2
        have h0' := st (fu + 1) E3 0 (by decide) p3 o3
        rw [show Int32.ofNat 3 + -1 = Int32.ofNat 2 from by decide] at h3
        rw [show Int32.ofNat 2 + -1 = Int32.ofNat 1 from by decide] at h2
        rw [show Int32.ofNat 1 + -1 = Int32.ofNat 0 from by decide] at h1
        refine Eq.trans h3 (Eq.trans h2 (Eq.trans h1 (Eq.trans h0' ?_)))
        rw [fm_deliver_170, if_pos (by decide)]
        unfold fm_deliver_228
        rw [lt_d, s1]
      · exact mEx_trans (mEx_trans (mEx_trans (mEx_wr (W := fun k => k = 31) rfl _ _) (mEx_wr (W := fun k => k = 31) rfl _ _)) (mEx_wr (W := fun k => k = 31) rfl _ _)) (mEx_wr (W := fun k => k = 31) rfl _ _)
      · rw [if_neg c, g4, g3, g2, g1]
        have : t = 0 ∨ t = 1 ∨ t = 2 ∨ t = 3 := by omega
        rcases this with e | e | e | e <;> subst e
        · rw [upd_s]
        · rw [upd_o _ _ (by omega), upd_s]
        · rw [upd_o _ _ (by omega), upd_o _ _ (by omega), upd_s]
        · rw [upd_o _ _ (by omega), upd_o _ _ (by omega), upd_o _ _ (by omega), upd_s]
      · rw [g4, g3, g2, g1, upd_o _ _ (by omega), upd_o _ _ (by omega), upd_o _ _ (by omega), upd_o _ _ (by omega)]
  have cur : ∀ (j i fu : Nat) (C : mSt), i + j = 4 → j < fu → mEx (fun k => k = 31) D C → (∀ q t, q < i → t < 4 → C.2 31 (16 * n + (4 * q + t)) = cuV (M.2 31 (16 * n + 4 * q)) (Rs (16 + 4 * q)) (M.2 31 (16 * n + (4 * q + t))) (Rs (16 + (4 * q + t)))) → (∀ c, (c < 16 * n ∨ 16 * n + 4 * i ≤ c) → C.2 31 c = M.2 31 c) → ∃ E, fm_deliver_150 fu C (Int32.ofNat m) (Int32.ofNat n) w4 (Int32.ofNat i) = fm_deliver_237 mFU E (Int32.ofNat m) (Int32.ofNat n) w4 0 ∧ mEx (fun k => k = 31) D E ∧ (∀ q t, q < 4 → t < 4 → E.2 31 (16 * n + (4 * q + t)) = cuV (M.2 31 (16 * n + 4 * q)) (Rs (16 + 4 * q)) (M.2 31 (16 * n + (4 * q + t))) (Rs (16 + (4 * q + t)))) ∧ (∀ c, (c < 16 * n ∨ 16 * n + 16 ≤ c) → E.2 31 c = M.2 31 c) := by
    intro j
    induction j with
    | zero =>
      intro i fu C hi hf eC a1 a2
      obtain ⟨fu, rfl⟩ : ∃ q, fu = q + 1 := ⟨fu - 1, by omega⟩
      have e : i = 4 := by omega
      subst e
      rw [fm_deliver_150, if_pos (show (4 : Int32) ≤ Int32.ofNat 4 by decide)]
      exact ⟨C, rfl, eC, a1, fun c hc => a2 c (by omega)⟩
    | succ j ih =>
      intro i fu C hi hf eC a1 a2
      obtain ⟨fu, rfl⟩ : ∃ q, fu = q + 1 := ⟨fu - 1, by omega⟩
      have e1 : (16 : Int32) * Int32.ofNat n + (4 : Int32) * Int32.ofNat i = Int32.ofNat (16 * n + 4 * i) := by rw [show (16 : Int32) = Int32.ofNat 16 from rfl, show (4 : Int32) = Int32.ofNat 4 from rfl, jI_mul, jI_mul, jI_add]
      obtain ⟨E, x1, x2, x3, x4⟩ := one i (fm_deliver_150 fu) C (by omega) (by rw [(eC 76 (by decide)).2, (d2 76 (by decide)).2, h76]) (fun t ht => a2 _ (by omega))
      rw [fm_deliver_150, if_neg (jK 4 4 rfl (by omega) (by decide)), e1, lt_d, x1]
      refine ih (i + 1) fu E (by omega) (by omega) (mEx_trans eC x2) (fun q t hq ht => ?_) (fun c hc => ?_)
      · by_cases e : q = i
        · subst e; exact x3 t ht
        · rw [x4 _ (by omega)]; exact a1 q t (by omega) ht
      · rw [x4 c (by omega)]; exact a2 c (by omega)
  obtain ⟨E, e1, e2, e3, e4⟩ := cur 4 0 mFU D rfl (by decide) (mEx_refl _ _) (fun q t hq => absurd hq (by omega)) (fun c _ => by rw [d3])
  have e1' : fm_deliver_150 mFU D (Int32.ofNat m) (Int32.ofNat n) w4 0 = _ := e1
  rw [e1']
  refine ⟨E, rfl, mEx_trans d2 (mEx_mono e2 (fun k hk => Or.inr hk)), fun q hq => ?_, fun c hc => ?_, e3, e4⟩
  · rw [(e2 21 (by decide)).2]; exact d4 q hq
  · rw [(e2 21 (by decide)).2]; exact d5 c hc
end V
