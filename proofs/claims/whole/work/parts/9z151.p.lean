-- part 151: commit, whole
section V
variable {S S' : cSt} {A B M : mSt} {ra : Nat → Nat} {sl : Nat → Int32} {mkO : Nat → Option Nat} {L Wt : Nat → List Nat} {ro fa : Nat → Nat} {x0 n k Bt tp : Nat}
theorem c_commit (hk : k + 1 < 900) : lC_commit x0 (Inv x0 k) (Inv x0 (k + 1)) := by
  intro S M v1 v2 v3 h
  have h0 := h
  obtain ⟨ra, sl, mkO, L, Wt, ro, fa, hc, hh, hkd, hth, htx, hro, hl, hnu⟩ := h0
  have hkd' := hkd
  obtain ⟨⟨a1, -⟩, ⟨b1, b2', b3⟩, -, -, -, tp, kn, h6, h7, h8, h9, -⟩ := hkd'
  have kd2 := kdI_1 (kdI_0 hkd 0)
  have i2 : Inv x0 k (cPi S (x0 + 1) 1 0) (pu (pu M 0 0) 1 0) := Inv_k h (Nat.le_refl _) (by omega) (mEx_trans (mEx_pu (Or.inl (by decide)) _) (mEx_pu (Or.inl (by decide)) _)) (W := fun a => a = x0 + 1) (cEq_cPi _ rfl) (fun a ha => by omega) kd2
  have m1 : (pu M 0 0).1 1 = Int32.ofNat tp := by rw [pu_o _ _ (by decide)]; exact h8
  unfold fk_11_commit fk_3_takeTape fm_commit
  rw [ckk_y hh.1.1, hh.1.2.1, bd_s, ckk_y a1, ckk_y a1, lt_d, ckk_y a1, lt_d, bd_s, lt_d, lt_d, b1, h8, lt_d, m1, lt_d, lt_d]
  dsimp only
  generalize cPi S (x0 + 1) 1 0 = S2 at i2 ⊢
  generalize pu (pu M 0 0) 1 0 = A at i2 ⊢
  clear hc hh hkd hth htx hro hl hnu a1 b1 b2' b3 kd2 m1 h8 h9
  have h1 := Inv_1 i2 hk
  obtain ⟨ra, sl, mkO, L, Wt, ro, fa, hIb⟩ := i2
  have hIb : Ib x0 k S2 A ra sl mkO L Wt ro fa := hIb
  obtain ⟨hc, hh, hkd, hth, htx, hro, hl, hnu⟩ := id hIb
  have refl := mEx_refl sc A
  have hA := hc.1.1
  rw [ckk_y hh.1.1]
  by_cases hv : 0 ≤ v1 ∧ v1 ≤ 3
  · obtain ⟨n, hn, rfl⟩ := wi3.mp hv
    obtain ⟨⟨hM1, -⟩, -⟩ := hc.2.2.1 n hn
    rcases k_madeSlot hh hc hn v2 with ⟨j, m, hm, hin, rfl, -, -⟩ | ⟨-, q2⟩
    · have hz := k_refY hh hkd hc hn (s := 9) (by decide) (by decide) (by decide) (by decide) hm hin v3 0
      have hz : fk_11_refusalOf S2 x0 (Int32.ofNat n) 9 (Int32.ofNat (rNm m)) v3 0 = some (if ruS (Int32.ofNat 9) ≠ 0 ∧ rlO A (A.2 12 m) v3 ≠ some (ruS (Int32.ofNat 9)) then (if rlO A (A.2 12 m) v3 = none then -1 else -2) else if thN A (L n) (Int32.ofNat (rNm m)) = true ∧ (9 = 11 → (0 : Int32) = -1 ∨ thN A (L n) 0 = true) then 0 else -3) := hz
      have ru : ruS (Int32.ofNat 9) = 84 := by decide
      rw [ru] at hz
      cases hr : rlO A (A.2 12 m) v3 with
      | none =>
        rw [hr, if_pos ⟨by decide, by intro q; cases q⟩, if_pos rfl] at hz
        rw [hz, bd_s, m_hasPart hkd hM1 refl hm hin v3, bd_s, if_neg (by decide), hr, b2_f (fun q => q rfl), if_pos rfl]
        exact ⟨_, _, _, rfl, rfl, h1⟩
      | some rl =>
        obtain ⟨kd, p, e4, p6, hp, -⟩ := pt_of hkd hA hm hr
        subst e4
        have hru : fm_ruleOf A (Int32.ofNat (rNm m)) (Int32.ofNat p) = some rl := by
          rw [m_ruleOf refl (rOf_nm (hA.2.1.1 j m hm).2.1.1) hp.2.1 hp.2.2.1 p6, hp.2.2.2.2.1]
        rw [hr] at hz
        rw [m_hasPart hkd hM1 refl hm hin (Int32.ofNat p), hr, b2_t (show some rl ≠ none by intro q; cases q)]
        by_cases c84 : rl = 84
        · subst c84
          rw [if_neg (fun q => q.2 rfl)] at hz
          obtain ⟨B, y1, y2⟩ := m_isThereNow refl hM1.1.2.2.1 (jOkL_cl hA hM1.1.2.1) hM1.1.2.2.2 (Int32.ofNat (rNm m))
          have e8 : mEx sc A B := mEx_mono y2 (fun k hk => by unfold wJ at hk; unfold sc; omega)
          by_cases ct : thN A (L n) (Int32.ofNat (rNm m)) = true
          · rw [if_pos ⟨ct, fun q => absurd q (by decide)⟩] at hz
            rw [b2_t ct] at y1
            rw [hz, bd_s, if_pos rfl, bd_s, if_neg n10, hru, bd_s, if_pos rfl, y1, bd_s, lt_d, lt_d]
            dsimp only
            rw [if_neg n10, ck_n hn (by omega), k_nd hh hn]
            exact commit_main hIb hk hn h6 hp hin e8
          · rw [if_neg (fun q => ct q.1)] at hz
            rw [b2_f ct] at y1
            rw [hz, bd_s, if_neg (by decide), bd_s, if_neg n10, hru, bd_s, if_pos rfl, y1, bd_s, lt_d, lt_d]
            dsimp only
            rw [if_pos rfl]
            exact ⟨_, _, _, rfl, rfl, Inv_m (Inv_b hIb) hk e8⟩
        · rw [if_pos ⟨by decide, fun q => c84 (Option.some.inj q)⟩, if_neg (by intro q; cases q)] at hz
          rw [hz, bd_s, if_neg (by decide), bd_s, if_neg n10, hru, bd_s, if_neg c84]
          exact ⟨_, _, _, rfl, rfl, h1⟩
    · have hz : fk_11_refusalOf S2 x0 (Int32.ofNat n) 9 v2 v3 0 = some (-1) := k_refN hh hc hn (s := 9) (by decide) (by decide) (by decide) (by decide) v3 0 q2
      rw [hz, bd_s, if_neg (by decide), m_hasPartN hM1 refl q2, bd_s, if_pos rfl]
      exact ⟨_, _, _, rfl, rfl, h1⟩
  · have hz : fk_11_refusalOf S2 x0 v1 9 v2 v3 0 = some (-1) := by
      unfold fk_11_refusalOf fk_11_refusalOf_17
      rw [k_isNode, bd_s, b2_f hv, if_pos rfl]
    rw [hz, bd_s, if_neg (by decide), m_hasPartO hv, bd_s, if_pos rfl]
    exact ⟨_, _, _, rfl, rfl, h1⟩
end V
