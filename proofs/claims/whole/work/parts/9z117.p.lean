-- part 117: act
/-- all that is kept, with its names -/
def Ib (x0 k : Nat) (S : cSt) (M : mSt) (ra : Nat → Nat) (sl : Nat → Int32) (mkO : Nat → Option Nat) (L Wt : Nat → List Nat) (ro fa : Nat → Nat) : Prop := core x0 (1000 * k) S M ra sl mkO L Wt ∧ hsI x0 S M ∧ kdI x0 S M ∧ thI x0 S ∧ txI x0 S ro ∧ roI x0 S M ra ro ∧ lnI x0 (1000 * k) S M ra mkO ro fa ∧ nuI M mkO (1000 * k)
section V
variable {S S' : cSt} {M M' A : mSt} {ra : Nat → Nat} {sl : Nat → Int32} {mkO : Nat → Option Nat} {L Wt : Nat → List Nat} {ro fa : Nat → Nat} {x0 n j k Bt : Nat} {l : List Nat}
theorem Ib_sc {k' : Nat} (h : Ib x0 k S M ra sl mkO L Wt ro fa) (hkk : k ≤ k') (hk : k' < 900) (eM : mEx (fun j => j = 0 ∨ 47 ≤ j) M M') (eS : cEq (scr x0) S S') (hR : kR S' (x0 + 13) = kR S (x0 + 13)) (hR2 : ∀ j, j ≠ 7 → kR S' (x0 + 126) j = kR S (x0 + 126) j) : Ib x0 k' S' M' ra sl mkO L Wt ro fa := by
  obtain ⟨hc, hh, hk1, ht, hx, hr, hl, hn⟩ := h
  have e := mCo_of eM
  have r := mCo_r e
  have lo : ∀ a, a < x0 + 13 → ¬ scr x0 a := fun a ha q => by have := scr_no q; omega
  refine ⟨core_sc hc e eS (by omega) (by omega), ?_, ?_, ?_, ?_, ?_, lnI_sc hl e eS (by omega), ?_⟩
  · obtain ⟨h1, ⟨h2, h3⟩, ⟨h4, h5, h6⟩, h7, b0, b1, ⟨t0, t1, t2, t3⟩, s0, s1⟩ := hh
    have c0 := eS.2.2.2.2 x0 (lo _ (by omega))
    have c10 := eS.2.2.2.2 (x0 + 10) (lo _ (by omega))
    have p0 := eS.2.2.2.2 (kT S 0) (lo _ (by omega))
    have p1 := eS.2.2.2.2 (kT S 1) (lo _ (by omega))
    have q0 := eS.2.2.2.2 b0 (lo _ (by omega))
    have q1 := eS.2.2.2.2 b1 (lo _ (by omega))
    refine ⟨by rw [eS.1, c0.2.1]; exact h1, ⟨by rw [c0.1, (e 45 (by decide) (by decide)).1]; exact h2, by rw [(e 45 (by decide) (by decide)).1]; exact h3⟩, ⟨by rw [eS.1]; exact h4, by rw [eS.2.1]; exact h5, by rw [c10.2.2.2]; exact h6⟩, by rw [eS.1, eS.1, eS.2.1, eS.1, eS.2.1]; exact h7, b0, b1, by rw [eS.2.2.2.1, eS.2.2.2.1]; exact ⟨t0, t1, t2, t3⟩, ?_, ?_⟩
    · unfold pStr; rw [eS.2.2.2.1, eS.1, eS.1, eS.2.1, p0.2.1, p0.1, q0.2.2.1]; exact s0
    · unfold pStr; rw [eS.2.2.2.1, eS.1, eS.1, eS.2.1, p1.2.1, p1.1, q1.2.2.1]; exact s1
  · obtain ⟨h1, h2, h3, h4, h5, tp, kn, h6, h7, h8, h9, h10, h11⟩ := hk1
    have c1 := eS.2.2.2.2 (x0 + 1) (lo _ (by omega))
    have c2 := eS.2.2.2.2 (x0 + 2) (lo _ (by omega))
    have c3 := eS.2.2.2.2 (x0 + 3) (lo _ (by omega))
    have c4 := eS.2.2.2.2 (x0 + 4) (lo _ (by omega))
    refine ⟨by rw [eS.1, c1.2.1, eS.1, eS.2.1, eS.1, eS.2.1, eS.1, eS.2.1]; exact h1, by rw [c1.1, (e 1 (by decide) (by decide)).1, (e 4 (by decide) (by decide)).1, (e 3 (by decide) (by decide)).1]; exact h2, by rw [c2.2.2.1, (e 2 (by decide) (by decide)).2]; exact h3, by rw [c3.2.2.1, r 6 (by decide) (by decide)]; exact h4, by rw [c4.2.2.1, r 5 (by decide) (by decide)]; exact h5, tp, kn, h6, h7, by rw [(e 1 (by decide) (by decide)).1]; exact h8, by rw [(e 4 (by decide) (by decide)).1]; exact h9, by rw [r 5 (by decide) (by decide), r 6 (by decide) (by decide)]; exact h10, by rw [mde_r r, r 9 (by decide) (by decide), r 12 (by decide) (by decide)]; exact h11⟩
  · obtain ⟨⟨h1, h2, h3⟩, h4, h5⟩ := ht
    refine ⟨⟨by rw [eS.1]; exact h1, by rw [hR2 1 (by decide)]; exact h2, by rw [hR2 2 (by decide)]; exact h3⟩, by rw [eS.1, eS.2.1]; exact h4, ?_⟩
    unfold vwA
    rw [hR2 0 (by decide), hR2 3 (by decide), hR2 4 (by decide), hR2 5 (by decide), hR2 6 (by decide)]
    simp only [eS.1, eS.2.1]
    exact h5
  · obtain ⟨h1, tb, h2, h3, h4, h5, h6⟩ := hx
    refine ⟨?_, tb, by rw [hR]; exact h2, by rw [eS.1]; exact h3, by rw [eS.2.1]; exact h4, by rw [eS.2.2.1]; exact h5, h6⟩
    unfold txA
    simp only [hR, eS.1, eS.2.1]
    exact h1
  · unfold roI; rw [mde_r r]; exact hr
  · intro n hn'
    obtain ⟨h1, h2⟩ := hn n hn'
    rw [(e 21 (by decide) (by decide)).2, (e 22 (by decide) (by decide)).2, (e 31 (by decide) (by decide)).2, mdN_r r]
    exact ⟨h1, fun m hm => cuI_r r (by omega) (h2 m hm)⟩
theorem Ib_l (h : Ib x0 k S M ra sl mkO L Wt ro fa) (hk : k < 900) (e : mEx sc M M') (eS : lkE x0 S S') : Ib x0 k S' M' ra sl mkO L Wt ro fa := Ib_sc h (Nat.le_refl _) hk (mEx_mono e (fun k hk => Or.inr hk)) eS.1 eS.2.1 (fun j _ => by rw [eS.2.2])
theorem Inv_b (h : Ib x0 k S M ra sl mkO L Wt ro fa) : Inv x0 k S M := ⟨ra, sl, mkO, L, Wt, ro, fa, h⟩
theorem k_room (h : core x0 Bt S M ra sl mkO L Wt) (hn : n < 4) {s c : Nat} (hs : s < 19) (hc : c ≤ 12) (hcm : M.2 8 n = Int32.ofNat c) : fk_7_hasRoomFor S (sN x0 n) (Int32.ofNat s) 1 = some (b2 (mdN M n < 250 ∧ (s = 0 → c < 12))) := by
  obtain ⟨⟨hA, hsl, -, -⟩, ⟨hB, hB8⟩, hN, -⟩ := h
  obtain ⟨⟨hM1, ⟨⟨hy, hv', -⟩, -⟩⟩, -⟩ := hN n hn
  have hmd := hA.2.2.1 n hn
  obtain ⟨q8, q9⟩ := hB8 n hn
  have b20 := hB.2.1.2.2.2.2
  unfold fk_7_hasRoomFor fk_0_hasRoom fk_0_hasRoom_31 fk_0_hasRoom_36
  rw [ckk_y hy.1.1, hy.2.1.1, bd_s, ckk_y hy.1.1, hy.1.2.1, ckk_y hB.1.1, ckk_y hB.1.1, hB.1.2.2.2.1, bd_s, ckk_y b20.1, b20.2.1, ck_n hn (by omega), jI_cl (by omega), show kI S (x0 + 5 + 3) n = M.2 7 n from q8, hmd.2, show Int32.ofNat (mdN M n) + 1 = Int32.ofNat (mdN M n + 1) from jI_add _ 1]
  by_cases c1 : mdN M n < 250
  · rw [if_pos (show Int32.ofNat (mdN M n + 1) ≤ 250 from (jI_le (b := 250) (by omega) (by decide)).mpr (by omega))]
    by_cases c0 : s = 0
    · subst c0
      rw [if_pos (show Int32.ofNat 0 = 0 from rfl), ckk_y hB.1.1, hB.1.2.2.2.2.1, bd_s, ckk_y b20.2.2.1, b20.2.2.2, ck_n hn (by omega), show kI S (x0 + 5 + 4) n = M.2 8 n from q9, hcm]
      by_cases c2 : c < 12
      · rw [if_neg (jK 12 12 rfl c2 (by decide)), ckz_1, bd_s, ckz_1, b2_t ⟨c1, fun _ => c2⟩]
      · rw [if_pos (show (12 : Int32) ≤ Int32.ofNat c from (jI_le (a := 12) (by decide) (by omega)).mpr (by omega)), ckz_0, bd_s, ckz_0, b2_f (fun q => c2 (q.2 rfl))]
    · rw [if_neg (jN 0 0 rfl c0 (by omega) (by decide)), ckz_1, bd_s, ckz_1, b2_t ⟨c1, fun q => absurd q c0⟩]
  · rw [if_neg (show ¬ Int32.ofNat (mdN M n + 1) ≤ 250 from fun q => absurd ((jI_le (b := 250) (by omega) (by decide)).mp q) (by omega)), ckz_0, bd_s, ckz_0, b2_f (fun q => c1 q.1)]
/-- the class's tail: a draft, whether it fits, room, made -/
noncomputable def actK (S : cSt) (x0 n : Nat) (s v3 v4 v5 v6 : Int32) : Option (Int32 × cSt) :=
  bd (fk_0_slotOf S (x0 + 5) v3) fun r7 => bd (fk_1_begin S (x0 + 19) s r7 v3 v4) fun S8 => bd (fk_11_fits S8 x0 (sN x0 n) v5 v6) fun q => if q.1 = 0 then some (-5, q.2) else ckk q.2 (sN x0 n) 8 (bd (fk_7_hasRoomFor q.2 (sN x0 n) s 1) fun r13 => if r13 = 0 then some (-4, q.2) else ckk q.2 x0 12 (bd (kR q.2 x0 6) fun a15 => ckk q.2 (sN x0 n) 8 (bd (fk_7_make q.2 (sN x0 n) a15) fun z => bd z.1 fun a18 => ckk z.2 a18 9 (some (kF z.2 a18 11, z.2)))))
theorem act_K (hh : hsI x0 S M) (h : core x0 Bt S M ra sl mkO L Wt) (hn : n < 4) {s : Nat} (hs : s < 19) {v3 v4 v5 v6 : Int32} (hr : fk_11_refusalOf S x0 (Int32.ofNat n) (Int32.ofNat s) v3 v4 v5 = some 0) : fk_11_act S x0 (Int32.ofNat n) (Int32.ofNat s) v3 v4 v5 v6 = actK S x0 n (Int32.ofNat s) v3 v4 v5 v6 := by
  obtain ⟨⟨hA, hsl, -, -⟩, ⟨hB, hB8⟩, hN, -⟩ := h
  have k2 := hh.2.2.2.1.1
  have k12 := hh.1.1
  obtain ⟨S8, b1, b2', b3, -⟩ := k_begin hh hs (rI (slF mkO v3)) v3 v4
  have z0 := b3.2.2.2.2 x0 (by omega)
  unfold fk_11_act actK
  rw [ckk_y hh.1.1, hr, bd_s, if_pos rfl, ckk_y hh.1.1, hh.1.2.2.2.1, bd_s, ckk_y hh.2.2.1.1, hh.2.2.1.2.1, ck_n hn (by omega), lt_d, jI_cl (by omega), hh.2.2.1.2.2 n hn, ckk_y hh.1.1, hh.1.2.2.2.2.2.2.2.1, bd_s, ckk_y hh.1.1, hh.1.2.2.1, bd_s, ckk_y hB.1.1, k_slotOf hB (mk_all hA), bd_s, bd_s, ckk_y k2, b1, bd_s, bd_s, bd_s, ckk_y (by rw [b3.1]; exact k12)]
  rfl
theorem dOk_e {C : mSt} {j : Nat} {s o p v w : Int32} (e : mEx sc A C) (h : dOk A mkO n l j s o p v w) : dOk C mkO n l j s o p v w := by
  unfold dOk dIn mde mdN at h ⊢
  simp only [(e 6 (by unfold sc; omega)).2, (e 7 (by unfold sc; omega)).2, (e 8 (by unfold sc; omega)).2, (e 9 (by unfold sc; omega)).2, (e 10 (by unfold sc; omega)).2, (e 11 (by unfold sc; omega)).2, (e 12 (by unfold sc; omega)).2]
  exact h
theorem jE {s : Nat} (hs : s < 19) (x : Int32) (c : Nat) (hx : x = Int32.ofNat c) (hc : c < 19) : Int32.ofNat s = x ↔ s = c := by
  rw [hx]; exact jI_inj (by omega) (by omega)
theorem act_fit (hI : Ib x0 k S M ra sl mkO L Wt ro fa) (hn : n < 4) {s : Nat} (hs : s < 19) {A : mSt} (e : mEx sc M A) (v3 v4 v5 v6 : Int32) {j m kd : Nat} (hob : ¬ (s = 0 ∨ s = 13 ∨ s = 14) → mkO j = some m ∧ m ∈ L n ∧ kd < 8 ∧ M.2 12 m = Int32.ofNat kd ∧ v3 = Int32.ofNat (rNm m) ∧ (ruS (Int32.ofNat s) ≠ 0 → ∃ p', p' < 6 ∧ v4 = Int32.ofNat p' ∧ M.2 6 (6 * kd + p') = ruS (Int32.ofNat s))) (h11 : s = 11 → v5 = -1 ∨ ∃ j' m', mkO j' = some m' ∧ m' ∈ L n ∧ v5 = Int32.ofNat (rNm m')) (d0 : kF S (x0 + 19) 0 = Int32.ofNat s) (d1 : ¬ (s = 0 ∨ s = 13 ∨ s = 14) → kF S (x0 + 19) 1 = Int32.ofNat j) (d3 : ruS (Int32.ofNat s) ≠ 0 → kF S (x0 + 19) 3 = v4) (d4 : kF S (x0 + 19) 4 = 0) (d5 : kF S (x0 + 19) 5 = 0) : fitR x0 n S M A mkO (L n) (Int32.ofNat s) v3 v4 v5 v6 := by
  obtain ⟨hc, hh, hkd, hth, htx, hro, hl, hnu⟩ := hI
  have this : s = 0 ∨ s = 1 ∨ s = 2 ∨ s = 3 ∨ s = 4 ∨ s = 5 ∨ s = 6 ∨ s = 7 ∨ s = 8 ∨ s = 9 ∨ s = 10 ∨ s = 11 ∨ s = 12 ∨ s = 13 ∨ s = 14 ∨ s = 15 ∨ s = 16 ∨ s = 17 ∨ s = 18 := by omega
  have pt : ruS (Int32.ofNat s) ≠ 0 → ¬ (s = 0 ∨ s = 13 ∨ s = 14) → ∃ p', v4 = Int32.ofNat p' ∧ ptO M mkO j m kd p' (ruS (Int32.ofNat s)) := fun q1 q2 => by
    obtain ⟨a1, a2, a3, a4, a5, a6⟩ := hob q2
    obtain ⟨p', p1, p2, p3⟩ := a6 q1
    exact ⟨p', p2, a1, a4, a3, p1, p3, q1⟩
  rcases this with e' | e' | e' | e' | e' | e' | e' | e' | e' | e' | e' | e' | e' | e' | e' | e' | e' | e' | e' <;> subst e'
  · exact fit_any (Or.inl rfl) hh e _ _ _ _ d0 d5 (fun q => absurd q (by decide))
  · exact fit_any (Or.inr (Or.inl rfl)) hh e _ _ _ _ d0 d5 (fun q => absurd q (by decide))
  · exact fit_any (Or.inr (Or.inr (Or.inl rfl))) hh e _ _ _ _ d0 d5 (fun q => absurd q (by decide))
  · exact fit_any (Or.inr (Or.inr (Or.inr (Or.inl rfl)))) hh e _ _ _ _ d0 d5 (fun q => absurd q (by decide))
  · exact fit_4 hh e _ _ _ _ d0 d5
  · obtain ⟨p', rfl, hp⟩ := pt (by decide) (by decide)
    obtain ⟨-, -, -, -, rfl, -⟩ := hob (by decide)
    exact fit_5 hh hc hn hp e _ _ d0 (d1 (by decide)) (d3 (by decide)) d5
  · obtain ⟨p', rfl, hp⟩ := pt (by decide) (by decide)
    obtain ⟨-, -, -, -, rfl, -⟩ := hob (by decide)
    exact fit_6 hh hc hn hp e _ _ d0 (d1 (by decide)) (d3 (by decide))
  · exact fit_7 hh e _ _ _ _ d0 d5
  · obtain ⟨p', rfl, hp⟩ := pt (by decide) (by decide)
    obtain ⟨-, -, -, -, rfl, -⟩ := hob (by decide)
    exact fit_8 hh hc hn hp e _ _ d0 (d1 (by decide)) (d3 (by decide)) d5
  · obtain ⟨p', rfl, hp⟩ := pt (by decide) (by decide)
    obtain ⟨-, -, -, -, rfl, -⟩ := hob (by decide)
    exact fit_9 hh hc htx.1 hn hp e _ _ d0 (d1 (by decide)) (d3 (by decide))
  · obtain ⟨p', rfl, hp⟩ := pt (by decide) (by decide)
    obtain ⟨-, -, -, -, rfl, -⟩ := hob (by decide)
    exact fit_10 hh hc htx.1 hn hp e _ _ d0 (d1 (by decide)) (d3 (by decide)) d4
  · exact fit_any (Or.inr (Or.inr (Or.inr (Or.inr rfl)))) hh e _ _ _ _ d0 d5 (fun _ => h11 rfl)
  · exact fit_12 hh e _ _ _ _ d0 d4 d5
  · exact fit_13 hh hc hnu hn e _ _ _ _ d0 d4
  · exact fit_14 hh hc hnu hn e _ _ _ _ d0 d4
  · exact fit_15 hh e _ _ _ _ d0
  · obtain ⟨p', rfl, hp⟩ := pt (by decide) (by decide)
    obtain ⟨-, -, -, -, rfl, -⟩ := hob (by decide)
    exact fit_16 hh hc hn hp e _ _ d0 (d1 (by decide)) (d3 (by decide)) d5
  · obtain ⟨q1, -, -, -, rfl, -⟩ := hob (by decide)
    exact fit_17 hh hc hn q1 e _ _ _ d0 (d1 (by decide)) d5
  · obtain ⟨q1, -, -, -, rfl, -⟩ := hob (by decide)
    exact fit_18 hh hc hn q1 e _ _ _ d0 (d1 (by decide)) d4 d5
theorem act_tail (hI : Ib x0 k S M ra sl mkO L Wt ro fa) (hk : k + 1 < 900) (hn : n < 4) {s : Nat} (hs : s < 19) {A : mSt} (e : mEx sc M A) (v3 v4 v5 v6 : Int32) {j m kd : Nat} (hob : ¬ (s = 0 ∨ s = 13 ∨ s = 14) → mkO j = some m ∧ m ∈ L n ∧ kd < 8 ∧ M.2 12 m = Int32.ofNat kd ∧ v3 = Int32.ofNat (rNm m) ∧ (ruS (Int32.ofNat s) ≠ 0 → ∃ p', p' < 6 ∧ v4 = Int32.ofNat p' ∧ M.2 6 (6 * kd + p') = ruS (Int32.ofNat s))) (h0 : s = 0 → ∃ kd, kd < 8 ∧ v5 = Int32.ofNat kd ∧ ∀ kn, kn ≤ 8 → M.1 4 = Int32.ofNat kn → kd < kn) (h11 : s = 11 → v5 = -1 ∨ ∃ j' m', mkO j' = some m' ∧ m' ∈ L n ∧ v5 = Int32.ofNat (rNm m')) : ∃ r S1 M1, actK S x0 n (Int32.ofNat s) v3 v4 v5 v6 = some (r, S1) ∧ fm_act_178 A (Int32.ofNat n) (Int32.ofNat s) v3 v4 v5 v6 (if s = 0 ∨ s = 13 ∨ s = 14 then 0 else 1) (if ruS (Int32.ofNat s) = 0 then 0 else 1) = some (r, M1) ∧ Inv x0 (k + 1) S1 M1 := by
  have hI0 := hI
  obtain ⟨hc, hh, hkd, hth, htx, hro, hl, hnu⟩ := hI
  have hA := hc.1.1
  obtain ⟨c, c1, c2, c3⟩ := hc.1.2.1.2 n hn
  have hmd := hA.2.2.1 n hn
  obtain ⟨S8, b1, b2', b3, b4, d0, d1, d2, d3, d4, d5⟩ := k_begin hh hs (rI (slF mkO v3)) v3 v4
  have I8 := Ib_l (M' := M) hI0 (by omega) (mEx_refl _ _) b2'
  have hj1 : ¬ (s = 0 ∨ s = 13 ∨ s = 14) → kF S8 (x0 + 19) 1 = Int32.ofNat j := fun q => by
    obtain ⟨a1, a2, a3, a4, rfl, a6⟩ := hob q
    rw [d1, if_neg q, slF_mk hA.2.1.2.1 (fun j m h => ⟨(hA.2.1.1 j m h).1, (hA.2.1.1 j m h).2.1.1⟩) a1]; rfl
  obtain ⟨b, S', r, C, f1, f2, f3, f4, f5, f6, f7⟩ := act_fit I8 hn hs e v3 v4 v5 v6 hob h11 d0 hj1 (fun q => by rw [d3, if_neg q]) d4 d5
  have I9 : Ib x0 k S' C ra sl mkO L Wt ro fa := Ib_l I8 (by omega) f6 f2
  have J9 : Inv x0 (k + 1) S' C := Inv_1 (Inv_b I9) hk
  obtain ⟨⟨hB, -⟩, -⟩ := hc.2
  unfold actK fm_act_178
  rw [k_slotOf hB (mk_all hA), bd_s, b1, bd_s, f1, bd_s, f4, bd_s, lt_d, lt_d]
  cases b with
  | false =>
    have hr0 : ¬ r = 0 := fun q => by have := f5.mp q; cases this
    dsimp only
    rw [if_pos bFn, if_neg hr0]
    exact ⟨_, _, _, rfl, rfl, J9⟩
  | true =>
    have hr0 : r = 0 := f5.mpr rfl
    obtain ⟨g4, g5, g6⟩ := f7 rfl
    obtain ⟨hc9, hh9, hkd9, hth9, htx9, hro9, hl9, hnu9⟩ := I9
    have fC : ∀ i, i < 47 → C.1 i = M.1 i ∧ C.2 i = M.2 i := fun i hi => f6 i (by unfold sc; omega)
    have hmC : mdN C n = mdN M n := by unfold mdN; rw [(fC 7 (by decide)).2]
    have y8 : kK S' (sN x0 n) = 8 := by obtain ⟨⟨-, ⟨⟨hy, -, -⟩, -⟩⟩, -⟩ := hc9.2.2.1 n hn; exact hy.1.1
    have hroom := k_room hc9 hn hs c1 (by rw [(fC 8 (by decide)).2]; exact c2)
    rw [hmC] at hroom
    dsimp only
    rw [if_neg bTn, if_pos hr0, ckk_y y8, hroom, bd_s, ck_n hn (by omega), rd_n _ _ (by omega), (fC 7 (by decide)).2, hmd.2]
    unfold fm_act_224
    by_cases cm : mdN M n < 250
    · rw [if_neg (jN 250 250 rfl (by omega) (by omega) (by decide))]
      by_cases cr : s = 0 → c < 12
      · have hM : fm_act_227 C (Int32.ofNat n) (Int32.ofNat s) v3 v4 (if s = 0 ∨ s = 13 ∨ s = 14 then 0 else 1) (if ruS (Int32.ofNat s) = 0 then 0 else 1) = bd (fm_make C (Int32.ofNat n) (Int32.ofNat s) (if s = 0 ∨ s = 13 ∨ s = 14 then 0 else v3) (if ruS (Int32.ofNat s) = 0 then 0 else v4) (C.1 69) (C.1 70)) fun q => some q := by
          unfold fm_act_227 fm_act_240 fm_act_251
          by_cases q1 : s = 0 ∨ s = 13 ∨ s = 14
          · rw [if_pos q1, if_pos q1, if_pos rfl]
            by_cases q2 : ruS (Int32.ofNat s) = 0
            · rw [if_pos q2, if_pos q2, if_pos rfl]; rfl
            · rw [if_neg q2, if_neg q2, if_neg n10]; rfl
          · rw [if_neg q1, if_neg q1, if_neg n10]
            by_cases q2 : ruS (Int32.ofNat s) = 0
            · rw [if_pos q2, if_pos q2, if_pos rfl]; rfl
            · rw [if_neg q2, if_neg q2, if_neg n10]; rfl
        have hT : ∀ X : Option (Int32 × mSt), (if Int32.ofNat s = 0 then ck (Int32.ofNat n) 4 (if (rd C 8 (Int32.ofNat n)) = (12 : Int32) then X else fm_act_227 C (Int32.ofNat n) (Int32.ofNat s) v3 v4 (if s = 0 ∨ s = 13 ∨ s = 14 then 0 else 1) (if ruS (Int32.ofNat s) = 0 then 0 else 1)) else fm_act_227 C (Int32.ofNat n) (Int32.ofNat s) v3 v4 (if s = 0 ∨ s = 13 ∨ s = 14 then 0 else 1) (if ruS (Int32.ofNat s) = 0 then 0 else 1)) = fm_act_227 C (Int32.ofNat n) (Int32.ofNat s) v3 v4 (if s = 0 ∨ s = 13 ∨ s = 14 then 0 else 1) (if ruS (Int32.ofNat s) = 0 then 0 else 1) := fun X => by
          by_cases q : Int32.ofNat s = 0
          · have q' := (jE hs 0 0 rfl (by decide)).mp q
            rw [if_pos q, ck_n hn (by omega), rd_n _ _ (by omega), (fC 8 (by decide)).2, c2, if_neg (jN 12 12 rfl (by have := cr q'; omega) (by omega) (by decide))]
          · rw [if_neg q]
        rw [hT, hM, b2_t ⟨cm, cr⟩, if_neg n10, ckk_y hh9.1.1, hh9.1.2.2.2.2.2.2.2.1, bd_s, ckk_y y8]
        have e0 := jE hs 0 0 rfl (by decide)
        have e13 := jE hs 13 13 rfl (by decide)
        have e14 := jE hs 14 14 rfl (by decide)
        have h69 : s = 0 → C.1 69 = v5 := fun q => by
          subst q
          have : fm_refusal A (Int32.ofNat n) (Int32.ofNat 0) v3 v4 v5 v6 = some (0, pu (pu (pu A 69 0) 70 0) 69 v5) := by
            unfold fm_refusal fm_refusal_100
            simp only [lt_d]
            rfl
          rw [this] at f4
          have := (Prod.mk.inj (Option.some.inj f4)).2
          rw [← this, pu_s]
        obtain ⟨j', hj'⟩ : ∃ j', j' = if s = 0 then 12 * n + c else if s = 13 ∨ s = 14 then 0 else j := ⟨_, rfl⟩
        have hd : dOk M mkO n (L n) j' (Int32.ofNat s) (if s = 0 ∨ s = 13 ∨ s = 14 then 0 else v3) (if ruS (Int32.ofNat s) = 0 then 0 else v4) (C.1 69) (C.1 70) := by
          obtain ⟨w1, w2, w3, w4, w5, w6⟩ := g6
          have fix : (s = 9 ∨ s = 10) → ∀ w t, dIn M (L n) v3 v4 w t → dIn M (L n) (if s = 0 ∨ s = 13 ∨ s = 14 then 0 else v3) (if ruS (Int32.ofNat s) = 0 then 0 else v4) w t := fun q w t ht => by
            rw [if_neg (by omega), if_neg]
            · exact ht
            · rcases q with q | q <;> subst q <;> decide
          refine ⟨⟨s, hs, rfl⟩, fun q => ?_, w1, fun q => ?_, w2, w3, fun q => ?_, fun q => ?_, w6⟩
          · have q' := e0.mp q
            obtain ⟨kd, x1, x2, x3⟩ := h0 q'
            exact ⟨⟨c, cr q', c2, by rw [hj', if_pos q']⟩, kd, x1, by rw [h69 q', x2]⟩
          · have q' : ¬ (s = 0 ∨ s = 13 ∨ s = 14) := fun q2 => q (by rcases q2 with q2 | q2 | q2; exact Or.inl (e0.mpr q2); exact Or.inr (Or.inl (e13.mpr q2)); exact Or.inr (Or.inr (e14.mpr q2)))
            obtain ⟨a1, a2, a3, a4, a5, a6⟩ := hob q'
            refine ⟨m, kd, a3, ?_, a2, a4, ?_, fun q2 => if_pos q2, fun q2 => ?_⟩
            · rw [hj', if_neg (by omega), if_neg (by omega)]; exact a1
            · rw [if_neg q', a5]
            · rw [if_neg q2]; exact a6 q2
          · have q' := (jE hs 9 9 rfl (by decide)).mp q
            exact (w4 q).imp id (fun ⟨t, ht⟩ => ⟨t, fix (Or.inl q') _ _ ht⟩)
          · have q' := (jE hs 10 10 rfl (by decide)).mp q
            obtain ⟨t, ht⟩ := w5 q
            exact ⟨t, fix (Or.inr q') _ _ ht⟩
        obtain ⟨S2, M2, m1, m2, m3, m4, m5⟩ := Inv_make (k' := k + 1) (n := n) hc9 hh9 hkd9 hth9 htx9 hro9 hl9 hnu9 (by omega) hk hn (by rw [hmC]; exact cm) (dOk_e f6 hd) (fun q kd' x1 x2 kn x3 x4 => by
            have q' := e0.mp q
            obtain ⟨kd2, y1, y2, y3⟩ := h0 q'
            rw [h69 q', y2] at x2
            have := (jI_inj (by omega) (by omega)).mp x2
            subst this
            exact y3 kn x3 (by rw [← x4, (fC 4 (by decide)).1])) ⟨by rw [f3 0 (by decide), d0], fun q => by
            rw [f3 1 (by decide), hj']
            have q' : ¬ s = 0 := fun q2 => q (e0.mpr q2)
            rw [if_neg q']
            by_cases q3 : s = 13 ∨ s = 14
            · rw [if_pos q3, d1, if_pos (Or.inr q3)]; rfl
            · rw [if_neg q3]; exact hj1 (by omega), by rw [f3 2 (by decide), d2], by rw [f3 3 (by decide), d3], g4, g5⟩ (fun i mi hi => by
            unfold mkN2
            by_cases q : Int32.ofNat s = 0
            · have q' := e0.mp q
              rw [if_pos q, hj', if_pos q']
              have : i ≠ 12 * n + c := fun e => by
                have := (c3 c (cr q')).mpr (Nat.le_refl _)
                rw [← e, hi] at this; cases this
              unfold upo
              rw [if_neg this]; exact hi
            · rw [if_neg q]; exact hi)
        rw [m1, m2, bd_s, bd_s, bd_s]
        refine ⟨_, _, _, ?_, rfl, m3⟩
        show ckk S2 (kZ S' + 1) 9 (some (kF S2 (kZ S' + 1) 11, S2)) = _
        rw [ckk_y m5, m4]
      · have q' : s = 0 := by
          by_cases q : s = 0
          · exact q
          · exact absurd (fun h => absurd h q) cr
        have cc : c = 12 := by
          by_cases q : c < 12
          · exact absurd (fun _ => q) cr
          · omega
        subst q'
        rw [if_pos (show Int32.ofNat 0 = 0 from rfl), ck_n hn (by omega), rd_n _ _ (by omega), (fC 8 (by decide)).2, c2, cc, if_pos (show Int32.ofNat 12 = 12 from rfl), b2_f (fun q => by have := q.2 rfl; omega), if_pos rfl]
        exact ⟨_, _, _, rfl, rfl, J9⟩
    · rw [if_pos (show Int32.ofNat (mdN M n) = 250 by rw [show mdN M n = 250 by omega]; rfl), b2_f (fun q => cm q.1), if_pos rfl]
      exact ⟨_, _, _, rfl, rfl, J9⟩
theorem c_act (hk : k + 1 < 900) : lC_act x0 (Inv x0 k) (Inv x0 (k + 1)) := by
  intro S M v1 v2 v3 v4 v5 v6 h
  have h0 := Inv_0 h (by omega)
  unfold fm_act fm_act_43
  rw [lt_d]
  generalize pu M 0 0 = A at h0 ⊢
  have h1 := Inv_1 h0 hk
  obtain ⟨ra, sl, mkO, L, Wt, ro, fa, hIb⟩ := h0
  have hIb : Ib x0 k S A ra sl mkO L Wt ro fa := hIb
  have hIb0 := hIb
  obtain ⟨hc, hh, hkd, hth, htx, hro, hl, hnu⟩ := hIb0
  have refl := mEx_refl sc A
  have bad : ∀ r : Int32, r ≠ 0 → fk_11_refusalOf S x0 v1 v2 v3 v4 v5 = some r → fk_11_act S x0 v1 v2 v3 v4 v5 v6 = some (r, S) := fun r hr q => by
    unfold fk_11_act
    rw [ckk_y hh.1.1, q, bd_s, if_neg hr]
  rw [m_wb]
  by_cases hv : 0 ≤ v1 ∧ v1 ≤ 3
  · obtain ⟨n, hn, rfl⟩ := wi3.mp hv
    rw [b2_t hv, if_neg n10, m_wb]
    by_cases hv2 : 0 ≤ v2 ∧ v2 ≤ 18
    · obtain ⟨s, -, hs', rfl⟩ := rng 0 18 (by decide) hv2 (by decide)
      have hs : s < 19 := by omega
      rw [b2_t hv2, if_neg n10]
      have hN := hc.2.2.1 n hn
      obtain ⟨⟨hM1, -⟩, -⟩ := hN
      have hA := hc.1.1
      have free : (s = 0 ∨ s = 13 ∨ s = 14) → fm_act_45 A (Int32.ofNat n) (Int32.ofNat s) v3 v4 v5 v6 = fm_act_178 A (Int32.ofNat n) (Int32.ofNat s) v3 v4 v5 v6 (if s = 0 ∨ s = 13 ∨ s = 14 then 0 else 1) (if ruS (Int32.ofNat s) = 0 then 0 else 1) := fun q => by
        have hru : ruS (Int32.ofNat s) = 0 := by rcases q with q | q | q <;> subst q <;> decide
        rw [if_pos q, if_pos hru]
        unfold fm_act_45 fm_act_56 fm_act_67
        rw [m_isOnPart hs, bd_s, hru, if_pos rfl, if_pos rfl]
        unfold fm_act_89 fm_act_117 fm_act_139 fm_act_153
        rcases q with q | q | q <;> subst q <;> rfl
      by_cases q0 : s = 0
      · subst q0
        have hz : fk_11_refusalOf S x0 (Int32.ofNat n) (Int32.ofNat 0) v3 v4 v5 = some (if 0 ≤ v5 ∧ v5 ≤ A.1 4 - 1 then 0 else -1) := by
          unfold fk_11_refusalOf fk_11_refusalOf_40
          rw [k_isNode, bd_s, b2_t hv, if_neg n10, if_neg (show ¬ Int32.ofNat 0 < 0 by decide), if_pos (show Int32.ofNat 0 ≤ 18 by decide), if_pos (show Int32.ofNat 0 = 0 from rfl), ckk_y hh.1.1, hh.1.2.1, bd_s, ckk_y hkd.1.1, k_kHas hkd, bd_s]
          by_cases c : 0 ≤ v5 ∧ v5 ≤ A.1 4 - 1
          · rw [b2_t c, if_neg n10, if_pos c]
          · rw [b2_f c, if_pos rfl, if_neg c]
        rw [if_pos (show Int32.ofNat 0 = 0 from rfl), m_wb]
        by_cases c : 0 ≤ v5 ∧ v5 ≤ A.1 4 - 1
        · rw [if_pos c] at hz
          rw [b2_t c, if_neg n10, free (Or.inl rfl), act_K hh hc hn hs hz]
          refine act_tail (j := 0) (m := 0) (kd := 0) hIb hk hn hs refl v3 v4 v5 v6 (fun q => absurd (Or.inl rfl) q) (fun _ => ?_) (fun q => absurd q (by decide))
          obtain ⟨-, -, -, -, -, tp, kn, -, kn8, -, kn4, -⟩ := hkd
          rw [kn4] at c
          obtain ⟨i, i1, i2⟩ := (wiE (by omega)).mp c
          exact ⟨i, by omega, i2, fun kn' a b => by rw [kn4] at b; have := (jI_inj (by omega) (by omega)).mp b; omega⟩
        · rw [if_neg c] at hz
          rw [b2_f c, if_pos rfl, bad _ (by decide) hz]
          exact ⟨_, _, _, rfl, rfl, h1⟩
      · rw [if_neg (jN 0 0 rfl q0 (by omega) (by decide))]
        by_cases qf : s = 13 ∨ s = 14
        · have hz : fk_11_refusalOf S x0 (Int32.ofNat n) (Int32.ofNat s) v3 v4 v5 = some 0 := by
            unfold fk_11_refusalOf fk_11_refusalOf_53
            rw [k_isNode, bd_s, b2_t hv, if_neg n10, if_neg (jI_nn (by omega)), if_pos hv2.2, if_neg (jN 0 0 rfl q0 (by omega) (by decide))]
            rcases qf with q | q <;> subst q <;> rfl
          rw [free (Or.inr qf), act_K hh hc hn hs hz]
          exact act_tail (j := 0) (m := 0) (kd := 0) hIb hk hn hs refl v3 v4 v5 v6 (fun q => absurd (Or.inr qf) q) (fun q => absurd q q0) (fun q => by omega)
        · have q13 : s ≠ 13 := fun q => qf (Or.inl q)
          have q14 : s ≠ 14 := fun q => qf (Or.inr q)
          rcases k_madeSlot hh hc hn v3 with ⟨j, m, hm, hin, rfl, -, -⟩ | ⟨-, q2⟩
          · have hz := k_refY hh hkd hc hn hs q0 q13 q14 hm hin v4 v5
            obtain ⟨C, x1, x2⟩ := m_actTo hkd hM1 hs q0 q13 q14 hm hin v4 v5 v6
            rw [x2]
            by_cases c1 : ruS (Int32.ofNat s) ≠ 0 ∧ rlO A (A.2 12 m) v4 ≠ some (ruS (Int32.ofNat s))
            · rw [if_pos c1] at hz ⊢
              refine ⟨_, _, _, bad _ ?_ hz, rfl, Inv_m (Inv_b hIb) hk x1⟩
              split <;> decide
            · rw [if_neg c1] at hz ⊢
              by_cases c2 : thN A (L n) (Int32.ofNat (rNm m)) = true ∧ (s = 11 → v5 = -1 ∨ thN A (L n) v5 = true)
              · rw [if_pos c2] at hz ⊢
                rw [act_K hh hc hn hs hz]
                obtain ⟨kd, kd1, kd2⟩ := mk_kind hA hm
                have hf : fm_act_178 C (Int32.ofNat n) (Int32.ofNat s) (Int32.ofNat (rNm m)) v4 v5 v6 1 (if ruS (Int32.ofNat s) = 0 then 0 else 1) = fm_act_178 C (Int32.ofNat n) (Int32.ofNat s) (Int32.ofNat (rNm m)) v4 v5 v6 (if s = 0 ∨ s = 13 ∨ s = 14 then 0 else 1) (if ruS (Int32.ofNat s) = 0 then 0 else 1) := by
                  rw [if_neg (show ¬ (s = 0 ∨ s = 13 ∨ s = 14) by omega)]
                rw [hf]
                refine act_tail hIb hk hn hs x1 _ v4 v5 v6 (fun _ => ⟨hm, hin, kd1, kd2, rfl, fun q => ?_⟩) (fun q => absurd q q0) (fun q => ?_)
                · have hr : rlO A (A.2 12 m) v4 = some (ruS (Int32.ofNat s)) := by
                    by_cases q3 : rlO A (A.2 12 m) v4 = some (ruS (Int32.ofNat s))
                    · exact q3
                    · exact absurd ⟨q, q3⟩ c1
                  obtain ⟨kd', p, e4, p6, hp, -⟩ := pt_of hkd hA hm hr
                  have ek : kd = kd' := by
                    have := kd2.symm.trans hp.2.1
                    exact (jI_inj (by omega) (by have := hp.2.2.1; omega)).mp this
                  subst ek
                  exact ⟨p, p6, e4, hp.2.2.2.2.1⟩
                · rcases c2.2 q with q5 | q5
                  · exact Or.inl q5
                  · right
                    unfold thN at q5
                    rw [Bool.and_eq_true] at q5
                    rcases k_madeSlot hh hc hn v5 with ⟨j', m', hm', hin', e', -, -⟩ | ⟨-, q6⟩
                    · exact ⟨j', m', hm', hin', e'⟩
                    · rw [q6] at q5; cases q5.1
              · rw [if_neg c2] at hz ⊢
                exact ⟨_, _, _, bad _ (by decide) hz, rfl, Inv_m (Inv_b hIb) hk x1⟩
          · have hz := k_refN hh hc hn hs q0 q13 q14 v4 v5 q2
            rw [bad _ (by decide) hz]
            have e67 : fm_act_45 A (Int32.ofNat n) (Int32.ofNat s) v3 v4 v5 v6 = fm_act_67 A (Int32.ofNat n) (Int32.ofNat s) v3 v4 v5 v6 1 := by
              unfold fm_act_45 fm_act_56 fm_act_62
              rw [if_neg (show ¬ Int32.ofNat s < 1 from fun q => absurd ((jI_lt (b := 1) (by omega) (by decide)).mp q) (by omega))]
              by_cases c : s ≤ 12
              · rw [if_pos (show Int32.ofNat s ≤ 12 from (jI_le (b := 12) (by omega) (by decide)).mpr c)]
              · rw [if_neg (show ¬ Int32.ofNat s ≤ 12 from fun q => c ((jI_le (b := 12) (by omega) (by decide)).mp q)), if_neg (show ¬ Int32.ofNat s ≤ 14 from fun q => absurd ((jI_le (b := 14) (by omega) (by decide)).mp q) (by omega))]
            rw [e67]
            unfold fm_act_67 fm_act_115
            rw [m_isOnPart hs, bd_s, if_neg n10, m_isMadeNow refl hM1.2.1, bd_s, q2, if_pos bFn]
            exact ⟨_, _, _, rfl, rfl, h1⟩
    · have hz : fk_11_refusalOf S x0 (Int32.ofNat n) v2 v3 v4 v5 = some (-1) := by
        unfold fk_11_refusalOf fk_11_refusalOf_17
        rw [k_isNode, bd_s, b2_t hv, if_neg n10]
        by_cases c1 : v2 < 0
        · rw [if_pos c1]
        · rw [if_neg c1, if_neg (fun q => hv2 ⟨Int32.not_lt.mp c1, q⟩)]
      rw [bad _ (by decide) hz, b2_f hv2, if_pos rfl]
      exact ⟨_, _, _, rfl, rfl, h1⟩
  · have hz : fk_11_refusalOf S x0 v1 v2 v3 v4 v5 = some (-1) := by
      unfold fk_11_refusalOf fk_11_refusalOf_17
      rw [k_isNode, bd_s, b2_f hv, if_pos rfl]
    rw [bad _ (by decide) hz, b2_f hv, if_pos rfl]
    exact ⟨_, _, _, rfl, rfl, h1⟩
end V
