-- part 150: commit
theorem gD {T : List Nat} {i : Nat} (h : i < T.length) : T.getD i 0 = T[i] := by rw [List.getD_eq_getElem?_getD, List.getElem?_eq_getElem h]; rfl
section V
variable {S S' : cSt} {A B M : mSt} {ra : Nat → Nat} {sl : Nat → Int32} {mkO : Nat → Option Nat} {L Wt : Nat → List Nat} {ro fa : Nat → Nat} {x0 n k Bt tp : Nat}
theorem k_roomW (h : core x0 Bt S M ra sl mkO L Wt) (hn : n < 4) {w : Nat} (hw : w ≤ 2000) : fk_7_hasRoomFor S (sN x0 n) 9 (Int32.ofNat w) = some (b2 (mdN M n + w ≤ 250)) := by
  obtain ⟨⟨hA, hsl, -, -⟩, ⟨hB, hB8⟩, hN, -⟩ := h
  obtain ⟨⟨hM1, ⟨⟨hy, hv', -⟩, -⟩⟩, -⟩ := hN n hn
  have hmd := hA.2.2.1 n hn
  obtain ⟨q8, q9⟩ := hB8 n hn
  have b20 := hB.2.1.2.2.2.2
  unfold fk_7_hasRoomFor fk_0_hasRoom fk_0_hasRoom_31 fk_0_hasRoom_36
  rw [ckk_y hy.1.1, hy.2.1.1, bd_s, ckk_y hy.1.1, hy.1.2.1, ckk_y hB.1.1, ckk_y hB.1.1, hB.1.2.2.2.1, bd_s, ckk_y b20.1, b20.2.1, ck_n hn (by omega), jI_cl (by omega), show kI S (x0 + 5 + 3) n = M.2 7 n from q8, hmd.2, jI_add]
  by_cases c1 : mdN M n + w ≤ 250
  · rw [if_pos (show Int32.ofNat (mdN M n + w) ≤ 250 from (jI_le (b := 250) (by omega) (by decide)).mpr c1), if_neg (by decide), ckz_1, bd_s, ckz_1, b2_t c1]
  · rw [if_neg (show ¬ Int32.ofNat (mdN M n + w) ≤ 250 from fun q => c1 ((jI_le (b := 250) (by omega) (by decide)).mp q)), ckz_0, bd_s, ckz_0, b2_f c1]
/-- what the reference does behind its copy of the text -/
noncomputable def cmT (D : mSt) (v1 v2 v3 v4 v5 : Int32) : Option (Int32 × mSt) :=
  bd (fm_findCommon D v5 v4) fun S2 => bd (fm_walk S2 v1 v2 v3 v5 v4 (0 : Int32)) fun q_r4 => lt q_r4.1 fun r4 => lt q_r4.2 fun S3 => ck v1 4 (if ((rd S3 7 v1) + r4) ≤ (250 : Int32) then (bd (fm_walk S3 v1 v2 v3 v5 v4 (1 : Int32)) fun q_r7 => lt q_r7.1 fun r7 => lt q_r7.2 fun S6 => some (r7, S6)) else some ((-4 : Int32), S3))
theorem m_c76 {a : Nat} (ha : a ≤ 1000) (v1 v2 v3 v4 : Int32) : ∀ (j i fu : Nat) (C : mSt), i + j = a → j < fu → mEx (fun k => k = 72 ∨ k = 73) B C → (∀ q, q < i → C.2 72 q = B.2 51 q ∧ C.2 73 q = B.2 50 q) → ∃ D, fm_commit_76 fu C v1 v2 v3 v4 (Int32.ofNat a) (Int32.ofNat i) = cmT D v1 v2 v3 v4 (Int32.ofNat a) ∧ mEx (fun k => k = 72 ∨ k = 73) B D ∧ ∀ q, q < a → D.2 72 q = B.2 51 q ∧ D.2 73 q = B.2 50 q := by
  intro j
  induction j with
  | zero =>
    intro i fu C hi hf e h
    obtain ⟨fu, rfl⟩ : ∃ q, fu = q + 1 := ⟨fu - 1, by omega⟩
    have e1 : i = a := by omega
    subst e1
    rw [fm_commit_76, if_pos (Int32.le_refl _)]
    exact ⟨C, rfl, e, h⟩
  | succ j ih =>
    intro i fu C hi hf e h
    obtain ⟨fu, rfl⟩ : ∃ q, fu = q + 1 := ⟨fu - 1, by omega⟩
    have ya : rd C 51 (Int32.ofNat i) = B.2 51 i := by rw [rd_n _ _ (by omega), (e 51 (by decide)).2]
    have yb : ∀ x, rd (wr C 72 (Int32.ofNat i) x) 50 (Int32.ofNat i) = B.2 50 i := fun x => by rw [rd_n _ _ (by omega), wr_o _ _ _ (by decide), (e 50 (by decide)).2]
    rw [fm_commit_76, if_neg (fun z => absurd ((jI_le (by omega) (by omega)).mp z) (by omega)), ck_n (by omega) (by omega), ck_n (by omega) (by omega), lt_d, ck_n (by omega) (by omega), ck_n (by omega) (by omega), lt_d, lt_d, show Int32.ofNat i + 1 = Int32.ofNat (i + 1) from jI_add _ 1, yb, ya]
    refine ih (i + 1) fu _ (by omega) (by omega) (mEx_trans e (mEx_trans (mEx_wr (W := fun k => k = 72 ∨ k = 73) (Or.inl rfl) _ _) (mEx_wr (W := fun k => k = 72 ∨ k = 73) (Or.inr rfl) _ _))) (fun q hq => ?_)
    have y1 : (wr (wr C 72 (Int32.ofNat i) (B.2 51 i)) 73 (Int32.ofNat i) (B.2 50 i)).2 72 = upd (C.2 72) i (B.2 51 i) := by rw [wr_o _ _ _ (by decide), wr_s _ _ (by omega)]
    have y2 : (wr (wr C 72 (Int32.ofNat i) (B.2 51 i)) 73 (Int32.ofNat i) (B.2 50 i)).2 73 = upd (C.2 73) i (B.2 50 i) := by rw [wr_s _ _ (by omega), wr_o _ _ _ (by decide)]
    rw [y1, y2]
    by_cases c : q = i
    · subst c; rw [upd_s, upd_s]; exact ⟨rfl, rfl⟩
    · rw [upd_o _ _ c, upd_o _ _ c]; exact h q (by omega)
/-- what the class does behind a refusal that is none -/
noncomputable def comK (S : cSt) (x0 n : Nat) (v2 v3 r3 : Int32) : Option (Int32 × cSt) :=
  ckk S x0 12 (bd (kR S x0 6) fun a8 => ckk S x0 12 (bd (kR S x0 1) fun a9 => ckk S a9 1 (bd (fk_0_slotOf S a9 v2) fun r10 => ckk S a8 2 (bd (fk_1_begin S a8 (9 : Int32) r10 v2 v3) fun S11 => ckk S11 x0 12 (bd (kR S11 x0 5) fun a12 => bd (some (sN x0 n)) fun a13 => ckk S11 a13 8 (bd (kR S11 a13 2) fun a14 => ckk S11 x0 12 (bd (kR S11 x0 6) fun a15 => ckk S11 a15 2 (ckk S11 a12 10 (bd (fk_9_read S11 a12 a14 (((kF S11 a15 1) * (8 : Int32)) + v3)) fun S16 => ckk S16 x0 12 (bd (kR S16 x0 5) fun a17 => ckk S16 x0 12 (bd (kR S16 x0 0) fun a18 => ckk S16 a18 4 (bd (kR S16 a18 0) fun a19 => ckk S16 a17 10 (bd (fk_9_compare S16 a17 a19 r3) fun S20 => ckk S20 x0 12 (bd (kR S20 x0 5) fun a21 => ckk S20 a21 10 (ckk S20 x0 12 (bd (kR S20 x0 5) fun a22 => ckk S20 a22 10 (bd (fk_9_common S20 a22 (0 : Int32) (0 : Int32)) fun r23 => lt (((kF S20 a21 1) + r3) - ((2 : Int32) * r23)) fun x24 => ckk S20 a13 8 (bd (fk_7_hasRoomFor S20 a13 (9 : Int32) x24) fun r25 => if r25 = 0 then some ((-4 : Int32), S20) else ckk S20 x0 12 (bd (fk_11_carryOver S20 x0 a13 r3) fun S27 => some (x24, S27))))))))))))))))))))
theorem commit_main {j m kd p : Nat} (hI : Ib x0 k S A ra sl mkO L Wt ro fa) (hk : k + 1 < 900) (hn : n < 4) (htp : tp ≤ 40) (hp : ptO A mkO j m kd p 84) (hin : m ∈ L n) (e8 : mEx sc A B) : ∃ r S1 M1, comK S x0 n (Int32.ofNat (rNm m)) (Int32.ofNat p) (Int32.ofNat tp) = some (r, S1) ∧ (bd (fm_look B (Int32.ofNat n) (rd B 23 (Int32.ofNat n)) (Int32.ofNat (rNm m)) (Int32.ofNat p)) fun S11 => lt (S11.1 49) fun x12 => fm_commit_76 mFU S11 (Int32.ofNat n) (Int32.ofNat (rNm m)) (Int32.ofNat p) (Int32.ofNat tp) x12 (0 : Int32)) = some (r, M1) ∧ Inv x0 (k + 1) S1 M1 := by
  obtain ⟨hc, hh, hkd, hth, htx, hro, hl, hnu⟩ := id hI
  have hA := hc.1.1
  obtain ⟨⟨hM1, hC1⟩, -⟩ := hc.2.2.1 n hn
  have hcl := hM1.1.2.1
  have hB := hc.2.1.1
  -- the draft
  obtain ⟨S11, b1, b2', b3, b4, d0, d1, d2, d3, d4, d5⟩ := k_begin hh (s := 9) (by decide) (rI (slF mkO (Int32.ofNat (rNm m)))) (Int32.ofNat (rNm m)) (Int32.ofNat p)
  have I11 : Ib x0 k S11 A ra sl mkO L Wt ro fa := Ib_l (M' := A) hI (by omega) (mEx_refl _ _) b2'
  obtain ⟨hc1, hh1, hkd1, -, htx1, -⟩ := id I11
  have d1' : kF S11 (x0 + 19) 1 = Int32.ofNat j := by
    rw [d1, if_neg (by decide), slF_mk hA.2.1.2.1 (fun j m h => ⟨(hA.2.1.1 j m h).1, (hA.2.1.1 j m h).2.1.1⟩) hp.1]; rfl
  have d2' : kF S11 (x0 + 19) 2 = Int32.ofNat (rNm m) := by rw [d2, if_neg (by decide)]
  have d3' : kF S11 (x0 + 19) 3 = Int32.ofNat p := by rw [d3, if_neg (by decide)]
  -- the text
  obtain ⟨S16, T, s1, s2, s2', s3, s4, s5, s6, hV⟩ := k_txt hh1 hc1 htx1.1 hn hp
  have I16 : Ib x0 k S16 A ra sl mkO L Wt ro fa := Ib_l (M' := A) I11 (by omega) (mEx_refl _ _) s2
  obtain ⟨hc6, hh6, hkd6, -, htx6, hro6, -, -⟩ := id I16
  have hB6 := hc6.2.1.1
  have hX : (T.map (fun r => A.2 12 r)).length = T.length := List.length_map _
  have hXi : ∀ i (h : i < (T.map (fun r => A.2 12 r)).length), (T.map (fun r => A.2 12 r))[i] = A.2 12 (T.getD i 0) := fun i h => by
    rw [List.getElem_map, gD (by rw [hX] at h; exact h)]
  have hY : ((List.range tp).map (fun j => A.2 2 j)).length = tp := by rw [List.length_map, List.length_range]
  have hYj : ∀ j (h : j < ((List.range tp).map (fun j => A.2 2 j)).length), ((List.range tp).map (fun j => A.2 2 j))[j] = A.2 2 j := fun j h => by
    rw [List.getElem_map, List.getElem_range]
  have hTi : ∀ i, i < T.length → T.getD i 0 ∈ T := fun i h => by rw [gD h]; exact List.getElem_mem h
  have hrow : ∀ i, i < T.length → mde A (T.getD i 0) := fun i h => cl_mem hcl (s6 _ (hTi i h)).1
  generalize hXX : T.map (fun r => A.2 12 r) = X at hX hXi
  generalize hYY : (List.range tp).map (fun j => A.2 2 j) = Y at hY hYj
  have hz := hc6.2.2.2.1
  obtain ⟨S20, ro2, tb, c1, I20, c2, c3, ⟨c4, c4'⟩, c5, c6⟩ := k_compare (rr := fun i => ra (T.getD i 0)) (X := X) (Y := Y) I16 (by omega) (by omega) (by rw [hX]; exact s3) (fun i hi => by
      have hm' := hrow i (by omega)
      have hr := hB6.2.2.1 _ hm'.1 hm'
      refine ⟨⟨?_, hr.2.1, ?_⟩, ?_, hc6.2.2.2.2 _ hm', (hro6 _ hm').1⟩
      · rw [s4 i (by omega), gD (show i < T.length by omega)]
      · rw [hXi i hi]; exact hr.2.2.1.2.2.2.1
      · have := hB6.1.2.2.2.2.2 _ hm'; omega) ⟨hkd6.1.2.2.2.2.1, hkd6.1.2.2.2.2.2.1, fun j' hj' => by rw [hYj j' hj']; exact (hkd6.2.2.1 j' (by omega)).1⟩
  obtain ⟨hc20, hh20, hkd20, -⟩ := id I20
  have z19 := c5 (x0 + 19) ⟨by omega, by omega, by omega, fun q => by omega⟩
  have z19' := s2'.2.2.2.2 (x0 + 19) (fun q => by have := q.2; omega)
  have le := cmn_le X Y 0 0
  rw [Nat.sub_zero, Nat.sub_zero] at le
  -- the reference
  obtain ⟨B1, l1, l2, l3, -⟩ := m_lookR hM1.1 e8 hp (by decide) (L n).length (Nat.le_refl _)
  rw [List.take_length, hV] at l3
  have hrl0 : (rwL A T).length = T.length := by unfold rwL; rw [List.length_map]
  have eB1 : mEx sc A B1 := mEx_trans e8 (mEx_mono l2 wL_sc)
  obtain ⟨D, w1, w2, w3⟩ := m_c76 (B := B1) (a := X.length) (by omega) (Int32.ofNat n) (Int32.ofNat (rNm m)) (Int32.ofNat p) (Int32.ofNat tp) X.length 0 mFU B1 (by omega) (Nat.lt_of_le_of_lt (show X.length ≤ 1000 by omega) (by decide)) (mEx_refl _ _) (fun q hq => absurd hq (by omega))
  have eD : mEx sc A D := mEx_trans eB1 (mEx_mono w2 (fun k hk => by unfold sc; omega))
  have pr : ∀ i (h : i < T.length), B1.2 50 i = A.2 12 (T.getD i 0) ∧ B1.2 51 i = Int32.ofNat (T.getD i 0) := fun i hi => by
    have e := List.getElem_map (fun r => (A.2 12 r, Int32.ofNat r)) (l := T) (i := i) (h := by rw [List.length_map]; exact hi)
    obtain ⟨x1, x2⟩ := l3.2 i (by rw [hrl0]; exact hi)
    rw [gD hi]
    exact ⟨x1.trans (congrArg Prod.fst e), x2.trans (congrArg Prod.snd e)⟩
  obtain ⟨G, g1, g2, g3⟩ := m_findCommon (M := D) (X := X) (Y := Y) (by omega) (by omega) (fun i hi => by rw [(w3 i hi).2, (pr i (by omega)).1, hXi i hi]) (fun j' hj' => by rw [(eD 2 (by unfold sc; decide)).2, hYj j' hj'])
  have eG : mEx sc A G := mEx_trans eD (mEx_mono g2 (fun k hk => by unfold sc; omega))
  have hwk : wkS G (fun i => T.getD i 0) X Y := by
    refine ⟨⟨by omega, by omega⟩, fun i hi => ?_, fun j' hj' => ?_, fun i hi => ?_, g3⟩
    · rw [(g2 73 (by decide)).2, (w3 i hi).2, (pr i (by omega)).1, hXi i hi]
    · rw [(eG 2 (by unfold sc; decide)).2, hYj j' hj']
    · rw [(g2 72 (by decide)).2, (w3 i hi).1, (pr i (by omega)).2]
      exact ⟨rfl, (hrow i (by omega)).1⟩
  have w0 := m_walk0 hwk (Int32.ofNat n) (Int32.ofNat (rNm m)) (Int32.ofNat p) (X.length + Y.length) 0 0 mFU 0 0 (by omega) (by omega) (by omega) (Nat.lt_of_le_of_lt (show X.length + Y.length ≤ 1040 by omega) (by decide))
  rw [Nat.zero_add] at w0
  have hmd := hA.2.2.1 n hn
  have rG : rEq A G := fun k h1 h2 => (eG k (by unfold sc; omega)).2
  have G7 : rd G 7 (Int32.ofNat n) = Int32.ofNat (mdN A n) := by rw [rd_n _ _ (by omega), (eG 7 (by unfold sc; decide)).2]; exact hmd.2
  have IG : Ib x0 k S20 G ra sl mkO L Wt ro2 fa := Ib_l I20 (by omega) eG (lkE_refl _ _)
  have k8 : kK S20 (sN x0 n) = 8 := (hc20.2.2.1 n hn).1.2.1.1.1.1
  have x24 : (Int32.ofNat X.length + Int32.ofNat tp) - ((2 : Int32) * Int32.ofNat (cmn X Y 0 0)) = Int32.ofNat (X.length + Y.length - 2 * cmn X Y 0 0) := by
    rw [show (2 : Int32) = Int32.ofNat 2 from rfl, jI_add, jI_mul, jI_sub (by omega), hY]
  have q00 : fk_9_common S20 (x0 + 13) (0 : Int32) (0 : Int32) = some (Int32.ofNat (cmn X Y 0 0)) := k_cmn c2 (Nat.zero_le _) (Nat.zero_le _) (c3 0 0 (Nat.zero_le _) (Nat.zero_le _))
  have hcls : comK S x0 n (Int32.ofNat (rNm m)) (Int32.ofNat p) (Int32.ofNat tp) = if mdN A n + (X.length + Y.length - 2 * cmn X Y 0 0) ≤ 250 then bd (fk_11_carryOver S20 x0 (sN x0 n) (Int32.ofNat tp)) fun S27 => some (Int32.ofNat (X.length + Y.length - 2 * cmn X Y 0 0), S27) else some (-4, S20) := by
    have c1' : fk_9_compare S16 (x0 + 13) (x0 + 2) (Int32.ofNat tp) = some S20 := by rw [← hY]; exact c1
    unfold comK
    obtain ⟨⟨hy1, -⟩, -⟩ := (hc1.2.2.1 n hn).1.2
    rw [ckk_y hh.1.1, hh.1.2.2.2.2.2.2.2.1, bd_s, ckk_y hh.1.1, hh.1.2.2.1, bd_s, ckk_y hB.1.1, k_slotOf hB (mk_all hA), bd_s, ckk_y hh.2.2.2.1.1]
    show bd (fk_1_begin S (x0 + 19) (Int32.ofNat 9) _ _ _) _ = _
    rw [b1, bd_s, ckk_y hh1.1.1, hh1.1.2.2.2.2.2.2.1, bd_s, bd_s, ckk_y hy1.1.1, hy1.1.2.2.2.1, bd_s, ckk_y hh1.1.1, hh1.1.2.2.2.2.2.2.2.1, bd_s, ckk_y hh1.2.2.2.1.1, ckk_y htx1.1.1.1, d1', k_c8, s1, bd_s, ckk_y hh6.1.1, hh6.1.2.2.2.2.2.2.1, bd_s, ckk_y hh6.1.1, hh6.1.2.1, bd_s, ckk_y hkd6.1.1, hkd6.1.2.1, bd_s, ckk_y htx6.1.1.1, c1', bd_s, ckk_y hh20.1.1, hh20.1.2.2.2.2.2.2.1, bd_s, ckk_y c2.1.1, ckk_y hh20.1.1, bd_s, ckk_y c2.1.1, q00, bd_s, c2.1.2.2.1, x24, lt_d, ckk_y k8, k_roomW hc20 hn (by omega), bd_s]
    by_cases cc : mdN A n + (X.length + Y.length - 2 * cmn X Y 0 0) ≤ 250
    · rw [b2_t cc, if_neg n10, if_pos cc, ckk_y hh20.1.1]
    · rw [b2_f cc, if_pos rfl, if_neg cc]
  have hrf : (bd (fm_look B (Int32.ofNat n) (rd B 23 (Int32.ofNat n)) (Int32.ofNat (rNm m)) (Int32.ofNat p)) fun S11 => lt (S11.1 49) fun x12 => fm_commit_76 mFU S11 (Int32.ofNat n) (Int32.ofNat (rNm m)) (Int32.ofNat p) (Int32.ofNat tp) x12 (0 : Int32)) = if mdN A n + (X.length + Y.length - 2 * cmn X Y 0 0) ≤ 250 then bd (fm_walk_12 mFU G (Int32.ofNat n) (Int32.ofNat (rNm m)) (Int32.ofNat p) (Int32.ofNat X.length) (Int32.ofNat Y.length) 1 (Int32.ofNat 0) (Int32.ofNat 0) (Int32.ofNat 0) 0) (fun q => some (q.1, q.2)) else some (-4, G) := by
    have w1' : fm_commit_76 mFU B1 (Int32.ofNat n) (Int32.ofNat (rNm m)) (Int32.ofNat p) (Int32.ofNat tp) (Int32.ofNat X.length) 0 = cmT D (Int32.ofNat n) (Int32.ofNat (rNm m)) (Int32.ofNat p) (Int32.ofNat tp) (Int32.ofNat X.length) := w1
    rw [rd_e e8 (by decide) (by omega), hM1.1.2.2.2, l1, bd_s, lt_d, l3.1, hrl0, ← hX, w1']
    unfold cmT fm_walk
    have w0' : fm_walk_12 mFU G (Int32.ofNat n) (Int32.ofNat (rNm m)) (Int32.ofNat p) (Int32.ofNat X.length) (Int32.ofNat Y.length) 0 0 0 0 0 = some (Int32.ofNat (X.length + Y.length - 2 * cmn X Y 0 0), G) := w0
    rw [← hY, g1, bd_s, w0', bd_s, lt_d, lt_d, ck_n hn (by omega)]
    dsimp only
    rw [G7, jI_add]
    by_cases cc : mdN A n + (X.length + Y.length - 2 * cmn X Y 0 0) ≤ 250
    · rw [if_pos (show Int32.ofNat (mdN A n + (X.length + Y.length - 2 * cmn X Y 0 0)) ≤ 250 from (jI_le (b := 250) (by omega) (by decide)).mpr cc), if_pos cc]; rfl
    · rw [if_neg (show ¬ Int32.ofNat (mdN A n + (X.length + Y.length - 2 * cmn X Y 0 0)) ≤ 250 from fun q => cc ((jI_le (b := 250) (by omega) (by decide)).mp q)), if_neg cc]
  rw [hcls, hrf]
  by_cases cc : mdN A n + (X.length + Y.length - 2 * cmn X Y 0 0) ≤ 250
  · rw [if_pos cc, if_pos cc]
    have hjw : jwI x0 k n j (Int32.ofNat (rNm m)) (Int32.ofNat p) mkO Wt fa tb (fun i => ra (T.getD i 0)) (fun i => T.getD i 0) X Y S20 G 0 := by
      refine ⟨ra, sl, L, ro2, IG, c2, c3, ⟨c4, c4'⟩, hwk, fun i hi => ?_, ?_, ⟨m, kd, p, hp.2.2.1, hp.1, hin, by rw [rG 12 (by decide) (by decide)]; exact hp.2.1, rfl, hp.2.2.2.1, rfl, by rw [rG 6 (by decide) (by decide)]; exact hp.2.2.2.2.1⟩, Or.inl rfl⟩
      · have hm' := hrow i (by omega)
        have hr := hc20.2.1.1.2.2.1 _ hm'.1 hm'
        obtain ⟨t1, t2⟩ := s6 _ (hTi i (by omega))
        refine ⟨hr.2.2.2.1.2.2.1, ?_, hc20.2.2.2.2 _ hm', t1, ?_, ?_, ?_⟩
        · show x0 + 133 ≤ ra (T.getD i 0)
          have := hc20.2.1.1.1.2.2.2.2.2 _ hm'; omega
        · rw [rG 9 (by decide) (by decide)]; exact t2.1
        · rw [rG 10 (by decide) (by decide)]; exact t2.2.1
        · rw [rG 11 (by decide) (by decide)]; exact t2.2.2
      · rw [z19.2.2.1, z19'.1]; exact ⟨d1', d2', d3'⟩
    obtain ⟨S', C', v1, v2, v3⟩ := walk_both (k := k) (by omega) hn (X.length + Y.length) 0 0 1100 mFU 0 0 S20 G 0 (by omega) (by omega) (by omega) (by omega) (Nat.lt_of_le_of_lt (show X.length + Y.length ≤ 1040 by omega) (by decide)) (by omega) hjw (by rw [mdN_r rG]; exact cc)
    have hco : fk_11_carryOver S20 x0 (sN x0 n) (Int32.ofNat tp) = some S' := by
      unfold fk_11_carryOver
      rw [ckk_y hh20.1.1, hh20.1.2.2.2.2.2.2.1, bd_s, ckk_y c2.1.1, c2.1.2.2.1, lt_d, ← hY, jI_add]
      exact v1
    rw [hco, bd_s, v2, bd_s, Nat.zero_add]
    exact ⟨_, _, _, rfl, rfl, Inv_1 v3 hk⟩
  · rw [if_neg cc, if_neg cc]
    exact ⟨_, _, _, rfl, rfl, Inv_1 (Inv_b IG) hk⟩
end V
