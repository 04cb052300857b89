-- part 121: the class writes a frame, whole
section W
variable {S0 S : cSt} {M : mSt} {f wa ta Bt : Nat} {X : List Int32} {sl ch : Nat → Int32} {ra : Nat → Nat} {mkO : Nat → Option Nat} {g : Nat → Int32}
theorem rg4 {α : Type} (F : Nat → List α) : (List.range 4).flatMap F = F 0 ++ (F 1 ++ (F 2 ++ F 3)) := by
  rw [show List.range 4 = [0, 1, 2, 3] from rfl]
  simp only [List.flatMap_cons, List.flatMap_nil, List.append_nil]
theorem rg1 {α : Type} (F : Nat → List α) : (List.range 1).flatMap F = F 0 := by
  rw [show List.range 1 = [0] from rfl]
  simp only [List.flatMap_cons, List.flatMap_nil, List.append_nil]
theorem frL_pos (M : mSt) (g : Nat → Int32) : 2 ≤ (frL M g).length := by
  unfold frL; rw [List.length_append]; show 2 ≤ _ + 2; omega
theorem k_write34 (h0 : pF S0 f wa) (hR : kR S0 f 0 = some (f + 1) ∧ kR S0 f 1 = some (f + 2) ∧ kR S0 f 2 = some (f + 3) ∧ kR S0 f 10 = some ta) (hK : kK S0 (f + 1) = 20 ∧ kL S0 (f + 1) = 4 ∧ kK S0 (f + 2) = 20 ∧ kL S0 (f + 2) = 16 ∧ kK S0 (f + 3) = 30 ∧ kL S0 (f + 3) = 8) (hw : wa < f ∨ f + 4 ≤ wa) (ht : kK S0 ta = 21 ∧ kL S0 ta = 560 ∧ ta ≠ f ∧ ta ≠ wa) (hCo : fCo S0 M ra mkO Bt f g) (h7 : kF S0 f 7 = 0) (hrow : ∀ r, mde M r → cRow M sl ch S0 r (ra r) ∧ ra r ≠ f ∧ ra r ≠ wa ∧ ra r ≠ f + 1 ∧ ra r ≠ wa + 1) : ∃ S', fk_2_write_34 S0 f = some S' ∧ cEq (fun a => a = f ∨ a = wa ∨ a = ta) S0 S' ∧ kR S' f = kR S0 f ∧ (∀ k, k ≠ 7 → kF S' f k = kF S0 f k) ∧ kF S' f 7 = Int32.ofNat (frL M g).length ∧ (∀ i (h : i < (frL M g).length), kI S' wa i = ((frL M g)[i]).toInt8.toInt32) ∧ ∀ i, i < 560 → kI S' ta i = 0 := by
  obtain ⟨⟨a3, a4, a5, a6⟩, hg01, hg2, hvec, hcur, -, c, c1, c2, c3⟩ := hCo
  have kk : ∀ {T : cSt} {Y : List Int32}, pB S0 T f wa Y → kK T f = 3 ∧ kR T f = kR S0 f ∧ ∀ k, k ≠ 7 → kF T f k = kF S0 f k := fun hT => ⟨by rw [hT.1.1]; exact h0.1, hT.2.1, hT.2.2.1⟩
  have p0 : pB S0 S0 f wa [] := ⟨cEq_refl _ _, rfl, fun _ _ => rfl, h7, fun i hi => absurd hi (by simp), fun x hx => by cases hx⟩
  obtain ⟨B1, b1, p1⟩ := k_putByte h0 p0 (by simp) ((g 0 + 4 * g 1) + 16 * g 2)
  have hst : fk_2_write_34 S0 f = fk_2_write_59 S0 f f (g 0 + 4 * g 1) (16 * g 2) := by
    unfold fk_2_write_34
    rw [ckk_y h0.1, ckk_y h0.1, ckk_y h0.1, a3, a4, a5]
    rcases hg2 with q | q
    · rw [q, if_pos rfl]; rfl
    · rw [q, if_neg n10]; rfl
  rw [hst]
  unfold fk_2_write_59
  rw [ckk_y h0.1, b1, bd_s, ckk_y (kk p1).1, (kk p1).2.1, hR.1, bd_s, ckk_y (kk p1).1]
  obtain ⟨B2, b2, p2⟩ := k_putNumbers (b := f + 1) (a := 0) (c := 4) h0 (by have := h0.2.2.2.2; omega) hK.1 hK.2.1 (by decide) (by decide) (by simp) p1
  have b2' : fk_2_putNumbers B1 f (f + 1) (0 : Int32) (4 : Int32) = some B2 := b2
  have hv : (List.range 4).flatMap (fun q => numL (kI S0 (f + 1) (0 + q))) = (List.range 4).flatMap (fun q => numL (g (4 + q))) := by
    refine flatMap_cg (fun q hq => ?_)
    rw [Nat.zero_add, (hvec q (List.mem_range.mp hq)).1]
  rw [hv] at p2
  rw [b2', bd_s]
  let cF : Nat → List Int32 := fun m => numL (g (16 + 4 * m)) ++ if g (16 + 4 * m) = 0 then [] else numL (g (17 + 4 * m)) ++ numL (g (18 + 4 * m)) ++ numL (g (19 + 4 * m))
  have cFl : ∀ m, (cF m).length ≤ 20 := fun m => by
    have h1 := num_len (g (16 + 4 * m))
    have h2 := num_len (g (17 + 4 * m))
    have h3 := num_len (g (18 + 4 * m))
    have h4 := num_len (g (19 + 4 * m))
    show (numL _ ++ _).length ≤ 20
    rw [List.length_append]
    split
    · show _ + 0 ≤ 20; omega
    · rw [List.length_append, List.length_append]; omega
  have cur : ∀ (j i fu : Nat) (T : cSt) (Y : List Int32), i + j = 4 → j < fu → Y.length ≤ 21 → pB S0 T f wa (Y ++ (List.range i).flatMap cF) → ∃ T', fk_2_write_75 fu T f (Int32.ofNat i) = (bd (fk_2_putNumber T' f (g 3)) fun S2 => fk_2_write_123 mFU S2 f 0) ∧ pB S0 T' f wa (Y ++ (List.range 4).flatMap cF) := by
    intro j
    induction j with
    | zero =>
      intro i fu T Y hi hf hY hT
      obtain ⟨fu, rfl⟩ : ∃ q, fu = q + 1 := ⟨fu - 1, by omega⟩
      have e4 : i = 4 := by omega
      subst e4
      rw [fk_2_write_75, if_pos (show (4 : Int32) ≤ Int32.ofNat 4 by decide), ckk_y (kk hT).1, ckk_y (kk hT).1, (kk hT).2.2 6 (by decide), a6]
      exact ⟨T, rfl, hT⟩
    | succ j ih =>
      intro i fu T Y hi hf hY hT
      obtain ⟨fu, rfl⟩ : ∃ q, fu = q + 1 := ⟨fu - 1, by omega⟩
      have hfl := fm_le (f := cF) (b := 20) (List.range i) (fun x _ => cFl x)
      rw [List.length_range] at hfl
      have zb := hT.1.2.2.2.2 (f + 2) (by omega)
      have s1 : Int32.ofNat i + 1 = Int32.ofNat (i + 1) := jI_add _ 1
      rw [fk_2_write_75, if_neg (jK 4 4 rfl (by omega) (by decide)), ckk_y (kk hT).1, (kk hT).2.1, hR.2.1, bd_s, ckk_y (kk hT).1, bd_s, ckk_y (by rw [hT.1.1]; exact hK.2.2.1), hT.1.2.1, hK.2.2.2.1, show (4 : Int32) * Int32.ofNat i = Int32.ofNat (4 * i) from jI_mul 4 i, ck_n (by omega) (by omega), jI_cl (by omega), zb.2.2.1, hcur (4 * i) (by omega)]
      unfold fk_2_write_104
      rw [ckk_y (kk hT).1, ckk_y (kk hT).1]
      by_cases c0 : g (16 + 4 * i) = 0
      · obtain ⟨U, u1, u2⟩ := k_putNumbers (b := f + 2) (a := 4 * i) (c := 1) h0 (by omega) hK.2.2.1 hK.2.2.2.1 (by decide) (by omega) (by rw [List.length_append]; omega) hT
        have u1' : fk_2_putNumbers T f (f + 2) (Int32.ofNat (4 * i)) (1 : Int32) = some U := u1
        rw [if_pos c0, u1', bd_s, lt_d, s1]
        refine ih (i + 1) fu U Y (by omega) (by omega) hY ?_
        rw [rgS, ← List.append_assoc]
        rw [rg1, show 4 * i + 0 = 4 * i from rfl, hcur (4 * i) (by omega)] at u2
        show pB S0 U f wa (_ ++ (numL _ ++ if g (16 + 4 * i) = 0 then [] else _))
        rw [if_pos c0, List.append_nil]; exact u2
      · obtain ⟨U, u1, u2⟩ := k_putNumbers (b := f + 2) (a := 4 * i) (c := 4) h0 (by omega) hK.2.2.1 hK.2.2.2.1 (by decide) (by omega) (by rw [List.length_append]; omega) hT
        have u1' : fk_2_putNumbers T f (f + 2) (Int32.ofNat (4 * i)) (4 : Int32) = some U := u1
        rw [if_neg c0, u1', bd_s, lt_d, s1]
        refine ih (i + 1) fu U Y (by omega) (by omega) hY ?_
        rw [rgS, ← List.append_assoc]
        rw [rg4, show 4 * i + 0 = 4 * i from rfl, hcur (4 * i) (by omega), hcur (4 * i + 1) (by omega), hcur (4 * i + 2) (by omega), hcur (4 * i + 3) (by omega), show 16 + (4 * i + 1) = 17 + 4 * i by omega, show 16 + (4 * i + 2) = 18 + 4 * i by omega, show 16 + (4 * i + 3) = 19 + 4 * i by omega] at u2
        show pB S0 U f wa (_ ++ (numL _ ++ if g (16 + 4 * i) = 0 then [] else _))
        rw [if_neg c0]
        simp only [List.append_assoc] at u2 ⊢
        exact u2
  have hl2 : ([] ++ [((g 0 + 4 * g 1) + 16 * g 2) &&& 255] ++ (List.range 4).flatMap (fun q => numL (g (4 + q)))).length ≤ 21 := by
    have hfl := fm_le (f := fun q => numL (g (4 + q))) (b := 5) (List.range 4) (fun x _ => num_len _)
    rw [List.length_range] at hfl
    simp only [List.length_append, List.length_singleton, List.length_nil]; omega
  obtain ⟨B3, b3, p3⟩ := cur 4 0 mFU B2 _ rfl (by decide) hl2 (by rw [List.range_zero, List.flatMap_nil, List.append_nil]; exact p2)
  have b3' : fk_2_write_75 mFU B2 f 0 = _ := b3
  rw [b3']
  have hl3 : (([] ++ [((g 0 + 4 * g 1) + 16 * g 2) &&& 255] ++ (List.range 4).flatMap (fun q => numL (g (4 + q)))) ++ (List.range 4).flatMap cF).length ≤ 101 := by
    have hfl := fm_le (f := fun q => numL (g (4 + q))) (b := 5) (List.range 4) (fun x _ => num_len _)
    have hfl2 := fm_le (f := cF) (b := 20) (List.range 4) (fun x _ => cFl x)
    rw [List.length_range] at hfl hfl2
    simp only [List.length_append, List.length_singleton, List.length_nil]; omega
  generalize hY3 : (([] ++ [((g 0 + 4 * g 1) + 16 * g 2) &&& 255] ++ (List.range 4).flatMap (fun q => numL (g (4 + q)))) ++ (List.range 4).flatMap cF) = Y3 at p3 hl3
  obtain ⟨B4, b4, p4⟩ := k_putNumber h0 p3 (by omega) (g 3)
  rw [b4, bd_s]
  have n3 := num_len (g 3)
  have hbod : Y3 ++ numL (g 3) ++ (List.range c).flatMap (fun i => rowL M (g (8 + i)).toNatClampNeg) = bodL M g := by
    unfold bodL
    rw [← hY3, c2, jI_cl (by omega), List.nil_append]
  have rows : ∀ (j i fu : Nat) (T : cSt), i + j = c → j < fu → pB S0 T f wa (Y3 ++ numL (g 3) ++ (List.range i).flatMap (fun i => rowL M (g (8 + i)).toNatClampNeg)) → ∃ T', fk_2_write_123 fu T f (Int32.ofNat i) = (bd (fk_2_checkOf T' f) fun r2 => ckk T' f 3 (bd (fk_2_putByte T' f (r2 >>> ((8 : Int32) &&& 31))) fun S3 => ckk S3 f 3 (bd (fk_2_putByte S3 f (r2 &&& (255 : Int32))) fun S4 => ckk S4 f 3 (bd (kR S4 f 10) fun a5 => bd (fk_107_fill_031fb S4 a5 (0 : Int32)) fun S6 => some S6)))) ∧ pB S0 T' f wa (bodL M g) := by
    intro j
    induction j with
    | zero =>
      intro i fu T hi hf hT
      obtain ⟨fu, rfl⟩ : ∃ q, fu = q + 1 := ⟨fu - 1, by omega⟩
      have e4 : i = c := by omega
      subst e4
      rw [fk_2_write_123, ckk_y (kk hT).1, (kk hT).2.2 6 (by decide), a6, c2, if_pos (Int32.le_refl _), ckk_y (kk hT).1]
      exact ⟨T, rfl, by rw [← hbod]; exact hT⟩
    | succ j ih =>
      intro i fu T hi hf hT
      obtain ⟨fu, rfl⟩ : ∃ q, fu = q + 1 := ⟨fu - 1, by omega⟩
      obtain ⟨r, r1, r2, r3⟩ := c3 i (by omega)
      obtain ⟨hcr, hne⟩ := hrow r r1
      have hfl := fm_le (f := fun i => rowL M (g (8 + i)).toNatClampNeg) (b := 56) (List.range i) (fun x _ => row_len _ _)
      rw [List.length_range] at hfl
      obtain ⟨U, u1, u2⟩ := k_putRow h0 hne hcr (by simp only [List.length_append]; omega) hT
      have zb := hT.1.2.2.2.2 (f + 3) (by omega)
      rw [fk_2_write_123, ckk_y (kk hT).1, (kk hT).2.2 6 (by decide), a6, c2, if_neg (fun q => absurd ((jI_le (by omega) (by omega)).mp q) (by omega)), ckk_y (kk hT).1, (kk hT).2.1, hR.2.2.1, bd_s, ckk_y (by rw [hT.1.1]; exact hK.2.2.2.2.1), hT.1.2.1, hK.2.2.2.2.2, ck_n (by omega) (by omega), lt_d, jI_cl (by omega), zb.2.2.2, r3, bd_s, ckk_y (kk hT).1, u1, bd_s, lt_d, show Int32.ofNat i + 1 = Int32.ofNat (i + 1) from jI_add _ 1]
      refine ih (i + 1) fu U (by omega) (by omega) ?_
      rw [rgS, ← List.append_assoc, r2, jI_cl (by have := r1.1; omega)]; exact u2
  obtain ⟨B5, b5, p5⟩ := rows c 0 mFU B4 (by omega) (Nat.lt_of_le_of_lt c1 (by decide)) (by rw [List.range_zero, List.flatMap_nil, List.append_nil]; exact p4)
  have b5' : fk_2_write_123 mFU B4 f 0 = _ := b5
  rw [b5']
  have hlb := frL_len M g c1 c2
  have hlb' : (bodL M g).length + 2 ≤ 556 := by unfold frL at hlb; rw [List.length_append] at hlb; exact hlb
  obtain ⟨B6, b6, p6⟩ := k_putByte h0 p5 (by omega) (crcL (bodL M g) >>> ((8 : Int32) &&& 31))
  obtain ⟨B7, b7, p7⟩ := k_putByte h0 p6 (by rw [List.length_append, List.length_singleton]; omega) (crcL (bodL M g) &&& 255)
  have kt : kK B7 ta = 21 := by rw [p7.1.1]; exact ht.1
  have lt' : kL B7 ta = 560 := by rw [p7.1.2.1]; exact ht.2.1
  obtain ⟨G, g1, g2⟩ := k_fill0 kt lt' (by decide)
  rw [k_crc h0 p5 (by omega), bd_s, ckk_y (kk p5).1, b6, bd_s, ckk_y (kk p6).1, b7, bd_s, ckk_y (kk p7).1, (kk p7).2.1, hR.2.2.2, bd_s, g1, bd_s]
  have hfr : bodL M g ++ [crcL (bodL M g) >>> ((8 : Int32) &&& 31) &&& 255] ++ [crcL (bodL M g) &&& 255 &&& 255] = frL M g := by
    unfold frL; rw [List.append_assoc, and255]; rfl
  rw [hfr] at p7
  obtain ⟨q1, q2, q3, q4, q5, q6⟩ := p7
  refine ⟨_, rfl, cEq_trans (cEq_mono q1 (fun a ha => by omega)) (cEq_sI _ (Or.inr (Or.inr rfl))), q2, q3, q4, fun i hi => ?_, fun i hi => ?_⟩
  · rw [kI_sIo _ _ (fun e => ht.2.2.2 e.symm)]; exact q5 i hi
  · rw [kI_sI]; exact g2 i hi
theorem cNw_K (S : cSt) (kd n : Nat) : kK (cNw S kd n) (kZ S) = kd ∧ kL (cNw S kd n) (kZ S) = n ∧ kZ (cNw S kd n) = kZ S + 1 ∧ ∀ i, kT (cNw S kd n) i = kT S i := ⟨(nw_at S kd n).1, (nw_at S kd n).2.1, (nw_at S kd n).2.2.1, (nw_at S kd n).2.2.2.1⟩
theorem kR_cPr (S : cSt) (a k : Nat) (x : Option Nat) : kR (cPr S a k x) a k = x := by
  show up2 S.2.2.1 a k x a k = x
  unfold up2
  rw [if_pos ⟨rfl, rfl⟩]
theorem kR_cPo (S : cSt) {a b k j : Nat} (x : Option Nat) (h : ¬ (b = a ∧ j = k)) : kR (cPr S a k x) b j = kR S b j := by
  show up2 S.2.2.1 a k x b j = S.2.2.1 b j
  unfold up2
  rw [if_neg h]
theorem k_write (hLy : fLy S f wa ta) (hCo : fCo S M ra mkO Bt f g) (hBy : fBy S M f wa ta g) (hz : f + 4 ≤ kZ S ∧ wa < kZ S ∧ ta < kZ S) (hsep : (wa < f ∨ f + 4 ≤ wa) ∧ (ta < f ∨ f + 4 ≤ ta)) (hrow : ∀ r, mde M r → cRow M sl ch S r (ra r) ∧ ra r < kZ S ∧ ra r ≠ f ∧ ra r ≠ wa ∧ ra r ≠ f + 1 ∧ ra r ≠ wa + 1) :
    ∃ S' wa' ta', fk_2_write S f = some S' ∧ fLy S' f wa' ta' ∧ fCo S' M ra mkO Bt f g ∧ fBy S' M f wa' ta' g ∧ kF S' f 7 = Int32.ofNat (frL M g).length ∧ kL S' wa' = 560 ∧ cSm (fun a => a < kZ S ∧ a ≠ f ∧ a ≠ wa ∧ a ≠ ta) S S' ∧ kZ S ≤ kZ S' ∧ (∀ i, kT S' i = kT S i) ∧ (wa' = wa ∨ kZ S ≤ wa') ∧ (ta' = ta ∨ kZ S ≤ ta') ∧ wa' < kZ S' ∧ ta' < kZ S' ∧ (∀ k, k ≠ 7 → kF S' f k = kF S f k) := by
  obtain ⟨⟨l1, l2, l3, l4, l5, l6⟩, ⟨l7, l8, l9, l10, l11, l12⟩, ⟨l13, l14, l15, l16⟩⟩ := id hLy
  obtain ⟨y1, y2, y3, y4⟩ := id hBy
  have hpos := frL_pos M g
  have hcc : ∃ c, c ≤ 8 ∧ g 3 = Int32.ofNat c := by obtain ⟨-, -, -, -, -, -, c, c1, c2, -⟩ := hCo; exact ⟨c, c1, c2⟩
  obtain ⟨c, c1, c2⟩ := hcc
  have hlen := frL_len M g c1 c2
  rcases y4 with ⟨z1, z2⟩ | ⟨z1, z2, z3, z4⟩
  · -- not written yet
    have fin : ∀ (S0 : cSt) (wa' ta' : Nat), fk_2_write S f = fk_2_write_34 S0 f → cSm (fun a => a < kZ S ∧ a ≠ f) S S0 → kK S0 f = 3 → kF S0 f = kF S f → kR S0 f 0 = some (f + 1) → kR S0 f 1 = some (f + 2) → kR S0 f 2 = some (f + 3) → kR S0 f 9 = some wa' → kR S0 f 10 = some ta' → kK S0 wa' = 21 → kL S0 wa' = 560 → kK S0 ta' = 21 → kL S0 ta' = 560 → wa' ≠ ta' → kZ S ≤ kZ S0 → (∀ i, kT S0 i = kT S i) → (wa' = wa ∨ kZ S ≤ wa') → (ta' = ta ∨ kZ S ≤ ta') → wa' < kZ S0 → ta' < kZ S0 → ∃ S' wa' ta', fk_2_write S f = some S' ∧ fLy S' f wa' ta' ∧ fCo S' M ra mkO Bt f g ∧ fBy S' M f wa' ta' g ∧ kF S' f 7 = Int32.ofNat (frL M g).length ∧ kL S' wa' = 560 ∧ cSm (fun a => a < kZ S ∧ a ≠ f ∧ a ≠ wa ∧ a ≠ ta) S S' ∧ kZ S ≤ kZ S' ∧ (∀ i, kT S' i = kT S i) ∧ (wa' = wa ∨ kZ S ≤ wa') ∧ (ta' = ta ∨ kZ S ≤ ta') ∧ wa' < kZ S' ∧ ta' < kZ S' ∧ (∀ k, k ≠ 7 → kF S' f k = kF S f k) := by
      intro S0 wa' ta' hw hS k3 kf kr0 kr1 kr2 kr9 kr10 kw lw kt ltt hne hZ hT hwa hta hwz htz
      have wsep : wa' < f ∨ f + 4 ≤ wa' := by rcases hwa with e | e; rw [e]; exact hsep.1; omega
      have tsep : ta' < f ∨ f + 4 ≤ ta' := by rcases hta with e | e; rw [e]; exact hsep.2; omega
      have d1 := hS (f + 1) ⟨by omega, by omega⟩
      have d2 := hS (f + 2) ⟨by omega, by omega⟩
      have d3 := hS (f + 3) ⟨by omega, by omega⟩
      have hCo0 : fCo S0 M ra mkO Bt f g := by
        obtain ⟨q1, q2, q3, q4, q5, q6, q7⟩ := hCo
        unfold fCo
        rw [kf, d1.2.2.2.2.1, d2.2.2.2.2.1, d3.2.2.2.2.2]
        exact ⟨q1, q2, q3, q4, q5, q6, q7⟩
      have hrow0 : ∀ r, mde M r → cRow M sl ch S0 r (ra r) ∧ ra r ≠ f ∧ ra r ≠ wa' ∧ ra r ≠ f + 1 ∧ ra r ≠ wa' + 1 := fun r hr => by
        obtain ⟨⟨q1, q2, q3, q4, q5, va, v1, v2, v3, v4, v5⟩, q6, q7, q8, q9, q10⟩ := hrow r hr
        have da := hS (ra r) ⟨q6, q7⟩
        have dv := hS va ⟨by omega, by omega⟩
        refine ⟨⟨by rw [da.1]; exact q1, by rw [da.2.2.1]; exact q2, by rw [da.2.2.1]; exact q3, by rw [da.2.2.1]; exact q4, by rw [da.2.2.1]; exact q5, va, v1, by rw [da.2.2.2.1]; exact v2, by rw [dv.1]; exact v3, by rw [dv.2.1]; exact v4, by rw [dv.2.2.2.2.1]; exact v5⟩, q7, ?_, q9, ?_⟩
        · rcases hwa with e | e
          · rw [e]; exact q8
          · omega
        · rcases hwa with e | e
          · rw [e]; exact q10
          · omega
      obtain ⟨S', s1, s2, s3, s4, s5, s6, s7⟩ := k_write34 (ta := ta') ⟨k3, kr9, kw, lw, by omega⟩ ⟨kr0, kr1, kr2, kr10⟩ ⟨by rw [d1.1]; exact l7, by rw [d1.2.1]; exact l8, by rw [d2.1]; exact l9, by rw [d2.2.1]; exact l10, by rw [d3.1]; exact l11, by rw [d3.2.1]; exact l12⟩ wsep ⟨kt, ltt, by omega, fun e => hne e.symm⟩ hCo0 (by rw [kf]; exact z1) hrow0
      have e1 := s2.2.2.2.2 (f + 1) (by omega)
      have e2 := s2.2.2.2.2 (f + 2) (by omega)
      have e3 := s2.2.2.2.2 (f + 3) (by omega)
      have f8 : kF S' f 8 = kF S f 8 := by rw [s4 8 (by decide), kf]
      refine ⟨S', wa', ta', by rw [hw]; exact s1, ?_, ?_, ?_, s5, by rw [s2.2.1]; exact lw, fun a ha => ?_, by rw [s2.2.2.1]; exact hZ, fun i => by rw [s2.2.2.2.1]; exact hT i, hwa, hta, by rw [s2.2.2.1]; exact hwz, by rw [s2.2.2.1]; exact htz, fun k hk => by rw [s4 k hk, kf]⟩
      · unfold fLy
        simp only [s2.1, s2.2.1, s3]
        exact ⟨⟨k3, kr0, kr1, kr2, kr9, kr10⟩, ⟨by rw [d1.1]; exact l7, by rw [d1.2.1]; exact l8, by rw [d2.1]; exact l9, by rw [d2.2.1]; exact l10, by rw [d3.1]; exact l11, by rw [d3.2.1]; exact l12⟩, kw, kt, hne, Or.inr ⟨lw, ltt⟩⟩
      · obtain ⟨q1, q2, q3, q4, q5, q6, q7⟩ := hCo0
        unfold fCo
        rw [s4 3 (by decide), s4 4 (by decide), s4 5 (by decide), s4 6 (by decide), e1.2.2.1, e2.2.2.1, e3.2.2.2]
        exact ⟨q1, q2, q3, q4, q5, q6, q7⟩
      · refine ⟨y1, y2, by rw [f8]; exact y3, Or.inr ⟨s5, by rw [s2.2.1]; exact lw, s6, fun i hi => ?_⟩⟩
        rw [s7 i (by omega), z2 i hi]; rfl
      · have h1 := hS a ⟨ha.1, ha.2.1⟩
        have hna : ¬ (a = f ∨ a = wa' ∨ a = ta') := by
          rintro (e | e | e)
          · exact ha.2.1 e
          · rcases hwa with q | q
            · exact ha.2.2.1 (by rw [e, q])
            · have := ha.1; omega
          · rcases hta with q | q
            · exact ha.2.2.2 (by rw [e, q])
            · have := ha.1; omega
        have h2 := s2.2.2.2.2 a hna
        exact ⟨by rw [s2.1]; exact h1.1, by rw [s2.2.1]; exact h1.2.1, by rw [h2.1]; exact h1.2.2.1, by rw [h2.2.1]; exact h1.2.2.2.1, by rw [h2.2.2.1]; exact h1.2.2.2.2.1, by rw [h2.2.2.2]; exact h1.2.2.2.2.2⟩
    rcases l16 with ⟨n1, n2⟩ | ⟨n1, n2⟩
    · -- two new arrays
      obtain ⟨w1, w2, w3, w4⟩ := cNw_K S 21 560
      have wS := nw_sm S 21 560
      generalize hS4 : cNw S 21 560 = S4 at w1 w2 w3 w4 wS
      have k3' : kK S4 f = 3 := by rw [(wS f (by omega)).1]; exact l1
      obtain ⟨x1, x2, x3, x4⟩ := cNw_K (cPr S4 f 9 (some (kZ S))) 21 560
      have xS := nw_sm (cPr S4 f 9 (some (kZ S))) 21 560
      have hz6 : kZ (cPr S4 f 9 (some (kZ S))) = kZ S + 1 := w3
      rw [hz6] at x1 x2 x3 xS
      generalize hS7 : cNw (cPr S4 f 9 (some (kZ S))) 21 560 = S7 at x1 x2 x3 x4 xS
      have f7 := xS f (by omega)
      have k37 : kK S7 f = 3 := by rw [f7.1]; exact k3'
      have hw : fk_2_write S f = fk_2_write_34 (cPr S7 f 10 (some (kZ S + 1))) f := by
        unfold fk_2_write
        rw [ckk_y l1, z1, if_pos (Int32.le_refl _), ckk_y l1, l5, bd_s, ckk_y l13, n1, if_pos (show Int32.ofNat 0 = 0 from rfl), lt_d, lt_d, hS4, ckk_y k3', lt_d, lt_d, lt_d, hz6, hS7, ckk_y k37, lt_d]
      have fR : ∀ k, k ≠ 9 → k ≠ 10 → kR (cPr S7 f 10 (some (kZ S + 1))) f k = kR S f k := fun k h9 h10 => by
        rw [kR_cPo _ _ (by omega), f7.2.2.2.1, kR_cPo _ _ (by omega), (wS f (by omega)).2.2.2.1]
      refine fin (cPr S7 f 10 (some (kZ S + 1))) (kZ S) (kZ S + 1) hw (fun a ha => ?_) k37 ?_ (by rw [fR 0 (by decide) (by decide)]; exact l2) (by rw [fR 1 (by decide) (by decide)]; exact l3) (by rw [fR 2 (by decide) (by decide)]; exact l4) ?_ (kR_cPr _ _ _ _) ?_ ?_ x1 x2 (by omega) ?_ (fun i => ?_) (Or.inr (Nat.le_refl _)) (Or.inr (by omega)) ?_ ?_
      · have q1 := wS a (by have := ha.1; omega)
        have q2 := xS a (by have := ha.1; omega)
        have c1 : kR (cPr S4 f 9 (some (kZ S))) a = kR S4 a := by funext k; exact kR_cPo _ _ (fun e => ha.2 e.1)
        have c2 : kR (cPr S7 f 10 (some (kZ S + 1))) a = kR S7 a := by funext k; exact kR_cPo _ _ (fun e => ha.2 e.1)
        refine ⟨q2.1.trans q1.1, q2.2.1.trans q1.2.1, q2.2.2.1.trans q1.2.2.1, ?_, q2.2.2.2.2.1.trans q1.2.2.2.2.1, q2.2.2.2.2.2.trans q1.2.2.2.2.2⟩
        rw [c2, q2.2.2.2.1, c1, q1.2.2.2.1]
      · exact f7.2.2.1.trans (wS f (by omega)).2.2.1
      · rw [kR_cPo _ _ (by omega), f7.2.2.2.1]; exact kR_cPr _ _ _ _
      · exact (xS (kZ S) (by omega)).1.trans w1
      · exact (xS (kZ S) (by omega)).2.1.trans w2
      · show kZ S ≤ kZ S7; omega
      · show kT S7 i = _; rw [x4]; exact w4 i
      · show kZ S < kZ S7; omega
      · show kZ S + 1 < kZ S7; omega
    · have hw : fk_2_write S f = fk_2_write_34 S f := by
        unfold fk_2_write
        rw [ckk_y l1, z1, if_pos (Int32.le_refl _), ckk_y l1, l5, bd_s, ckk_y l13, n1, if_neg (by decide)]
      exact fin S wa ta hw (fun a _ => ⟨rfl, rfl, rfl, rfl, rfl, rfl⟩) l1 rfl l2 l3 l4 l5 l6 l13 n1 l14 n2 l15 (Nat.le_refl _) (fun _ => rfl) (Or.inl rfl) (Or.inl rfl) hz.2.1 hz.2.2
  · refine ⟨S, wa, ta, ?_, hLy, hCo, hBy, z1, z2, fun a _ => ⟨rfl, rfl, rfl, rfl, rfl, rfl⟩, Nat.le_refl _, fun _ => rfl, Or.inl rfl, Or.inl rfl, hz.2.1, hz.2.2, fun _ _ => rfl⟩
    unfold fk_2_write
    rw [ckk_y l1, z1, if_neg (jI_p (by omega) (by omega))]
end W
