-- part 125: a frame copied; twice
theorem fit8 (x : Int32) : Jvm.fits .byte (.int x.toInt8.toInt32) = true := by
  show (decide (-128 ≤ x.toInt8.toInt32) && decide (x.toInt8.toInt32 ≤ 127)) = true
  have h1 := Int8.le_toInt x.toInt8
  have h2 := Int8.toInt_lt x.toInt8
  rw [decide_eq_true, decide_eq_true]
  · rfl
  · rw [Int32.le_iff_toInt_le, Int8.toInt_toInt32, show (127 : Int32).toInt = 127 from by decide]; omega
  · rw [Int32.le_iff_toInt_le, Int8.toInt_toInt32, show (-128 : Int32).toInt = -128 from by decide]; omega
section V
variable {S S' : cSt} {M M' A : mSt} {ra : Nat → Nat} {sl ch : Nat → Int32} {mkO : Nat → Option Nat} {L Wt : Nat → List Nat} {ro ro' fa fa' : Nat → Nat} {x0 n k Bt Bt' nf w : Nat} {l : List Nat}
theorem cnt_0 {N : Nat} {p : Nat → Bool} (h : ((List.range N).filter p).length = 0) : ∀ i, i < N → p i = false := fun i hi => by
  cases hp : p i with
  | false => rfl
  | true =>
    have : i ∈ (List.range N).filter p := List.mem_filter.mpr ⟨List.mem_range.mpr hi, hp⟩
    rw [List.length_eq_zero_iff.mp h] at this; cases this
theorem cnt_z {N : Nat} {p : Nat → Bool} (h : ∀ i, i < N → p i = false) : ((List.range N).filter p).length = 0 := by
  rw [List.length_eq_zero_iff, List.filter_eq_nil_iff]
  intro i hi
  rw [h i (List.mem_range.mp hi)]; decide
theorem k_copyFrom {f wa ta s ws ts : Nat} {g : Nat → Int32} (hLf : fLy S f wa ta) (hLs : fLy S s ws ts) (hCo : fCo S M ra mkO Bt s g) (hBy : fBy S M s ws ts g) (hz : f + 4 ≤ kZ S ∧ wa < kZ S ∧ ta < kZ S) (hsep : (wa < f ∨ f + 4 ≤ wa) ∧ (ta < f ∨ f + 4 ≤ ta))
    (hne : ∀ a, (a = s ∨ a = s + 1 ∨ a = s + 2 ∨ a = s + 3 ∨ a = ws ∨ a = ts ∨ ∃ r, mde M r ∧ (a = ra r ∨ a + 1 = ra r)) → a < kZ S ∧ a ≠ f ∧ a ≠ f + 1 ∧ a ≠ f + 2 ∧ a ≠ f + 3 ∧ a ≠ wa ∧ a ≠ ta) (hrow : ∀ r, mde M r → cRow M sl ch S r (ra r)) :
    ∃ S' wa' ta', fk_2_copyFrom S f s = some S' ∧ fLy S' f wa' ta' ∧ fCo S' M ra mkO Bt f g ∧ fBy S' M f wa' ta' g ∧ cSm (fun a => a < kZ S ∧ a ≠ f ∧ a ≠ f + 1 ∧ a ≠ f + 2 ∧ a ≠ f + 3 ∧ a ≠ wa ∧ a ≠ ta) S S' ∧ kZ S ≤ kZ S' ∧ (∀ i, kT S' i = kT S i) ∧ (wa' = wa ∨ kZ S ≤ wa') ∧ (ta' = ta ∨ kZ S ≤ ta') ∧ wa' < kZ S' ∧ ta' < kZ S' := by
  obtain ⟨⟨l1, l2, l3, l4, l5, l6⟩, ⟨l7, l8, l9, l10, l11, l12⟩, ⟨l13, l14, l15, l16⟩⟩ := id hLf
  obtain ⟨⟨m1, m2, m3, m4, m5, m6⟩, ⟨m7, m8, m9, m10, m11, m12⟩, ⟨m13, m14, m15, m16⟩⟩ := id hLs
  obtain ⟨⟨a3, a4, a5, a6⟩, hg01, hg2, hvec, hcur, hcu, c, c1, c2, c3⟩ := id hCo
  obtain ⟨y1, y2, y3, y4⟩ := id hBy
  have ns := (hne s (by omega)).2
  have ns1 := (hne (s + 1) (by omega)).2
  have ns2 := (hne (s + 2) (by omega)).2
  have ns3 := (hne (s + 3) (by omega)).2
  have nts := (hne ts (by omega)).2
  have hsf : s ≠ f := ns.1
  have hlen := frL_len M g c1 c2
  -- the numbers
  generalize hT6 : cPi (cPi (cPi (cPi (cPi (cPi S f 3 (kF S s 3)) f 4 (kF S s 4)) f 5 (kF S s 5)) f 6 (kF S s 6)) f 7 0) f 8 0 = T6
  have t6F : kF T6 f 3 = g 0 ∧ kF T6 f 4 = g 1 ∧ kF T6 f 5 = g 2 ∧ kF T6 f 6 = g 3 ∧ kF T6 f 7 = 0 ∧ kF T6 f 8 = 0 := by
    rw [← hT6]
    simp only [fP]
    exact ⟨a3, a4, a5, a6, rfl, rfl⟩
  have t6o : ∀ a, a ≠ f → kF T6 a = kF S a := fun a ha => by rw [← hT6]; simp only [fPo _ _ _ ha]
  have t6 : (∀ a, kK T6 a = kK S a) ∧ (∀ a, kL T6 a = kL S a) ∧ (∀ a, kR T6 a = kR S a) ∧ (∀ a, kI T6 a = kI S a) ∧ (∀ a, kO T6 a = kO S a) ∧ kZ T6 = kZ S ∧ ∀ i, kT T6 i = kT S i := by
    rw [← hT6]; exact ⟨fun _ => rfl, fun _ => rfl, fun _ => rfl, fun _ => rfl, fun _ => rfl, rfl, fun _ => rfl⟩
  -- the vector and the cursors
  generalize hT8 : sI (sI T6 (f + 1) (va_cpy (kI S (s + 1)) (kI S (f + 1)) 0 0 4)) (f + 2) (va_cpy (kI S (s + 2)) (kI S (f + 2)) 0 0 16) = T8
  have t8 : (∀ a, kK T8 a = kK S a) ∧ (∀ a, kL T8 a = kL S a) ∧ (∀ a, kR T8 a = kR S a) ∧ (∀ a, kF T8 a = kF T6 a) ∧ (∀ a, kO T8 a = kO S a) ∧ kZ T8 = kZ S ∧ ∀ i, kT T8 i = kT S i := by
    rw [← hT8]; exact ⟨t6.1, t6.2.1, t6.2.2.1, fun _ => rfl, t6.2.2.2.2.1, t6.2.2.2.2.2.1, t6.2.2.2.2.2.2⟩
  have t8a : kI T8 (f + 1) = va_cpy (kI S (s + 1)) (kI S (f + 1)) 0 0 4 := by rw [← hT8, kI_sIo _ _ (by omega), kI_sI]
  have t8b : kI T8 (f + 2) = va_cpy (kI S (s + 2)) (kI S (f + 2)) 0 0 16 := by rw [← hT8, kI_sI]
  have t8c : ∀ a, a ≠ f + 1 → a ≠ f + 2 → kI T8 a = kI S a := fun a h1 h2 => by rw [← hT8, kI_sIo _ _ h2, kI_sIo _ _ h1]; exact t6.2.2.2.1 a
  -- the rows
  have loop : ∀ (j i fu : Nat) (h : Nat → Option Nat), i + j = c → j < fu → (∀ q, q < i → h q = kO S (s + 3) q) → ∃ h', (∀ q, q < c → h' q = kO S (s + 3) q) ∧ fk_2_copyFrom_73 fu (sO T8 (f + 3) h) f s (Int32.ofNat i) = fk_2_copyFrom_73 (fu - j) (sO T8 (f + 3) h') f s (Int32.ofNat c) := by
    intro j
    induction j with
    | zero =>
      intro i fu h hi hf hh
      have e : i = c := by omega
      subst e
      exact ⟨h, hh, rfl⟩
    | succ j ih =>
      intro i fu h hi hf hh
      obtain ⟨fu, rfl⟩ : ∃ q, fu = q + 1 := ⟨fu - 1, by omega⟩
      obtain ⟨r, r1, r2, r3⟩ := c3 i (by omega)
      have u1 : kK (sO T8 (f + 3) h) f = 3 := by show kK T8 f = 3; rw [t8.1]; exact l1
      have u2 : kF (sO T8 (f + 3) h) f 6 = Int32.ofNat c := by show kF T8 f 6 = _; rw [t8.2.2.2.1, t6F.2.2.2.1]; exact c2
      have u3 : kR (sO T8 (f + 3) h) f 2 = some (f + 3) := by show kR T8 f 2 = _; rw [t8.2.2.1]; exact l4
      have u4 : kK (sO T8 (f + 3) h) s = 3 := by show kK T8 s = 3; rw [t8.1]; exact m1
      have u5 : kR (sO T8 (f + 3) h) s 2 = some (s + 3) := by show kR T8 s 2 = _; rw [t8.2.2.1]; exact m4
      have u6 : kK (sO T8 (f + 3) h) (s + 3) = 30 := by show kK T8 (s + 3) = 30; rw [t8.1]; exact m11
      have u7 : kL (sO T8 (f + 3) h) (s + 3) = 8 := by show kL T8 (s + 3) = 8; rw [t8.2.1]; exact m12
      have u8 : kK (sO T8 (f + 3) h) (f + 3) = 30 := by show kK T8 (f + 3) = 30; rw [t8.1]; exact l11
      have u9 : kL (sO T8 (f + 3) h) (f + 3) = 8 := by show kL T8 (f + 3) = 8; rw [t8.2.1]; exact l12
      have u10 : kO (sO T8 (f + 3) h) (s + 3) i = some (ra r) := by rw [kO_sOo _ _ ns3.2.2.2.1, t8.2.2.2.2.1]; exact r3
      have u11 : kK (sO T8 (f + 3) h) (ra r) = 9 := by show kK T8 (ra r) = 9; rw [t8.1]; exact (hrow r r1).1
      have q9 : ∀ {T : cSt} {K : Option cSt}, kK T (ra r) = 9 → ckq T (some (ra r)) 9 K = K := fun h => ckk_y h
      obtain ⟨h', x1, x2⟩ := ih (i + 1) fu (upo h i (some (ra r))) (by omega) (by omega) (fun q hq => by
        unfold upo
        by_cases e : q = i
        · rw [if_pos e, e]; exact r3.symm
        · rw [if_neg e]; exact hh q (by omega))
      refine ⟨h', x1, ?_⟩
      rw [fk_2_copyFrom_73, ckk_y u1, u2, if_neg (fun q => absurd ((jI_le (by omega) (by omega)).mp q) (by omega)), ckk_y u1, u3, bd_s, ckk_y u4, u5, bd_s, ckk_y u6, u7, ck_n (by omega) (by omega), lt_d, jI_cl (by omega), u10, ckk_y u8, u9, ck_n (by omega) (by omega), q9 u11, lt_d, lt_d, show Int32.ofNat i + 1 = Int32.ofNat (i + 1) from jI_add _ 1, cWo_sO, kO_sO, sO_sO, x2]
      congr 1; omega
  obtain ⟨h', x1, x2⟩ := loop c 0 mFU (kO T8 (f + 3)) (by omega) (Nat.lt_of_le_of_lt c1 (by decide)) (fun q hq => absurd hq (by omega))
  rw [sO_id] at x2
  obtain ⟨fu, hfu⟩ : ∃ fu, mFU - c = fu + 1 := ⟨mFU - c - 1, by have : (1000 : Nat) < mFU := by decide
                                                                omega⟩
  rw [hfu] at x2
  have hst : fk_2_copyFrom S f s = fk_2_copyFrom_73 mFU T8 f s 0 := by
    unfold fk_2_copyFrom
    have kc : ∀ (X : cSt) (j : Nat) (x : Int32), kK (cPi X f j x) = kK X := fun _ _ _ => rfl
    have rc : ∀ (X : cSt) (j : Nat) (x : Int32), kR (cPi X f j x) = kR X := fun _ _ _ => rfl
    simp only [lt_d]
    rw [ckk_y m1, ckk_y l1]
    simp only [kc, rc, fPo _ _ _ hsf]
    rw [ckk_y (by simp only [kc]; exact m1), ckk_y (by simp only [kc]; exact l1), ckk_y (by simp only [kc]; exact m1), ckk_y (by simp only [kc]; exact l1)]
    have z5 : ∀ {K : Option cSt}, ckz (kF S s 5) K = K := fun {K} => by
      rw [a5]; rcases hg2 with q | q <;> rw [q] <;> rfl
    rw [z5, ckk_y (by simp only [kc]; exact m1), ckk_y (by simp only [kc]; exact l1), ckk_y (by simp only [kc]; exact l1), ckk_y (by simp only [kc]; exact l1), hT6, ckk_y (by rw [t6.1]; exact m1), m2, bd_s, ckk_y (by rw [t6.1]; exact l1), l2, bd_s, ckk_y (by rw [t6.1]; exact m7), ckk_y (by rw [t6.1]; exact l7), ckp_y ⟨by decide, by rw [t6.2.1, m8]; decide, by rw [t6.2.1, l8]; decide⟩]
    have eC1 : cCp T6 (s + 1) (Int32.toNatClampNeg 0) (f + 1) (Int32.toNatClampNeg 0) (Int32.toNatClampNeg 4) = sI T6 (f + 1) (va_cpy (kI S (s + 1)) (kI S (f + 1)) 0 0 4) := by
      show sI T6 (f + 1) (va_cpy (kI T6 (s + 1)) (kI T6 (f + 1)) 0 0 4) = _
      rw [t6.2.2.2.1, t6.2.2.2.1]
    rw [eC1]
    have v1 : ∀ a, kK (sI T6 (f + 1) (va_cpy (kI S (s + 1)) (kI S (f + 1)) 0 0 4)) a = kK S a := t6.1
    have v2 : ∀ a, kR (sI T6 (f + 1) (va_cpy (kI S (s + 1)) (kI S (f + 1)) 0 0 4)) a = kR S a := t6.2.2.1
    have v3 : ∀ a, kL (sI T6 (f + 1) (va_cpy (kI S (s + 1)) (kI S (f + 1)) 0 0 4)) a = kL S a := t6.2.1
    rw [ckk_y (by rw [v1]; exact m1), v2, m3, bd_s, ckk_y (by rw [v1]; exact l1), v2, l3, bd_s, ckk_y (by rw [v1]; exact m9), ckk_y (by rw [v1]; exact l9), ckp_y ⟨by decide, by rw [v3, m10]; decide, by rw [v3, l10]; decide⟩]
    have eC2 : cCp (sI T6 (f + 1) (va_cpy (kI S (s + 1)) (kI S (f + 1)) 0 0 4)) (s + 2) (Int32.toNatClampNeg 0) (f + 2) (Int32.toNatClampNeg 0) (Int32.toNatClampNeg 16) = T8 := by
      show sI (sI T6 (f + 1) (va_cpy (kI S (s + 1)) (kI S (f + 1)) 0 0 4)) (f + 2) (va_cpy (kI (sI T6 (f + 1) (va_cpy (kI S (s + 1)) (kI S (f + 1)) 0 0 4)) (s + 2)) (kI (sI T6 (f + 1) (va_cpy (kI S (s + 1)) (kI S (f + 1)) 0 0 4)) (f + 2)) 0 0 16) = T8
      rw [kI_sIo _ _ ns2.2.1, kI_sIo _ _ (show f + 2 ≠ f + 1 by omega), t6.2.2.2.1, t6.2.2.2.1, hT8]
    rw [eC2]
  have x2' : fk_2_copyFrom_73 mFU T8 f s 0 = _ := x2
  rw [hst, x2']
  generalize hT9 : sO T8 (f + 3) h' = T9
  have t9 : (∀ a, kK T9 a = kK S a) ∧ (∀ a, kL T9 a = kL S a) ∧ (∀ a, kR T9 a = kR S a) ∧ (∀ a, kF T9 a = kF T6 a) ∧ (∀ a, kI T9 a = kI T8 a) ∧ kZ T9 = kZ S ∧ ∀ i, kT T9 i = kT S i := by
    rw [← hT9]; exact ⟨t8.1, t8.2.1, t8.2.2.1, t8.2.2.2.1, fun _ => rfl, t8.2.2.2.2.2.1, t8.2.2.2.2.2.2⟩
  have t9O : kO T9 (f + 3) = h' := by rw [← hT9, kO_sO]
  have t9o : ∀ a, a ≠ f + 3 → kO T9 a = kO S a := fun a ha => by rw [← hT9, kO_sOo _ _ ha, t8.2.2.2.2.1]
  have t9s : cSm (fun a => a ≠ f ∧ a ≠ f + 1 ∧ a ≠ f + 2 ∧ a ≠ f + 3) S T9 := fun a ha => ⟨t9.1 a, t9.2.1 a, by rw [t9.2.2.2.1]; exact t6o a ha.1, t9.2.2.1 a, by rw [t9.2.2.2.2.1]; exact t8c a ha.2.1 ha.2.2.1, t9o a ha.2.2.2⟩
  have hCo9 : fCo T9 M ra mkO Bt f g := by
    refine ⟨⟨by rw [t9.2.2.2.1]; exact t6F.1, by rw [t9.2.2.2.1]; exact t6F.2.1, by rw [t9.2.2.2.1]; exact t6F.2.2.1, by rw [t9.2.2.2.1]; exact t6F.2.2.2.1⟩, hg01, hg2, fun q hq => ⟨?_, (hvec q hq).2⟩, fun q hq => ?_, hcu, c, c1, c2, fun i hi => ?_⟩
    · rw [t9.2.2.2.2.1, t8a]; unfold va_cpy; rw [if_pos ⟨by omega, by omega⟩, Nat.zero_add, Nat.sub_zero]; exact (hvec q hq).1
    · rw [t9.2.2.2.2.1, t8b]; unfold va_cpy; rw [if_pos ⟨by omega, by omega⟩, Nat.zero_add, Nat.sub_zero]; exact hcur q hq
    · obtain ⟨r, r1, r2, r3⟩ := c3 i hi
      exact ⟨r, r1, r2, by rw [t9O, x1 i hi]; exact r3⟩
  have hLf9 : fLy T9 f wa ta := by unfold fLy; simp only [t9.1, t9.2.1, t9.2.2.1]; exact hLf
  have s8 : kF T9 s 8 = Int32.ofNat ((List.range (frL M g).length).filter (fun i => decide (g (32 + i) ≠ 0))).length := by rw [t9.2.2.2.1, t6o s hsf]; exact y3
  have cle : ((List.range (frL M g).length).filter (fun i => decide (g (32 + i) ≠ 0))).length ≤ 556 := Nat.le_trans (List.length_filter_le _ _) (by rw [List.length_range]; exact hlen)
  have k39 : kK T9 f = 3 := by rw [t9.1]; exact l1
  have k3s : kK T9 s = 3 := by rw [t9.1]; exact m1
  rw [fk_2_copyFrom_73, ckk_y k39, t9.2.2.2.1, t6F.2.2.2.1, c2, if_pos (Int32.le_refl _), ckk_y k3s, s8]
  unfold fk_2_copyFrom_135
  by_cases c0 : ((List.range (frL M g).length).filter (fun i => decide (g (32 + i) ≠ 0))).length = 0
  · rw [if_pos (show Int32.ofNat _ ≤ 0 by rw [c0]; decide)]
    have all0 : ∀ i, i < (frL M g).length → g (32 + i) = 0 := fun i hi => by
      have := cnt_0 c0 i hi
      have := of_decide_eq_false this
      exact Decidable.not_not.mp this
    refine ⟨T9, wa, ta, rfl, hLf9, hCo9, ⟨y1, y2, ?_, Or.inl ⟨?_, all0⟩⟩, cSm_mono t9s (fun a ha => ⟨ha.2.1, ha.2.2.1, ha.2.2.2.1, ha.2.2.2.2.1⟩), by rw [t9.2.2.2.2.2.1]; exact Nat.le_refl _, t9.2.2.2.2.2.2, Or.inl rfl, Or.inl rfl, by rw [t9.2.2.2.2.2.1]; exact hz.2.1, by rw [t9.2.2.2.2.2.1]; exact hz.2.2⟩
    · rw [t9.2.2.2.1, t6F.2.2.2.2.2, c0]; rfl
    · rw [t9.2.2.2.1]; exact t6F.2.2.2.2.1
  · rw [if_neg (jI_p (by omega) (by omega)), ckk_y k39]
    -- written, then bent alike
    let g0 : Nat → Int32 := fun i => if i < 32 then g i else 0
    have hg0 : ∀ q, q < 32 → g0 q = g q := fun q hq => if_pos hq
    have hg1 : ∀ q, g0 (32 + q) = 0 := fun q => if_neg (by omega)
    have hfr : frL M g0 = frL M g := frL_32 hg0 c1 c2
    have hBy0 : fBy T9 M f wa ta g0 := by
      unfold fBy
      rw [hfr]
      refine ⟨fun i h1 h2 => if_neg (by omega), fun i hi => ⟨0, by decide, hg1 i⟩, ?_, Or.inl ⟨by rw [t9.2.2.2.1]; exact t6F.2.2.2.2.1, fun i _ => hg1 i⟩⟩
      rw [t9.2.2.2.1, t6F.2.2.2.2.2, cnt_z (fun i _ => by show decide (g0 (32 + i) ≠ 0) = false; rw [hg1]; decide)]; rfl
    obtain ⟨S3, wa', ta', w1, w2, w3, w4, w5, w6, w7, w8, w9, w10, w11, w12, w13, w14⟩ := k_write (sl := sl) (ch := ch) hLf9 (fCo_32 hg0 hCo9) hBy0 (by rw [t9.2.2.2.2.2.1]; exact hz) hsep (fun r hr => by
      have n1 := hne (ra r) (Or.inr (Or.inr (Or.inr (Or.inr (Or.inr (Or.inr ⟨r, hr, Or.inl rfl⟩))))))
      obtain ⟨q1, q2, q3, q4, q5, va, v1, v2, v3, v4, v5⟩ := hrow r hr
      have n2 := hne va (Or.inr (Or.inr (Or.inr (Or.inr (Or.inr (Or.inr ⟨r, hr, Or.inr v1⟩))))))
      have da := t9s (ra r) ⟨n1.2.1, n1.2.2.1, n1.2.2.2.1, n1.2.2.2.2.1⟩
      have dv := t9s va ⟨n2.2.1, n2.2.2.1, n2.2.2.2.1, n2.2.2.2.2.1⟩
      refine ⟨⟨by rw [da.1]; exact q1, by rw [da.2.2.1]; exact q2, by rw [da.2.2.1]; exact q3, by rw [da.2.2.1]; exact q4, by rw [da.2.2.1]; exact q5, va, v1, by rw [da.2.2.2.1]; exact v2, by rw [dv.1]; exact v3, by rw [dv.2.1]; exact v4, by rw [dv.2.2.2.2.1]; exact v5⟩, by rw [t9.2.2.2.2.2.1]; exact n1.1, n1.2.1, n1.2.2.2.2.2.1, n1.2.2.1, by have := n2.2.2.2.2.2.1; omega⟩)
    rw [hfr] at w5
    rw [t9.2.2.2.2.2.1] at w7 w8 w10 w11
    rcases y4 with ⟨-, q2⟩ | ⟨q1, q2, q3, q4⟩
    · exact absurd (cnt_z (fun i hi => by show decide (g (32 + i) ≠ 0) = false; rw [q2 i hi]; decide)) c0
    have lts : kL S ts = 560 := by
      rcases m16 with ⟨e1, e2⟩ | ⟨e1, e2⟩
      · rw [q2] at e1; cases e1
      · exact e2
    have zs := (hne s (by omega)).1
    have zts := (hne ts (by omega)).1
    have ds := w7 s ⟨zs, ns.1, ns.2.2.2.2.1, ns.2.2.2.2.2⟩
    have dts := w7 ts ⟨zts, nts.1, nts.2.2.2.2.1, nts.2.2.2.2.2⟩
    have e3 : kK S3 f = 3 := w2.1.1
    have es3 : kK S3 s = 3 := by rw [ds.1]; exact k3s
    have eR : kR S3 s 10 = some ts := by rw [ds.2.2.2.1, t9.2.2.1]; exact m6
    have ekt : kK S3 ts = 21 := by rw [dts.1, t9.1]; exact m14
    have elt : kL S3 ts = 560 := by rw [dts.2.1, t9.2.1]; exact lts
    have eks : ∀ i, kI S3 ts i = kI S ts i := fun i => by rw [dts.2.2.2.2.1, t9.2.2.2.2.1, t8c ts nts.2.1 nts.2.2.1]
    have lta : kL S3 ta' = 560 := by
      obtain ⟨-, -, -, -, -, q⟩ := w2
      rcases q with ⟨e1, e2⟩ | ⟨e1, e2⟩
      · rw [w6] at e1; cases e1
      · exact e2
    have hN : Int32.toNatClampNeg (Int32.ofNat (frL M g).length) = (frL M g).length := jI_cl (by omega)
    rw [w1, bd_s, ckk_y es3, eR, bd_s, ckk_y e3, w2.1.2.2.2.2.2, bd_s, ckk_y e3, w5, ckk_y ekt, ckk_y w2.2.2.2.1, hN, elt, lta, ckp_y ⟨⟨by decide, by decide, jI_nn (by omega)⟩, by show 0 + _ ≤ 560; omega, by show 0 + _ ≤ 560; omega⟩, ckp_y (fun i hi => by
      show Jvm.fits .byte (.int (kI S3 ts (0 + i))) = true
      rw [Nat.zero_add, eks, q4 i hi]; exact fit8 _), lt_d]
    have eC : cCp S3 ts (Int32.toNatClampNeg 0) ta' (Int32.toNatClampNeg 0) (frL M g).length = sI S3 ta' (va_cpy (kI S3 ts) (kI S3 ta') 0 0 (frL M g).length) := rfl
    rw [eC]
    generalize hT5 : sI S3 ta' (va_cpy (kI S3 ts) (kI S3 ta') 0 0 (frL M g).length) = T5
    have t5 : (∀ a, kK T5 a = kK S3 a) ∧ (∀ a, kL T5 a = kL S3 a) ∧ (∀ a, kR T5 a = kR S3 a) ∧ (∀ a, kF T5 a = kF S3 a) ∧ (∀ a, kO T5 a = kO S3 a) ∧ kZ T5 = kZ S3 ∧ ∀ i, kT T5 i = kT S3 i := by
      rw [← hT5]; exact ⟨fun _ => rfl, fun _ => rfl, fun _ => rfl, fun _ => rfl, fun _ => rfl, rfl, fun _ => rfl⟩
    have t5I : kI T5 ta' = va_cpy (kI S3 ts) (kI S3 ta') 0 0 (frL M g).length := by rw [← hT5, kI_sI]
    have t5o : ∀ a, a ≠ ta' → kI T5 a = kI S3 a := fun a ha => by rw [← hT5, kI_sIo _ _ ha]
    have s8' : kF T5 s 8 = Int32.ofNat ((List.range (frL M g).length).filter (fun i => decide (g (32 + i) ≠ 0))).length := by rw [t5.2.2.2.1, ds.2.2.1]; exact s8
    rw [ckk_y (by rw [t5.1]; exact es3), ckk_y (by rw [t5.1]; exact e3), s8', lt_d]
    generalize hK8 : Int32.ofNat ((List.range (frL M g).length).filter (fun i => decide (g (32 + i) ≠ 0))).length = K8
    have wsep : wa' < f ∨ f + 4 ≤ wa' := by
      rcases w10 with e | e
      · rw [e]; exact hsep.1
      · omega
    have tsep : ta' < f ∨ f + 4 ≤ ta' := by
      rcases w11 with e | e
      · rw [e]; exact hsep.2
      · omega
    have wtne := w2.2.2.2.2.1
    refine ⟨cPi T5 f 8 K8, wa', ta', rfl, ?_, ?_, ?_, fun a ha => ?_, ?_, fun i => ?_, w10, w11, ?_, ?_⟩
    · have : fLy T5 f wa' ta' := by unfold fLy; simp only [t5.1, t5.2.1, t5.2.2.1]; exact w2
      exact this
    · refine fCo_x (fun _ _ _ => rfl) (Nat.le_refl _) (fun k h1 h2 => ?_) ?_ ?_ ?_ (fCo_32 (fun q hq => (hg0 q hq).symm) w3)
      · rw [kF_cPo _ _ (by omega), t5.2.2.2.1]
      · show kI T5 (f + 1) = _; exact t5o _ (by omega)
      · show kI T5 (f + 2) = _; exact t5o _ (by omega)
      · show kO T5 (f + 3) = _; rw [t5.2.2.2.2.1]
    · refine ⟨y1, y2, by rw [kF_cPi, hK8], Or.inr ⟨?_, ?_, fun i hi => ?_, fun i hi => ?_⟩⟩
      · rw [kF_cPo _ _ (by omega), t5.2.2.2.1]; exact w5
      · show kL T5 wa' = 560; rw [t5.2.1]; exact w6
      · show kI T5 wa' i = _
        rw [t5o _ wtne]
        obtain ⟨-, -, -, q⟩ := w4
        rw [hfr] at q
        rcases q with ⟨e1, -⟩ | ⟨-, -, e3, -⟩
        · rw [w5] at e1
          have hp := frL_pos M g
          have := (jI_inj (b := 0) (by omega) (by decide)).mp e1
          omega
        · exact e3 i hi
      · show kI T5 ta' i = _
        rw [t5I]; unfold va_cpy; rw [if_pos ⟨by omega, by omega⟩, Nat.zero_add, Nat.sub_zero, eks]; exact q4 i hi
    · have h1 := t9s a ⟨ha.2.1, ha.2.2.1, ha.2.2.2.1, ha.2.2.2.2.1⟩
      have h2 := w7 a ⟨ha.1, ha.2.1, ha.2.2.2.2.2.1, ha.2.2.2.2.2.2⟩
      have hat : a ≠ ta' := by
        rcases w11 with e | e
        · rw [e]; exact ha.2.2.2.2.2.2
        · have := ha.1; omega
      exact ⟨(t5.1 a).trans (h2.1.trans h1.1), (t5.2.1 a).trans (h2.2.1.trans h1.2.1), by rw [fPo _ _ _ ha.2.1, t5.2.2.2.1, h2.2.2.1, h1.2.2.1], (t5.2.2.1 a).trans (h2.2.2.2.1.trans h1.2.2.2.1), by show kI T5 a = _; rw [t5o a hat, h2.2.2.2.2.1, h1.2.2.2.2.1], (t5.2.2.2.2.1 a).trans (h2.2.2.2.2.2.trans h1.2.2.2.2.2)⟩
    · show kZ S ≤ kZ T5; rw [t5.2.2.2.2.2.1]; exact w8
    · show kT T5 i = _; rw [t5.2.2.2.2.2.2, w9, t9.2.2.2.2.2.2]
    · show wa' < kZ T5; rw [t5.2.2.2.2.2.1]; exact w12
    · show ta' < kZ T5; rw [t5.2.2.2.2.2.1]; exact w13
theorem m_twice32 {v w : Nat} (hv : v < w) (hw : w < 60) (h42 : M.1 42 = Int32.ofNat w) : ∃ B, fm_twice_32 mFU M (Int32.ofNat v) 0 = some (1, pu B 42 (Int32.ofNat (w + 1))) ∧ mEx (fun k => k = 46) M B ∧ (∀ c, c < 640 → B.2 46 (640 * w + c) = M.2 46 (640 * v + c)) ∧ ∀ q, (q < 640 * w ∨ 640 * w + 640 ≤ q) → B.2 46 q = M.2 46 q := by
  have loop : ∀ (j i fu : Nat) (B : mSt), i + j = 640 → j < fu → mEx (fun k => k = 46) M B → (∀ c, c < i → B.2 46 (640 * w + c) = M.2 46 (640 * v + c)) → (∀ q, (q < 640 * w ∨ 640 * w + 640 ≤ q) → B.2 46 q = M.2 46 q) → ∃ C, fm_twice_32 fu B (Int32.ofNat v) (Int32.ofNat i) = some (1, pu C 42 (Int32.ofNat (w + 1))) ∧ mEx (fun k => k = 46) M C ∧ (∀ c, c < 640 → C.2 46 (640 * w + c) = M.2 46 (640 * v + c)) ∧ ∀ q, (q < 640 * w ∨ 640 * w + 640 ≤ q) → C.2 46 q = M.2 46 q := by
    intro j
    induction j with
    | zero =>
      intro i fu B hi hf eB h1 h2
      obtain ⟨fu, rfl⟩ : ∃ q, fu = q + 1 := ⟨fu - 1, by omega⟩
      have e : i = 640 := by omega
      subst e
      rw [fm_twice_32, if_pos (show (640 : Int32) ≤ Int32.ofNat 640 by decide), (eB 42 (by decide)).1, h42, show Int32.ofNat w + 1 = Int32.ofNat (w + 1) from jI_add _ 1, lt_d, ckz_1]
      exact ⟨B, rfl, eB, h1, h2⟩
    | succ j ih =>
      intro i fu B hi hf eB h1 h2
      obtain ⟨fu, rfl⟩ : ∃ q, fu = q + 1 := ⟨fu - 1, by omega⟩
      rw [fm_twice_32, if_neg (jK 640 640 rfl (by omega) (by decide)), (eB 42 (by decide)).1, h42, show (640 : Int32) = Int32.ofNat 640 from rfl, jI_mul, jI_mul, jI_add, jI_add, ck_n (by omega) (by omega), ck_n (by omega) (by omega), rd_n _ _ (by omega), h2 _ (by omega), lt_d, lt_d, show Int32.ofNat i + 1 = Int32.ofNat (i + 1) from jI_add _ 1]
      refine ih (i + 1) fu _ (by omega) (by omega) (mEx_trans eB (mEx_wr (W := fun k => k = 46) rfl _ _)) (fun c hc => ?_) (fun q hq => ?_)
      · rw [wr_s _ _ (by omega)]
        by_cases e : c = i
        · subst e; rw [upd_s]
        · rw [upd_o _ _ (by omega)]; exact h1 c (by omega)
      · rw [wr_s _ _ (by omega), upd_o _ _ (by omega)]; exact h2 q hq
  exact loop 640 0 mFU M rfl (by decide) (mEx_refl _ _) (fun c hc => absurd hc (by omega)) (fun _ _ => rfl)
end V
