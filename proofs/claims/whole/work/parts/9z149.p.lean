-- part 149: the walk that makes rows
section V
variable {S S' : cSt} {C M' A : mSt} {mkO : Nat → Option Nat} {Wt : Nat → List Nat} {fa : Nat → Nat} {x0 n k j0 tb : Nat} {rr tt : Nat → Nat} {X Y : List Int32} {o p : Int32}
/-- an insert on the walk, in the class -/
theorem k_insC {last : Int32} (h : jwI x0 k n j0 o p mkO Wt fa tb rr tt X Y S C last) (hn : n < 4) {j v7 a : Nat} (hj : j < Y.length) {S18 : cSt} (hmk : fk_7_make (cPi (cPi (cPi S (x0 + 19) 0 9) (x0 + 19) 4 Y[j]) (x0 + 19) 5 last) (sN x0 n) (x0 + 19) = some (some a, S18)) (ha : kK S18 a = 9) (K : cSt → Int32 → Int32 → Int32 → Option cSt) :
    (ckk S x0 12 (bd (kR S x0 6) fun a9 => ckk S a9 2 (lt (cPi S a9 0 (9 : Int32)) fun S10 => ckk S10 x0 12 (bd (kR S10 x0 6) fun a11 => ckk S10 x0 12 (bd (kR S10 x0 0) fun a12 => ckk S10 a12 4 (bd (kR S10 a12 0) fun a13 => ckk S10 a13 22 (ck (Int32.ofNat j) (kL S10 a13) (ckk S10 a11 2 (lt (cPi S10 a11 4 (kI S10 a13 (Int32.toNatClampNeg (Int32.ofNat j)))) fun S14 => ckk S14 x0 12 (bd (kR S14 x0 6) fun a15 => ckk S14 a15 2 (lt (cPi S14 a15 5 last) fun S16 => ckk S16 x0 12 (bd (kR S16 x0 6) fun a17 => ckk S16 (sN x0 n) 8 (bd (fk_7_make S16 (sN x0 n) a17) fun q_o19 => lt q_o19.1 fun o19 => lt q_o19.2 fun S18 => bd o19 fun a20 => ckk S18 a20 9 (lt (kF S18 a20 11) fun x21 => lt (Int32.ofNat j + (1 : Int32)) fun x22 => lt (Int32.ofNat v7 + (1 : Int32)) fun x23 => K S18 x22 x21 x23)))))))))))))) = K S18 (Int32.ofNat (j + 1)) (kF S18 a 11) (Int32.ofNat (v7 + 1)) := by
  obtain ⟨ra, sl, L, ro, h1, h2, -⟩ := h
  obtain ⟨hc, hh, hkd, -⟩ := h1
  obtain ⟨-, ⟨-, -, -, -, c5, c6⟩, ⟨-, b2', -⟩, -, d', -⟩ := h2
  have k12 := hh.1.1
  have r6 := hh.1.2.2.2.2.2.2.2.1
  have r0 := hh.1.2.1
  have k2 := hh.2.2.2.1.1
  have k4 := hkd.1.1
  have t0 := hkd.1.2.1
  have k8 : kK S (sN x0 n) = 8 := (hc.2.2.1 n hn).1.2.1.1.1.1
  have a1 : kK (cPi S (x0 + 19) 0 9) x0 = 12 := k12
  have a2 : kR (cPi S (x0 + 19) 0 9) x0 6 = some (x0 + 19) := r6
  have a3 : kR (cPi S (x0 + 19) 0 9) x0 0 = some (x0 + 1) := r0
  have a4 : kK (cPi S (x0 + 19) 0 9) (x0 + 1) = 4 := k4
  have a5 : kR (cPi S (x0 + 19) 0 9) (x0 + 1) 0 = some (x0 + 2) := t0
  have a6 : kK (cPi S (x0 + 19) 0 9) (x0 + 2) = 22 := c5
  have a7 : kL (cPi S (x0 + 19) 0 9) (x0 + 2) = 40 := c6
  have a8 : kI (cPi S (x0 + 19) 0 9) (x0 + 2) j = Y[j] := d' j hj
  have a9 : kK (cPi S (x0 + 19) 0 9) (x0 + 19) = 2 := k2
  have b1 : kK (cPi (cPi S (x0 + 19) 0 9) (x0 + 19) 4 Y[j]) x0 = 12 := k12
  have b2 : kR (cPi (cPi S (x0 + 19) 0 9) (x0 + 19) 4 Y[j]) x0 6 = some (x0 + 19) := r6
  have b3 : kK (cPi (cPi S (x0 + 19) 0 9) (x0 + 19) 4 Y[j]) (x0 + 19) = 2 := k2
  have e1 : kK (cPi (cPi (cPi S (x0 + 19) 0 9) (x0 + 19) 4 Y[j]) (x0 + 19) 5 last) x0 = 12 := k12
  have e2 : kR (cPi (cPi (cPi S (x0 + 19) 0 9) (x0 + 19) 4 Y[j]) (x0 + 19) 5 last) x0 6 = some (x0 + 19) := r6
  have e3 : kK (cPi (cPi (cPi S (x0 + 19) 0 9) (x0 + 19) 4 Y[j]) (x0 + 19) 5 last) (sN x0 n) = 8 := k8
  rw [ckk_y k12, r6, bd_s, ckk_y k2, lt_d, ckk_y a1, a2, bd_s, ckk_y a1, a3, bd_s, ckk_y a4, a5, bd_s, ckk_y a6, a7, ck_n (by omega) (by omega), ckk_y a9, jI_cl (by omega), a8, lt_d, ckk_y b1, b2, bd_s, ckk_y b3, lt_d, ckk_y e1, e2, bd_s, ckk_y e3, hmk, bd_s, lt_d, lt_d, bd_s, ckk_y ha, lt_d, lt_d, lt_d, show Int32.ofNat j + 1 = Int32.ofNat (j + 1) from jI_add _ 1, show Int32.ofNat v7 + 1 = Int32.ofNat (v7 + 1) from jI_add _ 1]
/-- an erasure on the walk, in the class -/
theorem k_delC {last : Int32} (h : jwI x0 k n j0 o p mkO Wt fa tb rr tt X Y S C last) (hn : n < 4) {i v7 a : Nat} (hi : i < X.length) {S18 : cSt} (hmk : fk_7_make (cPi (cPi (cPi S (x0 + 19) 0 10) (x0 + 19) 4 0) (x0 + 19) 5 (Int32.ofNat (rNm (tt i)))) (sN x0 n) (x0 + 19) = some (some a, S18)) (K : cSt → Int32 → Int32 → Option cSt) :
    (ckk S x0 12 (bd (kR S x0 6) fun a44 => ckk S a44 2 (lt (cPi S a44 0 (10 : Int32)) fun S45 => ckk S45 x0 12 (bd (kR S45 x0 6) fun a46 => ckk S45 a46 2 (lt (cPi S45 a46 4 (0 : Int32)) fun S47 => ckk S47 x0 12 (bd (kR S47 x0 6) fun a48 => ckk S47 x0 12 (bd (kR S47 x0 5) fun a49 => ckk S47 a49 10 (bd (kR S47 a49 0) fun a50 => ckk S47 a50 30 (ck (Int32.ofNat i) (kL S47 a50) (lt (kO S47 a50 (Int32.toNatClampNeg (Int32.ofNat i))) fun o51 => bd o51 fun a52 => ckk S47 a52 9 (ckk S47 a48 2 (lt (cPi S47 a48 5 (kF S47 a52 11)) fun S53 => ckk S53 x0 12 (bd (kR S53 x0 6) fun a54 => ckk S53 (sN x0 n) 8 (bd (fk_7_make S53 (sN x0 n) a54) fun q_o56 => lt q_o56.1 fun o56 => lt q_o56.2 fun S55 => lt (Int32.ofNat i + (1 : Int32)) fun x57 => lt (Int32.ofNat v7 + (1 : Int32)) fun x58 => K S55 x57 x58)))))))))))))) = K S18 (Int32.ofNat (i + 1)) (Int32.ofNat (v7 + 1)) := by
  obtain ⟨ra, sl, L, ro, h1, h2, -, -, -, h6, -⟩ := h
  obtain ⟨hc, hh, hkd, -⟩ := h1
  obtain ⟨⟨g1, g2, -⟩, ⟨c1, c2, -⟩, ⟨b1', -, -⟩, d, -⟩ := h2
  obtain ⟨u1, u2, -⟩ := d i hi
  obtain ⟨u3, u4, -⟩ := h6 i hi
  have k12 := hh.1.1
  have r6 := hh.1.2.2.2.2.2.2.2.1
  have r5 := hh.1.2.2.2.2.2.2.1
  have k2 := hh.2.2.2.1.1
  have k8 : kK S (sN x0 n) = 8 := (hc.2.2.1 n hn).1.2.1.1.1.1
  have a1 : kK (cPi S (x0 + 19) 0 10) x0 = 12 := k12
  have a2 : kR (cPi S (x0 + 19) 0 10) x0 6 = some (x0 + 19) := r6
  have a9 : kK (cPi S (x0 + 19) 0 10) (x0 + 19) = 2 := k2
  have b1 : kK (cPi (cPi S (x0 + 19) 0 10) (x0 + 19) 4 0) x0 = 12 := k12
  have b2 : kR (cPi (cPi S (x0 + 19) 0 10) (x0 + 19) 4 0) x0 6 = some (x0 + 19) := r6
  have b3 : kR (cPi (cPi S (x0 + 19) 0 10) (x0 + 19) 4 0) x0 5 = some (x0 + 13) := r5
  have b4 : kK (cPi (cPi S (x0 + 19) 0 10) (x0 + 19) 4 0) (x0 + 13) = 10 := g1
  have b5 : kR (cPi (cPi S (x0 + 19) 0 10) (x0 + 19) 4 0) (x0 + 13) 0 = some (x0 + 13 + 1) := g2
  have b6 : kK (cPi (cPi S (x0 + 19) 0 10) (x0 + 19) 4 0) (x0 + 13 + 1) = 30 := c1
  have b7 : kL (cPi (cPi S (x0 + 19) 0 10) (x0 + 19) 4 0) (x0 + 13 + 1) = 1000 := c2
  have b8 : kO (cPi (cPi S (x0 + 19) 0 10) (x0 + 19) 4 0) (x0 + 13 + 1) i = some (rr i) := u1
  have b9 : kK (cPi (cPi S (x0 + 19) 0 10) (x0 + 19) 4 0) (rr i) = 9 := u2
  have b10 : kK (cPi (cPi S (x0 + 19) 0 10) (x0 + 19) 4 0) (x0 + 19) = 2 := k2
  have b11 : kF (cPi (cPi S (x0 + 19) 0 10) (x0 + 19) 4 0) (rr i) 11 = Int32.ofNat (rNm (tt i)) := by rw [fPo _ _ _ (by omega), fPo _ _ _ (by omega)]; exact u3
  have e1 : kK (cPi (cPi (cPi S (x0 + 19) 0 10) (x0 + 19) 4 0) (x0 + 19) 5 (Int32.ofNat (rNm (tt i)))) x0 = 12 := k12
  have e2 : kR (cPi (cPi (cPi S (x0 + 19) 0 10) (x0 + 19) 4 0) (x0 + 19) 5 (Int32.ofNat (rNm (tt i)))) x0 6 = some (x0 + 19) := r6
  have e3 : kK (cPi (cPi (cPi S (x0 + 19) 0 10) (x0 + 19) 4 0) (x0 + 19) 5 (Int32.ofNat (rNm (tt i)))) (sN x0 n) = 8 := k8
  rw [ckk_y k12, r6, bd_s, ckk_y k2, lt_d, ckk_y a1, a2, bd_s, ckk_y a9, lt_d, ckk_y b1, b2, bd_s, ckk_y b1, b3, bd_s, ckk_y b4, b5, bd_s, ckk_y b6, b7, ck_n (by omega) (by omega), lt_d, jI_cl (by omega), b8, bd_s, ckk_y b9, ckk_y b10, b11, lt_d, ckk_y e1, e2, bd_s, ckk_y e3, hmk, bd_s, lt_d, lt_d, lt_d, lt_d, show Int32.ofNat i + 1 = Int32.ofNat (i + 1) from jI_add _ 1, show Int32.ofNat v7 + 1 = Int32.ofNat (v7 + 1) from jI_add _ 1]
theorem walk_both (hk : k < 900) (hn : n < 4) : ∀ (d i j fu1 fu2 v7 cnt : Nat) (S : cSt) (C : mSt) (last : Int32), (X.length - i) + (Y.length - j) = d → i ≤ X.length → j ≤ Y.length → d < fu1 → d < fu2 → v7 ≤ i + j → jwI x0 k n j0 o p mkO Wt fa tb rr tt X Y S C last → mdN C n + (d - 2 * cmn X Y i j) ≤ 250 → ∃ S' C', fk_11_carryOver_22 fu1 S x0 (sN x0 n) (Int32.ofNat Y.length) (Int32.ofNat i) (Int32.ofNat j) last (Int32.ofNat (X.length + Y.length)) (Int32.ofNat v7) = some S' ∧ fm_walk_12 fu2 C (Int32.ofNat n) o p (Int32.ofNat X.length) (Int32.ofNat Y.length) 1 (Int32.ofNat cnt) (Int32.ofNat i) (Int32.ofNat j) last = some (Int32.ofNat (cnt + (d - 2 * cmn X Y i j)), C') ∧ Inv x0 k S' C' := by
  intro d
  induction d using Nat.strongRecOn with
  | ind d ih =>
    intro i j fu1 fu2 v7 cnt S C last hd hi hj hf1 hf2 hv h hm
    obtain ⟨fu1, rfl⟩ : ∃ q, fu1 = q + 1 := ⟨fu1 - 1, by omega⟩
    obtain ⟨fu2, rfl⟩ : ∃ q, fu2 = q + 1 := ⟨fu2 - 1, by omega⟩
    obtain ⟨ra, sl, L, ro, h1, h2, h3, -, h5, h6, -⟩ := id h
    obtain ⟨⟨hX, hY⟩, -⟩ := id h5
    obtain ⟨hc, hh, hkd, -⟩ := id h1
    have k12 := hh.1.1
    have r5 := hh.1.2.2.2.2.2.2.1
    obtain ⟨⟨g1, g2, g3, g4, g5, g6⟩, ⟨c1, c2, -⟩, -, dr, -⟩ := id h2
    have si : Int32.ofNat i + 1 = Int32.ofNat (i + 1) := jI_add _ 1
    have sj : Int32.ofNat j + 1 = Int32.ofNat (j + 1) := jI_add _ 1
    have s7 : Int32.ofNat v7 + 1 = Int32.ofNat (v7 + 1) := jI_add _ 1
    have l0 := cmn_le X Y i j
    by_cases hij : i < X.length ∨ j < Y.length
    · have hlt : v7 < X.length + Y.length := by omega
      rw [fk_11_carryOver_22, if_neg (fun q => absurd ((jI_le (by omega) (by omega)).mp q) (by omega)), ckk_y k12, r5, bd_s, ckk_y g1, g3]
      rcases w_next hi hj hij with ⟨i1, j1, s, e⟩ | ⟨s, ⟨i1, e⟩ | ⟨j1, e1, e⟩⟩
      · -- kept
        have l2 := cmn_le X Y (i + 1) (j + 1)
        have q0 := k_cmn h2 hi hj (h3 i j hi hj)
        have q1 := k_cmn h2 (show i + 1 ≤ X.length by omega) (show j + 1 ≤ Y.length by omega) (h3 (i + 1) (j + 1) (by omega) (by omega))
        obtain ⟨u1, u2, -⟩ := dr i i1
        rw [if_pos ((jI_lt (by omega) (by omega)).mpr i1), ckk_y k12, bd_s, ckk_y g1, k_sameY h2 i1 j1, bd_s, b2_t s, if_neg n10, ckk_y k12, bd_s, ckk_y g1, q0, bd_s, ckk_y k12, bd_s, ckk_y g1, si, sj, q1, bd_s, show (1 : Int32) + Int32.ofNat (cmn X Y (i + 1) (j + 1)) = Int32.ofNat (1 + cmn X Y (i + 1) (j + 1)) from jI_add 1 _, e, if_pos rfl, ckk_y k12, bd_s, ckk_y g1, g2, bd_s, ckk_y c1, c2, ck_n (by omega) (by omega), lt_d, jI_cl (by omega), u1, bd_s, ckk_y u2, (h6 i i1).1, lt_d, lt_d, lt_d, lt_d, s7, w_keep h5 i1 j1 s]
        obtain ⟨S', C', x1, x2, x3⟩ := ih (d - 2) (by omega) (i + 1) (j + 1) fu1 fu2 (v7 + 1) cnt S C _ (by omega) (by omega) (by omega) (by omega) (by omega) (by omega) (jw_keep h i1) (by omega)
        refine ⟨S', C', x1, ?_, x3⟩
        rw [x2]; congr 3; omega
      · -- erased
        have l2 := cmn_le X Y (i + 1) j
        have q0 := k_cmn h2 hi hj (h3 i j hi hj)
        have q1 := k_cmn h2 (show i + 1 ≤ X.length by omega) hj (h3 (i + 1) j (by omega) hj)
        have hsm : fk_9_isSame S (x0 + 13) (Int32.ofNat i) (Int32.ofNat j) = some 0 := by
          by_cases j1 : j < Y.length
          · rw [k_sameY h2 i1 j1, b2_f (s i1 j1)]
          · exact k_sameN h2 hi hj (fun q => j1 q.2)
        obtain ⟨S18, C', a, r, m1, m2, m3, m4, m5, -, m6⟩ := jw_mk (v := 0) h hk hn (show mdN C n < 250 by omega) (Or.inr ⟨rfl, i, i1, rfl⟩)
        rw [if_pos ((jI_lt (by omega) (by omega)).mpr i1), ckk_y k12, bd_s, ckk_y g1, hsm, bd_s, if_pos rfl, ckk_y k12, bd_s, ckk_y g1, g3, if_neg (fun q => absurd ((jI_le (by omega) (by omega)).mp q) (by omega)), ckk_y k12, bd_s, ckk_y g1, q0, bd_s, ckk_y k12, bd_s, ckk_y g1, si, q1, bd_s, if_pos (by rw [e]), ← si, k_delC h hn i1 m1 (fun S55 x57 x58 => fk_11_carryOver_22 fu1 S55 x0 (sN x0 n) (Int32.ofNat Y.length) x57 (Int32.ofNat j) last (Int32.ofNat (X.length + Y.length)) x58), w_del h5 i1 hj s e, if_neg n10, m2, bd_s]
        obtain ⟨S', C2, x1, x2, x3⟩ := ih (d - 1) (by omega) (i + 1) j fu1 fu2 (v7 + 1) (cnt + 1) S18 C' last (by omega) (by omega) (by omega) (by omega) (by omega) (by omega) m5 (by omega)
        refine ⟨S', C2, x1, ?_, x3⟩
        dsimp only
        rw [x2]; congr 3; omega
      · -- inserted
        have l2 := cmn_le X Y i (j + 1)
        have hsm : fk_9_isSame S (x0 + 13) (Int32.ofNat i) (Int32.ofNat j) = some 0 := by
          by_cases i1 : i < X.length
          · rw [k_sameY h2 i1 j1, b2_f (s i1 j1)]
          · exact k_sameN h2 hi hj (fun q => i1 q.1)
        obtain ⟨S18, C', a, r, m1, m2, m3, m4, m5, m5', m6⟩ := jw_mk (v := Y[j]) h hk hn (show mdN C n < 250 by omega) (Or.inl ⟨rfl, rfl⟩)
        rw [w_ins h5 hi j1 s e1, if_neg n10, m2]
        obtain ⟨S', C2, x1, x2, x3⟩ := ih (d - 1) (by omega) i (j + 1) fu1 fu2 (v7 + 1) (cnt + 1) S18 C' (Int32.ofNat r) (by omega) (by omega) (by omega) (by omega) (by omega) (by omega) (m5' rfl) (by omega)
        have fin : fm_walk_12 fu2 C' (Int32.ofNat n) o p (Int32.ofNat X.length) (Int32.ofNat Y.length) 1 (Int32.ofNat (cnt + 1)) (Int32.ofNat i) (Int32.ofNat (j + 1)) (Int32.ofNat r) = some (Int32.ofNat (cnt + (d - 2 * cmn X Y i j)), C2) := by
          rw [x2]; congr 3; omega
        refine ⟨S', C2, ?_, fin, x3⟩
        by_cases i1 : i < X.length
        · have q0 := k_cmn h2 hi hj (h3 i j hi hj)
          have q1 := k_cmn h2 (show i + 1 ≤ X.length by omega) hj (h3 (i + 1) j (by omega) hj)
          have l3 := cmn_le X Y (i + 1) j
          rw [if_pos ((jI_lt (by omega) (by omega)).mpr i1), ckk_y k12, bd_s, ckk_y g1, hsm, bd_s, if_pos rfl, ckk_y k12, bd_s, ckk_y g1, g3, if_neg (fun q => absurd ((jI_le (by omega) (by omega)).mp q) (by omega)), ckk_y k12, bd_s, ckk_y g1, q0, bd_s, ckk_y k12, bd_s, ckk_y g1, si, q1, bd_s, if_neg (fun q => e1 i1 ((jI_inj (by omega) (by omega)).mp q)), k_insC h hn j1 m1 m3 (fun S38 x42 x41 x43 => fk_11_carryOver_22 fu1 S38 x0 (sN x0 n) (Int32.ofNat Y.length) (Int32.ofNat i) x42 x41 (Int32.ofNat (X.length + Y.length)) x43), m4]
          exact x1
        · rw [if_neg (fun q => i1 ((jI_lt (by omega) (by omega)).mp q)), if_neg (fun q => absurd ((jI_le (by omega) (by omega)).mp q) (by omega)), ckk_y k12, bd_s, ckk_y g1, hsm, bd_s, if_pos rfl, ckk_y k12, bd_s, ckk_y g1, g3, if_pos ((jI_le (by omega) (by omega)).mpr (by omega)), k_insC h hn j1 m1 m3 (fun S38 x42 x41 x43 => fk_11_carryOver_22 fu1 S38 x0 (sN x0 n) (Int32.ofNat Y.length) (Int32.ofNat i) x42 x41 (Int32.ofNat (X.length + Y.length)) x43), m4]
          exact x1
    · have e1 : i = X.length := by omega
      have e2 : j = Y.length := by omega
      subst e1; subst e2
      refine ⟨S, C, ?_, ?_, ⟨ra, sl, mkO, L, Wt, ro, fa, h1⟩⟩
      · rw [fk_11_carryOver_22]
        unfold fk_11_carryOver_255
        by_cases c : X.length + Y.length ≤ v7
        · rw [if_pos ((jI_le (by omega) (by omega)).mpr c)]
        · rw [if_neg (fun q => c ((jI_le (by omega) (by omega)).mp q)), ckk_y k12, r5, bd_s, ckk_y g1, g3, if_neg (fun q => Int32.lt_irrefl q), if_pos (Int32.le_refl _)]
      · rw [w_out hX hY, cmn_x (Nat.le_refl _)]
        congr 3; omega
end V
