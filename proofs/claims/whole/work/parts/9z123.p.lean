-- part 123: octet, bend
theorem xor_b {a b : Int32} (ha : a &&& 255 = a) (hb : b &&& 255 = b) : (a.toInt8.toInt32 ^^^ b.toInt8.toInt32) &&& 255 = a ^^^ b := by
  have key : ∀ p q : Int32, (p ^^^ q) &&& 255 = (p &&& 255) ^^^ (q &&& 255) := fun p q => by
    apply Int32.toBitVec_inj.mp
    simp only [Int32.toBitVec_and, Int32.toBitVec_xor]
    apply BitVec.eq_of_getLsbD_eq
    intro i hi
    simp only [BitVec.getLsbD_and, BitVec.getLsbD_xor]
    cases p.toBitVec.getLsbD i <;> cases q.toBitVec.getLsbD i <;> cases (255 : Int32).toBitVec.getLsbD i <;> rfl
  rw [key, u8_255, u8_255, ha, hb]
theorem byte_n {a : Int32} (h : a &&& 255 = a) : ∃ x, x < 256 ∧ a = Int32.ofNat x := by
  refine ⟨a.toBitVec.toNat, ?_, ?_⟩
  · have h2 : (a &&& 255).toBitVec.toNat = a.toBitVec.toNat := by rw [h]
    rw [Int32.toBitVec_and, BitVec.toNat_and, show (255 : Int32).toBitVec.toNat = 255 from by decide] at h2
    have := Nat.and_le_right (n := a.toBitVec.toNat) (m := 255)
    omega
  · apply Int32.toBitVec_inj.mp
    rw [Int32.toBitVec_ofNat']
    simp
theorem n_byte {x : Nat} (h : x < 256) : Int32.ofNat x &&& 255 = Int32.ofNat x := by
  apply Int32.toBitVec_inj.mp
  apply BitVec.eq_of_toNat_eq
  rw [Int32.toBitVec_and, BitVec.toNat_and, Int32.toBitVec_ofNat', BitVec.toNat_ofNat, show (255 : Int32).toBitVec.toNat = 2 ^ 8 - 1 from by decide, Nat.and_two_pow_sub_one_eq_mod]
  omega
theorem xor_255 {a b : Int32} (ha : a &&& 255 = a) (hb : b &&& 255 = b) : (a ^^^ b) &&& 255 = a ^^^ b := by
  have key : ∀ p q : Int32, (p ^^^ q) &&& 255 = (p &&& 255) ^^^ (q &&& 255) := fun p q => by
    apply Int32.toBitVec_inj.mp
    simp only [Int32.toBitVec_and, Int32.toBitVec_xor]
    apply BitVec.eq_of_getLsbD_eq
    intro i hi
    simp only [BitVec.getLsbD_and, BitVec.getLsbD_xor]
    cases p.toBitVec.getLsbD i <;> cases q.toBitVec.getLsbD i <;> cases (255 : Int32).toBitVec.getLsbD i <;> rfl
  rw [key, ha, hb]
theorem i8_x (a b : Int32) : (a.toInt8.toInt32 ^^^ b.toInt8.toInt32).toInt8.toInt32 = (a ^^^ b).toInt8.toInt32 := by
  rw [Int32.toInt8_xor, Int32.toInt8_xor, Int8.toInt8_toInt32, Int8.toInt8_toInt32]
theorem i8_0 {a : Int32} (h : a &&& 255 = a) : a.toInt8.toInt32 = 0 ↔ a = 0 := by
  constructor
  · intro q
    have := u8_255 a
    rw [q, h] at this
    rw [← this]; rfl
  · intro q; rw [q]; rfl
theorem nb_255 : ∀ (f : Nat) (z : Int64), ∀ x ∈ nbL f z, x &&& 255 = x := by
  intro f
  induction f with
  | zero => intro z x hx; cases hx
  | succ f ih =>
    intro z x hx
    rw [nbL] at hx
    by_cases c : lg_cmp z 127 ≤ 0
    · rw [if_pos c] at hx; rw [List.mem_singleton.mp hx]; exact and255 _
    · rw [if_neg c] at hx
      rcases List.mem_cons.mp hx with e | e
      · rw [e]; exact and255 _
      · exact ih _ x e
theorem num_255 (v x : Int32) (h : x ∈ numL v) : x &&& 255 = x := nb_255 _ _ x h
theorem frL_255 (M : mSt) (g : Nat → Int32) : ∀ x ∈ frL M g, x &&& 255 = x := by
  have row : ∀ r, ∀ x ∈ rowL M r, x &&& 255 = x := fun r x hx => by
    unfold rowL at hx
    simp only [List.mem_append, List.mem_flatMap, List.mem_singleton] at hx
    rcases hx with (((((((e | e) | e) | e) | e) | e) | e) | e) | ⟨q, -, e⟩
    · rw [e]; exact and255 _
    all_goals exact num_255 _ x e
  intro x hx
  unfold frL bodL at hx
  simp only [List.mem_append, List.mem_flatMap, List.mem_singleton, List.mem_cons, List.not_mem_nil, or_false] at hx
  rcases hx with ((((e | ⟨q, -, e⟩) | ⟨q, -, e⟩) | e) | ⟨q, -, e⟩) | e | e
  · rw [e]; exact and255 _
  · exact num_255 _ x e
  · rcases e with e | e
    · exact num_255 _ x e
    · split at e
      · cases e
      · simp only [List.mem_append] at e
        rcases e with (e | e) | e
        all_goals exact num_255 _ x e
  · exact num_255 _ x e
  · exact row _ x e
  · rw [e]; exact and255 _
  · rw [e]; exact and255 _
theorem cnt_u {p p' : Nat → Bool} : ∀ (N j : Nat), j < N → (∀ i, i ≠ j → p' i = p i) → ((List.range N).filter p').length + (if p j then 1 else 0) = ((List.range N).filter p).length + (if p' j then 1 else 0) := by
  intro N
  induction N with
  | zero => intro j hj; omega
  | succ N ih =>
    intro j hj h
    rw [List.range_succ, List.filter_append, List.filter_append, List.length_append, List.length_append]
    by_cases e : j = N
    · subst e
      have : (List.range j).filter p' = (List.range j).filter p := List.filter_congr (fun i hi => h i (by rw [List.mem_range] at hi; omega))
      rw [this]
      cases h1 : p j <;> cases h2 : p' j <;> simp [h1, h2]
    · have := ih j (by omega) h
      have e2 : [N].filter p' = [N].filter p := by simp only [List.filter_cons, List.filter_nil, h N (fun q => e q.symm)]
      rw [e2]; omega
section V
variable {S S' : cSt} {M M' A : mSt} {ra : Nat → Nat} {sl : Nat → Int32} {mkO : Nat → Option Nat} {L Wt : Nat → List Nat} {ro ro' fa fa' : Nat → Nat} {x0 n k Bt Bt' : Nat} {l : List Nat}
theorem fCo_32 {f : Nat} {g g' : Nat → Int32} (hg : ∀ c, c < 32 → g' c = g c) (h : fCo S M ra mkO Bt f g) : fCo S M ra mkO Bt f g' := by
  obtain ⟨a1, a2, a3, a4, a5, a6, c, c1, c2, c3⟩ := h
  refine ⟨by rw [hg 0 (by decide), hg 1 (by decide), hg 2 (by decide), hg 3 (by decide)]; exact a1, by rw [hg 0 (by decide), hg 1 (by decide)]; exact a2, by rw [hg 2 (by decide)]; exact a3, fun q hq => by rw [hg _ (by omega)]; exact a4 q hq, fun c hc => by rw [hg _ (by omega)]; exact a5 c hc, fun m hm => by rw [hg _ (by omega), hg _ (by omega), hg _ (by omega), hg _ (by omega)]; exact a6 m hm, c, c1, by rw [hg 3 (by decide)]; exact c2, fun i hi => ?_⟩
  rw [hg _ (by omega)]; exact c3 i hi
theorem frL_32 {g g' : Nat → Int32} (hg : ∀ c, c < 32 → g' c = g c) {c : Nat} (hc : c ≤ 8) (h3 : g 3 = Int32.ofNat c) : frL M g' = frL M g := by
  have h : bodL M g' = bodL M g := by
    unfold bodL
    rw [hg 0 (by decide), hg 1 (by decide), hg 2 (by decide), hg 3 (by decide)]
    have e1 : (List.range 4).flatMap (fun q => numL (g' (4 + q))) = (List.range 4).flatMap (fun q => numL (g (4 + q))) := flatMap_cg (fun x hx => by rw [List.mem_range] at hx; rw [hg _ (by omega)])
    have e2 : (List.range 4).flatMap (fun m => numL (g' (16 + 4 * m)) ++ if g' (16 + 4 * m) = 0 then [] else numL (g' (17 + 4 * m)) ++ numL (g' (18 + 4 * m)) ++ numL (g' (19 + 4 * m))) = (List.range 4).flatMap (fun m => numL (g (16 + 4 * m)) ++ if g (16 + 4 * m) = 0 then [] else numL (g (17 + 4 * m)) ++ numL (g (18 + 4 * m)) ++ numL (g (19 + 4 * m))) := flatMap_cg (fun x hx => by rw [List.mem_range] at hx; rw [hg _ (by omega), hg _ (by omega), hg _ (by omega), hg _ (by omega)])
    have e3 : (List.range (g 3).toNatClampNeg).flatMap (fun i => rowL M (g' (8 + i)).toNatClampNeg) = (List.range (g 3).toNatClampNeg).flatMap (fun i => rowL M (g (8 + i)).toNatClampNeg) := flatMap_cg (fun x hx => by rw [h3, jI_cl (by omega), List.mem_range] at hx; rw [hg _ (by omega)])
    rw [e1, e2, e3]
  unfold frL
  rw [h]
theorem fr_rows {f : Nat} {g : Nat → Int32} (h : fCo S M ra mkO Bt f g) : ∃ c, c ≤ 8 ∧ g 3 = Int32.ofNat c ∧ ∀ i, i < c → ∃ r, r < 1000 ∧ g (8 + i) = Int32.ofNat r := by
  obtain ⟨-, -, -, -, -, -, c, c1, c2, c3⟩ := h
  exact ⟨c, c1, c2, fun i hi => by obtain ⟨r, r1, r2, -⟩ := c3 i hi; exact ⟨r, r1.1, r2⟩⟩
theorem c_octet (hk : k + 1 < 900) : lC_octet x0 (Inv x0 k) (Inv x0 (k + 1)) := by
  intro S M v1 v2 h
  have h0 := Inv_0 h (by omega)
  unfold fk_11_octet fm_octet fk_11_octet_18 fk_11_octet_51 fm_octet_76
  rw [lt_d, m_wb]
  generalize pu M 0 0 = A at h0 ⊢
  have h1 := Inv_1 h0 hk
  obtain ⟨ra, sl, mkO, L, Wt, ro, fa, hIb⟩ := h0
  have hIb : Ib x0 k S A ra sl mkO L Wt ro fa := hIb
  obtain ⟨hc, hh, hkd, hth, htx, hro, hl, hnu⟩ := id hIb
  rw [ckk_y hh.1.1, hh.1.2.2.2.2.1, bd_s, ckk_y hl.1.1]
  by_cases hv : 0 ≤ v1 ∧ v1 ≤ A.1 42 - 1
  · obtain ⟨v, v60, rfl, i2, wa0, ta0, nf, w, w1, w2, w3, w4, y2', z1, -⟩ := k_lAtY hl hv
    obtain ⟨c, c1, c2, c3⟩ := fr_rows z1
    obtain ⟨B, b1, b2', b3⟩ := m_write v60 (mEx_refl sc A) c1 c2 c3
    obtain ⟨S', ro', wa, ta, s1, s2, s3, s4, s5, s6, -, s7, s8, -⟩ := Ib_write hIb (by omega) w1 w4 (by omega)
    have eB : mEx sc A B := mEx_mono b3 sc75
    have IB : Inv x0 (k + 1) S B := Inv_m (Inv_b hIb) hk eB
    have IB' : Inv x0 (k + 1) S' B := Inv_m (Inv_b s2) hk eB
    rw [b2_t hv, if_neg n10, i2, bd_s, cs_S, b1, bd_s, b2'.1, m_wb]
    have k3 : kK S (fa v) = 3 := y2'.1.1
    have k3' : kK S' (fa v) = 3 := s3.1.1
    by_cases c0 : (-1 : Int32) ≤ v2
    · rw [if_pos c0, ckk_y k3, s1, bd_s]
      by_cases e1 : v2 = -1
      · rw [if_pos e1, if_pos e1, ckk_y k3', s4]
        exact ⟨_, _, _, rfl, rfl, IB'⟩
      · rw [if_neg e1, if_neg e1, ckk_y k3', s4]
        by_cases hi : 0 ≤ v2 ∧ v2 ≤ Int32.ofNat (frL A (gF A v)).length - 1
        · obtain ⟨i, i1, rfl⟩ := (wiE (by omega)).mp hi
          obtain ⟨-, y2, -, y4⟩ := s7
          obtain ⟨x, x1, x2⟩ := y2 i i1
          rcases y4 with ⟨q1, -⟩ | ⟨q1, q2, q3, q4⟩
          · have hp := frL_pos A (gF A v)
            rw [s4] at q1
            have := (jI_inj (b := 0) (by omega) (by decide)).mp q1
            omega
          · have hb := frL_255 A (gF A v) _ (List.getElem_mem i1)
            rw [b2_t hi, if_neg n10, if_neg (fun q => absurd ((jI_le (by omega) (by omega)).mp q) (by omega)), ckk_y k3']
            unfold fk_2_byteNow
            have r46 : rd B 46 (Int32.ofNat (640 * v + 32 + i)) = gF A v (32 + i) := by rw [rd_e eB (by decide) (by omega), Nat.add_assoc]; rfl
            rw [ckk_y k3', s3.1.2.2.2.2.1, bd_s, ckk_y s3.2.2.1, s5, ck_n (by omega) (by omega), ckk_y k3', s3.1.2.2.2.2.2, bd_s, ckk_y s3.2.2.2.1, s6, ck_n (by omega) (by omega), bd_s, jI_cl (by omega), q3 i i1, q4 i i1, xor_b hb (by rw [x2]; exact n_byte x1), ck_n (by omega) (by omega), show (640 : Int32) = Int32.ofNat 640 from rfl, show (32 : Int32) = Int32.ofNat 32 from rfl, jI_mul, jI_add, jI_add, ck_n (by omega) (by omega), rd_n _ _ (by omega), b2'.2 i i1, r46]
            exact ⟨_, _, _, rfl, rfl, IB'⟩
        · rw [b2_f hi, if_pos rfl, if_pos]
          · exact ⟨_, _, _, rfl, rfl, IB'⟩
          · by_cases q : Int32.ofNat (frL A (gF A v)).length ≤ v2
            · exact q
            · exfalso
              have hn : ¬ v2 < 0 := fun q' => by
                have h2 := Int32.lt_iff_toInt_lt.mp q'
                have h3 := Int32.le_iff_toInt_le.mp c0
                have e3 : (-1 : Int32).toInt = -1 := by decide
                have e4 : (0 : Int32).toInt = 0 := by decide
                apply e1
                apply Int32.toInt_inj.mp
                rw [e3] at h3 ⊢
                rw [e4] at h2
                omega
              exact hi ((wiE (by omega)).mpr (wiK (by omega) hn q))
    · have e1 : ¬ v2 = -1 := fun e => c0 (by rw [e]; exact Int32.le_refl _)
      rw [if_neg c0, if_neg e1, b2_f, if_pos rfl]
      · exact ⟨_, _, _, rfl, rfl, IB⟩
      · intro q
        apply c0
        exact Int32.le_trans (by decide) q.1
  · rw [b2_f hv, if_pos rfl, k_lAtN hl hv, bd_s, cs_N]
    exact ⟨_, _, _, rfl, rfl, h1⟩
theorem fCo_x {f : Nat} {g : Nat → Int32} (r : rEq M M') (hle : Bt ≤ Bt') (e0 : ∀ k, 3 ≤ k → k ≤ 6 → kF S' f k = kF S f k) (e1 : kI S' (f + 1) = kI S (f + 1)) (e2 : kI S' (f + 2) = kI S (f + 2)) (e3 : kO S' (f + 3) = kO S (f + 3)) (h : fCo S M ra mkO Bt f g) : fCo S' M' ra mkO Bt' f g := by
  obtain ⟨a1, a2, a3, a4, a5, a6, c, c1, c2, c3⟩ := h
  refine ⟨by rw [e0 3 (by decide) (by decide), e0 4 (by decide) (by decide), e0 5 (by decide) (by decide), e0 6 (by decide) (by decide)]; exact a1, a2, a3, fun q hq => ?_, by rw [e2]; exact a5, fun m hm => cuI_r r hle (a6 m hm), c, c1, c2, fun i hi => ?_⟩
  · rw [e1, mdN_r r]; exact a4 q hq
  · rw [mde_r r, e3]; exact c3 i hi
theorem cnt_i {N N' : Nat} {o w : Bool} (h : N' + (if o then 1 else 0) = N + (if w then 1 else 0)) : Int32.ofNat N + ((if w then (1 : Int32) else 0) - (if o then 1 else 0)) = Int32.ofNat N' := by
  cases o <;> cases w
  · have : N' = N := by simpa using h
    subst this; simp
  · have : N' = N + 1 := by simpa using h
    subst this
    show Int32.ofNat N + (1 - 0) = _
    rw [show (1 : Int32) - 0 = Int32.ofNat 1 from rfl, jI_add]
  · have : N = N' + 1 := by have : N' + 1 = N := by simpa using h
                            omega
    subst this
    show Int32.ofNat (N' + 1) + (0 - 1) = _
    rw [show (0 : Int32) - 1 = -1 from by decide]; exact jPre N'
  · have : N' = N := by simpa using h
    subst this
    show Int32.ofNat N' + (1 - 1) = _
    rw [show (1 : Int32) - 1 = 0 from rfl]; simp
theorem k_twist {f wa ta i : Nat} {g : Nat → Int32} (hLy : fLy S f wa ta) (hi : i < 560) (hta : kL S ta = 560) (hf : f ≠ ta) {x v : Int32} (hx : kI S ta i = x.toInt8.toInt32) (h255 : x &&& 255 = x) (hv : v &&& 255 = v) : fk_2_twist S f (Int32.ofNat i) v = some (cPi (cWi S ta i ((x ^^^ v).toInt8.toInt32)) f 8 (kF S f 8 + ((if decide (x ^^^ v ≠ 0) then (1 : Int32) else 0) - (if decide (x ≠ 0) then 1 else 0)))) := by
  obtain ⟨⟨l1, l2, l3, l4, l5, l6⟩, -, l13, l14, l15, -⟩ := hLy
  have key : ∀ s0 : Int32, s0 = (if decide (x ≠ 0) then 1 else 0) → fk_2_twist_14 S f (Int32.ofNat i) v s0 = some (cPi (cWi S ta i ((x ^^^ v).toInt8.toInt32)) f 8 (kF S f 8 + ((if decide (x ^^^ v ≠ 0) then (1 : Int32) else 0) - s0))) := fun s0 _ => by
    have m1 : kK (cWi S ta i ((x ^^^ v).toInt8.toInt32)) f = 3 := l1
    have m2 : kR (cWi S ta i ((x ^^^ v).toInt8.toInt32)) f 10 = some ta := l6
    have m3 : kK (cWi S ta i ((x ^^^ v).toInt8.toInt32)) ta = 21 := l14
    have m4 : kL (cWi S ta i ((x ^^^ v).toInt8.toInt32)) ta = 560 := hta
    have m5 : kF (cWi S ta i ((x ^^^ v).toInt8.toInt32)) f 8 = kF S f 8 := rfl
    have m6 : kI (cWi S ta i ((x ^^^ v).toInt8.toInt32)) ta i = (x ^^^ v).toInt8.toInt32 := by rw [kI_cWi, upd_s]
    unfold fk_2_twist_14 fk_2_twist_46
    rw [ckk_y l1, l6, bd_s, ckk_y l14, hta, ck_n hi (by omega), ckk_y l14, ck_n hi (by omega), jI_cl (by omega), hx, i8_x, ckp_y (nar8 _), lt_d, ckk_y m1, ckk_y m1, m2, bd_s, ckk_y m3, m4, ck_n hi (by omega), m6, m5]
    have hz := i8_0 (xor_255 h255 hv)
    by_cases c : x ^^^ v = 0
    · rw [if_pos (hz.mpr c), ckk_y m1, lt_d, show (if decide (x ^^^ v ≠ 0) then (1 : Int32) else 0) = 0 from by simp [c]]
    · rw [if_neg (fun q => c (hz.mp q)), ckk_y m1, lt_d, show (if decide (x ^^^ v ≠ 0) then (1 : Int32) else 0) = 1 from by simp [c]]
  unfold fk_2_twist
  rw [ckk_y l1, l6, bd_s, ckk_y l14, hta, ck_n hi (by omega), jI_cl (by omega), hx]
  by_cases c : x = 0
  · have e : (if decide (x ≠ 0) then (1 : Int32) else 0) = 0 := by simp [c]
    rw [if_pos ((i8_0 h255).mpr c), key 0 e.symm, e]
  · have e : (if decide (x ≠ 0) then (1 : Int32) else 0) = 1 := by simp [c]
    rw [if_neg (fun q => c ((i8_0 h255).mp q)), key 1 e.symm, e]
theorem c_bend (hk : k + 1 < 900) : lC_bend x0 (Inv x0 k) (Inv x0 (k + 1)) := by
  intro S M v1 v2 v3 h
  have h0 := Inv_0 h (by omega)
  unfold fk_11_bend fm_bend fk_11_bend_31 fm_bend_30
  rw [lt_d, m_wb, m_wb, ckz_0, ckz_0]
  generalize pu M 0 0 = A at h0 ⊢
  have h1 := Inv_1 h0 hk
  obtain ⟨ra, sl, mkO, L, Wt, ro, fa, hIb⟩ := h0
  have hIb : Ib x0 k S A ra sl mkO L Wt ro fa := hIb
  obtain ⟨hc, hh, hkd, hth, htx, hro, hl, hnu⟩ := id hIb
  rw [ckk_y hh.1.1, hh.1.2.2.2.2.1, bd_s, ckk_y hl.1.1]
  by_cases hv : 0 ≤ v1 ∧ v1 ≤ A.1 42 - 1
  · obtain ⟨v, v60, rfl, i2, wa0, ta0, nf, w, w1, w2, w3, w4, y2', z1, -⟩ := k_lAtY hl hv
    obtain ⟨c, c1, c2, c3⟩ := fr_rows z1
    rw [b2_t hv, if_neg n10, i2, bd_s, cs_S]
    by_cases h3 : 1 ≤ v3 ∧ v3 ≤ 255
    · obtain ⟨B, b1, b2', b3⟩ := m_write v60 (mEx_refl sc A) c1 c2 c3
      obtain ⟨S', ro', wa, ta, s1, s2, s3, s4, s5, s6, s6', s7, s8, s9, s10, s11, s12, s13, s14, s15, s16, s17, s18⟩ := Ib_write hIb (by omega) w1 w4 (by omega)
      have eB : mEx sc A B := mEx_mono b3 sc75
      have k3 : kK S (fa v) = 3 := y2'.1.1
      have k3' : kK S' (fa v) = 3 := s3.1.1
      rw [b2_t h3, if_neg n10, b1, bd_s, b2'.1, m_wb]
      by_cases cn : v2 < 0
      · rw [if_pos cn, b2_f (fun q => absurd q.1 (Int32.not_le.mpr cn)), if_pos rfl]
        exact ⟨_, _, _, rfl, rfl, Inv_m (Inv_b hIb) hk eB⟩
      · rw [if_neg cn, if_neg (Int32.not_lt.mpr h3.1), if_pos h3.2, ckk_y k3, s1, bd_s, ckk_y k3', s4]
        by_cases hlt : v2 < Int32.ofNat (frL A (gF A v)).length
        · obtain ⟨i, i1, rfl⟩ := wiK (v := v2) (N := (frL A (gF A v)).length) (by omega) cn (Int32.not_le.mpr hlt)
          obtain ⟨x3, -, x4, x5⟩ := rng 1 255 (by decide) h3 (by decide)
          have hv3 : v3 &&& 255 = v3 := by rw [x5]; exact n_byte (by omega)
          obtain ⟨u1, u2, u3, u4⟩ := s7
          obtain ⟨x, x1, x2⟩ := u2 i i1
          have hx255 : gF A v (32 + i) &&& 255 = gF A v (32 + i) := by rw [x2]; exact n_byte x1
          rcases u4 with ⟨q1, -⟩ | ⟨q1, q2, q3, q4⟩
          · have hp := frL_pos A (gF A v)
            rw [s4] at q1
            have := (jI_inj (b := 0) (by omega) (by decide)).mp q1
            omega
          have r46 : rd B 46 (Int32.ofNat (640 * v + 32 + i)) = gF A v (32 + i) := by rw [rd_e eB (by decide) (by omega), Nat.add_assoc]; rfl
          have hft : fa v ≠ ta := by omega
          have htw := k_twist (g := gF A v) s3 (by omega) s6 hft (q4 i i1) hx255 hv3
          rw [if_pos hlt, ckk_y k3', htw, bd_s, ckz_1, b2_t ((wiE (by omega)).mpr ⟨i, i1, rfl⟩), if_neg n10, show (640 : Int32) = Int32.ofNat 640 from rfl, show (32 : Int32) = Int32.ofNat 32 from rfl, jI_mul, jI_add, jI_add, ck_n (by omega) (by omega), ck_n (by omega) (by omega), r46, lt_d, ckz_1]
          refine ⟨_, _, _, rfl, rfl, ?_⟩
          generalize hM2 : wr B 46 (Int32.ofNat (640 * v + 32 + i)) (gF A v (32 + i) ^^^ v3) = M2
          have f46 : ∀ q, M2.2 46 q = if q = 640 * v + 32 + i then gF A v (32 + i) ^^^ v3 else A.2 46 q := fun q => by
            rw [← hM2, wr_s _ _ (by omega), (eB 46 (by unfold sc; omega)).2]; rfl
          have eM2 : mEx (fun j => j = 46 ∨ 47 ≤ j) A M2 := by
            rw [← hM2]
            exact mEx_trans (mEx_mono eB (fun k hk => Or.inr hk)) (mEx_wr (Or.inl rfl) _ _)
          have r : rEq A M2 := fun k h1 h2 => (eM2 k (by omega)).2
          obtain ⟨hc', hh', hkd', hth', htx', hro', hl', hnu'⟩ := s2
          obtain ⟨ls, lf, nf', w', g1, g2, g3, g4, g5, g6, g7⟩ := hl'
          have ew : w' = w := by rw [g3] at w4; exact (jI_inj (by omega) (by omega)).mp w4
          subst ew
          generalize hkk : kF S' (fa v) 8 + ((if decide (gF A v (32 + i) ^^^ v3 ≠ 0) then (1 : Int32) else 0) - (if decide (gF A v (32 + i) ≠ 0) then 1 else 0)) = K8
          generalize hbb : (gF A v (32 + i) ^^^ v3).toInt8.toInt32 = bb
          have eS : cEq (fun a => a = fa v ∨ a = ta) S' (cPi (cWi S' ta i bb) (fa v) 8 K8) := cEq_trans (by rw [cWi_sI]; exact cEq_sI _ (Or.inr rfl)) (cEq_cPi _ (Or.inl rfl))
          generalize hS2 : cPi (cWi S' ta i bb) (fa v) 8 K8 = S2 at eS
          have fF : ∀ k, k ≠ 8 → kF S2 (fa v) k = kF S' (fa v) k := fun k hk => by rw [← hS2]; exact kF_cPo _ _ (fun q => hk q.2)
          have fF8 : kF S2 (fa v) 8 = K8 := by rw [← hS2]; exact kF_cPi _ _ _ _
          have fR : kR S2 (fa v) = kR S' (fa v) := by rw [← hS2]; rfl
          have fI : kI S2 ta = upd (kI S' ta) i bb := by rw [← hS2]; exact kI_cWi _ _ _ _
          have wtne := s3.2.2.2.2.1
          have e1 := eS.2.2.2.2 (fa v + 1) (by omega)
          have e2 := eS.2.2.2.2 (fa v + 2) (by omega)
          have e3 := eS.2.2.2.2 (fa v + 3) (by omega)
          have ewa := eS.2.2.2.2 wa (by omega)
          have hg32 : ∀ q, q < 32 → gF M2 v q = gF A v q := fun q hq => by
            show M2.2 46 _ = A.2 46 _
            rw [f46, if_neg (by omega)]
          have hgo : ∀ q, q ≠ 32 + i → gF M2 v q = gF A v q := fun q hq => by
            show M2.2 46 _ = A.2 46 _
            rw [f46, if_neg (by omega)]
          have hgi : gF M2 v (32 + i) = gF A v (32 + i) ^^^ v3 := by
            show M2.2 46 _ = _
            rw [f46, if_pos (by omega)]
          have hfr : frL M2 (gF M2 v) = frL A (gF A v) := by rw [frL_r r, frL_32 hg32 c1 c2]
          have hro0 : ∀ a, x0 + 133 ≤ a → ro' a ≠ fa v → ¬ (a = fa v ∨ a = ta) := fun a ha hq q => by
            rcases q with q | q
            · obtain ⟨y1, wa', ta', y2, y3, -⟩ := g7 v (by omega)
              have := y3 0 (by decide)
              rw [Nat.add_zero] at this
              exact hq (by rw [q]; exact this)
            · exact hq (by rw [q]; exact s10)
          refine Inv_b (Ib_fr (k' := k + 1) (by omega) hk hc' hh' hkd' hth' htx' hro' hnu' (mEx_mono eM2 (fun k hk => by omega)) (cSm_eq eS (fun a ha q => ?_)) (by rw [eS.2.2.1]; exact Nat.le_refl _) eS.2.2.2.1 (fun _ _ => rfl) (lnI_fr (i0 := v) ls lf g1 g2 g3 g4 g5 g6 g7 r (by omega) (by omega) (cSm_eq eS (fun a ha q => ?_)) (by rw [eS.2.2.1]; exact Nat.le_refl _) (fun _ _ => rfl) ⟨(eM2 42 (by decide)).1, (eM2 43 (by decide)).1, (eM2 44 (by decide)).1⟩ (fun i' q hi' hne hq => by rw [f46, if_neg (by omega)]) ⟨wa, ta, ?_, s9, s10, s15, by rw [eS.2.2.1]; exact s11, s16, by rw [eS.2.2.1]; exact s12, s13, s14, fun _ => ⟨?_, ?_⟩⟩))
          · rcases ha with ha | ha | ⟨a1, a2, a3⟩
            · omega
            · omega
            · exact hro0 a a1 (by omega) q
          · rcases ha with ha | ha | ⟨a1, a2, a3⟩
            · omega
            · omega
            · exact hro0 a a1 a3 q
          · unfold fLy; simp only [eS.1, eS.2.1, fR]; exact s3
          · exact fCo_x r (by omega) (fun k h1 h2 => fF k (by omega)) e1.2.2.1 e2.2.2.1 e3.2.2.2 (fCo_32 hg32 s6')
          · unfold fBy
            rw [hfr, fF 7 (by decide), fF8, fI, ewa.2.2.1, eS.2.1]
            refine ⟨fun q h1 h2 => by rw [hgo q (by omega)]; exact u1 q h1 h2, fun q hq => ?_, ?_, Or.inr ⟨q1, q2, q3, fun q hq => ?_⟩⟩
            · by_cases e : q = i
              · subst e; rw [hgi]; exact byte_n (xor_255 hx255 hv3)
              · rw [hgo _ (by omega)]; exact u2 q hq
            · rw [← hkk, u3]
              have hcnt := cnt_u (p := fun i => decide (gF A v (32 + i) ≠ 0)) (p' := fun i => decide (gF M2 v (32 + i) ≠ 0)) (frL A (gF A v)).length i i1 (fun q hq => by
                show decide (gF M2 v (32 + q) ≠ 0) = _
                rw [hgo _ (by omega)])
              have := cnt_i hcnt
              rw [← this]
              show _ = Int32.ofNat _ + ((if decide (gF M2 v (32 + i) ≠ 0) then (1 : Int32) else 0) - _)
              rw [hgi]
            · by_cases e : q = i
              · subst e; rw [upd_s, hgi, ← hbb]
              · rw [upd_o _ _ e, hgo _ (by omega)]; exact q4 q hq
        · rw [if_neg hlt, ckz_0, b2_f, if_pos rfl, ckz_0]
          · exact ⟨_, _, _, rfl, rfl, Inv_m (Inv_b s2) hk eB⟩
          · intro q
            obtain ⟨i, i1, rfl⟩ := (wiE (by omega)).mp q
            exact hlt ((jI_lt (by omega) (by omega)).mpr i1)
    · rw [b2_f h3, if_pos rfl]
      refine ⟨0, S, A, ?_, rfl, h1⟩
      by_cases cn : v2 < 0
      · rw [if_pos cn]
      · rw [if_neg cn]
        by_cases ca : v3 < 1
        · rw [if_pos ca]
        · rw [if_neg ca, if_neg (fun q => h3 ⟨Int32.not_lt.mp ca, q⟩)]
  · rw [b2_f hv, if_pos rfl, k_lAtN hl hv, bd_s, cs_N]
    exact ⟨_, _, _, rfl, rfl, h1⟩
end V
