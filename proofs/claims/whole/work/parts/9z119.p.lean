-- part 119: the reference writes a frame
def rpt : Nat → Int32 → Int32
  | 0, c => c
  | n + 1, c => rpt n (crc1 c)
section W
variable {M B : mSt} {X : List Int32} {k : Nat}
theorem sc75 : ∀ j, w75 j → sc j := fun j h => by unfold w75 at h; unfold sc; omega
theorem rgS {α : Type} (F : Nat → List α) (n : Nat) : (List.range (n + 1)).flatMap F = (List.range n).flatMap F ++ F n := by
  rw [List.range_succ, List.flatMap_append, List.flatMap_singleton]
theorem m_writeRow {r : Nat} (e : mEx sc M B) (hB : inB B X) (hr : r < 1000) (hl : X.length + 56 ≤ 640) : ∃ B', fm_writeRow B (Int32.ofNat r) = some B' ∧ inB B' (X ++ rowL M r) ∧ mEx w75 B B' := by
  have n1 := num_len (Int32.ofNat (rM r))
  have n2 := num_len (M.2 10 r)
  have n3 := num_len (M.2 11 r)
  have n4 := num_len (M.2 12 r)
  have n5 := num_len (M.2 13 r)
  have n6 := num_len (M.2 14 r)
  have n7 := num_len (M.2 15 r)
  have loop : ∀ (j i fu : Nat) (C : mSt) (Y : List Int32), i + j = 4 → j < fu → mEx w75 B C → Y.length + 20 ≤ 640 → inB C (Y ++ (List.range i).flatMap (fun q => numL (M.2 16 (4 * r + q)))) → ∃ C', fm_writeRow_88 fu C (Int32.ofNat r) (Int32.ofNat i) = some C' ∧ inB C' (Y ++ (List.range 4).flatMap (fun q => numL (M.2 16 (4 * r + q)))) ∧ mEx w75 B C' := by
    intro j
    induction j with
    | zero =>
      intro i fu C Y hi hf eC hY hC
      obtain ⟨fu, rfl⟩ : ∃ q, fu = q + 1 := ⟨fu - 1, by omega⟩
      have e4 : i = 4 := by omega
      subst e4
      rw [fm_writeRow_88, if_pos (show (4 : Int32) ≤ Int32.ofNat 4 by decide)]
      exact ⟨C, rfl, hC, eC⟩
    | succ j ih =>
      intro i fu C Y hi hf eC hY hC
      obtain ⟨fu, rfl⟩ : ∃ q, fu = q + 1 := ⟨fu - 1, by omega⟩
      have eMC : mEx sc M C := mEx_trans e (mEx_mono eC sc75)
      have hfl := fm_le (f := fun q => numL (M.2 16 (4 * r + q))) (b := 5) (List.range i) (fun x _ => num_len _)
      rw [List.length_range] at hfl
      obtain ⟨D, d1, d2, d3⟩ := m_number hC (by rw [List.length_append]; omega) (M.2 16 (4 * r + i))
      rw [fm_writeRow_88, if_neg (jK 4 4 rfl (by omega) (by decide)), show (4 : Int32) = Int32.ofNat 4 from rfl, jI_mul, jI_add, ck_n (by omega) (by omega), rd_e eMC (by decide) (by omega), d1, bd_s, lt_d, show (1 : Int32) = Int32.ofNat 1 from rfl, jI_add]
      refine ih (i + 1) fu D Y (by omega) (by omega) (mEx_trans eC d3) hY ?_
      rw [rgS, ← List.append_assoc]; exact d2
  unfold fm_writeRow
  obtain ⟨B1, b1, p1, q1⟩ := m_addOctet hB (by omega) ((32 : Int32) * Int32.ofNat (rN r) + M.2 9 r)
  have e1 : mEx sc M B1 := mEx_trans e (mEx_mono q1 sc75)
  obtain ⟨B2, b2, p2, q2⟩ := m_number p1 (by simp only [List.length_append, List.length_singleton]; omega) (Int32.ofNat (rM r))
  have e2 : mEx sc M B2 := mEx_trans e1 (mEx_mono q2 sc75)
  obtain ⟨B3, b3, p3, q3⟩ := m_number p2 (by simp only [List.length_append, List.length_singleton]; omega) (M.2 10 r)
  have e3 : mEx sc M B3 := mEx_trans e2 (mEx_mono q3 sc75)
  obtain ⟨B4, b4, p4, q4⟩ := m_number p3 (by simp only [List.length_append, List.length_singleton]; omega) (M.2 11 r)
  have e4 : mEx sc M B4 := mEx_trans e3 (mEx_mono q4 sc75)
  obtain ⟨B5, b5, p5, q5⟩ := m_number p4 (by simp only [List.length_append, List.length_singleton]; omega) (M.2 12 r)
  have e5 : mEx sc M B5 := mEx_trans e4 (mEx_mono q5 sc75)
  obtain ⟨B6, b6, p6, q6⟩ := m_number p5 (by simp only [List.length_append, List.length_singleton]; omega) (M.2 13 r)
  have e6 : mEx sc M B6 := mEx_trans e5 (mEx_mono q6 sc75)
  obtain ⟨B7, b7, p7, q7⟩ := m_number p6 (by simp only [List.length_append, List.length_singleton]; omega) (M.2 14 r)
  have e7 : mEx sc M B7 := mEx_trans e6 (mEx_mono q7 sc75)
  obtain ⟨B8, b8, p8, q8⟩ := m_number p7 (by simp only [List.length_append, List.length_singleton]; omega) (M.2 15 r)
  have eB8 : mEx w75 B B8 := mEx_trans (mEx_trans (mEx_trans (mEx_trans (mEx_trans (mEx_trans (mEx_trans q1 q2) q3) q4) q5) q6) q7) q8
  have hl8 : (X ++ [((32 : Int32) * Int32.ofNat (rN r) + M.2 9 r) &&& 255] ++ numL (Int32.ofNat (rM r)) ++ numL (M.2 10 r) ++ numL (M.2 11 r) ++ numL (M.2 12 r) ++ numL (M.2 13 r) ++ numL (M.2 14 r) ++ numL (M.2 15 r)).length + 20 ≤ 640 := by
    simp only [List.length_append, List.length_singleton]; omega
  obtain ⟨B9, b9, p9, q9⟩ := loop 4 0 mFU B8 _ rfl (by decide) eB8 hl8 (by rw [List.range_zero, List.flatMap_nil, List.append_nil]; exact p8)
  rw [m_nodeOf hr, bd_s, ck_n hr (by omega), rd_e e (by decide) (by omega), b1, bd_s, m_numberOf hr, bd_s, b2, bd_s, ck_n hr (by omega), rd_e e2 (by decide) (by omega), b3, bd_s, ck_n hr (by omega), rd_e e3 (by decide) (by omega), b4, bd_s, ck_n hr (by omega), rd_e e4 (by decide) (by omega), b5, bd_s, ck_n hr (by omega), rd_e e5 (by decide) (by omega), b6, bd_s, ck_n hr (by omega), rd_e e6 (by decide) (by omega), b7, bd_s, ck_n hr (by omega), rd_e e7 (by decide) (by omega), b8, bd_s]
  refine ⟨B9, b9, ?_, q9⟩
  unfold rowL
  simp only [List.append_assoc] at p9 ⊢
  exact p9
/-- the check of what is written -/
theorem m_crc8 {g : mSt → Int32 → Int32 → Option mSt} (v4 : Int32) : ∀ (j i fu : Nat) (c : Int32), i + j = 8 → j < fu → fm_write_224 g fu B c v4 (Int32.ofNat i) = g B (rpt j c) (v4 + 1) := by
  intro j
  induction j with
  | zero =>
    intro i fu c hi hf
    obtain ⟨fu, rfl⟩ : ∃ q, fu = q + 1 := ⟨fu - 1, by omega⟩
    have e : i = 8 := by omega
    subst e
    rw [fm_write_224, if_pos (show (8 : Int32) ≤ Int32.ofNat 8 by decide), lt_d]; rfl
  | succ j ih =>
    intro i fu c hi hf
    obtain ⟨fu, rfl⟩ : ∃ q, fu = q + 1 := ⟨fu - 1, by omega⟩
    have rep : ∀ (j : Nat) (c : Int32), rpt (j + 1) c = rpt j (crc1 c) := fun _ _ => rfl
    rw [fm_write_224, if_neg (jK 8 8 rfl (by omega) (by decide)), lt_d]
    unfold fm_write_248
    rw [lt_d, show Int32.ofNat i + 1 = Int32.ofNat (i + 1) from jI_add _ 1, rep]
    by_cases c1 : (2 : Int32) * c ≤ 65535
    · rw [if_pos c1, ih (i + 1) fu _ (by omega) (by omega)]
      unfold crc1; rw [if_pos c1]
    · rw [if_neg c1, lt_d, lt_d, ih (i + 1) fu _ (by omega) (by omega)]
      unfold crc1; rw [if_neg c1]
theorem crc8_r (c b : Int32) : crc8 c b = rpt 8 (c ^^^ (256 * b)) := by
  unfold crc8
  simp only [rpt]
theorem m_crc (hB : inB B X) (hX : X.length + 2 ≤ 640) : ∀ (j i fu : Nat) (c : Int32), i + j = X.length → j < fu → fm_write_198 fu B c (Int32.ofNat i) = (bd (fm_addOctet B ((X.drop i).foldl crc8 c >>> ((8 : Int32) &&& 31))) fun S2 => bd (fm_addOctet S2 ((X.drop i).foldl crc8 c)) fun S3 => some S3) := by
  intro j
  induction j with
  | zero =>
    intro i fu c hi hf
    obtain ⟨fu, rfl⟩ : ∃ q, fu = q + 1 := ⟨fu - 1, by omega⟩
    rw [fm_write_198, hB.1, if_pos ((jI_le (by omega) (by omega)).mpr (by omega)), List.drop_of_length_le (by omega), List.foldl_nil]
  | succ j ih =>
    intro i fu c hi hf
    obtain ⟨fu, rfl⟩ : ∃ q, fu = q + 1 := ⟨fu - 1, by omega⟩
    have hi' : i < X.length := by omega
    rw [fm_write_198, hB.1, if_neg (fun q => absurd ((jI_le (by omega) (by omega)).mp q) (by omega)), ck_n (by omega) (by omega), rd_n _ _ (by omega), hB.2 i hi', lt_d, show (0 : Int32) = Int32.ofNat 0 from rfl, m_crc8 _ 8 0 mFU _ rfl (by decide), ← crc8_r, show Int32.ofNat i + 1 = Int32.ofNat (i + 1) from jI_add _ 1, ih (i + 1) fu _ (by omega) (by omega), List.drop_eq_getElem_cons hi', List.foldl_cons]
theorem m_write (hk : k < 60) {A : mSt} (e : mEx sc M A) {c : Nat} (hc : c ≤ 8) (h3 : gF M k 3 = Int32.ofNat c) (hr : ∀ i, i < c → ∃ r, r < 1000 ∧ gF M k (8 + i) = Int32.ofNat r) : ∃ B, fm_write A (Int32.ofNat k) = some B ∧ inB B (frL M (gF M k)) ∧ mEx w75 A B := by
  have gg : ∀ i, M.2 46 (640 * k + i) = gF M k i := fun _ => rfl
  unfold fm_write
  rw [lt_d, show (640 : Int32) = Int32.ofNat 640 from rfl, jI_mul, lt_d, ck_n (by omega) (by omega), show Int32.ofNat (640 * k) + 1 = Int32.ofNat (640 * k + 1) from jI_add _ 1, show Int32.ofNat (640 * k) + 2 = Int32.ofNat (640 * k + 2) from jI_add _ 2, ck_n (by omega) (by omega), ck_n (by omega) (by omega)]
  have e0 : mEx w75 A (pu A 74 0) := mEx_pu (Or.inl rfl) _
  have eM0 : mEx sc M (pu A 74 0) := mEx_trans e (mEx_mono e0 sc75)
  have hB0 : inB (pu A 74 0) [] := ⟨pu_s _ _ _, fun i hi => absurd hi (by simp)⟩
  obtain ⟨B1, b1, p1, q1⟩ := m_addOctet hB0 (by simp) ((gF M k 0 + 4 * gF M k 1) + 16 * gF M k 2)
  have r0 := rd_e eM0 (k := 46) (i := 640 * k) (by decide) (by omega)
  have r1 := rd_e eM0 (k := 46) (i := 640 * k + 1) (by decide) (by omega)
  have r2 := rd_e eM0 (k := 46) (i := 640 * k + 2) (by decide) (by omega)
  rw [r0, r1, r2, show M.2 46 (640 * k) = gF M k 0 from rfl, gg 1, gg 2, b1, bd_s]
  have eB1 : mEx w75 A B1 := mEx_trans e0 q1
  -- the vector
  have vec : ∀ (j i fu : Nat) (C : mSt) (Y : List Int32), i + j = 4 → j < fu → mEx w75 A C → Y.length ≤ 1 → inB C (Y ++ (List.range i).flatMap (fun q => numL (gF M k (4 + q)))) → ∃ C', fm_write_46 fu C (Int32.ofNat (640 * k)) (Int32.ofNat i) = fm_write_73 mFU C' (Int32.ofNat (640 * k)) 0 ∧ inB C' (Y ++ (List.range 4).flatMap (fun q => numL (gF M k (4 + q)))) ∧ mEx w75 A C' := by
    intro j
    induction j with
    | zero =>
      intro i fu C Y hi hf eC hY hC
      obtain ⟨fu, rfl⟩ : ∃ q, fu = q + 1 := ⟨fu - 1, by omega⟩
      have e4 : i = 4 := by omega
      subst e4
      rw [fm_write_46, if_pos (show (4 : Int32) ≤ Int32.ofNat 4 by decide)]
      exact ⟨C, rfl, hC, eC⟩
    | succ j ih =>
      intro i fu C Y hi hf eC hY hC
      obtain ⟨fu, rfl⟩ : ∃ q, fu = q + 1 := ⟨fu - 1, by omega⟩
      have eMC : mEx sc M C := mEx_trans e (mEx_mono eC sc75)
      have hfl := fm_le (f := fun q => numL (gF M k (4 + q))) (b := 5) (List.range i) (fun x _ => num_len _)
      rw [List.length_range] at hfl
      obtain ⟨D, d1, d2, d3⟩ := m_number hC (by rw [List.length_append]; omega) (gF M k (4 + i))
      have rr := rd_e eMC (k := 46) (i := 640 * k + 4 + i) (by decide) (by omega)
      rw [fm_write_46, if_neg (jK 4 4 rfl (by omega) (by decide)), show (4 : Int32) = Int32.ofNat 4 from rfl, jI_add, jI_add, ck_n (by omega) (by omega), rr, show 640 * k + 4 + i = 640 * k + (4 + i) by omega, gg, d1, bd_s, lt_d, show (1 : Int32) = Int32.ofNat 1 from rfl, jI_add]
      refine ih (i + 1) fu D Y (by omega) (by omega) (mEx_trans eC d3) hY ?_
      rw [rgS, ← List.append_assoc]; exact d2
  have hl1 : ([] ++ [((gF M k 0 + 4 * gF M k 1) + 16 * gF M k 2) &&& 255]).length ≤ 1 := by simp
  obtain ⟨B2, b2, p2, q2⟩ := vec 4 0 mFU B1 _ rfl (by decide) eB1 hl1 (by rw [List.range_zero, List.flatMap_nil, List.append_nil]; exact p1)
  rw [show (0 : Int32) = Int32.ofNat 0 from rfl, b2]
  -- a cursor
  let cF : Nat → List Int32 := fun m => numL (gF M k (16 + 4 * m)) ++ if gF M k (16 + 4 * m) = 0 then [] else numL (gF M k (17 + 4 * m)) ++ numL (gF M k (18 + 4 * m)) ++ numL (gF M k (19 + 4 * m))
  have cFl : ∀ m, (cF m).length ≤ 20 := fun m => by
    have h1 := num_len (gF M k (16 + 4 * m))
    have h2 := num_len (gF M k (17 + 4 * m))
    have h3 := num_len (gF M k (18 + 4 * m))
    have h4 := num_len (gF M k (19 + 4 * m))
    show (numL _ ++ _).length ≤ 20
    rw [List.length_append]
    split
    · show _ + 0 ≤ 20; omega
    · rw [List.length_append, List.length_append]; omega
  have one : ∀ (m fu : Nat) (G : mSt → Int32 → Int32 → Option mSt) (C : mSt) (Y : List Int32), m < 4 → 4 < fu → mEx w75 A C → Y.length ≤ 200 → inB C (Y ++ numL (gF M k (16 + 4 * m))) → ∃ C', fm_write_102 G fu C (Int32.ofNat (640 * k)) (Int32.ofNat m) (Int32.ofNat (640 * k + (16 + 4 * m))) 1 = G C' (Int32.ofNat (640 * k)) (Int32.ofNat (m + 1)) ∧ inB C' (Y ++ cF m) ∧ mEx w75 A C' := by
    intro m fu G C Y hm hfu eC hY hC
    obtain ⟨fu, rfl⟩ : ∃ q, fu = q + 1 + 1 + 1 + 1 := ⟨fu - 4, by omega⟩
    have h1 := num_len (gF M k (16 + 4 * m))
    have h2 := num_len (gF M k (17 + 4 * m))
    have h3 := num_len (gF M k (18 + 4 * m))
    have h4 := num_len (gF M k (19 + 4 * m))
    have s1 : Int32.ofNat m + 1 = Int32.ofNat (m + 1) := jI_add _ 1
    have t1 : Int32.ofNat (640 * k + (16 + 4 * m)) + 1 = Int32.ofNat (640 * k + (17 + 4 * m)) := by rw [show (1 : Int32) = Int32.ofNat 1 from rfl, jI_add]; congr 1; omega
    have t2 : Int32.ofNat (640 * k + (16 + 4 * m)) + 2 = Int32.ofNat (640 * k + (18 + 4 * m)) := by rw [show (2 : Int32) = Int32.ofNat 2 from rfl, jI_add]; congr 1; omega
    have t3 : Int32.ofNat (640 * k + (16 + 4 * m)) + 3 = Int32.ofNat (640 * k + (19 + 4 * m)) := by rw [show (3 : Int32) = Int32.ofNat 3 from rfl, jI_add]; congr 1; omega
    have eMC : mEx sc M C := mEx_trans e (mEx_mono eC sc75)
    rw [fm_write_102, if_neg (by decide), ck_n (by omega) (by omega), rd_e eMC (by decide) (by omega), gg]
    unfold fm_write_138
    by_cases c0 : gF M k (16 + 4 * m) = 0
    · refine ⟨C, ?_, ?_, eC⟩
      · rw [if_pos c0, lt_d, s1]
      · show inB C (Y ++ (numL _ ++ if gF M k (16 + 4 * m) = 0 then [] else _))
        rw [if_pos c0, List.append_nil]; exact hC
    · obtain ⟨D1, d1, x1, y1⟩ := m_number hC (by rw [List.length_append]; omega) (gF M k (17 + 4 * m))
      have eM1 : mEx sc M D1 := mEx_trans eMC (mEx_mono y1 sc75)
      obtain ⟨D2, d2, x2, y2⟩ := m_number x1 (by simp only [List.length_append]; omega) (gF M k (18 + 4 * m))
      have eM2 : mEx sc M D2 := mEx_trans eM1 (mEx_mono y2 sc75)
      obtain ⟨D3, d3, x3, y3⟩ := m_number x2 (by simp only [List.length_append]; omega) (gF M k (19 + 4 * m))
      refine ⟨D3, ?_, ?_, mEx_trans (mEx_trans (mEx_trans eC y1) y2) y3⟩
      · rw [if_neg c0, t1, ck_n (by omega) (by omega), rd_e eMC (by decide) (by omega), gg, d1, bd_s, lt_d, show (1 : Int32) + 1 = 2 from rfl, fm_write_102, if_neg (by decide), ck_n (by omega) (by omega), rd_e eM1 (by decide) (by omega), gg, if_neg c0, t2, ck_n (by omega) (by omega), rd_e eM1 (by decide) (by omega), gg, d2, bd_s, lt_d, show (2 : Int32) + 1 = 3 from rfl, fm_write_102, if_neg (by decide), ck_n (by omega) (by omega), rd_e eM2 (by decide) (by omega), gg, if_neg c0, t3, ck_n (by omega) (by omega), rd_e eM2 (by decide) (by omega), gg, d3, bd_s, lt_d, show (3 : Int32) + 1 = 4 from rfl, fm_write_102, if_pos (by decide)]
        unfold fm_write_138
        rw [lt_d, s1]
      · show inB D3 (Y ++ (numL _ ++ if gF M k (16 + 4 * m) = 0 then [] else _))
        rw [if_neg c0]
        simp only [List.append_assoc] at x3 ⊢
        exact x3
  have cur : ∀ (j i fu : Nat) (C : mSt) (Y : List Int32), i + j = 4 → j < fu → mEx w75 A C → Y.length ≤ 21 → inB C (Y ++ (List.range i).flatMap cF) → ∃ C', fm_write_73 fu C (Int32.ofNat (640 * k)) (Int32.ofNat i) = (bd (fm_number C' (gF M k 3)) fun S2 => fm_write_158 mFU S2 (Int32.ofNat (640 * k)) 0) ∧ inB C' (Y ++ (List.range 4).flatMap cF) ∧ mEx w75 A C' := by
    intro j
    induction j with
    | zero =>
      intro i fu C Y hi hf eC hY hC
      obtain ⟨fu, rfl⟩ : ∃ q, fu = q + 1 := ⟨fu - 1, by omega⟩
      have e4 : i = 4 := by omega
      subst e4
      have eMC : mEx sc M C := mEx_trans e (mEx_mono eC sc75)
      have rr := rd_e eMC (k := 46) (i := 640 * k + 3) (by decide) (by omega)
      rw [fm_write_73, if_pos (show (4 : Int32) ≤ Int32.ofNat 4 by decide), show Int32.ofNat (640 * k) + 3 = Int32.ofNat (640 * k + 3) from jI_add _ 3, ck_n (by omega) (by omega), rr, gg]
      exact ⟨C, rfl, hC, eC⟩
    | succ j ih =>
      intro i fu C Y hi hf eC hY hC
      obtain ⟨fu, rfl⟩ : ∃ q, fu = q + 1 := ⟨fu - 1, by omega⟩
      have eMC : mEx sc M C := mEx_trans e (mEx_mono eC sc75)
      have hfl := fm_le (f := cF) (b := 20) (List.range i) (fun x _ => cFl x)
      rw [List.length_range] at hfl
      obtain ⟨D, d1, d2, d3⟩ := m_number hC (by rw [List.length_append]; omega) (gF M k (16 + 4 * i))
      obtain ⟨E, e1, e2, e3⟩ := one i mFU (fm_write_73 fu) D _ (by omega) (by decide) (mEx_trans eC d3) (by rw [List.length_append]; omega) d2
      have rr := rd_e eMC (k := 46) (i := 640 * k + 16 + 4 * i) (by decide) (by omega)
      rw [fm_write_73, if_neg (jK 4 4 rfl (by omega) (by decide)), lt_d, show (16 : Int32) = Int32.ofNat 16 from rfl, show (4 : Int32) = Int32.ofNat 4 from rfl, jI_mul, jI_add, jI_add, ck_n (by omega) (by omega), rr, show 640 * k + 16 + 4 * i = 640 * k + (16 + 4 * i) by omega, gg, d1, bd_s, e1]
      refine ih (i + 1) fu E Y (by omega) (by omega) e3 hY ?_
      rw [rgS, ← List.append_assoc]; exact e2
  have hl2 : ([] ++ [((gF M k 0 + 4 * gF M k 1) + 16 * gF M k 2) &&& 255] ++ (List.range 4).flatMap (fun q => numL (gF M k (4 + q)))).length ≤ 21 := by
    have hfl := fm_le (f := fun q => numL (gF M k (4 + q))) (b := 5) (List.range 4) (fun x _ => num_len _)
    rw [List.length_range] at hfl
    simp only [List.length_append, List.length_singleton, List.length_nil]; omega
  obtain ⟨B3, b3, p3, q3⟩ := cur 4 0 mFU B2 _ rfl (by decide) q2 hl2 (by rw [List.range_zero, List.flatMap_nil, List.append_nil]; exact p2)
  rw [show (0 : Int32) = Int32.ofNat 0 from rfl, b3]
  have hl3 : (([] ++ [((gF M k 0 + 4 * gF M k 1) + 16 * gF M k 2) &&& 255] ++ (List.range 4).flatMap (fun q => numL (gF M k (4 + q)))) ++ (List.range 4).flatMap cF).length ≤ 101 := by
    have hfl := fm_le (f := fun q => numL (gF M k (4 + q))) (b := 5) (List.range 4) (fun x _ => num_len _)
    have hfl2 := fm_le (f := cF) (b := 20) (List.range 4) (fun x _ => cFl x)
    rw [List.length_range] at hfl hfl2
    simp only [List.length_append, List.length_singleton, List.length_nil]; omega
  generalize hY3 : (([] ++ [((gF M k 0 + 4 * gF M k 1) + 16 * gF M k 2) &&& 255] ++ (List.range 4).flatMap (fun q => numL (gF M k (4 + q)))) ++ (List.range 4).flatMap cF) = Y3 at p3 hl3
  obtain ⟨B4, b4, p4, q4⟩ := m_number p3 (by omega) (gF M k 3)
  rw [b4, bd_s]
  have n3 := num_len (gF M k 3)
  -- the rows
  have rows : ∀ (j i fu : Nat) (C : mSt), i + j = c → j < fu → mEx w75 A C → inB C (Y3 ++ numL (gF M k 3) ++ (List.range i).flatMap (fun i => rowL M (gF M k (8 + i)).toNatClampNeg)) → ∃ C', fm_write_158 fu C (Int32.ofNat (640 * k)) (Int32.ofNat i) = fm_write_198 mFU C' 65535 0 ∧ inB C' (Y3 ++ numL (gF M k 3) ++ (List.range c).flatMap (fun i => rowL M (gF M k (8 + i)).toNatClampNeg)) ∧ mEx w75 A C' := by
    intro j
    induction j with
    | zero =>
      intro i fu C hi hf eC hC
      obtain ⟨fu, rfl⟩ : ∃ q, fu = q + 1 := ⟨fu - 1, by omega⟩
      have e4 : i = c := by omega
      subst e4
      have eMC : mEx sc M C := mEx_trans e (mEx_mono eC sc75)
      have rr := rd_e eMC (k := 46) (i := 640 * k + 3) (by decide) (by omega)
      rw [fm_write_158, show Int32.ofNat (640 * k) + 3 = Int32.ofNat (640 * k + 3) from jI_add _ 3, ck_n (by omega) (by omega), rr, gg, h3, if_pos (Int32.le_refl _)]
      exact ⟨C, rfl, by rw [h3] at hC; exact hC, eC⟩
    | succ j ih =>
      intro i fu C hi hf eC hC
      obtain ⟨fu, rfl⟩ : ∃ q, fu = q + 1 := ⟨fu - 1, by omega⟩
      have eMC : mEx sc M C := mEx_trans e (mEx_mono eC sc75)
      obtain ⟨r, r1, r2⟩ := hr i (by omega)
      have hfl := fm_le (f := fun i => rowL M (gF M k (8 + i)).toNatClampNeg) (b := 56) (List.range i) (fun x _ => row_len _ _)
      rw [List.length_range] at hfl
      obtain ⟨D, d1, d2, d3⟩ := m_writeRow eMC hC r1 (by simp only [List.length_append]; omega)
      have rr := rd_e eMC (k := 46) (i := 640 * k + 3) (by decide) (by omega)
      have rr2 := rd_e eMC (k := 46) (i := 640 * k + 8 + i) (by decide) (by omega)
      rw [fm_write_158, show Int32.ofNat (640 * k) + 3 = Int32.ofNat (640 * k + 3) from jI_add _ 3, ck_n (by omega) (by omega), rr, gg, h3, if_neg (fun q => absurd ((jI_le (by omega) (by omega)).mp q) (by omega)), show (8 : Int32) = Int32.ofNat 8 from rfl, jI_add, jI_add, ck_n (by omega) (by omega), rr2, show 640 * k + 8 + i = 640 * k + (8 + i) by omega, gg, r2, d1, bd_s, lt_d, show (1 : Int32) = Int32.ofNat 1 from rfl, jI_add]
      have := ih (i + 1) fu D (by omega) (by omega) (mEx_trans eC d3) (by
        rw [rgS, ← List.append_assoc, r2, jI_cl (by omega)]; exact d2)
      rw [h3] at this
      exact this
  have eB4 : mEx w75 A B4 := mEx_trans q3 q4
  obtain ⟨B5, b5, p5, q5⟩ := rows c 0 mFU B4 (by omega) (Nat.lt_of_le_of_lt hc (by decide)) eB4 (by rw [List.range_zero, List.flatMap_nil, List.append_nil]; exact p4)
  rw [show (0 : Int32) = Int32.ofNat 0 from rfl, b5]
  have hbod : Y3 ++ numL (gF M k 3) ++ (List.range c).flatMap (fun i => rowL M (gF M k (8 + i)).toNatClampNeg) = bodL M (gF M k) := by
    unfold bodL
    rw [← hY3, h3, jI_cl (by omega), List.nil_append]
  rw [hbod] at p5
  have hlb := frL_len M (gF M k) hc h3
  unfold frL at hlb
  rw [List.length_append] at hlb
  have hlb' : (bodL M (gF M k)).length + 2 ≤ 556 := hlb
  have hfu : (bodL M (gF M k)).length < mFU := Nat.lt_of_le_of_lt (show _ ≤ 1000 by omega) (by decide)
  rw [show (0 : Int32) = Int32.ofNat 0 from rfl, m_crc p5 (by omega) _ 0 mFU 65535 (Nat.zero_add _) hfu, List.drop_zero]
  obtain ⟨B6, b6, p6, q6⟩ := m_addOctet p5 (by omega) ((bodL M (gF M k)).foldl crc8 65535 >>> ((8 : Int32) &&& 31))
  obtain ⟨B7, b7, p7, q7⟩ := m_addOctet p6 (by rw [List.length_append, List.length_singleton]; omega) ((bodL M (gF M k)).foldl crc8 65535)
  rw [b6, bd_s, b7, bd_s]
  refine ⟨B7, rfl, ?_, mEx_trans (mEx_trans q5 q6) q7⟩
  unfold frL crcL
  rw [List.append_assoc] at p7
  exact p7
end W
