-- part 114: what fits: places of a text
section V
variable {S S' : cSt} {M A : mSt} {ra : Nat → Nat} {sl : Nat → Int32} {mkO : Nat → Option Nat} {L Wt : Nat → List Nat} {x0 n Bt : Nat} {l : List Nat}
/-- a text read, in the class -/
theorem k_txt (hh : hsI x0 S M) (h : core x0 Bt S M ra sl mkO L Wt) (hT : txA S (x0 + 13) (x0 + 5)) (hn : n < 4) {j m kd p : Nat} (hp : ptO M mkO j m kd p 84) : ∃ S' T, fk_9_read S (x0 + 13) (sN x0 n + 20) (Int32.ofNat (8 * j + p)) = some S' ∧ lkE x0 S S' ∧ cEq (inT (x0 + 13)) S S' ∧ kF S' (x0 + 13) 1 = Int32.ofNat T.length ∧ (∀ i (h : i < T.length), kO S' (x0 + 14) i = some (ra T[i])) ∧ T.length ≤ 1000 ∧ (∀ r ∈ T, r ∈ L n ∧ isO M 9 (Int32.ofNat (rNm m)) (Int32.ofNat p) r) ∧ vaL M (L n) (Int32.ofNat (rNm m)) (Int32.ofNat p) 84 = rwL M T := by
  obtain ⟨⟨hA, hsl, -, -⟩, ⟨hB, -⟩, hN, -⟩ := h
  obtain ⟨⟨hM1, ⟨⟨hy, hv', -⟩, -⟩⟩, -⟩ := hN n hn
  have hcl := hM1.1.2.1
  have hnd : x0 + 5 + 5 ≤ sN x0 n ∧ sN x0 n + 26 ≤ x0 + 5 + 128 := by unfold sN; omega
  have hsN : x0 + 22 ≤ sN x0 n := by unfold sN; omega
  have hj := (hA.2.1.1 j m hp.1).1
  have hp6 := hp.2.2.2.1
  have hup : (L n).take 1000 = L n := List.take_of_length_le (cl_len hcl)
  obtain ⟨S9, s1, s2, s3, s4, s5, s6, -⟩ := k_read (c := 8 * j + p) (by omega) (cQ_nv hcl hB hv' hnd) hT (by omega) (tcOk_cl hA hcl hp 1000)
  have hV : vaL M (L n) (Int32.ofNat (rNm m)) (Int32.ofNat p) 84 = rwL M (tsL M (chF M sl) (L n) 1000 (8 * j + p)) := by
    rw [lk_T hA hcl hp 1000, hup]; rfl
  have hlen := va_len (M := M) (o := Int32.ofNat (rNm m)) (p := Int32.ofNat p) hA hcl (show isRl 84 by unfold isRl; decide)
  rw [hV] at hlen
  refine ⟨S9, _, s1, lkE_T s2 s3, s2, s5, s6, ?_, fun r hr => ?_, hV⟩
  · unfold rwL at hlen; rw [List.length_map] at hlen; exact hlen
  · rw [lk_T hA hcl hp 1000, hup] at hr
    exact txR_mem.mp (List.mem_filter.mp hr).1
/-- the name of the row ahead of a place -/
def aheadN (T : List Nat) (u : Nat) : Int32 := if u = 0 then 0 else Int32.ofNat (rNm (T.getD (u - 1) 0))
theorem fit_9 (hh : hsI x0 S M) (h : core x0 Bt S M ra sl mkO L Wt) (hT : txA S (x0 + 13) (x0 + 5)) (hn : n < 4) {j m kd p : Nat} (hp : ptO M mkO j m kd p 84) (e : mEx sc M A) (v5 v6 : Int32) (hd0 : kF S (x0 + 19) 0 = 9) (hd1 : kF S (x0 + 19) 1 = Int32.ofNat j) (hd3 : kF S (x0 + 19) 3 = Int32.ofNat p) : fitR x0 n S M A mkO (L n) 9 (Int32.ofNat (rNm m)) (Int32.ofNat p) v5 v6 := by
  have k2 := hh.2.2.2.1.1
  have k6 := hh.1.2.2.2.2.2.2.2.1
  have k5 := hh.1.2.2.2.2.2.2.1
  obtain ⟨S9, T, s1, s2, s2', s3, s4, s5, s6, hV⟩ := k_txt hh h hT hn hp
  obtain ⟨⟨hA, hsl, -, -⟩, ⟨hB, -⟩, hN, -⟩ := h
  obtain ⟨⟨hM1, ⟨⟨hy, hv', -⟩, -⟩⟩, -⟩ := hN n hn
  have hcl := hM1.1.2.1
  obtain ⟨B, b1, b2', b3, -⟩ := m_lookR hM1.1 (pu3 (v := v5) e) hp (by decide) (L n).length (Nat.le_refl _)
  rw [List.take_length, hV] at b3
  have hrl0 : (rwL M T).length = T.length := by unfold rwL; rw [List.length_map]
  have B69 : B.1 69 = v5 := by rw [(b2' 69 (by unfold wL; omega)).1, pu_s]
  have B70 : B.1 70 = 0 := by rw [(b2' 70 (by unfold wL; omega)).1, pu_o _ _ (by decide), pu_s]
  have eB : mEx sc M B := mEx_trans (pu3 e) (mEx_mono b2' wL_sc)
  have z0 := s2'.2.2.2.2 x0 (fun q => by have := q.1; omega)
  have z19 := s2'.2.2.2.2 (x0 + 19) (fun q => by have := q.2; omega)
  have hT9 : txA S9 (x0 + 13) (x0 + 5) := by unfold txA; rw [s2.2.1]; simp only [s2'.1, s2'.2.1]; exact hT
  have hB9 : cBk M ra sl (chF M sl) (mde M) mkO S9 (x0 + 5) := cBk_eq hB s2' (fun a ha => by have := ha.1; have := ha.2; omega)
  have g12 : kK S9 x0 = 12 := by rw [s2'.1]; exact hh.1.1
  have g5 : kR S9 x0 5 = some (x0 + 13) := by rw [z0.2.1]; exact k5
  have g6 : kR S9 x0 6 = some (x0 + 19) := by rw [z0.2.1]; exact k6
  have gk : kK S9 (x0 + 19) = 2 := by rw [s2'.1]; exact k2
  have hun : fm_refusal A (Int32.ofNat n) 9 (Int32.ofNat (rNm m)) (Int32.ofNat p) v5 v6 = bd (fm_within v5 (32 : Int32) (126 : Int32)) fun r21 => if r21 = 0 then fm_refusal_343 B else bd (fm_within v6 (0 : Int32) (B.1 49)) fun r23 => if r23 = 0 then fm_refusal_343 B else if v6 = 0 then fm_refusal_367 B (0 : Int32) else ck (v6 - (1 : Int32)) 1000 (bd (fm_nameOf (rd B 51 (v6 - (1 : Int32)))) fun r26 => fm_refusal_367 B r26) := by
    unfold fm_refusal
    simp only [lt_d]
    rw [if_neg (by decide), if_neg (by decide), if_neg (by decide), if_neg (by decide), if_neg (by decide), if_neg (by decide), if_neg (by decide), if_neg (by decide), if_neg (by decide), if_pos trivial, ck_n hn (by omega), rd_e (pu3 e) (by decide) (by omega), hM1.1.2.2.2, b1, bd_s]
  rw [m_wb, m_wb, b3.1, hrl0] at hun
  have hcls : fk_11_fits S x0 (sN x0 n) v5 v6 = bd (fk_11_fitsInsert S x0 (sN x0 n) v5 v6) fun q => ckz q.1 (some q) := by
    unfold fk_11_fits
    rw [ckk_y hh.1.1, k6, bd_s, ckk_y k2, hd0, if_neg (by decide), if_neg (by decide), if_neg (by decide), if_pos rfl, ckk_y hh.1.1]
    rfl
  have bad : ∀ S2, fk_11_fitsInsert S x0 (sN x0 n) v5 v6 = some (0, S2) → lkE x0 S S2 → kF S2 (x0 + 19) = kF S (x0 + 19) → fm_refusal A (Int32.ofNat n) 9 (Int32.ofNat (rNm m)) (Int32.ofNat p) v5 v6 = some (5, B) → fitR x0 n S M A mkO (L n) 9 (Int32.ofNat (rNm m)) (Int32.ofNat p) v5 v6 := fun S2 q1 q2 q3 q4 => by
    refine ⟨false, S2, 5, B, ?_, q2, fun i _ => by rw [q3], q4, by decide, eB, fun q => by cases q⟩
    rw [hcls, q1, bd_s, ckz_0]; rfl
  unfold fk_11_fitsInsert fk_11_fitsInsert_16 at bad
  unfold fk_11_fitsInsert fk_11_fitsInsert_16 at hcls
  rw [ckz_0] at bad hcls
  by_cases c1 : v5 < 32
  · refine bad S (by rw [if_pos c1]) (lkE_refl _ _) rfl ?_
    rw [hun, b2_f (fun q => absurd q.1 (Int32.not_le.mpr c1)), if_pos rfl]; rfl
  rw [if_neg c1] at bad hcls
  by_cases c2 : 126 < v5
  · refine bad S (by rw [if_pos c2]) (lkE_refl _ _) rfl ?_
    rw [hun, b2_f (fun q => absurd q.2 (Int32.not_le.mpr c2)), if_pos rfl]; rfl
  rw [if_neg c2] at bad hcls
  rw [b2_t ⟨Int32.not_lt.mp c1, Int32.not_lt.mp c2⟩, if_neg n10] at hun
  by_cases c3' : ¬ 0 ≤ v6
  · have c3 := c3'
    refine bad S (by rw [if_neg c3]) (lkE_refl _ _) rfl ?_
    rw [hun, b2_f (fun q => c3 q.1), if_pos rfl]; rfl
  have c3 : 0 ≤ v6 := Decidable.not_not.mp c3'
  rw [if_pos c3, ckk_y hh.1.1, k5, bd_s, ckk_y hy.1.1, hy.1.2.2.2.1, bd_s, ckk_y hh.1.1, k6, bd_s, ckk_y k2, ckk_y hh.1.1, bd_s, ckk_y k2, hd1, hd3, k_c8, ckk_y hT.1.1, s1, bd_s, ckk_y g12, g5, bd_s, ckk_y hT9.1.1, s3] at bad hcls
  by_cases c4' : ¬ v6 ≤ Int32.ofNat T.length
  · have c4 := c4'
    refine bad S9 (by rw [if_neg c4, ckz_0]) s2 z19.1 ?_
    rw [hun, b2_f (fun q => c4 q.2), if_pos rfl]; rfl
  have c4 : v6 ≤ Int32.ofNat T.length := Decidable.not_not.mp c4'
  rw [b2_t ⟨c3, c4⟩, if_neg n10] at hun
  obtain ⟨u, hu, rfl⟩ : ∃ u, u ≤ T.length ∧ v6 = Int32.ofNat u := by
    obtain ⟨u, -, u2, u3⟩ := rng (v := v6) 0 T.length (by omega) ⟨c3, c4⟩ (by omega)
    exact ⟨u, u2, u3⟩
  have fin : ∀ d : Int32, (d = 0 ∨ ∃ t, dIn M (L n) (Int32.ofNat (rNm m)) (Int32.ofNat p) d t) → fk_9_nameAhead (cPi S9 (x0 + 19) 4 v5) (x0 + 13) (Int32.ofNat u) = some d → fm_refusal A (Int32.ofNat n) 9 (Int32.ofNat (rNm m)) (Int32.ofNat p) v5 (Int32.ofNat u) = some (0, pu B 70 d) → fitR x0 n S M A mkO (L n) 9 (Int32.ofNat (rNm m)) (Int32.ofNat p) v5 (Int32.ofNat u) := fun d hd q1 q2 => by
    have f12 : kK (cPi S9 (x0 + 19) 4 v5) x0 = 12 := g12
    have f5 : kR (cPi S9 (x0 + 19) 4 v5) x0 5 = some (x0 + 13) := g5
    have f6 : kR (cPi S9 (x0 + 19) 4 v5) x0 6 = some (x0 + 19) := g6
    have fk : kK (cPi S9 (x0 + 19) 4 v5) (x0 + 19) = 2 := gk
    have f10 : kK (cPi S9 (x0 + 19) 4 v5) (x0 + 13) = 10 := hT9.1.1
    refine ⟨true, cPi (cPi S9 (x0 + 19) 4 v5) (x0 + 19) 5 d, 0, pu B 70 d, ?_, lkE_t (lkE_t s2 (lkE_P _ _)) (lkE_P _ _), fun i hi => ?_, q2, by decide, mEx_trans eB (mEx_pu (by unfold sc; omega) _), fun _ => ⟨?_, ?_, ?_⟩⟩
    · rw [hcls, if_pos c4, ckk_y g12, g6, bd_s, ckk_y gk, lt_d, ckk_y f12, f6, bd_s, ckk_y f12, f5, bd_s, ckk_y f10, q1, bd_s, ckk_y fk, lt_d, ckz_1, bd_s]; rfl
    · rw [fP, fP, upd_o _ _ (by omega), upd_o _ _ (by omega), z19.1]
    · rw [fP, fP, upd_o _ _ (by decide), upd_s, pu_o _ _ (by decide), B69]
    · rw [fP, upd_s, pu_s]
    · rw [pu_s]
      refine ⟨fun q => ?_, fun q => ?_, fun q => ?_, fun _ => hd, fun q => ?_, fun q => ?_⟩ <;> exfalso <;> revert q <;> (try unfold tuS) <;> decide
  by_cases hu0 : u = 0
  · subst hu0
    refine fin 0 (Or.inl rfl) ?_ ?_
    · unfold fk_9_nameAhead fk_9_nameAhead_26 fk_9_nameAhead_27; rw [if_pos (show Int32.ofNat 0 ≤ 0 by decide)]
    · rw [hun, if_pos (show Int32.ofNat 0 = 0 from rfl)]; rfl
  · have hul : u - 1 < T.length := by omega
    obtain ⟨t1, t2⟩ := s6 _ (List.getElem_mem hul)
    have t3 := cl_mem hcl t1
    obtain ⟨-, k9, -, ⟨-, -, k11, -⟩, -⟩ := hB9.2.2.1 _ t3.1 t3
    have h51 : B.2 51 (u - 1) = Int32.ofNat T[u - 1] := by
      rw [(b3.2 (u - 1) (by rw [hrl0]; exact hul)).2]
      have e := List.getElem_map (fun r => (M.2 12 r, Int32.ofNat r)) (l := T) (i := u - 1) (h := by rw [List.length_map]; exact hul)
      exact congrArg Prod.snd e
    have hs1 : Int32.ofNat u - 1 = Int32.ofNat (u - 1) := by rw [show (1 : Int32) = Int32.ofNat 1 from rfl, jI_sub (by omega)]
    refine fin (Int32.ofNat (rNm T[u - 1])) (Or.inr ⟨T[u - 1], t1, t2.1, t2.2.1, t2.2.2, rfl⟩) ?_ ?_
    · have f10 : kK (cPi S9 (x0 + 19) 4 v5) (x0 + 13) = 10 := hT9.1.1
      have f0 : kR (cPi S9 (x0 + 19) 4 v5) (x0 + 13) 0 = some (x0 + 14) := hT9.1.2.1
      have f30 : kK (cPi S9 (x0 + 19) 4 v5) (x0 + 14) = 30 := hT9.2.1
      have fl : kL (cPi S9 (x0 + 19) 4 v5) (x0 + 14) = 1000 := hT9.2.2.1
      have f1 : kF (cPi S9 (x0 + 19) 4 v5) (x0 + 13) 1 = Int32.ofNat T.length := by rw [fPo _ _ _ (by omega)]; exact s3
      have fo : kO (cPi S9 (x0 + 19) 4 v5) (x0 + 14) (u - 1) = some (ra T[u - 1]) := s4 _ hul
      have f9 : kK (cPi S9 (x0 + 19) 4 v5) (ra T[u - 1]) = 9 := k9
      have hra := hB9.1.2.2.2.2.2 _ t3
      have f11 : kF (cPi S9 (x0 + 19) 4 v5) (ra T[u - 1]) 11 = Int32.ofNat (rNm T[u - 1]) := by rw [fPo _ _ _ (by omega)]; exact k11
      unfold fk_9_nameAhead fk_9_nameAhead_27
      rw [if_neg (jI_p (by omega) (by omega)), ckk_y f10, f1, if_neg (fun q => absurd ((jI_lt (by omega) (by omega)).mp q) (by omega)), ckk_y f10, f0, bd_s, ckk_y f30, fl, hs1, ck_n (by omega) (by omega), lt_d, jI_cl (by omega), fo, bd_s, ckk_y f9, f11]
    · rw [hun, if_neg (jN 0 0 rfl hu0 (by omega) (by decide)), hs1, ck_n (by omega) (by omega), rd_n _ _ (by omega), h51, m_nameOf t3.1, bd_s]; rfl
theorem fit_10 (hh : hsI x0 S M) (h : core x0 Bt S M ra sl mkO L Wt) (hT : txA S (x0 + 13) (x0 + 5)) (hn : n < 4) {j m kd p : Nat} (hp : ptO M mkO j m kd p 84) (e : mEx sc M A) (v5 v6 : Int32) (hd0 : kF S (x0 + 19) 0 = 10) (hd1 : kF S (x0 + 19) 1 = Int32.ofNat j) (hd3 : kF S (x0 + 19) 3 = Int32.ofNat p) (hd4 : kF S (x0 + 19) 4 = 0) : fitR x0 n S M A mkO (L n) 10 (Int32.ofNat (rNm m)) (Int32.ofNat p) v5 v6 := by
  have k2 := hh.2.2.2.1.1
  have k6 := hh.1.2.2.2.2.2.2.2.1
  have k5 := hh.1.2.2.2.2.2.2.1
  obtain ⟨S9, T, s1, s2, s2', s3, s4, s5, s6, hV⟩ := k_txt hh h hT hn hp
  obtain ⟨⟨hA, hsl, -, -⟩, ⟨hB, -⟩, hN, -⟩ := h
  obtain ⟨⟨hM1, ⟨⟨hy, hv', -⟩, -⟩⟩, -⟩ := hN n hn
  have hcl := hM1.1.2.1
  have e2 : mEx sc M (pu (pu A 69 0) 70 0) := mEx_trans (mEx_trans e (mEx_pu (by unfold sc; omega) _)) (mEx_pu (by unfold sc; omega) _)
  obtain ⟨B, b1, b2', b3, -⟩ := m_lookR hM1.1 e2 hp (by decide) (L n).length (Nat.le_refl _)
  rw [List.take_length, hV] at b3
  have hrl0 : (rwL M T).length = T.length := by unfold rwL; rw [List.length_map]
  have B69 : B.1 69 = 0 := by rw [(b2' 69 (by unfold wL; omega)).1, pu_o _ _ (by decide), pu_s]
  have eB : mEx sc M B := mEx_trans e2 (mEx_mono b2' wL_sc)
  have z0 := s2'.2.2.2.2 x0 (fun q => by have := q.1; omega)
  have z19 := s2'.2.2.2.2 (x0 + 19) (fun q => by have := q.2; omega)
  have hT9 : txA S9 (x0 + 13) (x0 + 5) := by unfold txA; rw [s2.2.1]; simp only [s2'.1, s2'.2.1]; exact hT
  have hB9 : cBk M ra sl (chF M sl) (mde M) mkO S9 (x0 + 5) := cBk_eq hB s2' (fun a ha => by have := ha.1; have := ha.2; omega)
  have g12 : kK S9 x0 = 12 := by rw [s2'.1]; exact hh.1.1
  have g5 : kR S9 x0 5 = some (x0 + 13) := by rw [z0.2.1]; exact k5
  have g6 : kR S9 x0 6 = some (x0 + 19) := by rw [z0.2.1]; exact k6
  have gk : kK S9 (x0 + 19) = 2 := by rw [s2'.1]; exact k2
  have hun : fm_refusal A (Int32.ofNat n) 10 (Int32.ofNat (rNm m)) (Int32.ofNat p) v5 v6 = bd (fm_within v6 (0 : Int32) ((B.1 49) - (1 : Int32))) fun r29 => if r29 = 0 then some ((5 : Int32), B) else ck v6 1000 (bd (fm_nameOf (rd B 51 v6)) fun r31 => lt (pu B 70 r31) fun S32 => some ((0 : Int32), S32)) := by
    unfold fm_refusal
    simp only [lt_d]
    rw [if_neg (by decide), if_neg (by decide), if_neg (by decide), if_neg (by decide), if_neg (by decide), if_neg (by decide), if_neg (by decide), if_neg (by decide), if_neg (by decide), if_neg (by decide), if_pos trivial, ck_n hn (by omega), rd_e e2 (by decide) (by omega), hM1.1.2.2.2, b1, bd_s]
  rw [m_wb, b3.1, hrl0] at hun
  have hcls : fk_11_fits S x0 (sN x0 n) v5 v6 = bd (fk_11_fitsErase S x0 (sN x0 n) v6) fun q => ckz q.1 (some q) := by
    unfold fk_11_fits
    rw [ckk_y hh.1.1, k6, bd_s, ckk_y k2, hd0, if_neg (by decide), if_neg (by decide), if_neg (by decide), if_neg (by decide), if_pos rfl, ckk_y hh.1.1]
    rfl
  have bad : fk_11_fitsErase S x0 (sN x0 n) v6 = some (0, S9) → fm_refusal A (Int32.ofNat n) 10 (Int32.ofNat (rNm m)) (Int32.ofNat p) v5 v6 = some (5, B) → fitR x0 n S M A mkO (L n) 10 (Int32.ofNat (rNm m)) (Int32.ofNat p) v5 v6 := fun q1 q4 => by
    refine ⟨false, S9, 5, B, ?_, s2, fun i _ => by rw [z19.1], q4, by decide, eB, fun q => by cases q⟩
    rw [hcls, q1, bd_s, ckz_0]; rfl
  unfold fk_11_fitsErase fk_11_fitsErase_44 at bad hcls
  rw [ckk_y hh.1.1, k5, bd_s, ckk_y hy.1.1, hy.1.2.2.2.1, bd_s, ckk_y hh.1.1, k6, bd_s, ckk_y k2, ckk_y hh.1.1, bd_s, ckk_y k2, hd1, hd3, k_c8, ckk_y hT.1.1, s1, bd_s] at bad hcls
  by_cases c1 : v6 < 0
  · refine bad (by rw [if_pos c1, ckz_0]) ?_
    rw [hun, b2_f (fun q => absurd q.1 (Int32.not_le.mpr c1)), if_pos rfl]
  rw [if_neg c1, ckk_y g12, g5, bd_s, ckk_y hT9.1.1, s3] at bad hcls
  by_cases c2' : ¬ v6 < Int32.ofNat T.length
  · have c2 := c2'
    refine bad (by rw [if_neg c2, ckz_0]) ?_
    rw [hun, b2_f, if_pos rfl]
    intro q
    obtain ⟨i, i1, rfl⟩ := (wiE (by omega)).mp q
    exact c2 ((jI_lt (by omega) (by omega)).mpr i1)
  have c2 : v6 < Int32.ofNat T.length := Decidable.not_not.mp c2'
  obtain ⟨u, hul, rfl⟩ := wiK (v := v6) (N := T.length) (by omega) c1 (Int32.not_le.mpr c2)
  obtain ⟨t1, t2⟩ := s6 _ (List.getElem_mem hul)
  have t3 := cl_mem hcl t1
  obtain ⟨-, k9, -, ⟨-, -, k11, -⟩, -⟩ := hB9.2.2.1 _ t3.1 t3
  have h51 : B.2 51 u = Int32.ofNat T[u] := by
    rw [(b3.2 u (by rw [hrl0]; exact hul)).2]
    have e := List.getElem_map (fun r => (M.2 12 r, Int32.ofNat r)) (l := T) (i := u) (h := by rw [List.length_map]; exact hul)
    exact congrArg Prod.snd e
  rw [b2_t ((wiE (by omega)).mpr ⟨u, hul, rfl⟩), if_neg n10, ck_n (by omega) (by omega), rd_n _ _ (by omega), h51, m_nameOf t3.1, bd_s, lt_d] at hun
  refine ⟨true, cPi S9 (x0 + 19) 5 (Int32.ofNat (rNm T[u])), 0, _, ?_, lkE_t s2 (lkE_P _ _), fun i hi => ?_, hun, by decide, mEx_trans eB (mEx_pu (by unfold sc; omega) _), fun _ => ⟨?_, ?_, ?_⟩⟩
  · rw [hcls, if_pos c2, ckk_y g12, g6, bd_s, ckk_y g12, bd_s, ckk_y hT9.1.1, hT9.1.2.1, bd_s, ckk_y hT9.2.1, hT9.2.2.1, ck_n (by omega) (by omega), lt_d, jI_cl (by omega), s4 u hul, bd_s, ckk_y k9, ckk_y gk, lt_d, ckz_1, bd_s, k11]; rfl
  · rw [fP, upd_o _ _ (by omega), z19.1]
  · rw [fP, upd_o _ _ (by decide), z19.1, hd4, pu_o _ _ (by decide), B69]
  · rw [fP, upd_s, pu_s]
  · rw [pu_s]
    refine ⟨fun q => ?_, fun q => ?_, fun q => ?_, fun q => ?_, fun _ => ⟨T[u], t1, t2.1, t2.2.1, t2.2.2, rfl⟩, fun q => ?_⟩ <;> exfalso <;> revert q <;> (try unfold tuS) <;> decide
end V
