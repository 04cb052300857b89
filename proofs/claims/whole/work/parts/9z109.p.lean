-- part 109: cursor
section V
variable {x0 n k : Nat}
theorem c_cursor (hk : k + 1 < 900) : lC_cursor x0 (Inv x0 k) (Inv x0 (k + 1)) := by
  intro S M v1 v2 v3 v4 h
  have h0 := Inv_0 h (by omega)
  unfold fk_11_cursor fm_cursor fk_11_cursor_65 fm_cursor_35
  rw [lt_d, ckz_0, ckz_0]
  generalize pu M 0 0 = A at h0 ⊢
  have h1 := Inv_1 h0 hk
  have h00 := h0
  obtain ⟨ra, sl, mkO, L, Wt, ro, fa, hc, hh, hkd, hth, htx, hro, hl, hnu⟩ := h0
  rw [ckk_y hh.1.1]
  by_cases hv : 0 ≤ v1 ∧ v1 ≤ 3
  · obtain ⟨n, hn, rfl⟩ := wi3.mp hv
    have hc' := hc
    obtain ⟨⟨hA, hsl, -, -⟩, ⟨hB, -⟩, hN, -⟩ := hc'
    obtain ⟨⟨hM1, ⟨⟨hy, hv', -⟩, -⟩⟩, -⟩ := hN n hn
    have hcl := hM1.1.2.1
    have refl := mEx_refl sc A
    have hnd : x0 + 5 + 5 ≤ sN x0 n ∧ sN x0 n + 26 ≤ x0 + 5 + 128 := by unfold sN; omega
    have hsN : x0 + 22 ≤ sN x0 n := by unfold sN; omega
    rcases k_madeSlot hh hc hn v2 with ⟨j, m, hm, hin, rfl, -, -⟩ | ⟨-, q2⟩
    · have href := k_refY hh hkd hc hn (s := 9) (by decide) (by decide) (by decide) (by decide) hm hin v3 0
      have hru : ruS (Int32.ofNat 9) = 84 := by decide
      rw [hru] at href
      have href' : fk_11_refusalOf S x0 (Int32.ofNat n) 9 (Int32.ofNat (rNm m)) v3 0 = _ := href
      rw [href', bd_s, m_hasPart hkd hM1 refl hm hin, bd_s]
      cases hr : rlO A (A.2 12 m) v3 with
      | none =>
        rw [b2_f (by simp), if_pos rfl, if_neg]
        · exact ⟨_, _, _, rfl, rfl, h1⟩
        · rw [if_pos ⟨by decide, by simp⟩]; decide
      | some rl =>
        obtain ⟨kd, p, rfl, p6, hp, hrl⟩ := pt_of hkd hA hm hr
        obtain ⟨B, b1, b2'⟩ := m_isThereNow refl hM1.1.2.2.1 (jOkL_cl hA hcl) hM1.1.2.2.2 (Int32.ofNat (rNm m))
        have eB : mEx sc A B := mEx_mono b2' (fun k hk => by unfold wJ at hk; unfold sc; omega)
        have hrule : fm_ruleOf B (Int32.ofNat (rNm m)) (Int32.ofNat p) = some rl := by rw [m_ruleOf eB (rOf_nm (hA.2.1.1 j m hm).2.1.1) hp.2.1 hp.2.2.1 hp.2.2.2.1, hp.2.2.2.2.1]
        rw [b2_t (by simp), if_neg n10, b1, bd_s, lt_d, lt_d]
        have bad : ∀ r : Int32, r ≠ 0 → ∀ K : Option (Int32 × cSt), (if r = 0 then K else some (0, S)) = some (0, S) := fun r hr K => if_neg hr
        show ∃ r S1 M1, _ ∧ (if b2 _ = 0 then _ else _) = _ ∧ _
        cases ht : thN A (L n) (Int32.ofNat (rNm m)) with
        | false =>
          rw [if_pos bFn, bad]
          · exact ⟨_, _, _, rfl, rfl, Inv_m h00 hk eB⟩
          · by_cases e84 : rl = 84
            · rw [if_neg (fun q => q.2 (by rw [e84])), if_neg (fun q => by cases q.1)]; decide
            · rw [if_pos ⟨by decide, fun q => e84 (Option.some.inj q)⟩, if_neg (by simp)]; decide
        | true =>
          rw [if_neg bTn]
          show ∃ r S1 M1, _ ∧ bd (fm_ruleOf B _ _) _ = _ ∧ _
          rw [hrule, bd_s]
          by_cases e84 : rl = 84
          · subst e84
            have z : (if (84 : Int32) ≠ 0 ∧ some (84 : Int32) ≠ some 84 then (if some (84 : Int32) = none then (-1 : Int32) else -2) else if true = true ∧ (9 = 11 → (0 : Int32) = -1 ∨ thN A (L n) 0 = true) then 0 else -3) = 0 := by
              rw [if_neg (fun q => q.2 rfl), if_pos ⟨rfl, fun q => absurd q (by decide)⟩]
            have hslot : slF mkO (Int32.ofNat (rNm m)) = some j := slF_mk hA.2.1.2.1 (fun j m h => ⟨(hA.2.1.1 j m h).1, (hA.2.1.1 j m h).2.1.1⟩) hm
            have hj := (hA.2.1.1 j m hm).1
            obtain ⟨S9, s1, s2, s3, s4, s5, s6, -⟩ := k_read (c := 8 * j + p) (by omega) (cQ_nv hcl hB hv' hnd) htx.1 (by omega) (tcOk_cl hA hcl hp 1000)
            obtain ⟨C, c1, c2, c3, -⟩ := m_lookR hM1.1 eB hp (rl_or hrl) (L n).length (Nat.le_refl _)
            rw [z, if_pos rfl, if_pos rfl, k_nd hh hn, ckk_y hh.1.1, hh.1.2.2.2.2.2.2.1, bd_s, bd_s, ckk_y hy.1.1, hy.1.2.2.2.1, bd_s, ckk_y hh.1.1, hh.1.2.2.1, bd_s, ckk_y hB.1.1, k_slotOf hB (mk_all hA), hslot, bd_s, ckk_y htx.1.1.1, show rI (some j) = Int32.ofNat j from rfl, k_c8, s1, bd_s]
            rw [List.take_length] at c3
            have hup : (L n).take 1000 = L n := List.take_of_length_le (cl_len hcl)
            have hV : vaL A (L n) (Int32.ofNat (rNm m)) (Int32.ofNat p) 84 = rwL A (tsL A (chF A sl) (L n) 1000 (8 * j + p)) := by
              rw [lk_T hA hcl hp 1000, hup]; rfl
            have hlen := va_len (M := A) (o := Int32.ofNat (rNm m)) (p := Int32.ofNat p) hA hcl hrl
            rw [hV] at c3 hlen
            have hTm : ∀ r ∈ tsL A (chF A sl) (L n) 1000 (8 * j + p), mde A r ∧ isO A 9 (Int32.ofNat (rNm m)) (Int32.ofNat p) r := fun r hr => by
              rw [lk_T hA hcl hp 1000, hup] at hr
              have := txR_mem.mp (List.mem_filter.mp hr).1
              exact ⟨cl_mem hcl this.1, this.2⟩
            generalize tsL A (chF A sl) (L n) 1000 (8 * j + p) = T at s5 s6 c3 hlen hTm
            have hrl0 : (rwL A T).length = T.length := by unfold rwL; rw [List.length_map]
            rw [hrl0] at hlen
            have eC : mEx sc A C := mEx_trans eB (mEx_mono c2 wL_sc)
            have IS9 : Inv x0 k S9 C := Inv_sc h00 (Nat.le_refl _) (by omega) (mEx_mono eC (fun k hk => Or.inr hk)) (lkE_T s2 s3).1 s3 (fun i _ => by rw [(lkE_T s2 s3).2.2])
            have z0 := s2.2.2.2.2 x0 (fun q => by have := q.1; omega)
            have zn := s2.2.2.2.2 (sN x0 n) (fun q => by have := q.2; omega)
            have hy9 := cNy_eq' hy s2 (fun q => by have := q.2; omega)
            have E : (∃ u, u ≤ T.length ∧ v4 = Int32.ofNat u) ↔ (0 ≤ v4 ∧ v4 ≤ Int32.ofNat T.length) := by
              have := wiE (v := v4) (N := T.length + 1) (by omega)
              rw [show Int32.ofNat (T.length + 1) - 1 = Int32.ofNat T.length from by rw [show (1 : Int32) = Int32.ofNat 1 from rfl, jI_sub (by omega)]; rfl] at this
              rw [this]
              exact ⟨fun ⟨u, u1, u2⟩ => ⟨u, by omega, u2⟩, fun ⟨u, u1, u2⟩ => ⟨u, by omega, u2⟩⟩
            rw [ck_n hn (by omega), rd_e eB (by decide) (by omega), hM1.1.2.2.2, c1, bd_s, c3.1, hrl0, m_wb]
            by_cases h4 : 0 ≤ v4 ∧ v4 ≤ Int32.ofNat T.length
            · obtain ⟨u, hu, rfl⟩ := E.mpr h4
              have hB9 : cBk A ra sl (chF A sl) (mde A) mkO S9 (x0 + 5) := cBk_eq hB s2 (fun a ha => by have := ha.1; have := ha.2; omega)
              have hT9 : txA S9 (x0 + 13) (x0 + 5) := by unfold txA; rw [s3]; simp only [s2.1, s2.2.1]; exact htx.1
              rw [b2_t h4, if_neg n10, if_neg (Int32.not_lt.mpr h4.1), ckk_y (by rw [s2.1]; exact hh.1.1), z0.2.1, hh.1.2.2.2.2.2.2.1, bd_s, ckk_y hT9.1.1, s5, if_pos h4.2, ckk_y (by rw [s2.1]; exact hh.1.1), bd_s, ckk_y hT9.1.1, lt_d, show (16 : Int32) * Int32.ofNat n + (4 : Int32) * Int32.ofNat n = Int32.ofNat (20 * n) from by rw [show (16 : Int32) = Int32.ofNat 16 from rfl, show (4 : Int32) = Int32.ofNat 4 from rfl, jI_mul, jI_mul, jI_add, show 16 * n + 4 * n = 20 * n by omega], ck_n (by omega) (by omega), ck_n (by omega) (by omega), rd_n _ _ (by omega), lt_d, show Int32.ofNat (20 * n) + 1 = Int32.ofNat (20 * n + 1) from jI_add _ 1, show Int32.ofNat (20 * n) + 2 = Int32.ofNat (20 * n + 2) from jI_add _ 2, show Int32.ofNat (20 * n) + 3 = Int32.ofNat (20 * n + 3) from jI_add _ 3, ck_n (by omega) (by omega), lt_d, ck_n (by omega) (by omega), lt_d]
              unfold fm_cursor_135
              have fin : ∀ d : Int32, (d = 0 ∨ ∃ t, mde A t ∧ isO A 9 (Int32.ofNat (rNm m)) (Int32.ofNat p) t ∧ d = Int32.ofNat (rNm t)) → fk_9_nameAhead S9 (x0 + 13) (Int32.ofNat u) = some d → ∀ X : Option (Int32 × mSt), X = some (1, wr (wr (wr (wr C 31 (Int32.ofNat (20 * n)) (C.2 31 (20 * n) + 1)) 31 (Int32.ofNat (20 * n + 1)) (Int32.ofNat (rNm m))) 31 (Int32.ofNat (20 * n + 2)) (Int32.ofNat p)) 31 (Int32.ofNat (20 * n + 3)) d) → ∃ r S1 M1, (bd (fk_9_nameAhead S9 (x0 + 13) (Int32.ofNat u)) fun r15 => ckk S9 (sN x0 n) 8 (bd (fk_7_setCursor S9 (sN x0 n) (Int32.ofNat (rNm m)) (Int32.ofNat p) r15) fun S16 => ckz 1 (some (1, S16)))) = some (r, S1) ∧ X = some (r, M1) ∧ Inv x0 (k + 1) S1 M1 := fun d hd hn1 X hX => by
                obtain ⟨w1, w2⟩ := wr31 (A := C) (i := 20 * n) (by omega) (a := C.2 31 (20 * n) + 1) (b := Int32.ofNat (rNm m)) (c := Int32.ofNat p) (d := d) rfl
                rw [hn1, bd_s, ckk_y hy9.1.1, k_setCursor hn hy9, bd_s, ckz_1, hX]
                refine ⟨_, _, _, rfl, rfl, Inv_cu IS9 (by omega) hk hn (fun ra' sl' mkO' L' Wt' hc2 => ?_) w1 w2⟩
                have fC : ∀ i, i < 47 → C.2 i = A.2 i := fun i hi => (eC i (by unfold sc; omega)).2
                have hmd : mde C m := by unfold mde mdN; rw [fC 7 (by decide)]; exact (hA.2.1.1 j m hm).2.1
                obtain ⟨j', -, hj'⟩ := mk_all hc2.1.1 m hmd.1 hmd (by rw [fC 9 (by decide)]; exact (hA.2.1.1 j m hm).2.2)
                refine ⟨j', m, kd, p, ⟨hj', by rw [fC 12 (by decide)]; exact hp.2.1, hp.2.2.1, hp.2.2.2.1, by rw [fC 6 (by decide)]; exact hp.2.2.2.2.1, by decide⟩, rfl, rfl, ?_⟩
                rcases hd with hd | ⟨t, t1, t2, t3⟩
                · exact Or.inl hd
                · refine Or.inr ⟨t, by unfold mde mdN; rw [fC 7 (by decide)]; exact t1, ?_, t3⟩
                  show C.2 9 t = 9 ∧ C.2 10 t = _ ∧ C.2 11 t = _
                  rw [fC 9 (by decide), fC 10 (by decide), fC 11 (by decide)]; exact t2
              by_cases hu0 : u = 0
              · subst hu0
                rw [if_pos (show Int32.ofNat 0 = 0 from rfl), ck_n (by omega) (by omega), lt_d, ckz_1]
                exact fin 0 (Or.inl rfl) (by unfold fk_9_nameAhead fk_9_nameAhead_26 fk_9_nameAhead_27; rw [if_pos (show Int32.ofNat 0 ≤ 0 by decide)]) _ rfl
              · have hul : u - 1 < T.length := by omega
                obtain ⟨t1, t2⟩ := hTm _ (List.getElem_mem hul)
                obtain ⟨-, k9, -, ⟨-, -, k11, -⟩, -⟩ := hB9.2.2.1 _ t1.1 t1
                have h51 : C.2 51 (u - 1) = Int32.ofNat T[u - 1] := by
                  rw [(c3.2 (u - 1) (by rw [hrl0]; exact hul)).2]
                  have e := List.getElem_map (fun r => (A.2 12 r, Int32.ofNat r)) (l := T) (i := u - 1) (h := by rw [List.length_map]; exact hul)
                  exact congrArg Prod.snd e
                have hs1 : Int32.ofNat u - 1 = Int32.ofNat (u - 1) := by rw [show (1 : Int32) = Int32.ofNat 1 from rfl, jI_sub (by omega)]
                rw [if_neg (jN 0 0 rfl hu0 (by omega) (by decide)), hs1, ck_n (by omega) (by omega), rd_n _ _ (by omega), wr_o _ _ _ (by decide), wr_o _ _ _ (by decide), wr_o _ _ _ (by decide), h51, m_nameOf t1.1, bd_s, ck_n (by omega) (by omega), lt_d, ckz_1]
                refine fin (Int32.ofNat (rNm T[u - 1])) (Or.inr ⟨_, t1, t2, rfl⟩) ?_ _ rfl
                unfold fk_9_nameAhead fk_9_nameAhead_27
                rw [if_neg (jI_p (by omega) (by omega)), ckk_y hT9.1.1, s5, if_neg (fun q => absurd ((jI_lt (by omega) (by omega)).mp q) (by omega)), ckk_y hT9.1.1, hT9.1.2.1, bd_s, ckk_y hT9.2.1, hT9.2.2.1, hs1, ck_n (by omega) (by omega), lt_d, jI_cl (by omega), s6 (u - 1) hul, bd_s, ckk_y k9, k11]
            · rw [b2_f h4, if_pos rfl, ckz_0]
              by_cases e4 : v4 < 0
              · rw [if_pos e4]
                exact ⟨_, _, _, rfl, rfl, Inv_1 IS9 hk⟩
              · rw [if_neg e4, ckk_y (by rw [s2.1]; exact hh.1.1), z0.2.1, hh.1.2.2.2.2.2.2.1, bd_s, ckk_y (by rw [s2.1]; exact htx.1.1.1), s5, if_neg (fun q => h4 ⟨Int32.not_lt.mp e4, q⟩)]
                exact ⟨_, _, _, rfl, rfl, Inv_1 IS9 hk⟩
          · rw [if_neg e84, bad]
            · exact ⟨_, _, _, rfl, rfl, Inv_m h00 hk eB⟩
            · rw [if_pos ⟨by decide, fun q => e84 (Option.some.inj q)⟩, if_neg (by simp)]; decide
    · have href : fk_11_refusalOf S x0 (Int32.ofNat n) 9 v2 v3 0 = some (-1) := k_refN hh hc hn (s := 9) (by decide) (by decide) (by decide) (by decide) v3 0 q2
      rw [href, bd_s, if_neg (by decide), m_hasPartN hM1 refl q2, bd_s, if_pos rfl]
      exact ⟨_, _, _, rfl, rfl, h1⟩
  · have href : fk_11_refusalOf S x0 v1 9 v2 v3 0 = some (-1) := by
      unfold fk_11_refusalOf fk_11_refusalOf_17
      rw [k_isNode, bd_s, b2_f hv, if_pos rfl]
    rw [href, bd_s, if_neg (by decide), m_hasPartO hv, bd_s, if_pos rfl]
    exact ⟨_, _, _, rfl, rfl, h1⟩
end V
