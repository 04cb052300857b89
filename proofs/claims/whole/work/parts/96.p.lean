-- part 96: where
section V
variable {S S' : cSt} {M A : mSt} {ra : Nat → Nat} {sl : Nat → Int32} {mkO : Nat → Option Nat} {x0 n k : Nat} {l : List Nat} {L Wt : Nat → List Nat} {Bt : Nat}
theorem k_standGo {tx v1 t : Nat} {f : Nat → Bool} (h10 : kK S tx = 10) (h3 : kR S tx 3 = some (tx + 2)) (h4 : kR S tx 4 = some (tx + 3)) (k2 : kK S (tx + 2) = 20 ∧ kL S (tx + 2) = 1001) (k3 : kK S (tx + 3) = 20 ∧ kL S (tx + 3) = 1001) (h9 : kK S v1 = 9) (h12 : kF S v1 12 = Int32.ofNat t) (ht : t < 1000) : ∀ (T : List Nat) (prev fu st c : Nat), lkd (kI S (tx + 2)) prev T → (∀ r ∈ T, r < 1000 ∧ kI S (tx + 3) (r + 1) = b2 (f r = false)) → t ∈ T → T.Nodup → T.length < fu → st + T.length ≤ 1000 → prev < 1001 → ∀ pos (hp : pos < T.length), T[pos] = t → fk_9_standingUpTo_12 S fu tx v1 (Int32.ofNat c) (kI S (tx + 2) prev) (Int32.ofNat st) = some (Int32.ofNat (c + ((T.take (pos + 1)).filter f).length)) := by
  intro T
  induction T with
  | nil => intro prev fu st c _ _ hm; cases hm
  | cons r T ih =>
    intro prev fu st c hl hT hm hnd hfu hst hpv pos hp hpt
    obtain ⟨fu, rfl⟩ : ∃ q, fu = q + 1 := ⟨fu - 1, by omega⟩
    obtain ⟨hr1, hr2⟩ := hT r List.mem_cons_self
    have hl1 : kI S (tx + 2) prev = Int32.ofNat (r + 1) := hl.1
    have hl2 : lkd (kI S (tx + 2)) (r + 1) T := hl.2
    rw [List.length_cons] at hfu hst
    have stp : ∀ c', (pos = 0 → c' = c + (([r] : List Nat).filter f).length) → (c' = c + (([r] : List Nat).filter f).length) → (if Int32.ofNat (r + 1) = Int32.ofNat t + 1 then some (Int32.ofNat c') else ckk S tx 10 (bd (kR S tx 3) fun a3 => ckk S a3 20 (ck (Int32.ofNat (r + 1)) (kL S a3) (lt (kI S a3 (Int32.toNatClampNeg (Int32.ofNat (r + 1)))) fun x4 => lt (Int32.ofNat st + 1) fun x5 => fk_9_standingUpTo_12 S fu tx v1 (Int32.ofNat c') x4 x5)))) = some (Int32.ofNat (c + (((r :: T).take (pos + 1)).filter f).length)) := fun c' _ hc' => by
      rw [show (1 : Int32) = Int32.ofNat 1 from rfl, jI_add, jI_add]
      cases pos with
      | zero =>
        have e : r = t := hpt
        rw [if_pos (by rw [e]), hc']; rfl
      | succ pos =>
        have hpt' : T[pos]'(by rw [List.length_cons] at hp; omega) = t := hpt
        have hpl : pos < T.length := by rw [List.length_cons] at hp; omega
        have hne : r ≠ t := fun e => by
          have := (List.nodup_cons.mp hnd).1
          rw [e, ← hpt'] at this
          exact this (List.getElem_mem _)
        rw [if_neg (fun q => hne (by have := (jI_inj (by omega) (by omega)).mp q; omega)), ckk_y h10, h3, bd_s, ckk_y k2.1, k2.2, ck_n (by omega) (by omega), jI_cl (by omega), lt_d, lt_d]
        have := ih (r + 1) fu (st + 1) c' hl2 (fun q hq => hT q (List.mem_cons_of_mem _ hq)) (by rw [← hpt']; exact List.getElem_mem _) (List.nodup_cons.mp hnd).2 (by omega) (by omega) (by omega) pos hpl hpt'
        rw [this, hc']
        congr 2
        rw [List.take_succ_cons]
        have e2 : ((r :: T.take (pos + 1)).filter f).length = (([r] : List Nat).filter f).length + ((T.take (pos + 1)).filter f).length := by
          rw [show r :: T.take (pos + 1) = [r] ++ T.take (pos + 1) from rfl, List.filter_append, List.length_append]
        omega
    rw [fk_9_standingUpTo_12, hl1, if_neg (jK 1000 1000 rfl (by omega) (by decide)), if_neg (jI_p (by omega) (by omega)), ckk_y h10, h4, bd_s, ckk_y k3.1, k3.2, ck_n (by omega) (by omega), jI_cl (by omega), hr2]
    unfold fk_9_standingUpTo_39 fk_9_standingUpTo_67
    cases hf : f r
    · rw [if_neg (show ¬ b2 (false = false) = 0 by decide), lt_d, ckk_y h9, h12, show (0 : Int32) = Int32.ofNat 0 from rfl, jI_add]
      have e : (([r] : List Nat).filter f).length = 0 := by rw [List.filter_cons_of_neg (by rw [hf]; decide)]; rfl
      exact stp (c + 0) (fun _ => by rw [e]) (by rw [e])
    · rw [if_pos (show b2 (true = false) = 0 by decide), lt_d, ckk_y h9, h12, show Int32.ofNat c + 1 = Int32.ofNat (c + 1) from jI_add c 1]
      have e : (([r] : List Nat).filter f).length = 1 := by rw [List.filter_cons_of_pos (by rw [hf])]; rfl
      exact stp (c + 1) (fun _ => by rw [e]) (by rw [e])
theorem m_whereGo {B : mSt} (h : rdy M B n l) (h23 : M.2 23 n = Int32.ofNat l.length) {T : List Nat} (hL : inL B T) (hlen : T.length ≤ 1000) (hb : ∀ r ∈ T, r < 1000) (hnd : T.Nodup) {t pos : Nat} (hp : pos < T.length) (hpt : T[pos] = t) : ∀ (j i fu : Nat), i + j = pos + 1 → j < fu → fm_where_165 fu B (Int32.ofNat n) (Int32.ofNat (rNm t)) (Int32.ofNat ((T.take i).filter (tvP M l)).length) (b2 (i = pos + 1)) (Int32.ofNat i) = some (Int32.ofNat ((T.take (pos + 1)).filter (tvP M l)).length, B) := by
  intro j
  induction j with
  | zero =>
    intro i fu hi hfu
    obtain ⟨fu, rfl⟩ : ∃ q, fu = q + 1 := ⟨fu - 1, by omega⟩
    have e : i = pos + 1 := by omega
    subst e
    rw [fm_where_165, b2_t rfl]
    unfold fm_where_253
    rw [if_neg n10]
    split <;> rfl
  | succ j ih =>
    intro i fu hi hfu
    obtain ⟨fu, rfl⟩ : ∃ q, fu = q + 1 := ⟨fu - 1, by omega⟩
    have hi' : i < T.length := by omega
    have hr := hb _ (List.getElem_mem hi')
    have ih' := ih (i + 1) fu (by omega) (by omega)
    have hn := h.2.1.1
    have e53 : rd B 53 (Int32.ofNat i) = Int32.ofNat T[i] := by rw [rd_n _ _ (by omega), hL.2 i hi']
    have fin : ∀ (c s : Int32), c + s = Int32.ofNat ((T.take (i + 1)).filter (tvP M l)).length → fm_where_222 (fm_where_165 fu) B (Int32.ofNat n) (Int32.ofNat (rNm t)) (Int32.ofNat i) c s = some (Int32.ofNat ((T.take (pos + 1)).filter (tvP M l)).length, B) := fun c s hcs => by
      unfold fm_where_222 fm_where_245
      rw [lt_d, hcs, ck_n (by omega) (by omega), e53, m_nameOf hr, bd_s, lt_d, show Int32.ofNat i + 1 = Int32.ofNat (i + 1) from jI_add i 1]
      by_cases e : i = pos
      · subst e
        rw [if_pos (by rw [hpt])]
        rw [b2_t rfl] at ih'
        exact ih'
      · rw [if_neg (fun q => ?_)]
        · rw [b2_f (by omega)] at ih'
          exact ih'
        · have ht : t < 1000 := by rw [← hpt]; exact hb _ (List.getElem_mem hp)
          have := rNm_inj hr ht q
          rw [← hpt] at this
          exact List.pairwise_iff_getElem.mp hnd i pos hi' hp (by omega) this
    have len1 : ((T.take (i + 1)).filter (tvP M l)).length = ((T.take i).filter (tvP M l)).length + (([T[i]] : List Nat).filter (tvP M l)).length := by
      rw [List.take_succ_eq_append_getElem hi', List.filter_append, List.length_append]
    rw [fm_where_165, hL.1, if_neg (fun q => absurd ((jI_le (by omega) (by omega)).mp q) (by omega)), b2_f (by omega), if_pos rfl, ck_n (by omega) (by omega), e53, ck_n hr (by omega), rd_n _ _ (by omega), h.2.2.2.2 _ hr]
    unfold fm_where_221
    have tv : tvP M l T[i] = (gd M l T[i] && !(l.any (erP M l T[i]))) := rfl
    cases hg : gd M l T[i]
    · rw [if_pos bFn]
      refine fin _ _ ?_
      rw [len1, List.filter_cons_of_neg (by rw [tv, hg]; simp), List.filter_nil]
      exact jI_add _ 0
    · rw [if_neg bTn, ck_n hn (by omega), ck_n (by omega) (by omega), rd_e h.1 (by decide) (by omega), h23, m_isErased h hr, bd_s]
      cases he : l.any (erP M l T[i])
      · rw [if_pos bFn]
        refine fin _ _ ?_
        rw [len1, List.filter_cons_of_pos (by rw [tv, hg, he]; rfl), List.filter_nil]
        exact jI_add _ 1
      · rw [if_neg bTn]
        refine fin _ _ ?_
        rw [len1, List.filter_cons_of_neg (by rw [tv, hg, he]; decide), List.filter_nil]
        exact jI_add _ 0
theorem c_where (hk : k + 1 < 900) : lC_where x0 (Inv x0 k) (Inv x0 (k + 1)) := by
  intro S M v1 v2 v3 h
  have h0 := Inv_0 h (by omega)
  unfold fk_11_where fm_where fk_11_where_23 fk_11_where_87 fm_where_32
  rw [lt_d, k_isNode, bd_s, m_wb, k_isNode, bd_s, m_wb, m_wb]
  generalize pu M 0 0 = A at h0 ⊢
  have h1 := Inv_1 h0 hk
  have h00 := h0
  obtain ⟨ra, sl, mkO, L, Wt, ro, fa, hc, hh, hkd, hth, htx, hro, hl, hnu⟩ := h0
  by_cases hv : 0 ≤ v1 ∧ v1 ≤ 3
  · obtain ⟨n, hn, rfl⟩ := wi3.mp hv
    rw [b2_t hv, if_neg n10, if_neg n10]
    by_cases hv2 : 0 ≤ v2 ∧ v2 ≤ 3
    · obtain ⟨m2, hm2, rfl⟩ := wi3.mp hv2
      rw [b2_t hv2, if_neg n10, if_neg n10]
      by_cases hv3 : 0 ≤ v3 ∧ v3 ≤ 3
      · obtain ⟨c3, hc3, rfl⟩ := wi3.mp hv3
        obtain ⟨⟨hA, hsl, htb, hBt⟩, ⟨hB, -⟩, hN, -⟩ := hc
        obtain ⟨⟨hM1, hC1⟩, -⟩ := hN n hn
        obtain ⟨⟨hy, hv', hls⟩, -, -, -, -, -, hcu⟩ := hC1
        have hcl := hM1.1.2.1
        have refl := mEx_refl sc A
        have hle := cl_len hcl
        have c0 := hcu (4 * m2) (by omega)
        have cc := hcu (4 * m2 + c3) (by omega)
        have c1 := hcu (4 * m2 + 1) (by omega)
        have c3' := hcu (4 * m2 + 3) (by omega)
        obtain ⟨-, hcI⟩ := (hnu n hn).2 m2 hm2
        rw [b2_t hv3, if_neg n10, lt_d, if_neg (Int32.not_lt.mpr hv3.1), if_pos hv3.2, k_nd hh hn, bd_s, ckk_y hy.1.1, hy.1.2.2.2.2.2.2.2.2, bd_s, ckk_y hy.2.2.2.2.1.1, hy.2.2.2.2.1.2, show (4 : Int32) * Int32.ofNat m2 = Int32.ofNat (4 * m2) from jI_mul 4 m2, ck_n (by omega) (by omega), lt_d, jI_cl (by omega), c0, show (16 : Int32) * Int32.ofNat n = Int32.ofNat (16 * n) from jI_mul 16 n, jI_add (16 * n) (4 * m2)]
        have rdx : ∀ q, q < 4 → rd A 31 (Int32.ofNat (16 * n + 4 * m2) + Int32.ofNat q) = A.2 31 (16 * n + 4 * m2 + q) := fun q hq => by rw [jI_add, rd_n _ _ (by omega)]
        by_cases e0 : c3 = 0
        · subst e0
          rw [if_pos (show Int32.ofNat 0 = 0 from rfl), if_pos (show Int32.ofNat 0 ≤ 0 by decide)]
          unfold fm_where_60
          rw [if_neg (show ¬ (3 : Int32) ≤ Int32.ofNat 0 by decide), jI_add (16 * n + 4 * m2) 0, ck_n (by omega) (by omega), rd_n _ _ (by omega)]
          exact ⟨_, _, _, rfl, rfl, h1⟩
        rw [if_neg (jN 0 0 rfl e0 (by omega) (by decide)), if_neg (jI_p (by omega) (by omega)), ck_n (by omega) (by omega), rd_n A 31 (i := 16 * n + 4 * m2) (by omega)]
        by_cases ez : A.2 31 (16 * n + 4 * m2) = 0
        · rw [if_pos ez, if_pos ez]; exact ⟨_, _, _, rfl, rfl, h1⟩
        rw [if_neg ez, if_neg ez]
        unfold fm_where_60
        by_cases e3 : c3 = 3
        · subst e3
          rw [if_pos (show Int32.ofNat 3 = 3 from rfl), if_pos (show (3 : Int32) ≤ Int32.ofNat 3 by decide), k_nd hh hn, bd_s, ckk_y hh.1.1]
          obtain ⟨j, m, kd, p, hpt, y1, y2, y3⟩ := hcI ez
          have hj := (hA.2.1.1 j m hpt.1).1
          have hmd := (hA.2.1.1 j m hpt.1).2.1
          have hslot : slF mkO (Int32.ofNat (rNm m)) = some j := slF_mk hA.2.1.2.1 (fun j m h => ⟨(hA.2.1.1 j m h).1, (hA.2.1.1 j m h).2.1.1⟩) hpt.1
          have hup : (L n).take 1000 = L n := List.take_of_length_le hle
          have hvm : vMd mkO (L n) 1000 j = decide (m ∈ L n) := by unfold vMd; rw [hpt.1, hup]
          have i1 : Int32.ofNat (16 * n + 4 * m2) + 1 = Int32.ofNat (16 * n + 4 * m2 + 1) := jI_add _ 1
          have i2 : Int32.ofNat (16 * n + 4 * m2) + 2 = Int32.ofNat (16 * n + 4 * m2 + 2) := jI_add _ 2
          have i3 : Int32.ofNat (16 * n + 4 * m2) + 3 = Int32.ofNat (16 * n + 4 * m2 + 3) := jI_add _ 3
          rw [← Nat.add_assoc] at c1 c3'
          unfold fk_11_placeOfCursor fk_11_placeOfCursor_74 fm_where_125
          rw [i1, i3, ck_n (by omega) (by omega), rd_n A 31 (i := 16 * n + 4 * m2 + 1) (by omega), y1, lt_d, ck_n (by omega) (by omega), rd_n A 31 (i := 16 * n + 4 * m2 + 3) (by omega), lt_d, m_isMadeNow refl hM1.2.1, bd_s, mkN_mk hA hpt.1, ckk_y hh.1.1, hh.1.2.2.1, bd_s, ckk_y hy.1.1, hy.1.2.2.2.2.2.2.2.2, bd_s, ckk_y hy.2.2.2.2.1.1, hy.2.2.2.2.1.2, show Int32.ofNat (4 * m2) + 1 = Int32.ofNat (4 * m2 + 1) from jI_add _ 1, show Int32.ofNat (4 * m2) + 3 = Int32.ofNat (4 * m2 + 3) from jI_add _ 3, ck_n (by omega) (by omega), ckk_y hB.1.1, jI_cl (by omega), c1, y1, k_slotOf hB (mk_all hA), hslot, bd_s, ckk_y hy.1.1, hy.1.2.2.2.1, bd_s, ckk_y hv'.2.1.1.1, show rI (some j) = Int32.ofNat j from rfl, k_isMade hB hv'.1 hv'.2.1 (lOk_cl hcl) hj, bd_s, hvm]
          by_cases hin : m ∈ L n
          · rw [decide_eq_true hin, if_neg bTn, if_neg bTn, ckk_y hy.1.1, bd_s, ckk_y hy.2.2.2.2.1.1, hy.2.2.2.2.1.2, ck_n (by omega) (by omega), lt_d, jI_cl (by omega), c3']
            unfold fm_where_127
            rcases y3 with y3 | ⟨t, t1, t2, t3⟩
            · rw [y3, if_pos rfl, if_pos rfl, if_pos rfl, bd_s, lt_d, lt_d]
              exact ⟨_, _, _, rfl, rfl, h1⟩
            · have htn : ¬ Int32.ofNat (rNm t) = 0 := jN 0 0 rfl (by have := rM_le t; unfold rNm; omega) (by have := rNm_lt t1.1; omega) (by decide)
              obtain ⟨ho, k9, -, ⟨-, -, -, k12⟩, -, k13, -⟩ := hB.2.2.1 t t1.1 t1
              rw [t3, if_neg htn, if_neg htn, if_neg htn, ckk_y hh.1.1, bd_s, ckk_y hB.1.1, k_rowNamed hB, rOf_nm t1.1, bd_s, m_rowOf, rOf_nm t1.1, bd_s, show rI (some t) = Int32.ofNat t from rfl, m_isApplied refl hM1.2.1 t1.1, bd_s, show (some t).bind (kO S (x0 + 5 + 1)) = kO S (x0 + 5 + 1) t from rfl, ho]
              show ∃ r S1 M1, (bd (ckk S (sN x0 n) 8 _) _) = _ ∧ _
              rw [ckk_y hy.1.1, hy.1.2.2.1, bd_s, ckk_y hv'.1.1.1.1, k_has hB hv'.1 hle t1.1 t1, bd_s]
              by_cases htin : t ∈ L n
              · have hch : chF A sl t = Int32.ofNat (8 * j + p) := (chR hA hpt t1).mpr ⟨by rw [t2.1]; rfl, by rw [t2.2.1, y1], by rw [t2.2.2, y2]⟩
                have hnd : x0 + 5 + 5 ≤ sN x0 n ∧ sN x0 n + 26 ≤ x0 + 5 + 128 := by unfold sN; omega
                have hsN : x0 + 22 ≤ sN x0 n := by unfold sN; omega
                have hQ := cQ_nv hcl hB hv' hnd
                have hp6 := hpt.2.2.2.1
                obtain ⟨S9, s1, s2, s3, s4, s5, s6, s7, s8⟩ := k_read (c := 8 * j + p) (by omega) hQ htx.1 (by omega) (tcOk_cl hA hcl hpt 1000)
                have z0 := s2.2.2.2.2 x0 (fun q => by have := q.1; omega)
                have zt := s2.2.2.2.2 (ra t) (fun q => by have h1 := q.2; have h2 := hB.1.2.2.2.2.2 t t1; omega)
                have hT0 := lk_T0 hA hcl hpt 1000
                have hTs := lk_T hA hcl hpt 1000
                rw [hup] at hT0 hTs
                generalize hTT : txR A (L n) (Int32.ofNat (rNm m)) (Int32.ofNat p) = T at hT0 hTs
                have hTmem : ∀ r, r ∈ T ↔ r ∈ L n ∧ isO A 9 (Int32.ofNat (rNm m)) (Int32.ofNat p) r := fun r => by rw [← hTT]; exact txR_mem
                have htT : t ∈ T := (hTmem t).mpr ⟨htin, by rw [← y1, ← y2]; exact t2⟩
                have hTnd : T.Nodup := by rw [← hTT]; exact txR_nd (cl_nd hcl)
                have hTlen : T.length ≤ 1000 := by
                  rw [← hTT]; unfold txR; rw [txL_len, len_srt]; exact Nat.le_trans (List.length_filter_le _ _) hle
                obtain ⟨pos, hpos, hpe⟩ := List.mem_iff_getElem.mp htT
                have hsd : ∀ r ∈ T, sdP A (L n) 1000 (tcL A (chF A sl) (L n) 1000 (8 * j + p)) r = tvP A (L n) r := fun r hr => by
                  have e1 : (tlL A (chF A sl) (L n) 1000 (8 * j + p)).filter (sdP A (L n) 1000 (tcL A (chF A sl) (L n) 1000 (8 * j + p))) = T.filter (tvP A (L n)) := hTs
                  rw [hT0] at e1
                  have e2 : r ∈ T.filter (sdP A (L n) 1000 (tcL A (chF A sl) (L n) 1000 (8 * j + p))) ↔ r ∈ T.filter (tvP A (L n)) := by rw [e1]
                  rw [List.mem_filter, List.mem_filter] at e2
                  cases h1 : sdP A (L n) 1000 (tcL A (chF A sl) (L n) 1000 (8 * j + p)) r <;> cases h2 : tvP A (L n) r
                  · rfl
                  · exact absurd (e2.mpr ⟨hr, h2⟩).2 (by rw [h1]; decide)
                  · exact absurd (e2.mp ⟨hr, h1⟩).2 (by rw [h2]; decide)
                  · rfl
                rw [hT0] at s7 s8
                have hT9 : txA S9 (x0 + 13) (x0 + 5) := by unfold txA; rw [s3]; simp only [s2.1, s2.2.1]; exact htx.1
                have kgo := k_standGo (S := S9) (tx := x0 + 13) (v1 := ra t) (t := t) (f := tvP A (L n)) hT9.1.1 hT9.1.2.2.2.1 hT9.1.2.2.2.2 ⟨hT9.2.2.2.1, hT9.2.2.2.2.1⟩ ⟨hT9.2.2.2.2.2.1, hT9.2.2.2.2.2.2⟩ (by rw [s2.1]; exact k9) (by rw [zt.1]; exact k12) t1.1 T 0 mFU 0 0 s7 (fun r hr => ⟨(cl_mem hcl ((hTmem r).mp hr).1).1, by rw [s8 r hr, hsd r hr]⟩) htT hTnd (Nat.lt_of_le_of_lt hTlen (by decide)) (by omega) (by omega) pos hpos hpe
                obtain ⟨B, b1, b2', b3, b4, b5⟩ := m_lookR hM1.1 refl hpt (rl_or (Or.inr (Or.inr (Or.inr (Or.inr (Or.inr (Or.inr rfl))))))) (L n).length (Nat.le_refl _)
                rw [List.take_length] at b3 b4 b5
                have hr : rdy A B n (L n) := ⟨mEx_mono b2' wL_sc, hM1.1.2.2.1, hA.2.2.2, kInj_cl hA hcl, b4⟩
                have b5' := b5 rfl
                rw [hTT] at b5'
                have mgo := m_whereGo hr hM1.1.2.2.2 b5' hTlen (fun r hr => (cl_mem hcl ((hTmem r).mp hr).1).1) hTnd hpos hpe (pos + 1) 0 mFU (by omega) (Nat.lt_of_lt_of_le (show pos + 1 < 1002 by omega) (by decide))
                have mgo' : fm_where_165 mFU B (Int32.ofNat n) (Int32.ofNat (rNm t)) 0 0 0 = some (Int32.ofNat ((T.take (pos + 1)).filter (tvP A (L n))).length, B) := by
                  rw [b2_f (by omega)] at mgo; exact mgo
                rw [b2_t htin, if_neg n10, if_neg n10, ckk_y hh.1.1, hh.1.2.2.2.2.2.2.1, bd_s, ckk_y hy.1.1, bd_s, ckk_y k9, ckk_y htx.1.1.1, k13, hch, s1, bd_s, ckk_y (by rw [s2.1]; exact hh.1.1), z0.2.1, hh.1.2.2.2.2.2.2.1, bd_s, ckk_y hT9.1.1]
                unfold fk_9_standingUpTo
                rw [ckk_y hT9.1.1, hT9.1.2.2.2.1, bd_s, ckk_y hT9.2.2.2.1, hT9.2.2.2.2.1]
                rw [show ∀ K : Option Int32, ck 0 1001 K = K from fun K => ck_n (i := 0) (by decide) (by decide), lt_d]
                have kgo' : fk_9_standingUpTo_12 S9 mFU (x0 + 13) (ra t) 0 (kI S9 (x0 + 13 + 2) (Int32.toNatClampNeg 0)) 0 = some (Int32.ofNat ((T.take (pos + 1)).filter (tvP A (L n))).length) := by
                  rw [Nat.zero_add] at kgo; exact kgo
                rw [kgo', bd_s, bd_s, lt_d, lt_d, ck_n hn (by omega), i2, ck_n (by omega) (by omega), rd_n _ _ (by omega), hM1.1.2.2.2, rd_n A 31 (i := 16 * n + 4 * m2 + 2) (by omega), y2, b1, bd_s, mgo']
                exact ⟨_, _, _, rfl, rfl, Inv_l h00 hk (mEx_mono b2' (fun k hk => Or.inr (wL_sc k hk))) (lkE_T s2 s3)⟩
              · rw [b2_f htin, if_pos rfl, if_pos rfl, bd_s, lt_d, lt_d]
                exact ⟨_, _, _, rfl, rfl, h1⟩
          · rw [decide_eq_false hin, if_pos bFn, if_pos bFn, bd_s, lt_d, lt_d]
            exact ⟨_, _, _, rfl, rfl, h1⟩
        · rw [if_neg (jN 3 3 rfl e3 (by omega) (by decide)), if_neg (jK 3 3 rfl (by omega) (by decide)), jI_add (4 * m2) c3, jI_add (16 * n + 4 * m2) c3, ckk_y hy.2.2.2.2.1.1, ck_n (by omega) (by omega), jI_cl (by omega), cc, ck_n (by omega) (by omega), rd_n _ _ (by omega), Nat.add_assoc]
          exact ⟨_, _, _, rfl, rfl, h1⟩
      · rw [b2_f hv3, if_pos rfl]
        by_cases e1 : v3 < 0
        · rw [if_pos e1]; exact ⟨_, _, _, rfl, rfl, h1⟩
        · rw [if_neg e1, if_neg (fun q => hv3 ⟨Int32.not_lt.mp e1, q⟩)]; exact ⟨_, _, _, rfl, rfl, h1⟩
    · rw [b2_f hv2, if_pos rfl, if_pos rfl]; exact ⟨_, _, _, rfl, rfl, h1⟩
  · rw [b2_f hv, if_pos rfl, if_pos rfl]
    exact ⟨_, _, _, rfl, rfl, h1⟩
end V
