-- part 59: the reference tells turns of lists
section R
variable {M A : mSt} {mkO : Nat → Option Nat} {sl : Nat → Int32} {n : Nat} {l : List Nat}
/-- what the lists stand on is as it was -/
def kEq (M A : mSt) : Prop := ∀ k, (5 ≤ k ∧ k ≤ 16) ∨ k = 20 ∨ k = 23 ∨ k = 24 ∨ (32 ≤ k ∧ k ≤ 36) → A.2 k = M.2 k
theorem kEq_r (e : kEq M A) : rEq M A := fun k h1 h2 => e k (Or.inl ⟨h1, h2⟩)
theorem kEq_trans {B : mSt} (e : kEq M A) (e' : kEq A B) : kEq M B := fun k h => (e' k h).trans (e k h)
theorem kEq_mEx {W : Nat → Prop} (e : mEx W M A) (hW : ∀ k, W k → ¬ ((5 ≤ k ∧ k ≤ 16) ∨ k = 20 ∨ k = 23 ∨ k = 24 ∨ (32 ≤ k ∧ k ≤ 36))) : kEq M A := fun k h => (e k (fun q => hW k q h)).2
theorem mR_k (h : mR M mkO sl n l) (e : kEq M A) : mR A mkO sl n l := by
  obtain ⟨h1, h2, h3, h4⟩ := h
  refine ⟨rA_r (kEq_r e) h1, cl_r (kEq_r e) h2, ?_, ?_⟩
  · unfold lAt; rw [e 24 (by omega)]; exact h3
  · rw [e 23 (by omega)]; exact h4
theorem lsM_k (h : lsM M n) (e : kEq M A) : lsM A n := by
  unfold lsM; rw [e 32 (by omega), e 33 (by omega), e 34 (by omega), e 6 (by omega)]; exact h
theorem inLs_k (e : kEq M A) : inLs A = inLs M := by
  have h : ltV A = ltV M := by funext l o p; unfold ltV oV; rw [ltB_r (kEq_r e), e 12 (by omega)]
  funext n l q m
  unfold inLs
  rw [h, thN_r (kEq_r e), e 32 (by omega), e 33 (by omega), e 34 (by omega), e 35 (by omega), e 36 (by omega), e 12 (by omega)]
theorem liL_k (e : kEq M A) : liL A = liL M := by
  funext n l q; unfold liL; rw [inLs_k e, obL_r (kEq_r e)]
/-- the turns of one list, as they are told -/
def tuE (r q : Nat) (D : List (Nat × Int32)) : List En := D.map (fun e => (Int32.ofNat (rNm r), Int32.ofNat q, Int32.ofNat e.1, e.2))
theorem m_merge (hn : n < 4) {r q : Nat} (hr : r < 1000) (hq : q < 4) {Ao Bn : List Nat} (ha : Ao.length ≤ 48) (hb : Bn.length ≤ 48) (ha1 : ∀ x ∈ Ao, x < 1000) (hb1 : ∀ x ∈ Bn, x < 1000) (g2 : mSt → Int32 → Int32 → Int32 → Option mSt) : ∀ (d i j fu : Nat) (s : mSt) (F : List En), (Ao.length - i) + (Bn.length - j) = d → i ≤ Ao.length → j ≤ Bn.length → d < fu → inK s q Ao → inI s Bn → mTu s n F → ∃ s', fm_tellLists_19 g2 fu s (Int32.ofNat n) (Int32.ofNat r) (Int32.ofNat q) (Int32.ofNat i) (Int32.ofNat j) = g2 s' (Int32.ofNat n) (Int32.ofNat r) (Int32.ofNat (q + 1)) ∧ mEx wTu s s' ∧ mTu s' n ((tuE r q (mdf ((Ao.drop i).map rNm) ((Bn.drop j).map rNm))).foldl (adE 200) F) ∧ otT s s' n := by
  intro d
  induction d using Nat.strongRecOn with
  | _ d ih =>
    intro i j fu s F hd hi hj hf hK hI hT
    obtain ⟨fu, rfl⟩ : ∃ z, fu = z + 1 := ⟨fu - 1, by omega⟩
    have en : ∀ k : Nat, Int32.ofNat k + 1 = Int32.ofNat (k + 1) := fun k => by rw [show (1 : Int32) = Int32.ofNat 1 from rfl, jI_add]
    have e0 : ∀ k : Nat, Int32.ofNat k + 0 = Int32.ofNat k := fun k => Int32.add_zero _
    rw [fm_tellLists_19, ck_n hq (by omega), rd_n _ _ (by omega), hK.1]
    have stay : ∀ {s' : mSt}, mEx wTu s s' → inK s' q Ao ∧ inI s' Bn := fun {s'} e => by
      refine ⟨?_, inI_e hI e (by unfold wTu; omega) (by unfold wTu; omega)⟩
      unfold inK
      rw [(e 66 (by unfold wTu; omega)).2, (e 65 (by unfold wTu; omega)).2]
      exact hK
    by_cases h1 : i < Ao.length
    · have da : (Ao.drop i).map rNm = rNm Ao[i] :: (Ao.drop (i + 1)).map rNm := by rw [List.drop_eq_getElem_cons h1]; rfl
      have xa := ha1 _ (List.getElem_mem h1)
      have xn := rNm_lt xa
      rw [if_pos ((jI_lt (by omega) (by omega)).mpr h1)]
      unfold fm_tellLists_39 fm_tellLists_68
      rw [ck_n hq (by omega), rd_n _ _ (by omega), hK.1, if_neg (fun z => absurd ((jI_le (by omega) (by omega)).mp z) (by omega)), show (48 : Int32) = Int32.ofNat 48 from rfl, jI_mul, jI_add, ck_n (by omega) (by omega), rd_n _ _ (by omega), hK.2 i h1, hI.1]
      by_cases h2 : j < Bn.length
      · have db : (Bn.drop j).map rNm = rNm Bn[j] :: (Bn.drop (j + 1)).map rNm := by rw [List.drop_eq_getElem_cons h2]; rfl
        have xb := hb1 _ (List.getElem_mem h2)
        have xm := rNm_lt xb
        rw [if_neg (fun z => absurd ((jI_le (by omega) (by omega)).mp z) (by omega)), ck_n (by omega) (by omega), rd_n _ _ (by omega), hI.2 j h2]
        unfold fm_tellLists_92 fm_tellLists_111 fm_tellLists_128 fm_tellLists_142 fm_tellLists_159
        rw [da, db]
        rcases Nat.lt_trichotomy (rNm Ao[i]) (rNm Bn[j]) with hc | hc | hc
        · obtain ⟨T, t1, t2, t3, t4⟩ := m_turn hn hr hT (Int32.ofNat q) (Int32.ofNat (rNm Ao[i])) 0
          obtain ⟨kT, iT⟩ := stay t2
          obtain ⟨s', a1, a2, a3, a4⟩ := ih (Ao.length - (i + 1) + (Bn.length - j)) (by omega) (i + 1) j fu T _ rfl (by omega) hj (by omega) kT iT t3
          refine ⟨s', ?_, mEx_trans t2 a2, ?_, otT_trans t4 a4⟩
          · rw [← a1, if_neg (fun z => absurd ((jI_le (by omega) (by omega)).mp z) (by omega)), t1, bd_s, if_pos ((jI_le (by omega) (by omega)).mpr (by omega)), if_neg (fun z => absurd ((jI_lt (by omega) (by omega)).mp z) (by omega)), lt_d, if_pos ((jI_lt (by omega) (by omega)).mpr hc), lt_d, en, e0]
          · unfold mdf
            rw [if_pos hc]
            show mTu s' n (((tuE r q (mdf _ _))).foldl (adE 200) (adE 200 F _))
            rw [← db]; exact a3
        · obtain ⟨s', a1, a2, a3, a4⟩ := ih (Ao.length - (i + 1) + (Bn.length - (j + 1))) (by omega) (i + 1) (j + 1) fu s F rfl (by omega) (by omega) (by omega) hK hI hT
          refine ⟨s', ?_, a2, ?_, a4⟩
          · rw [← a1, hc, if_pos (Int32.le_refl _), if_pos (Int32.le_refl _), if_neg (show ¬ Int32.ofNat (rNm Bn[j]) < Int32.ofNat (rNm Bn[j]) from fun z => Int32.lt_irrefl z), lt_d, if_neg (show ¬ Int32.ofNat (rNm Bn[j]) < Int32.ofNat (rNm Bn[j]) from fun z => Int32.lt_irrefl z), lt_d, en, en]
          · unfold mdf
            rw [if_neg (by omega), if_neg (by omega)]; exact a3
        · obtain ⟨T, t1, t2, t3, t4⟩ := m_turn hn hr hT (Int32.ofNat q) (Int32.ofNat (rNm Bn[j])) 1
          obtain ⟨kT, iT⟩ := stay t2
          obtain ⟨s', a1, a2, a3, a4⟩ := ih (Ao.length - i + (Bn.length - (j + 1))) (by omega) i (j + 1) fu T _ rfl hi (by omega) (by omega) kT iT t3
          refine ⟨s', ?_, mEx_trans t2 a2, ?_, otT_trans t4 a4⟩
          · rw [← a1, if_pos ((jI_le (by omega) (by omega)).mpr (by omega)), if_neg (fun z => absurd ((jI_le (by omega) (by omega)).mp z) (by omega)), t1, bd_s, if_pos ((jI_lt (by omega) (by omega)).mpr hc), lt_d, if_neg (fun z => absurd ((jI_lt (by omega) (by omega)).mp z) (by omega)), lt_d, en, e0]
          · unfold mdf
            rw [if_neg (by omega), if_pos hc]
            show mTu s' n (((tuE r q (mdf _ _))).foldl (adE 200) (adE 200 F _))
            rw [← da]; exact a3
      · have db : (Bn.drop j).map rNm = [] := by rw [List.drop_eq_nil_of_le (by omega)]; rfl
        rw [if_pos ((jI_le (by omega) (by omega)).mpr (by omega))]
        unfold fm_tellLists_92 fm_tellLists_111 fm_tellLists_128 fm_tellLists_142 fm_tellLists_159
        obtain ⟨T, t1, t2, t3, t4⟩ := m_turn hn hr hT (Int32.ofNat q) (Int32.ofNat (rNm Ao[i])) 0
        obtain ⟨kT, iT⟩ := stay t2
        obtain ⟨s', a1, a2, a3, a4⟩ := ih (Ao.length - (i + 1) + (Bn.length - j)) (by omega) (i + 1) j fu T _ rfl (by omega) hj (by omega) kT iT t3
        refine ⟨s', ?_, mEx_trans t2 a2, ?_, otT_trans t4 a4⟩
        · rw [← a1, show (10000 : Int32) = Int32.ofNat 10000 from rfl, if_neg (fun z => absurd ((jI_le (by omega) (by omega)).mp z) (by omega)), t1, bd_s, if_pos ((jI_le (by omega) (by omega)).mpr (by omega)), if_neg (fun z => absurd ((jI_lt (by omega) (by omega)).mp z) (by omega)), lt_d, if_pos ((jI_lt (by omega) (by omega)).mpr (by omega)), lt_d, en, e0]
        · rw [da, db]
          rw [db] at a3
          unfold mdf
          exact a3
    · have da : (Ao.drop i).map rNm = [] := by rw [List.drop_eq_nil_of_le (by omega)]; rfl
      rw [if_neg (fun z => absurd ((jI_lt (by omega) (by omega)).mp z) (by omega)), hI.1]
      by_cases h2 : j < Bn.length
      · have db : (Bn.drop j).map rNm = rNm Bn[j] :: (Bn.drop (j + 1)).map rNm := by rw [List.drop_eq_getElem_cons h2]; rfl
        have xb := hb1 _ (List.getElem_mem h2)
        have xm := rNm_lt xb
        rw [if_neg (fun z => absurd ((jI_le (by omega) (by omega)).mp z) (by omega))]
        unfold fm_tellLists_39 fm_tellLists_68 fm_tellLists_92 fm_tellLists_111 fm_tellLists_128 fm_tellLists_142 fm_tellLists_159
        obtain ⟨T, t1, t2, t3, t4⟩ := m_turn hn hr hT (Int32.ofNat q) (Int32.ofNat (rNm Bn[j])) 1
        obtain ⟨kT, iT⟩ := stay t2
        obtain ⟨s', a1, a2, a3, a4⟩ := ih (Ao.length - i + (Bn.length - (j + 1))) (by omega) i (j + 1) fu T _ rfl hi (by omega) (by omega) kT iT t3
        refine ⟨s', ?_, mEx_trans t2 a2, ?_, otT_trans t4 a4⟩
        · rw [← a1, ck_n hq (by omega), rd_n _ _ (by omega), hK.1, if_pos ((jI_le (by omega) (by omega)).mpr (by omega)), hI.1, if_neg (fun z => absurd ((jI_le (by omega) (by omega)).mp z) (by omega)), ck_n (by omega) (by omega), rd_n _ _ (by omega), hI.2 j h2, show (10000 : Int32) = Int32.ofNat 10000 from rfl, if_pos ((jI_le (by omega) (by omega)).mpr (by omega)), if_neg (fun z => absurd ((jI_le (by omega) (by omega)).mp z) (by omega)), t1, bd_s, if_pos ((jI_lt (by omega) (by omega)).mpr (by omega)), lt_d, if_neg (fun z => absurd ((jI_lt (by omega) (by omega)).mp z) (by omega)), lt_d, en, e0]
        · rw [da, db]
          rw [da] at a3
          unfold mdf
          exact a3
      · have db : (Bn.drop j).map rNm = [] := by rw [List.drop_eq_nil_of_le (by omega)]; rfl
        rw [if_pos ((jI_le (by omega) (by omega)).mpr (by omega)), lt_d, en]
        refine ⟨s, rfl, mEx_refl _ _, ?_, otT_refl _ _⟩
        rw [da, db]
        unfold mdf
        exact hT
/-- all turns -/
def tuA (r : Nat) (old new : Nat → List Nat) (k : Nat) : List En := (List.range k).flatMap (fun q => tuE r q (mdf ((old q).map rNm) ((new q).map rNm)))
theorem tuA_succ (r : Nat) (old new : Nat → List Nat) (k : Nat) : tuA r old new (k + 1) = tuA r old new k ++ tuE r k (mdf ((old k).map rNm) ((new k).map rNm)) := by
  unfold tuA
  rw [List.range_succ, List.flatMap_append]
  simp
def wY : Nat → Prop := fun k => wF k ∨ wTu k
theorem m_tellLists (h : mR A mkO sl n l) (hls : lsM A n) {r : Nat} (hr : r < 1000) {old : Nat → List Nat} (ho : ∀ q, (old q).length ≤ 48 ∧ ∀ x ∈ old q, x < 1000) {F : List En} (hT : mTu A n F) (hK : ∀ q, q < 4 → inK A q (old q)) : ∃ B, fm_tellLists A (Int32.ofNat n) (Int32.ofNat r) = some B ∧ mEx wY A B ∧ mTu B n ((tuA r old (liL A n l) 4).foldl (adE 200) F) ∧ otT A B n := by
  have hn := h.2.2.1.1
  unfold fm_tellLists
  obtain ⟨b, h1, h2⟩ := loopI (σ := mSt) (β := mSt) (N := 4) (F := fun k s i => fm_tellLists_2 k s (Int32.ofNat n) (Int32.ofNat r) (Int32.ofNat i)) (Q := fun b => mEx wY A b ∧ mTu b n ((tuA r old (liL A n l) 4).foldl (adE 200) F) ∧ otT A b n)
    (fun i s => mEx wY A s ∧ mTu s n ((tuA r old (liL A n l) i).foldl (adE 200) F) ∧ otT A s n)
    (fun k s hs => ⟨s, by
      show fm_tellLists_2 (k + 1) s (Int32.ofNat n) (Int32.ofNat r) (Int32.ofNat 4) = _
      rw [fm_tellLists_2]
      exact if_pos (by decide), hs⟩)
    (fun k s i hi hs => Or.inl (by
      obtain ⟨g1, g2, g3⟩ := hs
      have ks : kEq A s := kEq_mEx g1 (fun k hk => by unfold wY wF wTu at hk; omega)
      have hRs := mR_k h ks
      obtain ⟨B, b1, b2', b3⟩ := m_findList hRs (lsM_k hls ks) (mEx_refl sc s) hi
      rw [liL_k ks] at b3
      have hKs : inK s i (old i) := by
        unfold inK
        rw [(g1 66 (by unfold wY wF wTu; omega)).2, (g1 65 (by unfold wY wF wTu; omega)).2]
        exact hK i hi
      have hKB : inK B i (old i) := by
        unfold inK
        rw [(b2' 66 (by unfold wF; omega)).2, (b2' 65 (by unfold wF; omega)).2]
        exact hKs
      have hTB := mTu_e g2 b2' (fun k hk => by unfold wF at hk; omega)
      have hlen := liL_len (n := n) h.1 h.2.1 i
      obtain ⟨s', a1, a2, a3, a4⟩ := m_merge hn hr hi (ho i).1 hlen (ho i).2 (fun x hx => cl_lt h.2.1 x (obL_mem.mp (List.mem_filter.mp hx).1).1) (fm_tellLists_2 k) ((old i).length - 0 + ((liL A n l i).length - 0)) 0 0 mFU B _ rfl (by omega) (by omega) (Nat.lt_of_le_of_lt (show _ ≤ 96 by have := (ho i).1; omega) (by decide)) hKB b3 hTB
      refine ⟨s', ⟨mEx_trans g1 (mEx_trans (mEx_mono b2' (fun k hk => Or.inl hk)) (mEx_mono a2 (fun k hk => Or.inr hk))), ?_, otT_trans g3 (otT_trans (otT_mEx b2' (fun k hk => by unfold wF at hk; omega) n) a4)⟩, ?_⟩
      · rw [tuA_succ, List.foldl_append]
        exact a3
      · show fm_tellLists_2 (k + 1) s (Int32.ofNat n) (Int32.ofNat r) (Int32.ofNat i) = _
        rw [fm_tellLists_2, if_neg (jK 4 4 (b := i) rfl (by omega) (by decide)), b1, bd_s]
        exact a1))
    4 0 mFU A (by omega) (by decide) ⟨mEx_refl _ _, hT, otT_refl _ _⟩
  exact ⟨b, h1, h2⟩
end R
