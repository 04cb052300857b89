-- part 90: listed, count
section V
variable {S S' : cSt} {M A : mSt} {ra : Nat → Nat} {sl : Nat → Int32} {mkO : Nat → Option Nat} {x0 n k : Nat} {l : List Nat} {L Wt : Nat → List Nat} {Bt : Nat}
theorem bit4 (b : Nat → Bool) {q : Nat} (hq : q < 4) : ((wB b 4 >>> (Int32.ofNat q &&& 31)) &&& (1 : Int32)) = b2 (b q = true) := by
  have key : ∀ b0 b1 b2' b3 : Bool, ∀ q : Fin 4, ((wB (fun i => if i = 0 then b0 else if i = 1 then b1 else if i = 2 then b2' else b3) 4 >>> (Int32.ofNat q.1 &&& 31)) &&& (1 : Int32)) = b2 ((if q.1 = 0 then b0 else if q.1 = 1 then b1 else if q.1 = 2 then b2' else b3) = true) := by decide
  have h := key (b 0) (b 1) (b 2) (b 3) ⟨q, hq⟩
  have e1 : wB (fun i => if i = 0 then b 0 else if i = 1 then b 1 else if i = 2 then b 2 else b 3) 4 = wB b 4 := rfl
  rw [e1] at h
  rw [h]
  have : q = 0 ∨ q = 1 ∨ q = 2 ∨ q = 3 := by omega
  rcases this with e | e | e | e <;> subst e <;> rfl
/-- how many, or the one at a place -/
def lsA (L : List Int32) (v : Int32) : Int32 := if v = -1 then Int32.ofNat L.length else if v < 0 then -1 else (L[v.toNatClampNeg]?).getD (-1)
theorem k_listed (hh : hsI x0 S M) {nd bk : Nat} (h8 : kK S nd = 8) (hb1 : kR S x0 1 = some bk) (hb : kK S bk = 1) {b : Nat → Nat → Bool} {g : Nat → Int32} (hf : ∀ j, j < 48 → fk_7_listsWith S nd (Int32.ofNat j) = some (wB (b j) 4)) (hg : ∀ j, j < 48 → fk_0_nameOf S bk (Int32.ofNat j) = some (g j)) {q : Nat} (hq : q < 4) {v : Int32} (hv : -1 ≤ v) : fk_11_listed_37 S mFU x0 (Int32.ofNat q) v (some nd) 0 0 = some (lsA (((List.range 48).filter (fun j => b j q)).map g) v) := by
  have key : ∀ (j i fu : Nat), i + j = 48 → j < fu → (∀ p, v = Int32.ofNat p → p < 2147483648 → ((List.range i).filter (fun j => b j q)).length ≤ p) → fk_11_listed_37 S fu x0 (Int32.ofNat q) v (some nd) (Int32.ofNat ((List.range i).filter (fun j => b j q)).length) (Int32.ofNat i) = some (lsA (((List.range 48).filter (fun j => b j q)).map g) v) := by
    intro j
    induction j with
    | zero =>
      intro i fu hi hfu hle
      obtain ⟨fu, rfl⟩ : ∃ q, fu = q + 1 := ⟨fu - 1, by omega⟩
      have e : i = 48 := by omega
      subst e
      unfold lsA
      rw [fk_11_listed_37, if_pos (show (48 : Int32) ≤ Int32.ofNat 48 by decide)]
      unfold fk_11_listed_95
      by_cases c : v = -1
      · rw [if_pos c, if_pos c, List.length_map]
      · rw [if_neg c, if_neg c]
        by_cases c2 : v < 0
        · rw [if_pos c2]
        · rw [if_neg c2, List.getElem?_eq_none (by rw [List.length_map]; exact hle _ (jI_of c2) (jI_clt v))]; rfl
    | succ j ih =>
      intro i fu hi hfu hle
      obtain ⟨fu, rfl⟩ : ∃ q, fu = q + 1 := ⟨fu - 1, by omega⟩
      have ih' := ih (i + 1) fu (by omega) (by omega)
      rw [List.range_succ, List.filter_append, List.length_append] at ih'
      have hl := List.length_filter_le (fun j => b j q) (List.range i)
      rw [List.length_range] at hl
      rw [fk_11_listed_37, if_neg (jK 48 48 rfl (by omega) (by decide)), bd_s, ckk_y h8, hf i (by omega), bd_s, bit4 _ hq]
      unfold fk_11_listed_78
      cases hb' : b i q
      · rw [if_neg (show ¬ b2 (false = true) = 1 by decide), lt_d, show (1 : Int32) = Int32.ofNat 1 from rfl, jI_add]
        rw [List.filter_cons_of_neg (by rw [hb']; decide), List.filter_nil] at ih'
        exact ih' hle
      · rw [if_pos (show b2 (true = true) = 1 by decide)]
        by_cases c : Int32.ofNat ((List.range i).filter (fun j => b j q)).length = v
        · have hi48 : i < (List.range 48).length := by rw [List.length_range]; omega
          have h1 := nth_at (L := List.range 48) (f := fun j => b j q) (i := i) (q := ((List.range i).filter (fun j => b j q)).length) hi48 (by rw [rg48 hi48]; exact hb') (by rw [rgt (by omega)])
          rw [if_pos c, ckk_y hh.1.1, hb1, bd_s, ckk_y hb, hg i (by omega), bd_s]
          unfold lsA
          have n1 : ¬ v = -1 := fun e => jI_ne (by omega) (c.trans e)
          have n2 : ¬ v < 0 := by rw [← c]; exact jI_nn (by omega)
          rw [if_neg n1, if_neg n2, ← c, jI_cl (by omega), List.getElem?_map, h1, rg48 hi48]; rfl
        · rw [if_neg c, lt_d, lt_d, show (1 : Int32) = Int32.ofNat 1 from rfl, jI_add, jI_add]
          rw [List.filter_cons_of_pos (by rw [hb']), List.filter_nil] at ih'
          refine ih' (fun p hp hp2 => ?_)
          have h1 := hle p hp hp2
          have h2 : ((List.range i).filter (fun j => b j q)).length ≠ p := fun e => c (by rw [e]; exact hp.symm)
          show _ + 1 ≤ p
          omega
  exact key 48 0 mFU rfl (by decide) (fun p _ _ => by simp)
theorem ls_bool (hA : rA M mkO sl) (q : Nat) : (∀ j, mkO j = none → (match mkO j with | none => false | some m => inLs M n l q m) = false) ∧ ∀ j m, mkO j = some m → (match mkO j with | none => false | some m => inLs M n l q m) = (decide (m ∈ l) && inLs M n l q m) := by
  refine ⟨fun j hj => by rw [hj], fun j m hm => ?_⟩
  rw [hm]
  show inLs M n l q m = _
  unfold inLs thN
  rw [mkN_mk hA hm]
  cases decide (m ∈ l) <;> simp
theorem c_listed (hk : k + 1 < 900) : lC_listed x0 (Inv x0 k) (Inv x0 (k + 1)) := by
  intro S M v1 v2 v3 h
  have h0 := Inv_0 h (by omega)
  unfold fk_11_listed fm_listed fk_11_listed_21 fm_listed_23 fm_listed_67
  rw [lt_d, k_isNode, bd_s, m_wb]
  generalize pu M 0 0 = A at h0 ⊢
  have h1 := Inv_1 h0 hk
  have h00 := h0
  obtain ⟨ra, sl, mkO, L, Wt, ro, fa, hc, hh, hkd, hth, htx, hro, hl, hnu⟩ := h0
  by_cases hv : 0 ≤ v1 ∧ v1 ≤ 3
  · obtain ⟨n, hn, rfl⟩ := wi3.mp hv
    rw [b2_t hv, if_neg n10, if_neg n10, m_wb]
    obtain ⟨⟨hA, hsl, htb, hBt⟩, ⟨hB, -⟩, hN, -⟩ := hc
    obtain ⟨⟨hM1, hC1⟩, -⟩ := hN n hn
    obtain ⟨⟨hy, hv', hls⟩, -⟩ := hC1
    have hcl := hM1.1.2.1
    have hnd : x0 + 5 + 5 ≤ sN x0 n ∧ sN x0 n + 26 ≤ x0 + 5 + 128 := by unfold sN; omega
    by_cases h2 : 0 ≤ v2 ∧ v2 ≤ 3
    · obtain ⟨q, hq, rfl⟩ := wi3.mp h2
      rw [b2_t h2, if_neg n10, if_neg (Int32.not_lt.mpr h2.1), if_neg (Int32.not_lt.mpr h2.2)]
      obtain ⟨B, b1, b2', b3, b4⟩ := m_findList hM1.1 hM1.2.2.1 (mEx_refl sc A) hq
      have hlen : (liL A n (L n) q).length ≤ 48 := by
        unfold liL
        refine Nat.le_trans (List.length_filter_le _ _) ?_
        unfold obL; rw [len_srt]; exact ob48 hA hcl
      have eB : mEx sc A B := mEx_mono b2' (fun k hk => by unfold wF at hk; unfold sc; omega)
      have lb := ls_bool (M := A) (n := n) (l := L n) hA q
      have hmap := sl_map hA hcl lb.1 lb.2
      rw [b1, bd_s, b3]
      have ref : (if v3 = -1 then some (Int32.ofNat (liL A n (L n) q).length, B) else bd (fm_within v3 0 (Int32.ofNat (liL A n (L n) q).length - 1)) fun r8 => if r8 = 0 then some (-1, B) else ck v3 48 (some (rd B 68 v3, B))) = some (lsA ((liL A n (L n) q).map (fun m => Int32.ofNat (rNm m))) v3, B) := by
        unfold lsA
        by_cases c : v3 = -1
        · rw [if_pos c, if_pos c, List.length_map]
        rw [if_neg c, if_neg c, m_wb]
        by_cases c2 : 0 ≤ v3 ∧ v3 ≤ Int32.ofNat (liL A n (L n) q).length - 1
        · obtain ⟨i, hi, rfl⟩ := (wiE (by omega)).mp c2
          rw [b2_t c2, if_neg n10, if_neg (jI_nn (by omega)), ck_n (by omega) (by omega), rd_n _ _ (by omega), b4 i hi, jI_cl (by omega), List.getElem?_map, List.getElem?_eq_getElem hi]; rfl
        · rw [b2_f c2, if_pos rfl]
          by_cases c3 : v3 < 0
          · rw [if_pos c3]
          · rw [if_neg c3, List.getElem?_eq_none]; · rfl
            rw [List.length_map]
            by_cases c4 : (liL A n (L n) q).length ≤ v3.toNatClampNeg
            · exact c4
            · exact absurd ((wiE (by omega)).mpr ⟨_, by omega, jI_of c3⟩) c2
      by_cases h5 : (-1 : Int32) ≤ v3
      · rw [if_pos h5, k_nd hh hn, k_listed hh hy.1.1 hh.1.2.2.1 hB.1.1 (fun j hj => k_listsWith hA hcl (cQ_nv hcl hB hv' hnd) (List.take_of_length_le (cl_len hcl)) hy hls hj) (fun j hj => k_nameJ hB hj) hq h5]
        exact ⟨_, _, congrArg (fun X => some (lsA X v3)) hmap, ref, Inv_m h00 hk eB⟩
      · rw [if_neg h5]
        refine ⟨_, _, rfl, ?_, Inv_m h00 hk eB⟩
        rw [ref]
        unfold lsA
        have h6 : v3 < 0 := Int32.lt_trans (Int32.not_le.mp h5) (show (-1 : Int32) < 0 by decide)
        rw [if_neg (fun e => h5 (by rw [e]; exact Int32.le_refl _)), if_pos h6]
    · rw [b2_f h2, if_pos rfl]
      by_cases e1 : v2 < 0
      · rw [if_pos e1]; exact ⟨_, _, rfl, rfl, h1⟩
      · rw [if_neg e1, if_pos (Int32.not_le.mp (fun q => h2 ⟨Int32.not_lt.mp e1, q⟩))]; exact ⟨_, _, rfl, rfl, h1⟩
  · rw [b2_f hv, if_pos rfl, if_pos rfl]
    exact ⟨_, _, rfl, rfl, h1⟩
end V
