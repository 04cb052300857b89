-- part 86: bound
section V
variable {S S' : cSt} {M A : mSt} {ra : Nat → Nat} {sl : Nat → Int32} {mkO : Nat → Option Nat} {x0 n k : Nat} {l : List Nat} {L Wt : Nat → List Nat} {Bt : Nat}
theorem kvL_mem {f : Nat → Option Nat} {n : Nat} {e : Int32 × Int32} : e ∈ kvL f n ↔ ∃ x r, x < n ∧ f x = some r ∧ e = (Int32.ofNat x, Int32.ofNat r) := by
  unfold kvL
  rw [List.mem_filterMap]
  constructor
  · rintro ⟨x, hx, h⟩
    rw [List.mem_range] at hx
    cases hf : f x with
    | none => rw [hf] at h; cases h
    | some r => rw [hf] at h; exact ⟨x, r, hx, hf, (Option.some.inj h).symm⟩
  · rintro ⟨x, r, hx, hf, rfl⟩
    exact ⟨x, List.mem_range.mpr hx, by rw [hf]; rfl⟩
theorem m_boundGo {B : mSt} (e : mEx sc A B) {f : Nat → Option Nat} (hf : ∀ x r, f x = some r → r < 1000 ∧ A.2 9 r = 15) (hP : inP B (kvL f 64)) (v : Int32) : ∀ (j i fu : Nat), i + j = (kvL f 64).length → j < fu → (∀ q (h : q < (kvL f 64).length), q < i → (kvL f 64)[q].1 ≠ v) → (∃ x r, x < 64 ∧ v = Int32.ofNat x ∧ f x = some r ∧ fm_bound_44 fu B v (Int32.ofNat i) = some (A.2 13 r, pu B 0 0)) ∨ ((∀ x, x < 64 → v = Int32.ofNat x → f x = none) ∧ fm_bound_44 fu B v (Int32.ofNat i) = some (0, B)) := by
  have hlen := kvL_len f 64
  intro j
  induction j with
  | zero =>
    intro i fu hi hfu hq
    obtain ⟨fu, rfl⟩ : ∃ q, fu = q + 1 := ⟨fu - 1, by omega⟩
    right
    refine ⟨fun x hx hv => ?_, ?_⟩
    · cases hfx : f x with
      | none => rfl
      | some r =>
        have hmem : (Int32.ofNat x, Int32.ofNat r) ∈ kvL f 64 := kvL_mem.mpr ⟨x, r, hx, hfx, rfl⟩
        obtain ⟨q, q1, q2⟩ := List.mem_iff_getElem.mp hmem
        exact absurd (by rw [q2]; exact hv.symm) (hq q q1 (by omega))
    · rw [fm_bound_44, hP.1, if_pos ((jI_le (by omega) (by omega)).mpr (by omega))]
  | succ j ih =>
    intro i fu hi hfu hq
    obtain ⟨fu, rfl⟩ : ∃ q, fu = q + 1 := ⟨fu - 1, by omega⟩
    have hi' : i < (kvL f 64).length := by omega
    obtain ⟨x, r, x1, x2, x3⟩ := kvL_mem.mp (List.getElem_mem hi')
    rw [fm_bound_44, hP.1, if_neg (fun q => absurd ((jI_le (by omega) (by omega)).mp q) (by omega)), ck_n (by omega) (by omega), rd_n _ _ (by omega), (hP.2 i hi').1]
    by_cases c : (kvL f 64)[i].1 = v
    · left
      refine ⟨x, r, x1, by rw [← c, x3], x2, ?_⟩
      have eP : mEx (fun j => j = 0 ∨ 47 ≤ j) A (pu B 0 0) := mEx_trans (mEx_mono e (fun k hk => Or.inr hk)) (mEx_pu (Or.inl rfl) _)
      rw [if_pos c, lt_d]
      have hb : fm_boundAt (pu B 0 0) (Int32.ofNat i) = fm_boundAt B (Int32.ofNat i) := rfl
      have hvo : vOk (kvL f 64) := kvL_ok (fun x r h => (hf x r h).1)
      rw [hb, m_boundAt e hvo hP hi', bd_s, x3, bnd_n (hf x r x2).1, if_pos (hf x r x2).2]
    · rw [if_neg c, lt_d, show (1 : Int32) = Int32.ofNat 1 from rfl, jI_add]
      refine ih (i + 1) fu (by omega) (by omega) (fun q h1 h2 => ?_)
      by_cases e : q = i
      · subst e; exact c
      · exact hq q h1 (by omega)
theorem c_bound (hk : k + 1 < 900) : lC_bound x0 (Inv x0 k) (Inv x0 (k + 1)) := by
  intro S M v1 v2 v3 v4 h
  have h0 : Inv x0 k S (pu M 0 1) := Inv_sc h (Nat.le_refl _) (by omega) (mEx_pu (Or.inl rfl) _) (cEq_refl _ _) rfl (fun _ _ => rfl)
  have hthr : (pu M 0 1).1 0 = 1 := pu_s _ _ _
  unfold fk_11_bound fm_bound fm_bound_26
  rw [lt_d]
  generalize pu M 0 1 = A at h0 hthr ⊢
  have h1 := Inv_1 h0 hk
  have h00 := h0
  obtain ⟨ra, sl, mkO, L, Wt, ro, fa, hc, hh, hkd, hth, htx, hro, hl, hnu⟩ := h0
  rw [ckk_y hh.1.1]
  by_cases hv : 0 ≤ v1 ∧ v1 ≤ 3
  · obtain ⟨n, hn, rfl⟩ := wi3.mp hv
    have hc' := hc
    obtain ⟨⟨hA, hsl, -, -⟩, ⟨hB, -⟩, hN, -⟩ := hc'
    obtain ⟨⟨hM1, ⟨⟨hy, hv', -⟩, -⟩⟩, -⟩ := hN n hn
    have hcl := hM1.1.2.1
    have hnd : x0 + 5 + 5 ≤ sN x0 n ∧ sN x0 n + 26 ≤ x0 + 5 + 128 := by unfold sN; omega
    rcases k_madeSlot hh hc hn v2 with ⟨j, m, hm, hin, rfl, q1, -⟩ | ⟨q1, q2⟩
    · rw [q1, bd_s, ckk_y hh.1.1, k_ruleAt hh hkd hc hm, bd_s, m_hasPart hkd hM1 (mEx_refl _ _) hm hin, bd_s]
      cases hr : rlO A (A.2 12 m) v3 with
      | none => rw [b2_f (by simp), if_neg (show ¬ (none : Option Int32).getD 32 = 77 by decide), if_pos rfl]; exact ⟨_, _, _, _, _, rfl, rfl, Or.inr ⟨rfl, hthr⟩, h1⟩
      | some rl =>
        obtain ⟨kd, p, rfl, p6, hp, hrl⟩ := pt_of hkd hA hm hr
        have hrule : fm_ruleOf A (Int32.ofNat (rNm m)) (Int32.ofNat p) = some rl := by rw [m_ruleOf (mEx_refl sc A) (rOf_nm (hA.2.1.1 j m hm).2.1.1) hp.2.1 hp.2.2.1 hp.2.2.2.1, hp.2.2.2.2.1]
        have hget : (some rl).getD 32 = rl := rfl
        rw [b2_t (by simp), if_neg n10, hget]
        rw [hrule, bd_s]
        by_cases e77 : rl = 77
        · subst e77
          obtain ⟨B, b1, b2', b3, -⟩ := m_lookR hM1.1 (mEx_refl sc A) hp (rl_or hrl) (L n).length (Nat.le_refl _)
          rw [List.take_length] at b3
          have hc8 : 8 * j + p < 385 := by have := (hA.2.1.1 j m hm).1; omega
          have eB : mEx (fun j => j = 0 ∨ 47 ≤ j) A B := mEx_mono b2' (fun k hk => Or.inr (wL_sc k hk))
          have eBs : mEx sc A B := mEx_mono b2' (fun k hk => wL_sc k hk)
          have B0 : B.1 0 = A.1 0 := (b2' 0 (by unfold wL; decide)).1
          have hup : (L n).take 1000 = L n := List.take_of_length_le (cl_len hcl)
          have hM0 := fun x => lk_M0 hA hcl hp 1000 x
          rw [hup] at hM0
          rw [if_pos rfl, if_pos rfl, k_nd hh hn, bd_s, ckk_y hy.1.1, hy.1.2.2.2.1, bd_s, k_c8, ckk_y hv'.2.1.1.1, k_bindOf hc8 hB hv'.1 hv'.2.1 (lOk_cl hcl) v4, bd_s, ck_n hn (by omega), rd_n _ _ (by omega), hM1.1.2.2.2, b1, bd_s]
          have hlen := kvL_len (kyC A (L n) (Int32.ofNat (rNm m)) (Int32.ofNat p)) 64
          rcases m_boundGo eBs (f := kyC A (L n) (Int32.ofNat (rNm m)) (Int32.ofNat p)) (fun x r hr => ⟨(cl_mem hcl (kyC_s hr).1).1, (kyC_s hr).2⟩) b3 v4 _ 0 mFU (Nat.zero_add _) (Nat.lt_of_le_of_lt hlen (by decide)) (fun q _ h => absurd h (by omega)) with ⟨x, r, x1, rfl, x3, x4⟩ | ⟨x1, x4⟩
          · rw [show (0 : Int32) = Int32.ofNat 0 from rfl, x4, hM0 x]
            have hkc : kyC A (L n) (Int32.ofNat (rNm m)) (Int32.ofNat p) x = (match kyB A (L n) (Int32.ofNat (rNm m)) (Int32.ofNat p) x with | none => none | some r => if A.2 9 r = 15 then some r else none) := rfl
            cases hb : kyB A (L n) (Int32.ofNat (rNm m)) (Int32.ofNat p) x with
            | none => rw [hkc, hb] at x3; cases x3
            | some q =>
              rw [hkc, hb] at x3
              have x5 : (if A.2 9 q = 15 then some q else none) = some r := x3
              by_cases e15 : A.2 9 q = 15
              · rw [if_pos e15] at x5
                cases x5
                have hr1 : r ∈ L n := (kyC_s (by rw [hkc, hb]; exact x3)).1
                obtain ⟨-, k9, ⟨-, -, -, -, k5, -⟩, -⟩ := hB.2.2.1 r (cl_mem hcl hr1).1 (cl_mem hcl hr1)
                refine ⟨0, kF S (ra r) 5, S, _, _, ?_, rfl, Or.inl ⟨rfl, pu_s _ _ _, k5.symm⟩, Inv_l h00 hk (mEx_trans eB (mEx_pu (Or.inl rfl) _)) (lkE_refl _ _)⟩
                show cs (if A.2 9 r = 15 then some (ra r) else none) _ _ = _
                rw [if_pos e15]
                show ckk S (ra r) 9 _ = _
                rw [ckk_y k9]
              · rw [if_neg e15] at x5; cases x5
          · rw [show (0 : Int32) = Int32.ofNat 0 from rfl, x4]
            refine ⟨3, 0, S, _, _, ?_, rfl, Or.inr ⟨rfl, B0.trans hthr⟩, Inv_l h00 hk eB (lkE_refl _ _)⟩
            cases hb : bdR A (chF A sl) (L n) 1000 (8 * j + p) v4 with
            | none => rfl
            | some q =>
              have hq := find_p hb
              rw [Bool.and_eq_true] at hq
              have hq1 : A.2 12 q = v4 := of_decide_eq_true hq.1.1
              obtain ⟨x, y1, y2⟩ := ky_rng hA hcl hp (Or.inr rfl) q (List.mem_reverse.mp hq.2)
              have hv4 : v4 = Int32.ofNat x := hq1.symm.trans y2
              have := x1 x y1 hv4
              have hkb : kyB A (L n) (Int32.ofNat (rNm m)) (Int32.ofNat p) x = some q := by rw [← hM0 x, ← hv4]; exact hb
              have hkc : kyC A (L n) (Int32.ofNat (rNm m)) (Int32.ofNat p) x = (match kyB A (L n) (Int32.ofNat (rNm m)) (Int32.ofNat p) x with | none => none | some r => if A.2 9 r = 15 then some r else none) := rfl
              rw [hkc, hkb] at this
              have this' : (if A.2 9 q = 15 then some q else none) = none := this
              by_cases e15 : A.2 9 q = 15
              · rw [if_pos e15] at this'; cases this'
              · show cs (if A.2 9 q = 15 then some (ra q) else none) _ _ = _
                rw [if_neg e15]; rfl
        · rw [if_neg e77, if_neg e77]; exact ⟨_, _, _, _, _, rfl, rfl, Or.inr ⟨rfl, hthr⟩, h1⟩
    · rw [q1, bd_s, ckk_y hh.1.1, k_ruleAtN, bd_s, if_neg (show ¬ (32 : Int32) = 77 by decide), m_hasPartN hM1 (mEx_refl _ _) q2, bd_s, if_pos rfl]
      exact ⟨_, _, _, _, _, rfl, rfl, Or.inr ⟨rfl, hthr⟩, h1⟩
  · rw [k_madeSlotN hv, bd_s, ckk_y hh.1.1, k_ruleAtN, bd_s, if_neg (show ¬ (32 : Int32) = 77 by decide), m_hasPartO hv, bd_s, if_pos rfl]
    exact ⟨_, _, _, _, _, rfl, rfl, Or.inr ⟨rfl, hthr⟩, h1⟩
end V
