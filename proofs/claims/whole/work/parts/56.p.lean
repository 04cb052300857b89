-- part 56: the class applies a row
def rsL (a b : Int32 × Int32) : Int32 × Int32 := if a.1 < b.1 then b else if b.1 = a.1 then (if b.2 ≤ a.2 then a else b) else a
/-- a node's ledger and view -/
def cNv (M : mSt) (ra : Nat → Nat) (sl : Nat → Int32) (S : cSt) (nd bk : Nat) (l : List Nat) : Prop := cLed M ra (chF M sl) S (nd + 12) bk l ∧ cVw M S (nd + 20) bk (nd + 12) (nd + 15) 1000 l ∧ vwA S (nd + 20) (nd + 21)
theorem nwC_congr {M : mSt} {mkO : Nat → Option Nat} {r t : Nat} {f g f' g' : Nat → Int32} (h1 : ∀ i, i < 48 → f i = f' i) (h2 : ∀ i, i < 48 → g i = g' i) : nwC M mkO r t f g = nwC M mkO r t f' g' := by
  have e1 : (List.range 48).filter (fun i => decide (f i ≠ g i)) = (List.range 48).filter (fun i => decide (f' i ≠ g' i)) := List.filter_congr fun i hi => by
    have hi := List.mem_range.mp hi
    rw [h1 i hi, h2 i hi]
  have e2 : (List.range 48).any (fun i => decide (f i ≠ g i)) = (List.range 48).any (fun i => decide (f' i ≠ g' i)) := by
    rw [Bool.eq_iff_iff, List.any_eq_true, List.any_eq_true]
    constructor
    · rintro ⟨i, hi, h⟩
      refine ⟨i, hi, ?_⟩
      have hi := List.mem_range.mp hi
      rw [← h1 i hi, ← h2 i hi]; exact h
    · rintro ⟨i, hi, h⟩
      refine ⟨i, hi, ?_⟩
      have hi := List.mem_range.mp hi
      rw [h1 i hi, h2 i hi]; exact h
  unfold nwC
  rw [e1, e2]
def inAp (nd : Nat) : Nat → Prop := fun a => a = nd ∨ (nd + 1 ≤ a ∧ a ≤ nd + 5) ∨ a = nd + 9 ∨ a = nd + 10 ∨ (nd + 12 ≤ a ∧ a < nd + 26)
section V
variable {M : mSt} {ra : Nat → Nat} {sl : Nat → Int32} {mkO : Nat → Option Nat} {S S' : cSt} {bk nd n r : Nat} {l : List Nat} {W : Nat → Prop}
theorem lOk_cl (hc : cl M l) : lOk (mde M) l := ⟨cl_nd hc, cl_len hc, fun r hr => ⟨(cl_mem hc hr).1, cl_mem hc hr⟩⟩
theorem cQ_nv (hc : cl M l) (hB : cBk M ra sl (chF M sl) (mde M) mkO S bk) (hv : cNv M ra sl S nd bk l) (hnd : bk + 5 ≤ nd ∧ nd + 26 ≤ bk + 128) : cQ M ra sl (chF M sl) (mde M) mkO S bk (nd + 12) (nd + 20) (nd + 15) 1000 (nd + 21) l := ⟨hB, hv.1, hv.2.1, lOk_cl hc, hv.2.2, by omega, by omega, by omega, by omega, by omega⟩
theorem take1000 (hc : cl M l) : l.take 1000 = l := List.take_of_length_le (cl_len hc)
theorem k_nTake (hA : rA M mkO sl) (hc : cl M l) (hr : nxt M l r) (hB : cBk M ra sl (chF M sl) (mde M) mkO S bk) (hy : cNy S nd bk n) (hn : n < 4) (hv : cNv M ra sl S nd bk l) (hnd : bk + 5 ≤ nd ∧ nd + 26 ≤ bk + 128) : ∃ S', fk_7_take S nd (ra r) = some S' ∧ cEq (fun a => inLd (nd + 12) a ∨ a = nd ∨ a = nd + 5) S S' ∧ kR S' nd = kR S nd ∧ (∀ k, k ≠ 9 → k ≠ 10 → kF S' nd k = kF S nd k) ∧ (kF S' nd 9, kF S' nd 10) = rsL (kF S nd 9, kF S nd 10) (M.2 14 r, M.2 15 r) ∧ kI S' (nd + 5) = upd (kI S (nd + 5)) (4 * n + rN r) (Int32.ofNat (rM r)) ∧ cNv M ra sl S' nd bk (l ++ [r]) := by
  have hcl := cl_app hc hr
  have hlen : l.length < 1000 := by have := cl_len hcl; rw [List.length_append, List.length_singleton] at this; omega
  have htg : (M.2 9 r = 13 ∨ M.2 9 r = 14) → ∃ t, rOf (M.2 13 r) = some t ∧ mde M t := fun h => by
    obtain ⟨t, t1, _, _, t4, _⟩ := tu_tg hA hr.1 h
    exact ⟨t, t4, t1⟩
  obtain ⟨S2, e1, e2, e3, e4, e5⟩ := k_take hA.2.2.2 hB hv.1 (lOk_cl hc) (by omega) hr.1.1 hr.1 hr.2.1 hlen htg (chF_rng hA hr.1)
  have hB2 := cBk_eq hB e2 (fun a ha => by unfold inLd at ha; omega)
  have hy2 := cNy_eq' hy e2 (fun q => by unfold inLd at q; omega)
  obtain ⟨-, k9, ⟨-, -, -, -, -, k8, k9'⟩, ⟨k6, k7, -⟩, -⟩ := hB2.2.2.1 r hr.1.1 hr.1
  obtain ⟨⟨y1, y2, y3, y4, y5, y6, y7, -⟩, -, ⟨w1, w2⟩, -⟩ := hy2
  have hr4 := rN_lt hr.1.1
  have kn0 := e2.2.2.2.2 nd (fun q => by unfold inLd at q; omega)
  have kn5 := e2.2.2.2.2 (nd + 5) (fun q => by unfold inLd at q; omega)
  have e40 : (4 : Int32) * Int32.ofNat n + Int32.ofNat (rN r) = Int32.ofNat (4 * n + rN r) := by rw [show (4 : Int32) = Int32.ofNat 4 from rfl, jI_mul, jI_add]
  have hvw : ∀ {T : cSt} {W : Nat → Prop}, cEq W S2 T → (∀ a, W a → a = nd ∨ a = nd + 5) → cNv M ra sl T nd bk (l ++ [r]) := fun {T W} e hW => by
    have hV2 : cVw M S2 (nd + 20) bk (nd + 12) (nd + 15) 1000 (l ++ [r]) := by
      obtain ⟨⟨a1, a2, a3, a4, a5⟩, a6, a7, a8, a9⟩ := hv.2.1
      have x0 := e2.2.2.2.2 (nd + 20) (fun q => by unfold inLd at q; omega)
      refine ⟨⟨by rw [e2.1]; exact a1, by rw [x0.2.1]; exact a2, by rw [x0.2.1]; exact a3, by rw [x0.2.1]; exact a4, by rw [x0.1]; exact a5⟩, a6, by rw [e2.1]; exact a7, by rw [e2.2.1]; exact a8, fun q hq => ?_⟩
      rw [take1000 hcl]
      exact e5.2.2.2.2.1 q hq
    have hA2 : vwA S2 (nd + 20) (nd + 21) := vwA_eq hv.2.2 e2 (fun q => by unfold inLd at q; omega)
    refine ⟨cLed_eq e5 e (fun a ha => by have := hW a ha; omega), cVw_eq hV2 e (fun q => by have := hW _ q; omega) (fun q => by have := hW _ q; omega), vwA_eq hA2 e (fun q => by have := hW _ q; omega)⟩
  unfold fk_7_take
  rw [ckk_y hy.1.1, hy.1.2.2.1, bd_s, ckk_y hv.1.1.1.1, e1, bd_s, ckk_y y1, y7, bd_s, ckk_y y1, ckk_y k9, ckk_y k9, ckk_y w1, y2, k6, k7, e40, w2, ck_n (by omega) (by omega), lt_d, jI_cl (by omega)]
  have eW : cEq (fun a => a = nd ∨ a = nd + 5) S2 (cWi S2 (nd + 5) (4 * n + rN r) (Int32.ofNat (rM r))) := cEq_cWi _ (Or.inr rfl)
  have y1' : kK (cWi S2 (nd + 5) (4 * n + rN r) (Int32.ofNat (rM r))) nd = 8 := y1
  have k9a : kK (cWi S2 (nd + 5) (4 * n + rN r) (Int32.ofNat (rM r))) (ra r) = 9 := k9
  have k8a : kF (cWi S2 (nd + 5) (4 * n + rN r) (Int32.ofNat (rM r))) (ra r) 8 = M.2 14 r := k8
  have k9b : kF (cWi S2 (nd + 5) (4 * n + rN r) (Int32.ofNat (rM r))) (ra r) 9 = M.2 15 r := k9'
  rw [ckk_y k9a, ckk_y k9a, ckk_y y1', k8a, k9b]
  have hI : kI (cWi S2 (nd + 5) (4 * n + rN r) (Int32.ofNat (rM r))) (nd + 5) = upd (kI S (nd + 5)) (4 * n + rN r) (Int32.ofNat (rM r)) := by rw [kI_cWi, kn5.2.2.1]
  have hF : kF (cWi S2 (nd + 5) (4 * n + rN r) (Int32.ofNat (rM r))) nd = kF S nd := kn0.1
  have hR : kR (cWi S2 (nd + 5) (4 * n + rN r) (Int32.ofNat (rM r))) nd = kR S nd := kn0.2.1
  have up : ∀ a, inLd (nd + 12) a → inLd (nd + 12) a ∨ a = nd ∨ a = nd + 5 := fun a ha => Or.inl ha
  have up2 : ∀ a, (a = nd ∨ a = nd + 5) → inLd (nd + 12) a ∨ a = nd ∨ a = nd + 5 := fun a ha => Or.inr ha
  generalize cWi S2 (nd + 5) (4 * n + rN r) (Int32.ofNat (rM r)) = T at eW y1' hI hF hR
  have nop : rsL (kF S nd 9, kF S nd 10) (M.2 14 r, M.2 15 r) = (kF S nd 9, kF S nd 10) → ∃ S', bd (some T) (fun S5 => some S5) = some S' ∧ cEq (fun a => inLd (nd + 12) a ∨ a = nd ∨ a = nd + 5) S S' ∧ kR S' nd = kR S nd ∧ (∀ k, k ≠ 9 → k ≠ 10 → kF S' nd k = kF S nd k) ∧ (kF S' nd 9, kF S' nd 10) = rsL (kF S nd 9, kF S nd 10) (M.2 14 r, M.2 15 r) ∧ kI S' (nd + 5) = upd (kI S (nd + 5)) (4 * n + rN r) (Int32.ofNat (rM r)) ∧ cNv M ra sl S' nd bk (l ++ [r]) := fun h => ⟨T, rfl, cEq_trans (cEq_mono e2 up) (cEq_mono eW up2), hR, fun k _ _ => by rw [hF], by rw [hF, h], hI, hvw eW (fun a ha => ha)⟩
  have yes : rsL (kF S nd 9, kF S nd 10) (M.2 14 r, M.2 15 r) = (M.2 14 r, M.2 15 r) → ∃ S', bd (fk_7_raiseLast_24 T nd (M.2 14 r) (M.2 15 r)) (fun S5 => some S5) = some S' ∧ cEq (fun a => inLd (nd + 12) a ∨ a = nd ∨ a = nd + 5) S S' ∧ kR S' nd = kR S nd ∧ (∀ k, k ≠ 9 → k ≠ 10 → kF S' nd k = kF S nd k) ∧ (kF S' nd 9, kF S' nd 10) = rsL (kF S nd 9, kF S nd 10) (M.2 14 r, M.2 15 r) ∧ kI S' (nd + 5) = upd (kI S (nd + 5)) (4 * n + rN r) (Int32.ofNat (rM r)) ∧ cNv M ra sl S' nd bk (l ++ [r]) := fun h => by
    unfold fk_7_raiseLast_24 fk_7_raiseLast_34
    have y1b : kK (cPi T nd 9 (M.2 14 r)) nd = 8 := y1'
    rw [ckk_y y1', lt_d, ckk_y y1b, lt_d]
    have eP : cEq (fun a => a = nd ∨ a = nd + 5) S2 (cPi (cPi T nd 9 (M.2 14 r)) nd 10 (M.2 15 r)) := cEq_trans eW (cEq_trans (cEq_cPi _ (Or.inl rfl)) (cEq_cPi _ (Or.inl rfl)))
    refine ⟨_, rfl, cEq_trans (cEq_mono e2 up) (cEq_mono eP up2), hR, fun k h9 h10 => ?_, ?_, hI, hvw eP (fun a ha => ha)⟩
    · rw [kF_cPo _ _ (fun q => h10 q.2), kF_cPo _ _ (fun q => h9 q.2), hF]
    · rw [kF_cPi, kF_cPo _ _ (fun q => absurd q.2 (by decide)), kF_cPi, h]
  unfold fk_7_raiseLast fk_7_raiseLast_34
  rw [ckk_y y1', hF]
  unfold rsL at nop yes ⊢
  by_cases h1 : kF S nd 9 < M.2 14 r
  · rw [if_pos h1]
    rw [if_pos h1] at yes ⊢
    exact yes rfl
  · rw [if_neg h1, ckk_y y1']
    rw [if_neg h1] at yes nop ⊢
    by_cases h2 : M.2 14 r = kF S nd 9
    · rw [if_pos h2, ckk_y y1']
      rw [if_pos h2] at yes nop ⊢
      by_cases h3 : M.2 15 r ≤ kF S nd 10
      · rw [if_pos h3]
        rw [if_pos h3] at nop ⊢
        exact nop rfl
      · rw [if_neg h3]
        rw [if_neg h3] at yes ⊢
        exact yes rfl
    · rw [if_neg h2]
      rw [if_neg h2] at nop ⊢
      exact nop rfl
theorem cLs_eq (h : cLs S M nd n) (e : kI S' (nd + 11) = kI S (nd + 11)) : cLs S' M nd n := by unfold cLs; rw [e]; exact h
/-- the class applies a row -/
theorem k_apply (hA : rA M mkO sl) (hc : cl M l) (hr : nxt M l r) (hB : cBk M ra sl (chF M sl) (mde M) mkO S bk) (hy : cNy S nd bk n) (hn : n < 4) (hv : cNv M ra sl S nd bk l) (hnd : bk + 5 ≤ nd ∧ nd + 26 ≤ bk + 128) (hls : cLs S M nd n) {E F : List En} (hE : cLg S (nd + 1) 3 250 E) (hF : cLg S (nd + 3) 4 200 F) : ∃ S', fk_7_apply S nd (ra r) = some S' ∧ cEq (inAp nd) S S' ∧ kR S' nd = kR S nd ∧ (∀ k, k ≠ 9 → k ≠ 10 → kF S' nd k = kF S nd k) ∧ (kF S' nd 9, kF S' nd 10) = rsL (kF S nd 9, kF S nd 10) (M.2 14 r, M.2 15 r) ∧ kI S' (nd + 5) = upd (kI S (nd + 5)) (4 * n + rN r) (Int32.ofNat (rM r)) ∧ cNv M ra sl S' nd bk (l ++ [r]) ∧
    cLg S' (nd + 1) 3 250 ((nwC M mkO r (sbj M r) (sgt M mkO sl l (sbj M r)) (sgt M mkO sl (l ++ [r]) (sbj M r))).foldl (adE 250) E) ∧
    ∃ m, Int32.ofNat (rNm m) = nmT M (sbj M r) ∧ mde M m ∧ M.2 9 m = 0 ∧ cLg S' (nd + 3) 4 200 ((if M.2 9 (sbj M r) = 0 ∨ M.2 9 (sbj M r) = 1 ∨ M.2 9 (sbj M r) = 12 then tuC r (Int32.ofNat (rNm m)) (fun q => inLs M n l q m) (fun q => inLs M n (l ++ [r]) q m) else []).foldl (adE 200) F) := by
  have hcl := cl_app hc hr
  have hmt := sbj_md hA hr.1
  have hnt := sbj_nt hA hr.1
  obtain ⟨-, k9, ⟨k0, -, -, -, k5, -⟩, -⟩ := hB.2.2.1 r hr.1.1 hr.1
  have hrow : cRow M sl (chF M sl) S r (ra r) := (hB.2.2.1 r hr.1.1 hr.1).2
  have e0 : fk_7_apply S nd (ra r) = fk_7_apply_32 S nd (ra r) (some (ra (sbj M r))) := by
    unfold fk_7_apply fk_7_apply_22
    rw [ckk_y k9, k_turns hrow, bd_s]
    by_cases hs : tuS (M.2 9 r)
    · obtain ⟨t1, t2, _, _⟩ := sbj_tu hA hr.1 hs
      rw [if_neg (by rw [b2_t (show M.2 9 r = 13 ∨ M.2 9 r = 14 from hs)]; decide), ckk_y hy.1.1, hy.2.1.1, bd_s, ckk_y k9, ckk_y hB.1.1, k5, k_rowNamed hB, bd_s, t2]
      show cs (kO S (bk + 1) (sbj M r)) _ _ = _
      rw [(hB.2.2.1 _ t1.1 t1).1]; rfl
    · rw [if_pos (b2_f (show ¬ (M.2 9 r = 13 ∨ M.2 9 r = 14) from hs)), sbj_no hs]; rfl
  rw [e0]
  obtain ⟨j, m, j1, j2, j3, j4, j5, -, j6⟩ := slT hA hmt hnt
  generalize hts : sbj M r = t at *
  obtain ⟨-, t9, ⟨t0, -⟩, -, t1, -⟩ := hB.2.2.1 t hmt.1 hmt
  have hQ := cQ_nv hc hB hv hnd
  have htl : fk_7_turnsLists (M.2 9 t) = some (b2 (M.2 9 t = 0 ∨ M.2 9 t = 1 ∨ M.2 9 t = 12)) := by
    unfold fk_7_turnsLists fk_7_turnsLists_15 fk_7_turnsLists_20
    by_cases h0 : M.2 9 t = 0
    · rw [if_pos h0, ckz_1, b2_t (Or.inl h0)]
    · rw [if_neg h0]
      by_cases h1 : M.2 9 t = 1
      · rw [if_pos h1, ckz_1, b2_t (Or.inr (Or.inl h1))]
      · rw [if_neg h1]
        by_cases h2 : M.2 9 t = 12
        · rw [if_pos h2, ckz_1, b2_t (Or.inr (Or.inr h2))]
        · rw [if_neg h2, ckz_0, b2_f (fun q => q.elim h0 (fun q => q.elim h1 h2))]
  have hlw : fk_7_listsWith S nd (Int32.ofNat j) = some (wB (fun q => inLs M n l q m) 4) := by
    rw [k_listsWith hA hc hQ (take1000 hc) hy hls j1, j2]
  -- the first glance
  obtain ⟨S4, g1, g2, g3⟩ := k_glance hA hc hQ hy.2.2.2.2.2.2.1.1 hy.2.2.2.2.2.2.1.2 (t := t) (by omega) (by omega) hmt
  rw [take1000 hc] at g3
  have hB4 := cBk_eq hB g2 (fun a ha => by unfold inV at ha; omega)
  have hy4 := cNy_eq' hy g2 (fun q => by unfold inV at q; omega)
  have hQ4 := cQ_w hQ g2 (fun a ha => by unfold inV at ha; omega)
  have hv4 : cNv M ra sl S4 nd bk l := ⟨hQ4.2.1, hQ4.2.2.1, hQ4.2.2.2.2.1⟩
  have hE4 := cLg_eq hE g2 (fun q => by unfold inV at q; omega) (fun q => by unfold inV at q; omega)
  have hF4 := cLg_eq hF g2 (fun q => by unfold inV at q; omega) (fun q => by unfold inV at q; omega)
  have n4 := g2.2.2.2.2 nd (fun q => by unfold inV at q; omega)
  have n45 := g2.2.2.2.2 (nd + 5) (fun q => by unfold inV at q; omega)
  have n411 := g2.2.2.2.2 (nd + 11) (fun q => by unfold inV at q; omega)
  -- the row is taken
  obtain ⟨S5, a1, a2, a3, a4, a5, a6, a7⟩ := k_nTake hA hc hr hB4 hy4 hn hv4 hnd
  have hB5 := cBk_eq hB4 a2 (fun a ha => by unfold inLd at ha; omega)
  have hy5 := cNy_eq hy4 a2 a3 (a4 0 (by decide) (by decide))
  have hQ5 := cQ_nv hcl hB5 a7 hnd
  have hE5 := cLg_eq hE4 a2 (fun q => by unfold inLd at q; omega) (fun q => by unfold inLd at q; omega)
  have hF5 := cLg_eq hF4 a2 (fun q => by unfold inLd at q; omega) (fun q => by unfold inLd at q; omega)
  have n59 := a2.2.2.2.2 (nd + 9) (fun q => by unfold inLd at q; omega)
  have n511 := a2.2.2.2.2 (nd + 11) (fun q => by unfold inLd at q; omega)
  -- the second glance
  obtain ⟨S8, c1, c2, c3⟩ := k_glance hA hcl hQ5 hy5.2.2.2.2.2.2.2.1.1 hy5.2.2.2.2.2.2.2.1.2 (t := t) (by omega) (by omega) hmt
  rw [take1000 hcl] at c3
  have hB8 := cBk_eq hB5 c2 (fun a ha => by unfold inV at ha; omega)
  have hy8 := cNy_eq' hy5 c2 (fun q => by unfold inV at q; omega)
  have hQ8 := cQ_w hQ5 c2 (fun a ha => by unfold inV at ha; omega)
  have hE8 := cLg_eq hE5 c2 (fun q => by unfold inV at q; omega) (fun q => by unfold inV at q; omega)
  have hF8 := cLg_eq hF5 c2 (fun q => by unfold inV at q; omega) (fun q => by unfold inV at q; omega)
  have n8 := c2.2.2.2.2 nd (fun q => by unfold inV at q; omega)
  have n85 := c2.2.2.2.2 (nd + 5) (fun q => by unfold inV at q; omega)
  have n89 := c2.2.2.2.2 (nd + 9) (fun q => by unfold inV at q; omega)
  have n811 := c2.2.2.2.2 (nd + 11) (fun q => by unfold inV at q; omega)
  -- what is told
  obtain ⟨S10, d1, d2, d3⟩ := k_tell hA hB8 hy8 hnd hr.1 hmt hnt hE8
  have hsg : nwC M mkO r t (kI S8 (nd + 9)) (kI S8 (nd + 10)) = nwC M mkO r t (sgt M mkO sl l t) (sgt M mkO sl (l ++ [r]) t) := nwC_congr (fun i hi => by rw [n89.2.2.1, n59.2.2.1]; exact g3 i hi) c3
  rw [hsg] at d3
  have hB10 := cBk_eq hB8 d2 (fun a ha => by unfold inG at ha; omega)
  have hy10 := cNy_eq' hy8 d2 (fun q => by unfold inG at q; omega)
  have hQ10 := cQ_w hQ8 d2 (fun a ha => by unfold inG at ha; omega)
  have hF10 := cLg_eq hF8 d2 (fun q => by unfold inG at q; omega) (fun q => by unfold inG at q; omega)
  have nn10 := d2.2.2.2.2 nd (fun q => by unfold inG at q; omega)
  have n105 := d2.2.2.2.2 (nd + 5) (fun q => by unfold inG at q; omega)
  have n1011 := d2.2.2.2.2 (nd + 11) (fun q => by unfold inG at q; omega)
  have hls10 : cLs S10 M nd n := cLs_eq hls (by rw [n1011.2.2.1, n811.2.2.1, n511.2.2.1, n411.2.2.1])
  have eAll : cEq (inAp nd) S S10 := cEq_trans (cEq_mono g2 (fun a ha => by unfold inV at ha; unfold inAp; omega)) (cEq_trans (cEq_mono a2 (fun a ha => by unfold inLd at ha; unfold inAp; omega)) (cEq_trans (cEq_mono c2 (fun a ha => by unfold inV at ha; unfold inAp; omega)) (cEq_mono d2 (fun a ha => by unfold inG at ha; unfold inAp; omega))))
  have fR : kR S10 nd = kR S nd := by rw [nn10.2.1, n8.2.1, a3, n4.2.1]
  have fF : ∀ k, k ≠ 9 → k ≠ 10 → kF S10 nd k = kF S nd k := fun k h9 h10 => by rw [nn10.1, n8.1, a4 k h9 h10, n4.1]
  have fL : (kF S10 nd 9, kF S10 nd 10) = rsL (kF S nd 9, kF S nd 10) (M.2 14 r, M.2 15 r) := by rw [nn10.1, n8.1, a5, n4.1]
  have fI : kI S10 (nd + 5) = upd (kI S (nd + 5)) (4 * n + rN r) (Int32.ofNat (rM r)) := by rw [n105.2.2.1, n85.2.2.1, a6, n45.2.2.1]
  have fV : cNv M ra sl S10 nd bk (l ++ [r]) := ⟨hQ10.2.1, hQ10.2.2.1, hQ10.2.2.2.2.1⟩
  obtain ⟨-, x9, -, -, x1, -⟩ := hB10.2.2.1 t hmt.1 hmt
  unfold fk_7_apply_32
  rw [bd_s, ckk_y t9, t0, htl, bd_s]
  have body : ∀ (v4 s0 : Int32), fk_7_apply_59 S nd (ra r) (some (ra t)) v4 s0 = (if v4 = 0 then some S10 else ckk S10 (ra t) 9 (ckk S10 (ra t) 9 (ckk S10 nd 8 (bd (fk_7_listsWith S10 nd (kF S10 (ra t) 1)) fun r12 => ckk S10 nd 8 (bd (fk_7_turn S10 nd (ra r) (kF S10 (ra t) 1) s0 r12) fun S13 => some S13))))) := fun v4 s0 => by
    unfold fk_7_apply_59 fk_7_apply_120
    rw [ckk_y hy.1.1, hy.1.2.2.2.1, bd_s, ckk_y hy.1.1, hy.2.1.2.2.1, bd_s, bd_s, ckk_y hv.2.1.1.1, g1, bd_s, ckk_y hy4.1.1, a1, bd_s, ckk_y hy5.1.1, hy5.1.2.2.2.1, bd_s, ckk_y hy5.1.1, hy5.2.1.2.2.2.1, bd_s, ckk_y hQ5.2.2.1.1.1, c1, bd_s, ckk_y hy8.1.1, d1, bd_s]
  by_cases hs : M.2 9 t = 0 ∨ M.2 9 t = 1 ∨ M.2 9 t = 12
  · have hlw10 : fk_7_listsWith S10 nd (Int32.ofNat j) = some (wB (fun q => inLs M n (l ++ [r]) q m) 4) := by
      rw [k_listsWith hA hcl hQ10 (take1000 hcl) hy10 hls10 j1, j2]
    obtain ⟨S13, f1, f2, f3⟩ := k_turn hB10 hy10 hnd hr.1 j1 j2 hF10 (fun q => inLs M n l q m) (fun q => inLs M n (l ++ [r]) q m)
    have n13 := f2.2.2.2.2 nd (fun q => by unfold inG at q; omega)
    have n135 := f2.2.2.2.2 (nd + 5) (fun q => by unfold inG at q; omega)
    have hQ13 := cQ_w hQ10 f2 (fun a ha => by unfold inG at ha; omega)
    rw [b2_t hs, if_neg n10, ckk_y t9, ckk_y hy.1.1, t1, j4, hlw, bd_s, body, if_neg (by decide), ckk_y x9, ckk_y x9, ckk_y hy10.1.1, x1, j4, hlw10, bd_s, ckk_y hy10.1.1, f1, bd_s]
    refine ⟨S13, rfl, cEq_trans eAll (cEq_mono f2 (fun a ha => by unfold inG at ha; unfold inAp; omega)), by rw [n13.2.1]; exact fR, fun k h9 h10 => by rw [n13.1]; exact fF k h9 h10, by rw [n13.1]; exact fL, by rw [n135.2.2.1]; exact fI, ⟨hQ13.2.1, hQ13.2.2.1, hQ13.2.2.2.2.1⟩, cLg_eq d3 f2 (fun q => by unfold inG at q; omega) (fun q => by unfold inG at q; omega), m, j5, j3, j6, ?_⟩
    rw [if_pos hs]; exact f3
  · rw [b2_f hs, if_pos rfl, body, if_pos rfl]
    refine ⟨S10, rfl, eAll, fR, fF, fL, fI, fV, d3, m, j5, j3, j6, ?_⟩
    rw [if_neg hs]; exact hF10
end V
