-- part 129: the class loads a frame
section T
variable {M : mSt} {l : List Nat} {kn b : Nat → Nat}
theorem T_nil (hl : ∀ r, r < 1000 → (r ∈ l ↔ rM r ≤ kn (rN r))) (hlt : ∀ r ∈ l, r < 1000) (h : ∀ q, q < 4 → ¬ b q < kn q) : srt (rK M) (l.filter (elg b)) = [] := by
  have : l.filter (elg b) = [] := by
    rw [List.filter_eq_nil_iff]
    intro r hr
    have h1 := hlt r hr
    have h2 := (hl r h1).mp hr
    have h3 := h (rN r) (rN_lt h1)
    unfold elg
    rw [decide_eq_false (by omega)]; decide
  rw [this]; rfl
theorem T_cons (hl : ∀ r, r < 1000 → (r ∈ l ↔ rM r ≤ kn (rN r))) (hlt : ∀ r ∈ l, r < 1000) (hinj : kInj M l) (hmono : ∀ r ∈ l, ∀ r' ∈ l, rN r = rN r' → rM r < rM r' → rK M r < rK M r') (hkn : ∀ q, q < 4 → kn q ≤ 250) {q0 : Nat} (hq0 : q0 < 4) (hb0 : b q0 < kn q0) (hmin : ∀ q, q < 4 → b q < kn q → rK M (250 * q0 + b q0) ≤ rK M (250 * q + b q)) : srt (rK M) (l.filter (elg b)) = (250 * q0 + b q0) :: srt (rK M) (l.filter (elg (upd2 b q0 (b q0 + 1)))) := by
  have k0 := hkn q0 hq0
  have n0 : rN (250 * q0 + b q0) = q0 := by unfold rN; omega
  have m0 : rM (250 * q0 + b q0) = b q0 + 1 := by unfold rM; omega
  have r0 : 250 * q0 + b q0 ∈ l := (hl _ (by omega)).mpr (by rw [n0, m0]; omega)
  have e0 : elg b (250 * q0 + b q0) = true := by unfold elg; rw [n0, m0]; exact decide_eq_true (by omega)
  have hf : l.filter (elg (upd2 b q0 (b q0 + 1))) = (l.filter (elg b)).filter (fun r => decide (r ≠ 250 * q0 + b q0)) := by
    rw [List.filter_filter]
    refine List.filter_congr (fun r hr => ?_)
    unfold elg upd2
    by_cases e : rN r = q0
    · rw [if_pos e, e]
      by_cases e2 : r = 250 * q0 + b q0
      · rw [e2, m0]; simp
      · have : rM r ≠ b q0 + 1 := fun q => e2 (row_eq (e.trans n0.symm) (q.trans m0.symm))
        rw [decide_eq_true (show r ≠ 250 * q0 + b q0 from e2), Bool.true_and]
        by_cases c : b q0 < rM r
        · rw [decide_eq_true c, decide_eq_true (by omega)]
        · rw [decide_eq_false c, decide_eq_false (by omega)]
    · have e2 : r ≠ 250 * q0 + b q0 := fun q => e (by rw [q]; exact n0)
      rw [if_neg e, decide_eq_true e2, Bool.true_and]
  have hts := flt_srt (rK M) (fun r => decide (r ≠ 250 * q0 + b q0)) (l.filter (elg b))
  rw [hf, ← hts]
  have hp := perm_srt (rK M) (l.filter (elg b))
  have hs := sdl_srt (rK M) (l.filter (elg b))
  have hnd : (srt (rK M) (l.filter (elg b))).Nodup := hp.nodup_iff.mpr (List.Pairwise.filter _ hinj.1)
  have hmem : ∀ x, x ∈ srt (rK M) (l.filter (elg b)) ↔ x ∈ l ∧ elg b x = true := fun x => by rw [hp.mem_iff, List.mem_filter]
  have hin : 250 * q0 + b q0 ∈ srt (rK M) (l.filter (elg b)) := (hmem _).mpr ⟨r0, e0⟩
  generalize srt (rK M) (l.filter (elg b)) = T at hs hnd hmem hin
  cases T with
  | nil => cases hin
  | cons h T =>
    obtain ⟨h1, h2⟩ := (hmem h).mp List.mem_cons_self
    have hlt' := hlt h h1
    have hh : b (rN h) < rM h := of_decide_eq_true h2
    have hq := rN_lt hlt'
    have hk1 := (hl h hlt').mp h1
    have k1 := hkn _ hq
    have n1 : rN (250 * rN h + b (rN h)) = rN h := by unfold rN; unfold rN at *; omega
    have m1 : rM (250 * rN h + b (rN h)) = b (rN h) + 1 := by unfold rM; omega
    have h3 : 250 * rN h + b (rN h) ∈ l := (hl _ (by omega)).mpr (by rw [n1, m1]; omega)
    have h4 : rK M (250 * rN h + b (rN h)) ≤ rK M h := by
      by_cases e : rM h = b (rN h) + 1
      · have : 250 * rN h + b (rN h) = h := row_eq n1 (m1.trans e.symm)
        rw [this]; exact Nat.le_refl _
      · exact Nat.le_of_lt (hmono _ h3 h h1 n1 (by rw [m1]; omega))
    have h5 := hmin (rN h) hq (by omega)
    have h6 : rK M h ≤ rK M (250 * q0 + b q0) := by
      rcases List.mem_cons.mp hin with e | e
      · rw [e]; exact Nat.le_refl _
      · exact (List.pairwise_cons.mp hs).1 _ e
    have e : h = 250 * q0 + b q0 := hinj.2 h h1 _ r0 (by omega)
    rw [← e]
    have hnT := (List.nodup_cons.mp hnd).1
    rw [List.filter_cons_of_neg (by simp)]
    congr 1
    symm
    rw [List.filter_eq_self]
    intro x hx
    exact decide_eq_true (fun q => hnT (by rw [← q]; exact hx))
end T
section V
variable {S S0 S' : cSt} {M : mSt} {ra : Nat → Nat} {sl ch : Nat → Int32} {x0 n m k bk : Nat} {l : List Nat} {kn sx st : Nat → Nat}
theorem k_nextFor {nd : Nat} (ht : tOk M) (hm : m < 4) (hy : cNy S nd bk n) (hbk : kK S bk = 1) (h6 : ∀ q, q < 4 → kI S (nd + 6) (4 * m + q) = Int32.ofNat (st q) ∧ st q ≤ 250) (h5 : ∀ q, q < 4 → kI S (nd + 5) (4 * m + q) = Int32.ofNat (sx q) ∧ sx q ≤ 250) (hkn : ∀ q, q < 4 → fk_7_knownOf S nd (Int32.ofNat q) = some (Int32.ofNat (kn q)) ∧ kn q ≤ 250) (hrow : ∀ q y, q < 4 → y < kn q → fk_0_rowNamed S bk (Int32.ofNat (rNm (250 * q + y))) = some (some (ra (250 * q + y))) ∧ cRow M sl ch S (250 * q + y) (ra (250 * q + y))) :
    (fk_7_nextFor S nd (Int32.ofNat m) = some none ∧ ∀ q, q < 4 → ¬ max (sx q) (st q) < kn q) ∨ ∃ q0, q0 < 4 ∧ fk_7_nextFor S nd (Int32.ofNat m) = some (some (ra (250 * q0 + max (sx q0) (st q0)))) ∧ max (sx q0) (st q0) < kn q0 ∧ ∀ q, q < 4 → max (sx q) (st q) < kn q → rK M (250 * q0 + max (sx q0) (st q0)) ≤ rK M (250 * q + max (sx q) (st q)) := by
  have loop : ∀ (j i fu : Nat) (o : Option Nat), i + j = 4 → j < fu → ((o = none ∧ ∀ q, q < i → ¬ max (sx q) (st q) < kn q) ∨ ∃ q0, q0 < i ∧ o = some (250 * q0 + max (sx q0) (st q0)) ∧ max (sx q0) (st q0) < kn q0 ∧ ∀ q, q < i → max (sx q) (st q) < kn q → rK M (250 * q0 + max (sx q0) (st q0)) ≤ rK M (250 * q + max (sx q) (st q))) →
      (fk_7_nextFor_4 S fu nd (Int32.ofNat m) (o.map ra) (Int32.ofNat i) = some none ∧ ∀ q, q < 4 → ¬ max (sx q) (st q) < kn q) ∨ ∃ q0, q0 < 4 ∧ fk_7_nextFor_4 S fu nd (Int32.ofNat m) (o.map ra) (Int32.ofNat i) = some (some (ra (250 * q0 + max (sx q0) (st q0)))) ∧ max (sx q0) (st q0) < kn q0 ∧ ∀ q, q < 4 → max (sx q) (st q) < kn q → rK M (250 * q0 + max (sx q0) (st q0)) ≤ rK M (250 * q + max (sx q) (st q)) := by
    intro j
    induction j with
    | zero =>
      intro i fu o hi hf ho
      obtain ⟨fu, rfl⟩ : ∃ q, fu = q + 1 := ⟨fu - 1, by omega⟩
      have e : i = 4 := by omega
      subst e
      rw [fk_7_nextFor_4, if_pos (show (4 : Int32) ≤ Int32.ofNat 4 by decide)]
      rcases ho with ⟨rfl, h⟩ | ⟨q0, a1, rfl, a3, a4⟩
      · exact Or.inl ⟨rfl, h⟩
      · exact Or.inr ⟨q0, a1, rfl, a3, a4⟩
    | succ j ih =>
      intro i fu o hi hf ho
      obtain ⟨fu, rfl⟩ : ∃ q, fu = q + 1 := ⟨fu - 1, by omega⟩
      have hi4 : i < 4 := by omega
      obtain ⟨a6, b6⟩ := h6 i hi4
      obtain ⟨a5, b5⟩ := h5 i hi4
      obtain ⟨ak, bk'⟩ := hkn i hi4
      have s1 : Int32.ofNat i + 1 = Int32.ofNat (i + 1) := jI_add _ 1
      have hmax : (if Int32.ofNat (st i) < Int32.ofNat (sx i) then Int32.ofNat (sx i) else Int32.ofNat (st i)) = Int32.ofNat (max (sx i) (st i)) := by
        by_cases c : st i < sx i
        · rw [if_pos ((jI_lt (by omega) (by omega)).mpr c)]; congr 1; omega
        · rw [if_neg (fun q => c ((jI_lt (by omega) (by omega)).mp q))]; congr 1; omega
      rw [fk_7_nextFor_4, if_neg (jK 4 4 rfl (by omega) (by decide)), ckk_y hy.1.1, hy.1.2.2.2.2.2.2.2.1, bd_s, ckk_y hy.2.2.2.1.1, hy.2.2.2.1.2, show (4 : Int32) * Int32.ofNat m + Int32.ofNat i = Int32.ofNat (4 * m + i) from by rw [show (4 : Int32) = Int32.ofNat 4 from rfl, jI_mul, jI_add], ck_n (by omega) (by omega), ckk_y hy.1.1, hy.1.2.2.2.2.2.2.1, bd_s, ckk_y hy.2.2.1.1, hy.2.2.1.2, ck_n (by omega) (by omega), jI_cl (by omega), a6, a5, hmax, lt_d, ckk_y hy.1.1, ak, bd_s]
      unfold fk_7_nextFor_81 fk_7_nextFor_84
      rw [lt_d, s1]
      by_cases c : max (sx i) (st i) < kn i
      · have hnm : (1000 : Int32) * Int32.ofNat i + Int32.ofNat (max (sx i) (st i)) + 1 = Int32.ofNat (rNm (250 * i + max (sx i) (st i))) := by
          have n0 : rN (250 * i + max (sx i) (st i)) = i := by unfold rN; omega
          have m0 : rM (250 * i + max (sx i) (st i)) = max (sx i) (st i) + 1 := by unfold rM; omega
          rw [show (1000 : Int32) = Int32.ofNat 1000 from rfl, jI_mul, jI_add, show (1 : Int32) = Int32.ofNat 1 from rfl, jI_add]
          unfold rNm; rw [n0, m0, Nat.add_assoc]
        obtain ⟨r1, r2⟩ := hrow i _ hi4 c
        rw [if_neg (fun q => absurd ((jI_le (by omega) (by omega)).mp q) (by omega)), ckk_y hy.1.1, hy.2.1.1, bd_s, ckk_y hbk, hnm, r1, bd_s, cs_S]
        rcases ho with ⟨rfl, h⟩ | ⟨q0, a1, rfl, a3, a4⟩
        · rw [show (none : Option Nat).map ra = none from rfl, cs_N, lt_d]
          refine ih (i + 1) fu (some (250 * i + max (sx i) (st i))) (by omega) (by omega) (Or.inr ⟨i, by omega, rfl, c, fun q hq hc => ?_⟩)
          by_cases e : q = i
          · rw [e]; exact Nat.le_refl _
          · exact absurd hc (h q (by omega))
        · obtain ⟨-, r4⟩ := hrow q0 _ (by omega) a3
          have kq := (hkn q0 (by omega)).2
          rw [show (some (250 * q0 + max (sx q0) (st q0))).map ra = some (ra (250 * q0 + max (sx q0) (st q0))) from rfl, cs_S, ckk_y r2.1, k_isBefore ht (by omega) (by omega) r2 r4, bd_s]
          by_cases cb : rK M (250 * i + max (sx i) (st i)) < rK M (250 * q0 + max (sx q0) (st q0))
          · rw [b2_t cb, if_neg n10, lt_d]
            refine ih (i + 1) fu (some (250 * i + max (sx i) (st i))) (by omega) (by omega) (Or.inr ⟨i, by omega, rfl, c, fun q hq hc => ?_⟩)
            by_cases e : q = i
            · rw [e]; exact Nat.le_refl _
            · have := a4 q (by omega) hc; omega
          · rw [b2_f cb, if_pos rfl]
            refine ih (i + 1) fu (some (250 * q0 + max (sx q0) (st q0))) (by omega) (by omega) (Or.inr ⟨q0, by omega, rfl, a3, fun q hq hc => ?_⟩)
            by_cases e : q = i
            · rw [e]; omega
            · exact a4 q (by omega) hc
      · rw [if_pos ((jI_le (by omega) (by omega)).mpr (by omega))]
        refine ih (i + 1) fu o (by omega) (by omega) ?_
        rcases ho with ⟨h0, h⟩ | ⟨q0, a1, h0, a3, a4⟩
        · refine Or.inl ⟨h0, fun q hq => ?_⟩
          by_cases e : q = i
          · rw [e]; exact c
          · exact h q (by omega)
        · refine Or.inr ⟨q0, by omega, h0, a3, fun q hq hc => ?_⟩
          by_cases e : q = i
          · rw [e] at hc; exact absurd hc c
          · exact a4 q (by omega) hc
  exact loop 4 0 mFU none rfl (by decide) (Or.inl ⟨rfl, fun q hq => absurd hq (by omega)⟩)
/-- a frame with the rows R loaded, from S0 on -/
def ldS (S0 S : cSt) (ra : Nat → Nat) (f nd m : Nat) (R : List Nat) : Prop := cEq (fun a => a = f ∨ a = f + 3 ∨ a = nd + 6) S0 S ∧ kR S f = kR S0 f ∧ kR S (nd + 6) = kR S0 (nd + 6) ∧ (∀ k, k ≠ 6 → kF S f k = kF S0 f k) ∧ kF S f 6 = Int32.ofNat R.length ∧ (∀ i (h : i < R.length), kO S (f + 3) i = some (ra R[i])) ∧ (∀ c, c < 16 → kI S (nd + 6) c = snU m (kI S0 (nd + 6)) R c) ∧ (kI S (f + 3) = kI S0 (f + 3) ∧ kI S f = kI S0 f ∧ kO S f = kO S0 f ∧ kO S (nd + 6) = kO S0 (nd + 6) ∧ kF S (nd + 6) = kF S0 (nd + 6) ∧ kF S (f + 3) = kF S0 (f + 3) ∧ kR S (f + 3) = kR S0 (f + 3))
theorem k_load {f nd : Nat} (ht : tOk M) (hm : m < 4) (hy0 : cNy S0 nd bk n) (hbk0 : kK S0 bk = 1) (hf : kK S0 f = 3) (h4 : kF S0 f 4 = Int32.ofNat m) (h2 : kR S0 f 2 = some (f + 3)) (h30 : kK S0 (f + 3) = 30 ∧ kL S0 (f + 3) = 8) (hsep : (f ≠ bk ∧ f + 3 ≠ bk) ∧ (f < nd ∨ nd + 12 ≤ f) ∧ (f + 3 < nd ∨ nd + 12 ≤ f + 3) ∧ nd + 6 ≠ bk) (h50 : ∀ q, q < 4 → kI S0 (nd + 5) (4 * m + q) = Int32.ofNat (sx q) ∧ sx q ≤ 250)
    (hkn : ∀ S, cEq (fun a => a = f ∨ a = f + 3 ∨ a = nd + 6) S0 S → ∀ q, q < 4 → fk_7_knownOf S nd (Int32.ofNat q) = some (Int32.ofNat (kn q)) ∧ kn q ≤ 250) (hrow : ∀ S, cEq (fun a => a = f ∨ a = f + 3 ∨ a = nd + 6) S0 S → ∀ q y, q < 4 → y < kn q → fk_0_rowNamed S bk (Int32.ofNat (rNm (250 * q + y))) = some (some (ra (250 * q + y))) ∧ cRow M sl ch S (250 * q + y) (ra (250 * q + y)))
    (hne : ∀ q y, q < 4 → y < kn q → ra (250 * q + y) ≠ f ∧ ra (250 * q + y) ≠ f + 3 ∧ ra (250 * q + y) ≠ nd + 6) (hl : ∀ r, r < 1000 → (r ∈ l ↔ rM r ≤ kn (rN r))) (hlt : ∀ r ∈ l, r < 1000) (hinj : kInj M l) (hmono : ∀ r ∈ l, ∀ r' ∈ l, rN r = rN r' → rM r < rM r' → rK M r < rK M r') :
    ∀ (j i fu : Nat) (S : cSt) (R : List Nat) (st : Nat → Nat), i + j = 8 → j < fu → R.length = i → ldS S0 S ra f nd m R → (∀ q, q < 4 → kI S (nd + 6) (4 * m + q) = Int32.ofNat (st q) ∧ st q ≤ 250) → ∃ S', fk_7_load_2 fu S nd f (Int32.ofNat i) = some S' ∧ ldS S0 S' ra f nd m (R ++ (srt (rK M) (l.filter (elg (fun q => max (sx q) (st q))))).take j) := by
  intro j
  induction j with
  | zero =>
    intro i fu S R st hi hfu hR hS hst
    obtain ⟨fu, rfl⟩ : ∃ q, fu = q + 1 := ⟨fu - 1, by omega⟩
    have e : i = 8 := by omega
    subst e
    rw [fk_7_load_2, if_pos (show (8 : Int32) ≤ Int32.ofNat 8 by decide), List.take_zero, List.append_nil]
    exact ⟨S, rfl, hS⟩
  | succ j ih =>
    intro i fu S R st hi hfu hR hS hst
    obtain ⟨fu, rfl⟩ : ∃ q, fu = q + 1 := ⟨fu - 1, by omega⟩
    obtain ⟨e, e1, e1', e2, e3, e4, e5, e6⟩ := hS
    have hyS : cNy S nd bk n := by
      have hz := e.2.2.2.2 nd (by omega)
      exact cNy_eq hy0 e hz.2.1 (by rw [hz.1])
    have kf : kK S f = 3 := by rw [e.1]; exact hf
    have kn0 : ∀ q, q < 4 → kn q ≤ 250 := fun q hq => (hkn S e q hq).2
    have h5S : ∀ q, q < 4 → kI S (nd + 5) (4 * m + q) = Int32.ofNat (sx q) ∧ sx q ≤ 250 := fun q hq => by rw [(e.2.2.2.2 (nd + 5) (by omega)).2.2.1]; exact h50 q hq
    have hnx := k_nextFor (ra := ra) (sl := sl) (ch := ch) ht hm hyS (by rw [e.1]; exact hbk0) hst h5S (hkn S e) (hrow S e)
    rw [fk_7_load_2, if_neg (jK 8 8 rfl (by omega) (by decide)), ckk_y kf, ckk_y hyS.1.1, e2 4 (by decide), h4]
    rcases hnx with ⟨x1, x2⟩ | ⟨q0, hq0, x1, x2, x3⟩
    · rw [x1, bd_s, cs_N, T_nil hl hlt x2, List.take_nil, List.append_nil]
      exact ⟨S, rfl, e, e1, e1', e2, e3, e4, e5, e6⟩
    · have hT := T_cons (b := fun q => max (sx q) (st q)) hl hlt hinj hmono kn0 hq0 x2 x3
      generalize hr0 : 250 * q0 + max (sx q0) (st q0) = r0 at x1 x3 hT
      have k0 := kn0 q0 hq0
      have n0 : rN r0 = q0 := by rw [← hr0]; unfold rN; omega
      have m0 : rM r0 = max (sx q0) (st q0) + 1 := by rw [← hr0]; unfold rM; omega
      obtain ⟨-, hcr⟩ := hrow S e q0 _ hq0 x2
      obtain ⟨na, nb, nc⟩ := hne q0 _ hq0 x2
      rw [hr0] at hcr na nb nc
      have u9 : kK S (ra r0) = 9 := hcr.1
      have q9 : ∀ {T : cSt} {K : Option cSt}, kK T (ra r0) = 9 → ckq T (some (ra r0)) 9 K = K := fun h => ckk_y h
      have s1 : Int32.ofNat i + 1 = Int32.ofNat (i + 1) := jI_add _ 1
      have z4 : kF S f 4 = Int32.ofNat m := by rw [e2 4 (by decide)]; exact h4
      generalize hS6 : cPi (cWo S (f + 3) i (some (ra r0))) f 6 (Int32.ofNat (i + 1)) = S6
      have v3 : kK (cWo S (f + 3) i (some (ra r0))) f = 3 := kf
      have w1 : kK S6 nd = 8 := by rw [← hS6]; exact hyS.1.1
      have w2 : kR S6 nd 6 = some (nd + 6) := by rw [← hS6]; exact hyS.1.2.2.2.2.2.2.2.1
      have w3 : kK S6 f = 3 := by rw [← hS6]; exact kf
      have w4 : kK S6 (ra r0) = 9 := by rw [← hS6]; exact u9
      have w5 : kK S6 (nd + 6) = 20 := by rw [← hS6]; exact hyS.2.2.2.1.1
      have w6 : kL S6 (nd + 6) = 16 := by rw [← hS6]; exact hyS.2.2.2.1.2
      have w7 : kF S6 f 4 = Int32.ofNat m := by rw [← hS6, kF_cPo _ _ (by omega)]; exact z4
      have w8 : kF S6 (ra r0) 6 = Int32.ofNat q0 := by rw [← hS6, fPo _ _ _ na]; show kF S (ra r0) 6 = _; rw [hcr.2.2.1.1, n0]
      have w9 : kF S6 (ra r0) 7 = Int32.ofNat (rM r0) := by rw [← hS6, fPo _ _ _ na]; exact hcr.2.2.1.2.1
      rw [x1, bd_s, cs_S, ckk_y kf, e1, h2, bd_s, ckk_y (by rw [e.1]; exact h30.1), e.2.1, h30.2, ck_n (by omega) (by omega), q9 u9, lt_d, jI_cl (by omega), ckk_y v3, s1, lt_d, hS6, ckk_y w1, w2, bd_s, ckk_y w3, ckk_y w4, ckk_y w4, ckk_y w5, w7, w8, w6, show (4 : Int32) * Int32.ofNat m + Int32.ofNat q0 = Int32.ofNat (4 * m + q0) from by rw [show (4 : Int32) = Int32.ofNat 4 from rfl, jI_mul, jI_add], ck_n (by omega) (by omega), lt_d, jI_cl (by omega), w9, lt_d]
      have hnew : ldS S0 (cWi S6 (nd + 6) (4 * m + q0) (Int32.ofNat (rM r0))) ra f nd m (R ++ [r0]) := by
        have eS : cEq (fun a => a = f ∨ a = f + 3 ∨ a = nd + 6) S (cWi S6 (nd + 6) (4 * m + q0) (Int32.ofNat (rM r0))) := by
          rw [cWi_sI, ← hS6]
          refine cEq_trans (cEq_trans ?_ (cEq_cPi _ (Or.inl rfl))) (cEq_sI _ (Or.inr (Or.inr rfl)))
          rw [cWo_sO]; exact cEq_sO _ (Or.inr (Or.inl rfl))
        have kI6 : kI S6 = kI S := by rw [← hS6]; rfl
        have kO6 : kO S6 (f + 3) = upo (kO S (f + 3)) i (some (ra r0)) := by rw [← hS6]; show kO (cWo S (f + 3) i (some (ra r0))) (f + 3) = _; rw [cWo_sO, kO_sO]
        have kO6' : ∀ a, a ≠ f + 3 → kO S6 a = kO S a := fun a ha => by rw [← hS6]; show kO (cWo S (f + 3) i (some (ra r0))) a = _; rw [cWo_sO, kO_sOo _ _ ha]
        refine ⟨cEq_trans e eS, ?_, ?_, fun k hk => ?_, ?_, fun i' hi' => ?_, fun c hc => ?_, ?_, ?_, ?_, ?_, ?_, ?_, ?_⟩
        · show kR S6 f = _; rw [← hS6]; exact e1
        · show kR S6 (nd + 6) = _; rw [← hS6]; exact e1'
        · show kF S6 f k = _; rw [← hS6, kF_cPo _ _ (fun q => hk q.2)]; exact e2 k hk
        · show kF S6 f 6 = _; rw [← hS6, kF_cPi, List.length_append, List.length_singleton, hR]
        · show kO S6 (f + 3) i' = _
          rw [kO6]
          rw [List.length_append, List.length_singleton] at hi'
          unfold upo
          by_cases c : i' = i
          · subst c
            rw [if_pos rfl, List.getElem_append_right (by omega)]
            simp only [hR, Nat.sub_self, List.getElem_cons_zero]
          · rw [if_neg c, List.getElem_append_left (by omega)]; exact e4 i' (by omega)
        · rw [kI_cWi, kI6]
          unfold snU
          rw [List.foldl_append, List.foldl_cons, List.foldl_nil, n0]
          by_cases ec : c = 4 * m + q0
          · rw [ec, upd_s, upd_s]
          · rw [upd_o _ _ ec, upd_o _ _ ec]; exact e5 c hc
        · rw [cWi_sI, kI_sIo _ _ (by omega), kI6]; exact e6.1
        · rw [cWi_sI, kI_sIo _ _ (by omega), kI6]; exact e6.2.1
        · show kO S6 f = _; rw [kO6' _ (by omega)]; exact e6.2.2.1
        · show kO S6 (nd + 6) = _; rw [kO6' _ (by omega)]; exact e6.2.2.2.1
        · show kF S6 (nd + 6) = _; rw [← hS6, fPo _ _ _ (by omega)]; exact e6.2.2.2.2.1
        · show kF S6 (f + 3) = _; rw [← hS6, fPo _ _ _ (by omega)]; exact e6.2.2.2.2.2.1
        · show kR S6 (f + 3) = _; rw [← hS6]; exact e6.2.2.2.2.2.2
      have hbst : (fun q => max (sx q) (upd2 st q0 (rM r0) q)) = upd2 (fun q => max (sx q) (st q)) q0 (max (sx q0) (st q0) + 1) := by
        funext q
        unfold upd2
        by_cases eq : q = q0
        · subst eq
          rw [if_pos rfl, if_pos rfl, m0]; omega
        · rw [if_neg eq, if_neg eq]
      obtain ⟨S', y1, y2⟩ := ih (i + 1) fu _ (R ++ [r0]) (upd2 st q0 (rM r0)) (by omega) (by omega) (by rw [List.length_append, List.length_singleton, hR]) hnew (fun q hq => by
        rw [kI_cWi]
        have kI6 : kI S6 = kI S := by rw [← hS6]; rfl
        rw [kI6]
        unfold upd2
        by_cases eq : q = q0
        · subst eq; rw [upd_s, if_pos rfl]; exact ⟨rfl, (rM_le r0).2⟩
        · rw [upd_o _ _ (by omega), if_neg eq]; exact hst q hq)
      rw [y1]
      refine ⟨S', rfl, ?_⟩
      rw [hbst] at y2
      rw [hT, List.take_succ_cons]
      rw [List.append_assoc] at y2
      exact y2
end V
