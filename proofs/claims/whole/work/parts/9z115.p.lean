-- part 115: undo and redo
theorem cs_S {β : Type} {A : Option β} {B : Nat → Option β} {x : Nat} : cs (some x) A B = B x := rfl
theorem cs_N {β : Type} {A : Option β} {B : Nat → Option β} : cs none A B = A := rfl
def cbB (s : Int32) : Bool := decide (s = 1 ∨ s = 2 ∨ s = 3 ∨ s = 7 ∨ s = 8 ∨ s = 9 ∨ s = 10 ∨ s = 11 ∨ s = 12 ∨ s = 15 ∨ s = 16)
theorem k_isUndoSort {s : Nat} (hs : s < 19) : fk_7_isUndoSort (Int32.ofNat s) = some (b2 (cbB (Int32.ofNat s) = true)) := by
  have : s = 0 ∨ s = 1 ∨ s = 2 ∨ s = 3 ∨ s = 4 ∨ s = 5 ∨ s = 6 ∨ s = 7 ∨ s = 8 ∨ s = 9 ∨ s = 10 ∨ s = 11 ∨ s = 12 ∨ s = 13 ∨ s = 14 ∨ s = 15 ∨ s = 16 ∨ s = 17 ∨ s = 18 := by omega
  rcases this with e | e | e | e | e | e | e | e | e | e | e | e | e | e | e | e | e | e | e <;> subst e <;> rfl
theorem m_canBeUndone {s : Nat} (hs : s < 19) : fm_canBeUndone (Int32.ofNat s) = some (b2 (cbB (Int32.ofNat s) = true)) := by
  have : s = 0 ∨ s = 1 ∨ s = 2 ∨ s = 3 ∨ s = 4 ∨ s = 5 ∨ s = 6 ∨ s = 7 ∨ s = 8 ∨ s = 9 ∨ s = 10 ∨ s = 11 ∨ s = 12 ∨ s = 13 ∨ s = 14 ∨ s = 15 ∨ s = 16 ∨ s = 17 ∨ s = 18 := by omega
  rcases this with e | e | e | e | e | e | e | e | e | e | e | e | e | e | e | e | e | e | e <;> subst e <;> rfl
theorem cbB_U {s : Int32} (h : cbB s = true) : cbU s := by
  unfold cbB at h
  have h' := of_decide_eq_true h
  exact h'
section J
variable {M : mSt} {l : List Nat}
theorem gd_nu {t : Nat} : ∀ u, u ≤ l.length → gd M (l.take u) t = false → ∃ i, ∃ h : i < l.length, i < u ∧ isT M t l[i] = true ∧ M.2 9 l[i] = 13 ∧ jd M (l.take u) t = rM l[i] := by
  intro u
  induction u with
  | zero => intro _ h; rw [List.take_zero] at h; cases h
  | succ u ih =>
    intro hu h
    have hu' : u < l.length := by omega
    rw [List.take_succ_eq_append_getElem hu', gd_app] at h
    rw [List.take_succ_eq_append_getElem hu', jd_app]
    by_cases c : isT M t l[u] = true
    · rw [if_pos c] at h ⊢
      refine ⟨u, hu', by omega, c, ?_, rfl⟩
      have h14 : ¬ M.2 9 l[u] = 14 := of_decide_eq_false h
      unfold isT at c
      rw [Bool.and_eq_true, Bool.or_eq_true] at c
      rcases c.1 with c | c
      · exact of_decide_eq_true c
      · exact absurd (of_decide_eq_true c) h14
    · rw [if_neg c] at h ⊢
      obtain ⟨i, h1, h2, h3, h4, h5⟩ := ih (by omega) h
      exact ⟨i, h1, by omega, h3, h4, h5⟩
theorem jd_ge (hj : jOkL M l) {t : Nat} : ∀ u, u ≤ l.length → ∀ i (h : i < l.length), i < u → isT M t l[i] = true → rM l[i] ≤ jd M (l.take u) t := by
  intro u
  induction u with
  | zero => intro _ i _ h; omega
  | succ u ih =>
    intro hu i hi hiu hT
    have hu' : u < l.length := by omega
    rw [List.take_succ_eq_append_getElem hu', jd_app]
    by_cases c : isT M t l[u] = true
    · rw [if_pos c]
      by_cases e : i = u
      · subst e; exact Nat.le_refl _
      · have h1 := ih (by omega) i hi (by omega) hT
        have c' := c
        unfold isT at c'
        rw [Bool.and_eq_true, Bool.or_eq_true] at c'
        obtain ⟨t', t1, t2⟩ := hj u hu' (c'.1.imp of_decide_eq_true of_decide_eq_true)
        have : t' = t := by
          have := of_decide_eq_true c'.2
          rw [t1] at this; exact Option.some.inj this
        subst this
        omega
    · rw [if_neg c]
      have e : i ≠ u := fun e => by subst e; exact c hT
      exact ih (by omega) i hi (by omega) hT
end J
section V
variable {S S' : cSt} {M A : mSt} {ra : Nat → Nat} {sl : Nat → Int32} {mkO : Nat → Option Nat} {L Wt : Nat → List Nat} {x0 n Bt : Nat} {l : List Nat}
/-- what is needed of a node's own rows -/
def ownI (S : cSt) (M : mSt) (ra : Nat → Nat) (x0 n : Nat) (l : List Nat) : Prop := kK S (sN x0 n) = 8 ∧ kR S (sN x0 n) 12 = some (x0 + 5) ∧ kF S (sN x0 n) 0 = Int32.ofNat n ∧ kK S (x0 + 5) = 1 ∧ kR S (sN x0 n) 2 = some (sN x0 n + 20) ∧ kK S (sN x0 n + 20) = 11 ∧
  (∀ i, i < mdN M n → 250 * n + i ∈ l ∧ mde M (250 * n + i) ∧ kK S (ra (250 * n + i)) = 9 ∧ kF S (ra (250 * n + i)) 0 = M.2 9 (250 * n + i) ∧ kF S (ra (250 * n + i)) 5 = M.2 13 (250 * n + i) ∧ kF S (ra (250 * n + i)) 11 = Int32.ofNat (rNm (250 * n + i)) ∧ fk_0_rowNamed S (x0 + 5) (Int32.ofNat (rNm (250 * n + i))) = some (some (ra (250 * n + i))) ∧ fk_10_isGood S (sN x0 n + 20) (ra (250 * n + i)) = some (b2 (gd M l (250 * n + i) = true)) ∧ fk_7_isStable S (sN x0 n) (ra (250 * n + i)) = some (b2 (sbP M n (250 * n + i) = true)))
theorem nmE {i : Nat} (hi : i < 250) : (1000 : Int32) * Int32.ofNat n + Int32.ofNat (i + 1) = Int32.ofNat (rNm (250 * n + i)) := by
  have e1 : rN (250 * n + i) = n := by unfold rN; omega
  have e2 : rM (250 * n + i) = i + 1 := by unfold rM; omega
  rw [show (1000 : Int32) = Int32.ofNat 1000 from rfl, jI_mul, jI_add]; unfold rNm; rw [e1, e2]
theorem own_of (h : core x0 Bt S M ra sl mkO L Wt) (hnu : nuI M mkO Bt) (hn : n < 4) : ownI S M ra x0 n (L n) ∧ fk_7_knownOf S (sN x0 n) (Int32.ofNat n) = some (Int32.ofNat (mdN M n)) := by
  obtain ⟨⟨hA, hsl, -, -⟩, ⟨hB, -⟩, hN, -⟩ := h
  obtain ⟨⟨hM1, hC1⟩, -, hown⟩ := hN n hn
  obtain ⟨sx, hsx⟩ := sn_of hA hM1 hn hnu
  obtain ⟨⟨hy, hv', hls⟩, -, -, -, hs, -, -⟩ := hC1
  have hcl := hM1.1.2.1
  have hup : (L n).take 1000 = L n := List.take_of_length_le (cl_len hcl)
  have hmd := hA.2.2.1 n hn
  have hs' : ∀ m q, m < 4 → q < 4 → kI S (sN x0 n + 5) (4 * m + q) = Int32.ofNat (sx m q) := fun m q hm hq => by rw [hs m q hm hq, (hsx m q hm hq).1]
  have row : ∀ i, i < mdN M n → rN (250 * n + i) = n ∧ rM (250 * n + i) = i + 1 ∧ mde M (250 * n + i) := fun i hi => by
    have e1 : rN (250 * n + i) = n := by unfold rN; omega
    have e2 : rM (250 * n + i) = i + 1 := by unfold rM; omega
    exact ⟨e1, e2, by omega, by rw [e1, e2]; omega⟩
  refine ⟨⟨hy.1.1, hy.2.1.1, hy.1.2.1, hB.1.1, hy.1.2.2.2.1, hv'.2.1.1.1, fun i hi => ?_⟩, ?_⟩
  · obtain ⟨e1, e2, e3⟩ := row i hi
    have hin := hown _ e3 e1
    obtain ⟨ho, k9, ⟨r0, r2, r3, r4, r5, r8, r9⟩, ⟨r6, r7, r11, r12⟩, -⟩ := hB.2.2.1 _ e3.1 e3
    have hg : gv M (L n) 1000 (250 * n + i) = gd M (L n) (250 * n + i) := by unfold gv; rw [hup, decide_eq_true hin]; rfl
    refine ⟨hin, e3, k9, r0, r5, r11, ?_, ?_, k_isStable hn hy hsx hs hM1.2.1 hin e3.1 k9 r6 r7⟩
    · rw [k_rowNamed hB, rOf_nm e3.1]
      exact congrArg some ho
    · rw [k_isGood hB hv'.1 hv'.2.1 (lOk_cl hcl) e3.1 e3, hg]
  · rw [k_knownOf hn hy hs' hn]
    have hle : sx n n ≤ mdN M n := by
      obtain ⟨x, x1, x2⟩ := hM1.2.2.2.1 n hn
      have h1 := (hsx n n hn hn).1
      have h2 := (hsx n n hn hn).2
      unfold snV at h1
      rw [if_pos rfl, x2] at h1
      have := (jI_inj (by omega) (by omega)).mp h1
      omega
    have hge : mdN M n ≤ sx n n := by
      by_cases c : mdN M n = 0
      · omega
      · obtain ⟨e1, e2, e3⟩ := row (mdN M n - 1) (by omega)
        have := (kn_sx hsx hn hM1.2.1 e3.1).mp (hown _ e3 e1)
        rw [e1, e2] at this
        omega
    rw [show sx n n = mdN M n by omega]
theorem srt_of (hA : rA M mkO sl) {r : Nat} (hr : mde M r) : ∃ s, s < 19 ∧ M.2 9 r = Int32.ofNat s := (hA.1 r hr).1
/-- the last own row that is good and can be undone -/
theorem k_undoGo (hA : rA M mkO sl) (h : ownI S M ra x0 n l) (hmd : mdN M n ≤ 250) : ∀ k fu, k ≤ mdN M n → k < fu → ((∀ i, i < k → ¬ (cbB (M.2 9 (250 * n + i)) = true ∧ gd M l (250 * n + i) = true)) ∧ fk_7_undoable_9 S fu (sN x0 n) (Int32.ofNat k) = some (-1)) ∨ ∃ i, i < k ∧ (cbB (M.2 9 (250 * n + i)) = true ∧ gd M l (250 * n + i) = true) ∧ (∀ i', i < i' → i' < k → ¬ (cbB (M.2 9 (250 * n + i')) = true ∧ gd M l (250 * n + i') = true)) ∧ fk_7_undoable_9 S fu (sN x0 n) (Int32.ofNat k) = some (if sbP M n (250 * n + i) = true then -1 else Int32.ofNat (rNm (250 * n + i))) := by
  obtain ⟨y8, y12, y0, b1, y2, v11, ho⟩ := h
  intro k
  induction k with
  | zero =>
    intro fu _ hf
    obtain ⟨fu, rfl⟩ : ∃ q, fu = q + 1 := ⟨fu - 1, by omega⟩
    left
    refine ⟨fun i hi => absurd hi (by omega), ?_⟩
    rw [fk_7_undoable_9, if_pos (show Int32.ofNat 0 ≤ 0 by decide)]
  | succ k ih =>
    intro fu hk hf
    obtain ⟨fu, rfl⟩ : ∃ q, fu = q + 1 := ⟨fu - 1, by omega⟩
    obtain ⟨hin, e3, k9, r0, r5, r11, hrn, hg, hst⟩ := ho k (by omega)
    obtain ⟨s, s1, s2⟩ := srt_of hA e3
    have next : ∀ X, X = fk_7_undoable_9 S fu (sN x0 n) (Int32.ofNat k) → ¬ (cbB (M.2 9 (250 * n + k)) = true ∧ gd M l (250 * n + k) = true) → ((∀ i, i < k + 1 → ¬ (cbB (M.2 9 (250 * n + i)) = true ∧ gd M l (250 * n + i) = true)) ∧ X = some (-1)) ∨ ∃ i, i < k + 1 ∧ (cbB (M.2 9 (250 * n + i)) = true ∧ gd M l (250 * n + i) = true) ∧ (∀ i', i < i' → i' < k + 1 → ¬ (cbB (M.2 9 (250 * n + i')) = true ∧ gd M l (250 * n + i') = true)) ∧ X = some (if sbP M n (250 * n + i) = true then -1 else Int32.ofNat (rNm (250 * n + i))) := fun X hX hno => by
      subst hX
      rcases ih fu (by omega) (by omega) with ⟨q1, q2⟩ | ⟨i, q1, q2, q3, q4⟩
      · left
        refine ⟨fun i hi => ?_, q2⟩
        by_cases e : i = k
        · rw [e]; exact hno
        · exact q1 i (by omega)
      · right
        refine ⟨i, by omega, q2, fun i' h1 h2 => ?_, q4⟩
        by_cases e : i' = k
        · rw [e]; exact hno
        · exact q3 i' h1 (by omega)
    have hs1 := jPre k
    rw [fk_7_undoable_9, if_neg (jI_p (by omega) (by omega)), ckk_y y8, y12, bd_s, ckk_y y8, y0, ckk_y b1, nmE (by omega), hrn, bd_s, cs_S, ckk_y k9, r0, s2, k_isUndoSort s1, bd_s, ← s2]
    unfold fk_7_undoable_73 fk_7_undoable_72
    rw [hs1]
    cases hb : cbB (M.2 9 (250 * n + k)) with
    | false => rw [if_pos bFn, lt_d]; exact next _ rfl (fun q => by rw [hb] at q; cases q.1)
    | true =>
      rw [if_neg bTn, ckk_y y8, y2, bd_s, ckk_y v11, hg, bd_s]
      cases hg' : gd M l (250 * n + k) with
      | false => rw [if_pos bFn, lt_d]; exact next _ rfl (fun q => by rw [hg'] at q; cases q.2)
      | true =>
        right
        refine ⟨k, by omega, ⟨hb, hg'⟩, fun i' h1 h2 => absurd h1 (by omega), ?_⟩
        rw [if_neg bTn, ckk_y y8, hst, bd_s]
        cases sbP M n (250 * n + k) with
        | false => rw [if_pos bFn, ckk_y k9, r11, if_neg (by decide)]
        | true => rw [if_neg bTn, if_pos rfl]
theorem m_undoGo (hA : rA M mkO sl) {B : mSt} (e : mEx sc M B) (hn : n < 4) (hg : ∀ r, r < 1000 → B.2 47 r = b2 (gd M l r = true)) : ∀ (j i fu : Nat) (o : Option Nat), i + j = mdN M n → j < fu → ((o = none ∧ ∀ q, q < i → ¬ (cbB (M.2 9 (250 * n + q)) = true ∧ gd M l (250 * n + q) = true)) ∨ ∃ q, o = some (250 * n + q) ∧ q < i ∧ (cbB (M.2 9 (250 * n + q)) = true ∧ gd M l (250 * n + q) = true) ∧ ∀ q', q < q' → q' < i → ¬ (cbB (M.2 9 (250 * n + q')) = true ∧ gd M l (250 * n + q') = true)) →
    ((∀ q, q < mdN M n → ¬ (cbB (M.2 9 (250 * n + q)) = true ∧ gd M l (250 * n + q) = true)) ∧ fm_findGood_15 fu B (Int32.ofNat n) (rI o) (Int32.ofNat i) = some (5, B)) ∨ ∃ q, q < mdN M n ∧ (cbB (M.2 9 (250 * n + q)) = true ∧ gd M l (250 * n + q) = true) ∧ (∀ q', q < q' → q' < mdN M n → ¬ (cbB (M.2 9 (250 * n + q')) = true ∧ gd M l (250 * n + q') = true)) ∧ fm_findGood_15 fu B (Int32.ofNat n) (rI o) (Int32.ofNat i) = (if sbP M n (250 * n + q) = true then some (5, B) else some (0, pu B 70 (Int32.ofNat (rNm (250 * n + q))))) := by
  have hmd := hA.2.2.1 n hn
  intro j
  induction j with
  | zero =>
    intro i fu o hi hf ho
    obtain ⟨fu, rfl⟩ : ∃ q, fu = q + 1 := ⟨fu - 1, by omega⟩
    have ei : i = mdN M n := by omega
    subst ei
    rw [fm_findGood_15, ck_n hn (by omega), rd_e e (by decide) (by omega), hmd.2, if_pos (Int32.le_refl _)]
    unfold fm_findGood_80
    rcases ho with ⟨rfl, h1⟩ | ⟨q, rfl, h1, h2, h3⟩
    · left
      refine ⟨h1, ?_⟩
      rw [if_pos (show rI none = -1 from rfl)]
    · right
      refine ⟨q, h1, h2, h3, ?_⟩
      have hr : 250 * n + q < 1000 := by omega
      rw [show rI (some (250 * n + q)) = Int32.ofNat (250 * n + q) from rfl, if_neg (jI_ne (by omega)), m_isStable e hn hr, bd_s]
      cases sbP M n (250 * n + q) with
      | false => rw [if_pos bFn, m_nameOf hr, bd_s, lt_d, if_neg (by decide)]
      | true => rw [if_neg bTn, if_pos rfl]
  | succ j ih =>
    intro i fu o hi hf ho
    obtain ⟨fu, rfl⟩ : ∃ q, fu = q + 1 := ⟨fu - 1, by omega⟩
    have hr : 250 * n + i < 1000 := by omega
    have e3 : mde M (250 * n + i) := ⟨hr, by
      have e1 : rN (250 * n + i) = n := by unfold rN; omega
      have e2 : rM (250 * n + i) = i + 1 := by unfold rM; omega
      rw [e1, e2]; omega⟩
    obtain ⟨s, s1, s2⟩ := srt_of hA e3
    have next : ∀ o', ((o' = none ∧ ∀ q, q < i + 1 → ¬ (cbB (M.2 9 (250 * n + q)) = true ∧ gd M l (250 * n + q) = true)) ∨ ∃ q, o' = some (250 * n + q) ∧ q < i + 1 ∧ (cbB (M.2 9 (250 * n + q)) = true ∧ gd M l (250 * n + q) = true) ∧ ∀ q', q < q' → q' < i + 1 → ¬ (cbB (M.2 9 (250 * n + q')) = true ∧ gd M l (250 * n + q') = true)) → _ := fun o' h' => ih (i + 1) fu o' (by omega) (by omega) h'
    have skip : ¬ (cbB (M.2 9 (250 * n + i)) = true ∧ gd M l (250 * n + i) = true) → ((o = none ∧ ∀ q, q < i + 1 → ¬ (cbB (M.2 9 (250 * n + q)) = true ∧ gd M l (250 * n + q) = true)) ∨ ∃ q, o = some (250 * n + q) ∧ q < i + 1 ∧ (cbB (M.2 9 (250 * n + q)) = true ∧ gd M l (250 * n + q) = true) ∧ ∀ q', q < q' → q' < i + 1 → ¬ (cbB (M.2 9 (250 * n + q')) = true ∧ gd M l (250 * n + q') = true)) := fun hno => by
      rcases ho with ⟨h0, h1⟩ | ⟨q, h0, h1, h2, h3⟩
      · refine Or.inl ⟨h0, fun q hq => ?_⟩
        by_cases e : q = i
        · rw [e]; exact hno
        · exact h1 q (by omega)
      · refine Or.inr ⟨q, h0, by omega, h2, fun q' a b => ?_⟩
        by_cases e : q' = i
        · rw [e]; exact hno
        · exact h3 q' a (by omega)
    rw [fm_findGood_15, ck_n hn (by omega), rd_e e (by decide) (by omega), hmd.2, if_neg (fun q => absurd ((jI_le (by omega) (by omega)).mp q) (by omega)), lt_d, show (250 : Int32) = Int32.ofNat 250 from rfl, jI_mul, jI_add, ck_n hr (by omega), rd_e e (by decide) (by omega), s2, m_canBeUndone s1, bd_s, ← s2, ck_n hr (by omega), rd_n _ _ (by omega), hg _ hr]
    unfold fm_findGood_60
    rw [lt_d, lt_d, show (1 : Int32) = Int32.ofNat 1 from rfl, jI_add]
    cases hb : cbB (M.2 9 (250 * n + i)) with
    | false => rw [if_pos bFn]; exact next o (skip (fun q => by rw [hb] at q; cases q.1))
    | true =>
      rw [if_neg bTn]
      cases hg' : gd M l (250 * n + i) with
      | false => rw [if_pos bFn]; exact next o (skip (fun q => by rw [hg'] at q; cases q.2))
      | true =>
        rw [if_neg bTn]
        exact next (some (250 * n + i)) (Or.inr ⟨i, rfl, by omega, ⟨hb, hg'⟩, fun q' a b => absurd a (by omega)⟩)
theorem fit_13 (hh : hsI x0 S M) (h : core x0 Bt S M ra sl mkO L Wt) (hnu : nuI M mkO Bt) (hn : n < 4) (e : mEx sc M A) (o p v5 v6 : Int32) (hd0 : kF S (x0 + 19) 0 = 13) (hd4 : kF S (x0 + 19) 4 = 0) : fitR x0 n S M A mkO (L n) 13 o p v5 v6 := by
  have k2 := hh.2.2.2.1.1
  have k6 := hh.1.2.2.2.2.2.2.2.1
  obtain ⟨hown, hkn⟩ := own_of h hnu hn
  obtain ⟨⟨hA, hsl, -, -⟩, ⟨hB, -⟩, hN, -⟩ := h
  obtain ⟨⟨hM1, -⟩, -⟩ := hN n hn
  have hmd := hA.2.2.1 n hn
  have e2 : mEx sc M (pu (pu A 69 0) 70 0) := mEx_trans (mEx_trans e (mEx_pu (by unfold sc; omega) _)) (mEx_pu (by unfold sc; omega) _)
  obtain ⟨B, b1, b2', b3, -⟩ := m_judgeL e2 hM1.1.2.2.1 (jOkL_cl hA hM1.1.2.1)
  have eB : mEx sc M B := mEx_trans e2 (mEx_mono b2' (fun k hk => by unfold sc; omega))
  have B69 : B.1 69 = 0 := by rw [(b2' 69 (by omega)).1, pu_o _ _ (by decide), pu_s]
  have hcls : ∀ r : Int32, fk_7_undoable_9 S mFU (sN x0 n) (Int32.ofNat (mdN M n)) = some r → fk_11_fits S x0 (sN x0 n) v5 v6 = some (if r < 0 then 0 else 1, cPi S (x0 + 19) 5 r) := fun r hr => by
    have g6 : kR (cPi S (x0 + 19) 5 r) x0 6 = some (x0 + 19) := k6
    have gk : kK (cPi S (x0 + 19) 5 r) (x0 + 19) = 2 := k2
    have g12 : kK (cPi S (x0 + 19) 5 r) x0 = 12 := hh.1.1
    unfold fk_11_fits fk_11_fits_113 fk_7_undoable
    rw [ckk_y hh.1.1, k6, bd_s, ckk_y k2, hd0, if_neg (by decide), if_neg (by decide), if_neg (by decide), if_neg (by decide), if_neg (by decide), if_neg (by decide), if_neg (by decide), if_pos rfl, ckk_y hh.1.1, bd_s, ckk_y hown.1, ckk_y hown.1, ckk_y hown.1, hown.2.2.1, hkn, bd_s, hr, bd_s, ckk_y k2, lt_d, ckk_y g12, g6, bd_s, ckk_y gk, fP, upd_s, ckz_0, ckz_1]
    by_cases c : r < 0
    · rw [if_pos c, if_pos c]
    · rw [if_neg c, if_neg c]
  have hun : fm_refusal A (Int32.ofNat n) 13 o p v5 v6 = fm_findGood_15 mFU B (Int32.ofNat n) (-1) 0 := by
    unfold fm_refusal fm_refusal_509 fm_refusal_528 fm_findGood
    simp only [lt_d]
    rw [if_neg (by decide), if_neg (by decide), if_neg (by decide), if_neg (by decide), if_neg (by decide), if_neg (by decide), if_neg (by decide), if_neg (by decide), if_neg (by decide), if_neg (by decide), if_neg (by decide), if_neg (by decide), if_neg (by decide), if_pos trivial, if_pos trivial, ck_n hn (by omega), rd_e e2 (by decide) (by omega), hM1.1.2.2.2, b1, bd_s]
    cases fm_findGood_15 mFU B (Int32.ofNat n) (-1) 0 <;> rfl
  have no : fk_7_undoable_9 S mFU (sN x0 n) (Int32.ofNat (mdN M n)) = some (-1) → fm_refusal A (Int32.ofNat n) 13 o p v5 v6 = some (5, B) → fitR x0 n S M A mkO (L n) 13 o p v5 v6 := fun q1 q2 => by
    refine ⟨false, _, 5, B, hcls _ q1, lkE_P _ _, fun i hi => ?_, q2, by decide, eB, fun q => by cases q⟩
    rw [fP]; exact upd_o _ _ (by omega)
  have hfu : mdN M n < mFU := Nat.lt_of_le_of_lt hmd.1 (by decide)
  rcases m_undoGo hA eB hn b3 (mdN M n) 0 mFU none (by omega) hfu (Or.inl ⟨rfl, fun q hq => absurd hq (by omega)⟩) with ⟨q1, q2⟩ | ⟨i, q1, q2, q3, q4⟩
  · rcases k_undoGo hA hown hmd.1 (mdN M n) mFU (Nat.le_refl _) hfu with ⟨p1, p2⟩ | ⟨i, p1, p2, p3, p4⟩
    · exact no p2 (by rw [hun]; exact q2)
    · exact absurd p2 (q1 i p1)
  · rcases k_undoGo hA hown hmd.1 (mdN M n) mFU (Nat.le_refl _) hfu with ⟨p1, p2⟩ | ⟨i', p1, p2, p3, p4⟩
    · exact absurd q2 (p1 i q1)
    · have ei : i = i' := by
        by_cases c1 : i < i'
        · exact absurd p2 (q3 i' c1 p1)
        · by_cases c2 : i' < i
          · exact absurd q2 (p3 i c2 q1)
          · omega
      subst ei
      cases hsb : sbP M n (250 * n + i) with
      | true =>
        rw [hsb, if_pos rfl] at q4 p4
        exact no p4 (by rw [hun]; exact q4)
      | false =>
        rw [hsb, if_neg (by decide)] at q4 p4
        have hr := hown.2.2.2.2.2.2 i q1
        have hnn : ¬ Int32.ofNat (rNm (250 * n + i)) < 0 := jI_nn (by unfold rNm rN rM; omega)
        refine ⟨true, _, 0, _, ?_, lkE_P 5 (Int32.ofNat (rNm (250 * n + i))), fun i hi => ?_, ?_, by decide, mEx_trans eB (mEx_pu (k := 70) (by unfold sc; omega) (Int32.ofNat (rNm (250 * n + i)))), fun _ => ⟨?_, ?_, ?_⟩⟩
        · rw [hcls _ p4, if_neg hnn]; rfl
        · rw [fP]; exact upd_o _ _ (by omega)
        · rw [hun]; exact q4
        · rw [fP, upd_o _ _ (by decide), hd4, pu_o _ _ (by decide), B69]
        · rw [fP, upd_s, pu_s]
        · rw [pu_s]
          refine ⟨fun _ => ⟨250 * n + i, hr.2.1, by unfold rN; omega, rfl, cbB_U q2.1⟩, fun q => ?_, fun q => ?_, fun q => ?_, fun q => ?_, fun q => ?_⟩ <;> exfalso <;> revert q <;> decide
end V
