-- part 55: the class tells news, and turns of lists
def nmJ (mkO : Nat → Option Nat) (i : Nat) : Int32 := match mkO i with | none => -1 | some m => Int32.ofNat (rNm m)
/-- the name of a row's object -/
def nmT (M : mSt) (t : Nat) : Int32 := if M.2 9 t = 0 then Int32.ofNat (rNm t) else M.2 10 t
/-- the news by what was seen, f, and is seen, g -/
def nwC (M : mSt) (mkO : Nat → Option Nat) (r t : Nat) (f g : Nat → Int32) : List En :=
  if M.2 9 t = 11 then ((List.range 48).filter (fun i => decide (f i ≠ g i))).map (fun i => (Int32.ofNat (rNm r), nmJ mkO i, 6, 0))
  else if (List.range 48).any (fun i => decide (f i ≠ g i)) then [(Int32.ofNat (rNm r), nmT M t, if M.2 9 t = 0 ∨ M.2 9 t = 12 then 7 else M.2 11 t, 0)] else []
/-- a node's cells -/
def cNy (S : cSt) (nd bk n : Nat) : Prop :=
  (kK S nd = 8 ∧ kF S nd 0 = Int32.ofNat n ∧ kR S nd 1 = some (nd + 12) ∧ kR S nd 2 = some (nd + 20) ∧ kR S nd 3 = some (nd + 1) ∧ kR S nd 4 = some (nd + 3) ∧ kR S nd 5 = some (nd + 5) ∧ kR S nd 6 = some (nd + 6) ∧ kR S nd 7 = some (nd + 7)) ∧
  (kR S nd 12 = some bk ∧ kR S nd 13 = some (nd + 8) ∧ kR S nd 14 = some (nd + 9) ∧ kR S nd 15 = some (nd + 10) ∧ kR S nd 16 = some (nd + 11)) ∧
  ((kK S (nd + 5) = 20 ∧ kL S (nd + 5) = 16) ∧ (kK S (nd + 6) = 20 ∧ kL S (nd + 6) = 16) ∧ (kK S (nd + 7) = 20 ∧ kL S (nd + 7) = 16) ∧ (kK S (nd + 8) = 30 ∧ kL S (nd + 8) = 30) ∧ (kK S (nd + 9) = 20 ∧ kL S (nd + 9) = 48) ∧ (kK S (nd + 10) = 20 ∧ kL S (nd + 10) = 48) ∧ kK S (nd + 11) = 20 ∧ kL S (nd + 11) = 16)
/-- all of a node's cells but itself may change -/
theorem cNy_eq {S S' : cSt} {nd bk n : Nat} {W : Nat → Prop} (h : cNy S nd bk n) (e : cEq W S S') (h1 : kR S' nd = kR S nd) (h2 : kF S' nd 0 = kF S nd 0) : cNy S' nd bk n := by
  unfold cNy
  simp only [e.1, e.2.1, h1, h2]
  exact h
theorem cNy_eq' {S S' : cSt} {nd bk n : Nat} {W : Nat → Prop} (h : cNy S nd bk n) (e : cEq W S S') (h1 : ¬ W nd) : cNy S' nd bk n := by
  obtain ⟨e1, e2, -⟩ := e.2.2.2.2 nd h1
  exact cNy_eq h e e2 (by rw [e1])
section V
variable {M : mSt} {ra : Nat → Nat} {sl : Nat → Int32} {mkO : Nat → Option Nat} {S S' : cSt} {bk nd n : Nat} {l : List Nat} {W : Nat → Prop}
theorem slT (hA : rA M mkO sl) {t : Nat} (ht : mde M t) (hs : ¬ tuS (M.2 9 t)) : ∃ j m, j < 48 ∧ mkO j = some m ∧ mde M m ∧ sl t = Int32.ofNat j ∧ Int32.ofNat (rNm m) = nmT M t ∧ (M.2 9 t = 0 ∧ m = t ∨ M.2 9 t ≠ 0 ∧ kn M t m) ∧ M.2 9 m = 0 := by
  unfold nmT
  by_cases h0 : M.2 9 t = 0
  · obtain ⟨⟨j, j1, j2, j3⟩, _⟩ := (hA.1 t ht).2.2.2.2.1 h0
    rw [if_pos h0]
    exact ⟨j, t, j1, j2, ht, j3, rfl, Or.inl ⟨h0, rfl⟩, h0⟩
  · obtain ⟨j, m, kd, a1, a2, a3, a4, a5, a6, a7, a8, a9, _⟩ := (hA.1 t ht).2.2.2.2.2.2.1 (fun q => by
      rcases q with q | q | q
      · exact h0 q
      · exact hs (Or.inl q)
      · exact hs (Or.inr q))
    rw [if_neg h0]
    exact ⟨j, m, a1, a3, a4, a8, a7.symm, Or.inr ⟨h0, a9⟩, a5⟩
theorem rng_any (P : Nat → Bool) (n : Nat) : (List.range (n + 1)).any P = ((List.range n).any P || P n) := by
  rw [List.range_succ, List.any_append]; simp
theorem rng_flt (P : Nat → Bool) (n : Nat) : (List.range (n + 1)).filter P = (List.range n).filter P ++ (if P n then [n] else []) := by
  rw [List.range_succ, List.filter_append]
  congr 1
  cases h : P n <;> simp [h]
theorem k_tell (hA : rA M mkO sl) (hB : cBk M ra sl (chF M sl) (mde M) mkO S bk) (hy : cNy S nd bk n) (hnd : bk + 5 ≤ nd ∧ nd + 26 ≤ bk + 128) {r t : Nat} (hr : mde M r) (ht : mde M t) (hs : ¬ tuS (M.2 9 t)) {E : List En} (hG : cLg S (nd + 1) 3 250 E) : ∃ S', fk_7_tell S nd (ra r) (ra t) = some S' ∧ cEq (inG (nd + 1)) S S' ∧ cLg S' (nd + 1) 3 250 ((nwC M mkO r t (kI S (nd + 9)) (kI S (nd + 10))).foldl (adE 250) E) := by
  obtain ⟨j, m, j1, j2, j3, j4, j5, -, -⟩ := slT hA ht hs
  generalize hf : kI S (nd + 9) = f
  generalize hg : kI S (nd + 10) = g
  have hWb : ∀ a, inG (nd + 1) a → (a < bk ∨ bk + 5 ≤ a) ∧ a < bk + 128 := fun a ha => by unfold inG at ha; omega
  have st : ∀ {T : cSt}, cEq (inG (nd + 1)) S T → cBk M ra sl (chF M sl) (mde M) mkO T bk ∧ cNy T nd bk n ∧ kI T (nd + 9) = f ∧ kI T (nd + 10) = g := fun {T} e => ⟨cBk_eq hB e hWb, cNy_eq' hy e (fun q => by unfold inG at q; omega), by rw [(e.2.2.2.2 _ (fun q => by unfold inG at q; omega)).2.2.1]; exact hf, by rw [(e.2.2.2.2 _ (fun q => by unfold inG at q; omega)).2.2.1]; exact hg⟩
  unfold fk_7_tell
  obtain ⟨b, h1, h2⟩ := loopI (σ := cSt × Int32) (β := cSt) (N := 48) (F := fun k s i => fk_7_tell_5 k s.1 nd (ra r) (ra t) s.2 (Int32.ofNat i)) (Q := fun b => cEq (inG (nd + 1)) S b ∧ cLg b (nd + 1) 3 250 ((nwC M mkO r t f g).foldl (adE 250) E))
    (fun i s => cEq (inG (nd + 1)) S s.1 ∧ s.2 = b2 ((List.range i).any (fun i => decide (f i ≠ g i)) = true) ∧ cLg s.1 (nd + 1) 3 250 ((if M.2 9 t = 11 then ((List.range i).filter (fun i => decide (f i ≠ g i))).map (fun i => (Int32.ofNat (rNm r), nmJ mkO i, (6 : Int32), (0 : Int32))) else []).foldl (adE 250) E))
    (fun k s h => by
      obtain ⟨e, h2, h3⟩ := h
      obtain ⟨hB', hy', -, -⟩ := st e
      obtain ⟨-, r9, ⟨r0, -, r3, -⟩, ⟨-, -, r11, -⟩, r1, -⟩ := hB'.2.2.1 t ht.1 ht
      obtain ⟨-, q9, -, ⟨-, -, q11, -⟩, -⟩ := hB'.2.2.1 r hr.1 hr
      show ∃ b, fk_7_tell_5 (k + 1) s.1 nd (ra r) (ra t) s.2 (Int32.ofNat 48) = some b ∧ _
      rw [fk_7_tell_5]
      rw [if_pos (show (48 : Int32) ≤ Int32.ofNat 48 by decide), h2]
      unfold fk_7_tell_98 fk_7_tell_103 fk_7_tell_138 fk_7_tell_142
      unfold nwC
      by_cases h11 : M.2 9 t = 11
      · rw [if_pos h11] at h3 ⊢
        by_cases ha : (List.range 48).any (fun i => decide (f i ≠ g i)) = true
        · rw [if_neg (by rw [b2_t ha]; decide), ckk_y r9, r0, if_pos h11]
          exact ⟨_, rfl, e, h3⟩
        · rw [if_pos (b2_f ha)]
          exact ⟨_, rfl, e, h3⟩
      · rw [if_neg h11] at h3 ⊢
        by_cases ha : (List.range 48).any (fun i => decide (f i ≠ g i)) = true
        · rw [if_neg (by rw [b2_t ha]; decide), ckk_y r9, r0, if_neg h11, ckk_y r9, if_pos ha]
          have hnm : fk_0_nameOf s.1 bk (Int32.ofNat j) = some (nmT M t) := by rw [k_nameOf hB' j1, j2, ← j5]
          have add : ∀ x : Int32, ∃ b, fk_6_add s.1 (nd + 1) (Int32.ofNat (rNm r)) (nmT M t) x 0 = some b ∧ cEq (inG (nd + 1)) S b ∧ cLg b (nd + 1) 3 250 ([(Int32.ofNat (rNm r), nmT M t, x, (0 : Int32))].foldl (adE 250) E) := fun x => by
            obtain ⟨S', a1, a2, a3⟩ := k_add h3 (Or.inl rfl) (by decide) (Int32.ofNat (rNm r), nmT M t, x, 0)
            exact ⟨S', a1, cEq_trans e a2, a3⟩
          have k7 : kK s.1 (nd + 1) = 7 := h3.2.1.1
          by_cases h0 : M.2 9 t = 0
          · obtain ⟨b, b1, b2'⟩ := add 7
            rw [if_pos h0, ckk_y hy'.1.1, hy'.1.2.2.2.2.1, bd_s, ckk_y q9, ckk_y hy'.1.1, hy'.2.1.1, bd_s, ckk_y r9, ckk_y hB'.1.1, r1, j4, hnm, bd_s, if_neg (by decide), q11, ckk_y k7, b1, if_pos (Or.inl h0)]
            exact ⟨b, rfl, b2'⟩
          · rw [if_neg h0, ckk_y r9]
            by_cases h12 : M.2 9 t = 12
            · obtain ⟨b, b1, b2'⟩ := add 7
              rw [if_pos h12, ckk_y hy'.1.1, hy'.1.2.2.2.2.1, bd_s, ckk_y q9, ckk_y hy'.1.1, hy'.2.1.1, bd_s, ckk_y r9, ckk_y hB'.1.1, r1, j4, hnm, bd_s, if_neg (by decide), q11, ckk_y k7, b1, if_pos (Or.inr h12)]
              exact ⟨b, rfl, b2'⟩
            · obtain ⟨b, b1, b2'⟩ := add (M.2 11 t)
              rw [if_neg h12, ckk_y hy'.1.1, hy'.1.2.2.2.2.1, bd_s, ckk_y q9, ckk_y hy'.1.1, hy'.2.1.1, bd_s, ckk_y r9, ckk_y hB'.1.1, r1, j4, hnm, bd_s, if_pos rfl, ckk_y r9, r3, q11, ckk_y k7, b1, if_neg (fun q => q.elim h0 h12)]
              exact ⟨b, rfl, b2'⟩
        · rw [if_pos (b2_f ha), if_neg ha]
          exact ⟨_, rfl, e, h3⟩)
    (fun k s i hi h => Or.inl (by
      obtain ⟨e, h2, h3⟩ := h
      obtain ⟨hB', hy', hf', hg'⟩ := st e
      obtain ⟨-, r9, ⟨r0, -, r3, -⟩, ⟨-, -, r11, -⟩, r1, -⟩ := hB'.2.2.1 t ht.1 ht
      obtain ⟨-, q9, -, ⟨-, -, q11, -⟩, -⟩ := hB'.2.2.1 r hr.1 hr
      obtain ⟨-, -, -, -, ⟨x1, x2⟩, ⟨y1, y2⟩, -⟩ := hy'.2.2
      show ∃ st', _ ∧ fk_7_tell_5 (k + 1) s.1 nd (ra r) (ra t) s.2 (Int32.ofNat i) = _
      rw [fk_7_tell_5]
      unfold fk_7_tell_63
      rw [if_neg (jK 48 48 (b := i) rfl (by omega) (by decide)), ckk_y hy'.1.1, hy'.2.1.2.2.1, bd_s, ckk_y x1, x2, ck_n hi (by omega), ckk_y hy'.1.1, hy'.2.1.2.2.2.1, bd_s, ckk_y y1, y2, ck_n hi (by omega), jI_cl (by omega), hf', hg', rng_any, rng_flt]
      by_cases hd : f i = g i
      · refine ⟨s, ⟨e, ?_, ?_⟩, ?_⟩
        · rw [h2]; simp [hd]
        · simpa [hd] using h3
        · rw [if_pos hd, lt_d, show (1 : Int32) = Int32.ofNat 1 from rfl, jI_add]
      · rw [if_neg hd, ckk_y r9, r0]
        by_cases h11 : M.2 9 t = 11
        · rw [if_pos h11] at h3
          obtain ⟨T, a1, a2, a3⟩ := k_add h3 (Or.inl rfl) (by decide) (Int32.ofNat (rNm r), nmJ mkO i, 6, 0)
          have k7 : kK s.1 (nd + 1) = 7 := h3.2.1.1
          have hnm : fk_0_nameOf s.1 bk (Int32.ofNat i) = some (nmJ mkO i) := k_nameOf hB' hi
          refine ⟨(T, 1), ⟨cEq_trans e a2, ?_, ?_⟩, ?_⟩
          · exact (b2_t (by simp [hd])).symm
          · rw [if_pos h11]
            simp only [decide_eq_true (show f i ≠ g i from hd), if_true, List.map_append, List.map_cons, List.map_nil, List.foldl_append, List.foldl_cons, List.foldl_nil]
            exact a3
          · have a1' : fk_6_add s.1 (nd + 1) (Int32.ofNat (rNm r)) (nmJ mkO i) 6 0 = some T := a1
            rw [if_pos h11, ckk_y hy'.1.1, hy'.1.2.2.2.2.1, bd_s, ckk_y q9, ckk_y hy'.1.1, hy'.2.1.1, bd_s, ckk_y hB'.1.1, hnm, bd_s, ckk_y k7, q11, a1', bd_s, lt_d, show (1 : Int32) = Int32.ofNat 1 from rfl, jI_add]
        · refine ⟨(s.1, 1), ⟨e, (b2_t (by simp [hd])).symm, ?_⟩, ?_⟩
          · rw [if_neg h11] at h3 ⊢; exact h3
          · rw [if_neg h11, lt_d, show (1 : Int32) = Int32.ofNat 1 from rfl, jI_add]))
    48 0 mFU (S, 0) (by omega) (by decide) ⟨cEq_refl _ _, (b2_f (by simp)).symm, by
      have : (if M.2 9 t = 11 then ((List.range 0).filter (fun i => decide (f i ≠ g i))).map (fun i => (Int32.ofNat (rNm r), nmJ mkO i, (6 : Int32), (0 : Int32))) else []) = [] := by split <;> rfl
      rw [this]; exact hG⟩
  exact ⟨b, h1, h2⟩
/-- a node's standing lists: the class's and the reference's -/
def cLs (S : cSt) (M : mSt) (nd n : Nat) : Prop := ∀ q, q < 4 → (M.2 32 (4 * n + q) = 0 ∧ kI S (nd + 11) (4 * q) = 0) ∨ (M.2 32 (4 * n + q) = 1 ∧ ∃ kd p, kd < 8 ∧ p < 6 ∧ M.2 33 (4 * n + q) = Int32.ofNat kd ∧ M.2 34 (4 * n + q) = Int32.ofNat p ∧ M.2 6 (6 * kd + p) = 76 ∧ kI S (nd + 11) (4 * q) = Int32.ofNat (kd + 1) ∧ kI S (nd + 11) (4 * q + 1) = Int32.ofNat p ∧ kI S (nd + 11) (4 * q + 2) = M.2 35 (4 * n + q) ∧ kI S (nd + 11) (4 * q + 3) = M.2 36 (4 * n + q))
/-- the object m is in the list q -/
def inLs (M : mSt) (n : Nat) (l : List Nat) (q m : Nat) : Bool := decide (M.2 32 (4 * n + q) = 1) && (decide (M.2 12 m = M.2 33 (4 * n + q)) && (thN M l (Int32.ofNat (rNm m)) && decide (M.2 35 (4 * n + q) ≤ ltV M l (Int32.ofNat (rNm m)) (M.2 34 (4 * n + q)) ∧ ltV M l (Int32.ofNat (rNm m)) (M.2 34 (4 * n + q)) ≤ M.2 36 (4 * n + q))))
/-- four bits -/
def wB (b : Nat → Bool) : Nat → Int32
  | 0 => 0
  | k + 1 => if b k then wB b k ||| ((1 : Int32) <<< (Int32.ofNat k &&& 31)) else wB b k
theorem wB_bit (b : Nat → Bool) {q : Nat} (hq : q < 4) : (wB b 4 >>> (Int32.ofNat q &&& 31)) &&& 1 = b2 (b q = true) := by
  have key : ∀ b0 b1 b2' b3 : Bool, ∀ q, q < 4 → ((if b3 then (if b2' then (if b1 then (if b0 then (0 : Int32) ||| ((1 : Int32) <<< (Int32.ofNat 0 &&& 31)) else 0) ||| ((1 : Int32) <<< (Int32.ofNat 1 &&& 31)) else (if b0 then (0 : Int32) ||| ((1 : Int32) <<< (Int32.ofNat 0 &&& 31)) else 0)) ||| ((1 : Int32) <<< (Int32.ofNat 2 &&& 31)) else (if b1 then (if b0 then (0 : Int32) ||| ((1 : Int32) <<< (Int32.ofNat 0 &&& 31)) else 0) ||| ((1 : Int32) <<< (Int32.ofNat 1 &&& 31)) else (if b0 then (0 : Int32) ||| ((1 : Int32) <<< (Int32.ofNat 0 &&& 31)) else 0))) ||| ((1 : Int32) <<< (Int32.ofNat 3 &&& 31)) else (if b2' then (if b1 then (if b0 then (0 : Int32) ||| ((1 : Int32) <<< (Int32.ofNat 0 &&& 31)) else 0) ||| ((1 : Int32) <<< (Int32.ofNat 1 &&& 31)) else (if b0 then (0 : Int32) ||| ((1 : Int32) <<< (Int32.ofNat 0 &&& 31)) else 0)) ||| ((1 : Int32) <<< (Int32.ofNat 2 &&& 31)) else (if b1 then (if b0 then (0 : Int32) ||| ((1 : Int32) <<< (Int32.ofNat 0 &&& 31)) else 0) ||| ((1 : Int32) <<< (Int32.ofNat 1 &&& 31)) else (if b0 then (0 : Int32) ||| ((1 : Int32) <<< (Int32.ofNat 0 &&& 31)) else 0)))) >>> (Int32.ofNat q &&& 31)) &&& 1 = b2 ((match q with | 0 => b0 | 1 => b1 | 2 => b2' | _ => b3) = true) := by decide +kernel
  have h := key (b 0) (b 1) (b 2) (b 3) q hq
  match q, hq with
  | 0, _ => exact h
  | 1, _ => exact h
  | 2, _ => exact h
  | 3, _ => exact h
theorem k_listsWith (hA : rA M mkO sl) (hc : cl M l) {ua up vb : Nat} (hQ : cQ M ra sl (chF M sl) (mde M) mkO S bk (nd + 12) (nd + 20) ua up vb l) (hup : l.take up = l) (hy : cNy S nd bk n) (hls : cLs S M nd n) {j : Nat} (hj : j < 48) : fk_7_listsWith S nd (Int32.ofNat j) = some (wB (fun q => match mkO j with | none => false | some m => inLs M n l q m) 4) := by
  obtain ⟨⟨y1, y2, y3, y4, y5, y6, y7⟩, ⟨z1, z2, z3, z4, z5⟩, ⟨-, -, -, -, -, -, w1, w2⟩⟩ := hy
  have v1 := hQ.2.2.1.1.1
  unfold fk_7_listsWith
  rw [ckk_y y1, y4, bd_s, ckk_y v1, k_isThere hQ.1 hQ.2.1 hQ.2.2.1 hQ.2.2.2.1 hj, bd_s]
  cases hm : mkO j with
  | none =>
    have e : vTh M (chF M sl) mkO l up j = false := by unfold vTh vMd; rw [hm]; rfl
    rw [e, if_pos bFn]; rfl
  | some m =>
    rw [lk_there hA hc hm, hup]
    cases hth : thN M l (Int32.ofNat (rNm m)) with
    | false =>
      rw [if_pos bFn]
      have e : ∀ k, wB (fun q => inLs M n l q m) k = 0 := by
        intro k
        induction k with
        | zero => rfl
        | succ k ih =>
          unfold wB
          have : inLs M n l k m = false := by unfold inLs; rw [hth]; simp
          simp only [this, Bool.false_eq_true, if_false]
          exact ih
      show some 0 = some (wB (fun q => inLs M n l q m) 4)
      rw [e]
    | true =>
      rw [if_neg bTn]
      obtain ⟨b, h1, h2⟩ := loopI (σ := Int32) (β := Int32) (N := 4) (F := fun k s i => fk_7_listsWith_17 S k nd (Int32.ofNat j) s (Int32.ofNat i)) (Q := fun b => b = wB (fun q => inLs M n l q m) 4) (fun i s => s = wB (fun q => inLs M n l q m) i)
        (fun k s h => ⟨s, by
          show fk_7_listsWith_17 S (k + 1) nd (Int32.ofNat j) s (Int32.ofNat 4) = _
          rw [fk_7_listsWith_17]
          exact if_pos (by decide), h⟩)
        (fun k s i hi h => Or.inl (by
          show ∃ s', _ ∧ fk_7_listsWith_17 S (k + 1) nd (Int32.ofNat j) s (Int32.ofNat i) = _
          rw [fk_7_listsWith_17]
          unfold fk_7_listsWith_101 fk_7_listsWith_102 fk_7_listsWith_117 fk_7_listsWith_119
          have hkd : fk_0_kindOf S bk (Int32.ofNat j) = some (M.2 12 m) := by rw [k_kindOf hQ.1 hj, hm]
          have e4 : (4 : Int32) * Int32.ofNat i = Int32.ofNat (4 * i) := by rw [show (4 : Int32) = Int32.ofNat 4 from rfl, jI_mul]
          have e41 : Int32.ofNat (4 * i) + 1 = Int32.ofNat (4 * i + 1) := by rw [show (1 : Int32) = Int32.ofNat 1 from rfl, jI_add]
          have e42 : Int32.ofNat (4 * i) + 2 = Int32.ofNat (4 * i + 2) := by rw [show (2 : Int32) = Int32.ofNat 2 from rfl, jI_add]
          have e43 : Int32.ofNat (4 * i) + 3 = Int32.ofNat (4 * i + 3) := by rw [show (3 : Int32) = Int32.ofNat 3 from rfl, jI_add]
          have en : Int32.ofNat i + 1 = Int32.ofNat (i + 1) := by rw [show (1 : Int32) = Int32.ofNat 1 from rfl, jI_add]
          have hno : inLs M n l i m = false → ∃ s', s' = wB (fun q => inLs M n l q m) (i + 1) ∧ fk_7_listsWith_17 S k nd (Int32.ofNat j) s (Int32.ofNat (i + 1)) = fk_7_listsWith_17 S k nd (Int32.ofNat j) s' (Int32.ofNat (i + 1)) := fun hn => by
            refine ⟨s, ?_, rfl⟩
            unfold wB
            simp only [hn, Bool.false_eq_true, if_false]
            exact h
          rw [if_neg (jK 4 4 (b := i) rfl (by omega) (by decide)), ckk_y y1, z5, bd_s, ckk_y w1, w2, e4, ck_n (by omega) (by omega), ckk_y y1, z1, bd_s, ckk_y hQ.1.1.1, hkd, bd_s, jI_cl (show 4 * i < 2147483648 by omega)]
          obtain ⟨⟨_, _, _⟩, kd', kd8, kde⟩ := (hA.1 m (hA.2.1.1 j m hm).2.1).2.2.2.2.1 (hA.2.1.1 j m hm).2.2
          have e1p : Int32.ofNat kd' + 1 = Int32.ofNat (kd' + 1) := by rw [show (1 : Int32) = Int32.ofNat 1 from rfl, jI_add]
          rcases hls i hi with ⟨s1, s2⟩ | ⟨s1, kd, p, c1, c2, c3, c4, c5, c6, c7, c8, c9⟩
          · rw [s2, kde, e1p, if_neg (show ¬ (0 : Int32) = Int32.ofNat (kd' + 1) from fun q => absurd ((jI_inj (a := 0) (by omega) (by omega)).mp q) (by omega)), lt_d, en]
            exact hno (by unfold inLs; rw [s1]; rfl)
          · rw [c6, kde, e1p]
            by_cases hk : kd = kd'
            · subst hk
              have hpt : ptO M mkO j m kd p 76 := ⟨hm, kde, c1, c2, c5, by decide⟩
              have hlat : fk_10_latestOf S (nd + 20) (Int32.ofNat j * 8 + Int32.ofNat p) = some (ltV M l (Int32.ofNat (rNm m)) (Int32.ofNat p)) := by
                rw [sl8, k_latestOf (ptO_c hA hpt) hQ.1 hQ.2.1 hQ.2.2.1 hQ.2.2.2.1, lk_L hA hc hpt, hup]; rfl
              have hin : inLs M n l i m = decide (M.2 35 (4 * n + i) ≤ ltV M l (Int32.ofNat (rNm m)) (Int32.ofNat p) ∧ ltV M l (Int32.ofNat (rNm m)) (Int32.ofNat p) ≤ M.2 36 (4 * n + i)) := by
                unfold inLs
                rw [decide_eq_true s1, hth, c3, kde, c4]; simp
              rw [if_pos rfl, ckk_y y1, y4, bd_s, ckk_y y1, bd_s, ckk_y w1, w2, e41, ck_n (by omega) (by omega), ckk_y v1, jI_cl (show 4 * i + 1 < 2147483648 by omega), c7, hlat, bd_s, ckk_y y1, bd_s, ckk_y w1, w2, e42, ck_n (by omega) (by omega), jI_cl (show 4 * i + 2 < 2147483648 by omega), c8]
              by_cases h1 : ltV M l (Int32.ofNat (rNm m)) (Int32.ofNat p) < M.2 35 (4 * n + i)
              · rw [if_pos h1, if_pos rfl, lt_d, lt_d, Int32.or_zero, en]
                exact hno (by rw [hin, decide_eq_false (fun q => absurd q.1 (Int32.not_le.mpr h1))])
              · rw [if_neg h1, ckk_y y1, bd_s, ckk_y w1, w2, e43, ck_n (by omega) (by omega), jI_cl (show 4 * i + 3 < 2147483648 by omega), c9]
                by_cases h2 : M.2 36 (4 * n + i) < ltV M l (Int32.ofNat (rNm m)) (Int32.ofNat p)
                · rw [if_pos h2, if_pos rfl, lt_d, lt_d, Int32.or_zero, en]
                  exact hno (by rw [hin, decide_eq_false (fun q => absurd q.2 (Int32.not_le.mpr h2))])
                · rw [if_neg h2, if_neg (by decide), lt_d, lt_d, en]
                  refine ⟨_, ?_, rfl⟩
                  conv => rhs; unfold wB
                  have : inLs M n l i m = true := by rw [hin, decide_eq_true ⟨Int32.not_lt.mp h1, Int32.not_lt.mp h2⟩]
                  simp only [this, if_true]
                  rw [h]
            · rw [if_neg (fun q => hk (by have := (jI_inj (by omega) (by omega)).mp q; omega)), lt_d, en]
              exact hno (by unfold inLs; rw [c3, kde, decide_eq_false (fun q => hk ((jI_inj (by omega) (by omega)).mp q).symm)]; simp)))
        4 0 mFU 0 (by omega) (by decide) rfl
      show fk_7_listsWith_17 S mFU nd (Int32.ofNat j) 0 (Int32.ofNat 0) = _
      have h1' : fk_7_listsWith_17 S mFU nd (Int32.ofNat j) 0 (Int32.ofNat 0) = some b := h1
      rw [h1', h2]
/-- the turns of lists that a row brings -/
def tuC (r : Nat) (x : Int32) (a b : Nat → Bool) : List En := ((List.range 4).filter (fun q => decide (a q ≠ b q))).map (fun q => (Int32.ofNat (rNm r), Int32.ofNat q, x, b2 (b q = true)))
theorem k_turn (hB : cBk M ra sl (chF M sl) (mde M) mkO S bk) (hy : cNy S nd bk n) (hnd : bk + 5 ≤ nd ∧ nd + 26 ≤ bk + 128) {r j m : Nat} (hr : mde M r) (hj : j < 48) (hm : mkO j = some m) {E : List En} (hG : cLg S (nd + 3) 4 200 E) (a b : Nat → Bool) : ∃ S', fk_7_turn S nd (ra r) (Int32.ofNat j) (wB a 4) (wB b 4) = some S' ∧ cEq (inG (nd + 3)) S S' ∧ cLg S' (nd + 3) 4 200 ((tuC r (Int32.ofNat (rNm m)) a b).foldl (adE 200) E) := by
  have hWb : ∀ a, inG (nd + 3) a → (a < bk ∨ bk + 5 ≤ a) ∧ a < bk + 128 := fun a ha => by unfold inG at ha; omega
  unfold fk_7_turn tuC
  obtain ⟨c, h1, h2⟩ := loopI (σ := cSt) (β := cSt) (N := 4) (F := fun k s i => fk_7_turn_3 k s nd (ra r) (Int32.ofNat j) (wB a 4) (wB b 4) (Int32.ofNat i)) (Q := fun c => cEq (inG (nd + 3)) S c ∧ cLg c (nd + 3) 4 200 ((((List.range 4).filter (fun q => decide (a q ≠ b q))).map (fun q => (Int32.ofNat (rNm r), Int32.ofNat q, Int32.ofNat (rNm m), b2 (b q = true)))).foldl (adE 200) E))
    (fun i s => cEq (inG (nd + 3)) S s ∧ cLg s (nd + 3) 4 200 ((((List.range i).filter (fun q => decide (a q ≠ b q))).map (fun q => (Int32.ofNat (rNm r), Int32.ofNat q, Int32.ofNat (rNm m), b2 (b q = true)))).foldl (adE 200) E))
    (fun k s h => ⟨s, by
      show fk_7_turn_3 (k + 1) s nd (ra r) (Int32.ofNat j) (wB a 4) (wB b 4) (Int32.ofNat 4) = _
      rw [fk_7_turn_3]
      exact if_pos (by decide), h⟩)
    (fun k s i hi h => Or.inl (by
      obtain ⟨e, h3⟩ := h
      have hB' := cBk_eq hB e hWb
      have hy' := cNy_eq' hy e (fun q => by unfold inG at q; omega)
      obtain ⟨-, q9, -, ⟨-, -, q11, -⟩, -⟩ := hB'.2.2.1 r hr.1 hr
      show ∃ s', _ ∧ fk_7_turn_3 (k + 1) s nd (ra r) (Int32.ofNat j) (wB a 4) (wB b 4) (Int32.ofNat i) = _
      rw [fk_7_turn_3]
      unfold fk_7_turn_56
      rw [if_neg (jK 4 4 (b := i) rfl (by omega) (by decide)), lt_d, lt_d, wB_bit a hi, wB_bit b hi, rng_flt]
      by_cases hd : a i = b i
      · refine ⟨s, ⟨e, ?_⟩, ?_⟩
        · simpa [hd] using h3
        · rw [if_pos (by rw [hd]), lt_d, show (1 : Int32) = Int32.ofNat 1 from rfl, jI_add]
      · have hne : ¬ b2 (a i = true) = b2 (b i = true) := fun q => hd (b2_inj _ _ q)
        obtain ⟨T, a1, a2, a3⟩ := k_add h3 (Or.inr rfl) (by decide) (Int32.ofNat (rNm r), Int32.ofNat i, Int32.ofNat (rNm m), b2 (b i = true))
        have k7 : kK s (nd + 3) = 7 := h3.2.1.1
        have hnm : fk_0_nameOf s bk (Int32.ofNat j) = some (Int32.ofNat (rNm m)) := by rw [k_nameOf hB' hj, hm]
        refine ⟨T, ⟨cEq_trans e a2, ?_⟩, ?_⟩
        · simp only [decide_eq_true (show a i ≠ b i from hd), if_true, List.map_append, List.map_cons, List.map_nil, List.foldl_append, List.foldl_cons, List.foldl_nil]
          exact a3
        · have a1' : fk_6_add s (nd + 3) (Int32.ofNat (rNm r)) (Int32.ofNat i) (Int32.ofNat (rNm m)) (b2 (b i = true)) = some T := a1
          rw [if_neg hne, ckk_y hy'.1.1, hy'.1.2.2.2.2.2.1, bd_s, ckk_y q9, ckk_y hy'.1.1, hy'.2.1.1, bd_s, ckk_y hB'.1.1, hnm, bd_s, ckk_y k7, q11, a1', bd_s, lt_d, show (1 : Int32) = Int32.ofNat 1 from rfl, jI_add]))
    4 0 mFU S (by omega) (by decide) ⟨cEq_refl _ _, hG⟩
  exact ⟨c, h1, h2⟩
end V
