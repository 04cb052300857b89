-- part 127: the reference starts a frame
theorem ins_t1 {K : Nat → Nat} {r : Nat} : ∀ (T : List Nat) (k : Nat), k ≤ T.length → (∀ h : k < T.length, K r < K T[k]) → (ins K r T).take (k + 1) = ins K r (T.take k) := by
  intro T
  induction T with
  | nil => intro k hk _; have : k = 0 := by simpa using hk
           subst this; rfl
  | cons e T ih =>
    intro k hk h
    rw [ins_cons]
    cases k with
    | zero => rw [if_pos (show K r < K e from h (by simp))]; rfl
    | succ k =>
      rw [List.take_succ_cons, ins_cons]
      by_cases c : K r < K e
      · rw [if_pos c, if_pos c]; rfl
      · rw [if_neg c, if_neg c, List.take_succ_cons, ih k (by simpa using hk) (fun h' => h (by simpa using h'))]
theorem ins_t2 {K : Nat → Nat} {r : Nat} : ∀ (T : List Nat) (k : Nat), k ≤ T.length → (∀ i (h : i < T.length), i < k → ¬ K r < K T[i]) → (ins K r T).take k = T.take k := by
  intro T
  induction T with
  | nil => intro k hk _; have : k = 0 := by simpa using hk
           subst this; rfl
  | cons e T ih =>
    intro k hk h
    cases k with
    | zero => rfl
    | succ k =>
      rw [ins_cons, if_neg (show ¬ K r < K e from h 0 (by simp) (by omega)), List.take_succ_cons, List.take_succ_cons, ih k (by simpa using hk) (fun i hi hik => h (i + 1) (by simpa using hi) (by omega))]
/-- one row more among the eight least -/
def car (K : Nat → Nat) (R : List Nat) (r : Nat) : List Nat := if R.length = 8 then (if K (R.getD 7 0) < K r then R else ins K r (R.take 7)) else ins K r R
theorem car_t {K : Nat → Nat} {T : List Nat} {r : Nat} (hs : sdl K T) (hne : ∀ x ∈ T, K x ≠ K r) : car K (T.take 8) r = (ins K r T).take 8 := by
  unfold car
  by_cases c : T.length < 8
  · rw [List.length_take, if_neg (by omega), List.take_of_length_le (by omega), List.take_of_length_le (by rw [len_ins]; omega)]
  · have h7 : 7 < T.length := by omega
    have e7 : (T.take 8).getD 7 0 = T[7] := by
      rw [List.getD_eq_getElem?_getD, List.getElem?_take, if_pos (by decide), List.getElem?_eq_getElem h7]; rfl
    rw [List.length_take, if_pos (by omega), e7]
    by_cases c1 : K T[7] < K r
    · rw [if_pos c1, ins_t2 T 8 (by omega)]
      intro i hi hi8 q
      have : K T[i] ≤ K T[7] := by
        by_cases e : i = 7
        · subst e; exact Nat.le_refl _
        · exact List.pairwise_iff_getElem.mp hs i 7 hi h7 (by omega)
      omega
    · have hn := hne _ (List.getElem_mem h7)
      rw [if_neg c1, ins_t1 T 7 (by omega) (fun h => by omega), List.take_take]; rfl
section V
variable {M M' A B : mSt} {sl : Nat → Int32} {mkO : Nat → Option Nat} {x0 n m k w : Nat} {l : List Nat}
/-- the frame w is being filled: its numbers G -/
def rB (M B : mSt) (w : Nat) (G : Nat → Int32) : Prop := mEx (fun k => k = 42 ∨ k = 46) M B ∧ B.1 42 = Int32.ofNat (w + 1) ∧ (∀ q, q < 640 → B.2 46 (640 * w + q) = G q) ∧ ∀ q, (q < 640 * w ∨ 640 * w + 640 ≤ q) → B.2 46 q = M.2 46 q
theorem rB_w {G : Nat → Int32} (h : rB M B w G) (hw : w < 60) {i : Nat} (hi : i < 640) (x : Int32) : rB M (wr B 46 (Int32.ofNat (640 * w + i)) x) w (upd G i x) := by
  obtain ⟨h1, h2, h3, h4⟩ := h
  refine ⟨mEx_trans h1 (mEx_wr (Or.inr rfl) _ _), h2, fun q hq => ?_, fun q hq => ?_⟩
  · rw [wr_s _ _ (by omega)]
    by_cases e : q = i
    · subst e; rw [upd_s, upd_s]
    · rw [upd_o _ _ (by omega), upd_o _ _ e]; exact h3 q hq
  · rw [wr_s _ _ (by omega), upd_o _ _ (by omega)]; exact h4 q hq
theorem rB_rd {G : Nat → Int32} (h : rB M B w G) (hw : w < 60) {i : Nat} (hi : i < 640) : rd B 46 (Int32.ofNat (640 * w + i)) = G i := by rw [rd_n _ _ (by omega)]; exact h.2.2.1 i hi
theorem rB_o {G : Nat → Int32} (h : rB M B w G) {j : Nat} (hj : j ≠ 42 ∧ j ≠ 46) : B.1 j = M.1 j ∧ B.2 j = M.2 j := h.1 j (by omega)
theorem rB_G {G G' : Nat → Int32} (h : rB M B w G) (hg : ∀ q, q < 640 → G q = G' q) : rB M B w G' := ⟨h.1, h.2.1, fun q hq => by rw [h.2.2.1 q hq, hg q hq], h.2.2.2⟩
/-- the head of a frame -/
def hdG (M : mSt) (n m : Nat) (ask : Int32) (G : Nat → Int32) : Prop := G 0 = Int32.ofNat n ∧ G 1 = Int32.ofNat m ∧ G 2 = ask ∧ (∀ q, q < 4 → G (4 + q) = M.2 20 (4 * n + q)) ∧ (∀ c, c < 16 → G (16 + c) = M.2 31 (16 * n + c)) ∧ ∀ i, 32 ≤ i → i < 640 → G i = 0
def rwG (G : Nat → Int32) (R : List Nat) : Prop := G 3 = Int32.ofNat R.length ∧ ∀ i (h : i < R.length), G (8 + i) = Int32.ofNat R[i]
/-- a row into its place -/
theorem m_carry56 (ht : tOk M) (hw : w < 60) {r : Nat} (hr : r < 1000) {R : List Nat} (hR : ∀ x ∈ R, x < 1000) (hN : R.length ≤ 7) (hs : sdl (rK M) R) : ∀ (v fu : Nat) (B : mSt) (G : Nat → Int32), v ≤ R.length → v < fu → rB M B w G → (∀ i (h : i < R.length), i < v → G (8 + i) = Int32.ofNat R[i]) → (∀ i (h : i < R.length), v ≤ i → G (8 + i + 1) = Int32.ofNat R[i]) → (∀ j (h : j < R.length), v ≤ j → rK M r < rK M R[j]) → ∃ B' G', fm_carry_56 fu B (Int32.ofNat (640 * w)) (Int32.ofNat r) (Int32.ofNat v) = some B' ∧ rB M B' w G' ∧ (∀ i (h : i < (ins (rK M) r R).length), G' (8 + i) = Int32.ofNat (ins (rK M) r R)[i]) ∧ ∀ q, (q < 8 ∨ 16 ≤ q) → G' q = G q := by
  intro v
  induction v with
  | zero =>
    intro fu B G hv hf hB h1 h2 h3
    obtain ⟨fu, rfl⟩ : ∃ q, fu = q + 1 := ⟨fu - 1, by omega⟩
    rw [fm_carry_56, if_pos (show Int32.ofNat 0 ≤ 0 by decide)]
    unfold fm_carry_111
    rw [show (8 : Int32) = Int32.ofNat 8 from rfl, jI_add, jI_add, ck_n (by omega) (by omega), lt_d]
    have hi := ins_at (K := rK M) (r := r) (l := R) 0 hs (Nat.zero_le _) (fun j hj _ => h3 j hj (Nat.zero_le _)) (fun _ q => absurd q (by omega))
    refine ⟨_, _, rfl, by rw [Nat.add_zero]; exact rB_w hB hw (i := 8) (by omega) _, fun i hi' => ?_, fun q hq => upd_o _ _ (by omega)⟩
    have hl : (ins (rK M) r R).length = R.length + 1 := len_ins _ _ _
    by_cases e : i = 0
    · subst e; rw [Nat.add_zero, upd_s]
      simp only [hi, List.take_zero, List.nil_append, List.getElem_cons_zero]
    · rw [upd_o _ _ (by omega)]
      have := h2 (i - 1) (by omega) (Nat.zero_le _)
      rw [show 8 + (i - 1) + 1 = 8 + i by omega] at this
      rw [this]
      congr 1
      simp only [hi, List.take_zero, List.nil_append, List.drop_zero]
      rw [List.getElem_cons, dif_neg e]
  | succ v ih =>
    intro fu B G hv hf hB h1 h2 h3
    obtain ⟨fu, rfl⟩ : ∃ q, fu = q + 1 := ⟨fu - 1, by omega⟩
    have hv' : v < R.length := by omega
    have e1 : Int32.ofNat (640 * w) + 8 + Int32.ofNat (v + 1) - 1 = Int32.ofNat (640 * w + (8 + v)) := by
      rw [show (8 : Int32) = Int32.ofNat 8 from rfl, jI_add, jI_add, show (1 : Int32) = Int32.ofNat 1 from rfl, jI_sub (by omega)]; congr 1; omega
    have e2 : Int32.ofNat (640 * w) + 8 + Int32.ofNat (v + 1) = Int32.ofNat (640 * w + (8 + v + 1)) := by
      rw [show (8 : Int32) = Int32.ofNat 8 from rfl, jI_add, jI_add]; congr 1; omega
    have eB : mEx sc M B ∨ True := Or.inr trivial
    have hb : fm_isBefore B (Int32.ofNat r) (Int32.ofNat R[v]) = some (b2 (rK M r < rK M R[v])) := by
      have ht' : tOk B := by unfold tOk; rw [(rB_o hB (j := 14) (by decide)).2, (rB_o hB (j := 15) (by decide)).2]; exact ht
      rw [m_isBefore ht' hr (hR _ (List.getElem_mem hv'))]
      unfold rK; rw [(rB_o hB (j := 14) (by decide)).2, (rB_o hB (j := 15) (by decide)).2]
    rw [fm_carry_56, if_neg (jI_p (by omega) (by omega)), e1, e2, ck_n (by omega) (by omega), rB_rd hB hw (by omega), h1 v hv' (by omega), hb, bd_s]
    by_cases c : rK M r < rK M R[v]
    · rw [b2_t c, if_neg n10, ck_n (by omega) (by omega), ck_n (by omega) (by omega), lt_d, lt_d, jPre v]
      obtain ⟨B', G', x1, x2, x3, x4⟩ := ih fu _ _ (by omega) (by omega) (rB_w hB hw (i := 8 + v + 1) (by omega) (Int32.ofNat R[v])) (fun i hi hiv => by rw [upd_o _ _ (by omega)]; exact h1 i hi (by omega)) (fun i hi hiv => by
        by_cases e : i = v
        · subst e; rw [upd_s]
        · rw [upd_o _ _ (by omega)]; exact h2 i hi (by omega)) (fun j hj hjv => by
        by_cases e : j = v
        · subst e; exact c
        · exact h3 j hj (by omega))
      exact ⟨B', G', x1, x2, x3, fun q hq => by rw [x4 q hq, upd_o _ _ (by omega)]⟩
    · rw [b2_f c, if_pos rfl]
      unfold fm_carry_111
      rw [e2, ck_n (by omega) (by omega), lt_d]
      have hi := ins_at (K := rK M) (r := r) (l := R) (v + 1) hs hv (fun j hj hjv => h3 j hj hjv) (fun hq _ => by
        have : v + 1 - 1 = v := by omega
        simp only [this]
        omega)
      refine ⟨_, _, rfl, rB_w hB hw (i := 8 + v + 1) (by omega) _, fun i hi' => ?_, fun q hq => upd_o _ _ (by omega)⟩
      have hl : (ins (rK M) r R).length = R.length + 1 := len_ins _ _ _
      have hlt : (R.take (v + 1)).length = v + 1 := by rw [List.length_take]; omega
      by_cases e : i = v + 1
      · subst e
        rw [show 8 + (v + 1) = 8 + v + 1 by omega, upd_s]
        congr 1
        simp only [hi]
        rw [List.getElem_append_right (by omega)]
        simp only [hlt, Nat.sub_self, List.getElem_cons_zero]
      · rw [upd_o _ _ (by omega)]
        by_cases e' : i < v + 1
        · rw [h1 i (by omega) e']
          congr 1
          simp only [hi]
          rw [List.getElem_append_left (by omega), List.getElem_take]
        · have := h2 (i - 1) (by omega) (by omega)
          rw [show 8 + (i - 1) + 1 = 8 + i by omega] at this
          rw [this]
          congr 1
          simp only [hi]
          rw [List.getElem_append_right (by omega), List.getElem_cons, dif_neg (by omega), List.getElem_drop]
          congr 1; omega
theorem m_carry (ht : tOk M) (hw : w < 60) {r : Nat} (hr : r < 1000) {R : List Nat} (hR : ∀ x ∈ R, x < 1000) (hN : R.length ≤ 8) (hs : sdl (rK M) R) {G : Nat → Int32} (hB : rB M B w G) (hG : rwG G R) : ∃ B' G', fm_carry B (Int32.ofNat (640 * w)) (Int32.ofNat r) = some B' ∧ rB M B' w G' ∧ rwG G' (car (rK M) R r) ∧ ∀ q, q ≠ 3 → (q < 8 ∨ 16 ≤ q) → G' q = G q := by
  have e3 : Int32.ofNat (640 * w) + 3 = Int32.ofNat (640 * w + 3) := jI_add _ 3
  have ht' : tOk B := by unfold tOk; rw [(rB_o hB (j := 14) (by decide)).2, (rB_o hB (j := 15) (by decide)).2]; exact ht
  have hKB : ∀ x, rK B x = rK M x := fun x => by unfold rK; rw [(rB_o hB (j := 14) (by decide)).2, (rB_o hB (j := 15) (by decide)).2]
  unfold fm_carry car
  rw [e3, ck_n (by omega) (by omega), rB_rd hB hw (by omega), hG.1, lt_d]
  by_cases c8 : R.length = 8
  · have h7 : 7 < R.length := by omega
    have e7 : R.getD 7 0 = R[7] := by rw [List.getD_eq_getElem?_getD, List.getElem?_eq_getElem h7]; rfl
    have e15 : Int32.ofNat (640 * w) + 8 + 8 - 1 = Int32.ofNat (640 * w + (8 + 7)) := by
      rw [show (8 : Int32) = Int32.ofNat 8 from rfl, jI_add, jI_add, show (1 : Int32) = Int32.ofNat 1 from rfl, jI_sub (by omega)]; congr 1
    rw [if_pos (show Int32.ofNat R.length = 8 by rw [c8]; rfl), if_pos c8, e7, e15, ck_n (by omega) (by omega), rB_rd hB hw (by omega), hG.2 7 h7, m_isBefore ht' (hR _ (List.getElem_mem h7)) hr, bd_s, hKB, hKB]
    by_cases c : rK M R[7] < rK M r
    · rw [b2_t c, if_neg n10, if_pos c]
      exact ⟨B, G, rfl, hB, hG, fun _ _ _ => rfl⟩
    · rw [b2_f c, if_pos rfl, if_neg c, lt_d, show Int32.ofNat R.length + -1 = Int32.ofNat 7 from by rw [c8]; rfl]
      have hl7 : (R.take 7).length = 7 := by rw [List.length_take]; omega
      obtain ⟨B', G', x1, x2, x3, x4⟩ := m_carry56 ht hw hr (R := R.take 7) (fun x hx => hR x (List.mem_of_mem_take hx)) (by omega) (List.Pairwise.sublist (List.take_sublist 7 R) hs) 7 mFU B G (by omega) (by decide) hB (fun i hi _ => by rw [List.getElem_take]; exact hG.2 i (by omega)) (fun i hi h => absurd hi (by omega)) (fun i hi h => absurd hi (by omega))
      refine ⟨B', G', x1, x2, ⟨?_, x3⟩, fun q h1 h2 => x4 q h2⟩
      rw [x4 3 (by omega), hG.1, len_ins, hl7, c8]
  · rw [if_neg (jN 8 8 rfl c8 (by omega) (by decide)), if_neg c8, ck_n (by omega) (by omega), ck_n (by omega) (by omega), show Int32.ofNat R.length + 1 = Int32.ofNat (R.length + 1) from jI_add _ 1, lt_d]
    obtain ⟨B', G', x1, x2, x3, x4⟩ := m_carry56 ht hw hr hR (by omega) hs R.length mFU _ _ (Nat.le_refl _) (Nat.lt_of_le_of_lt hN (by decide)) (rB_w hB hw (i := 3) (by omega) (Int32.ofNat (R.length + 1))) (fun i hi _ => by rw [upd_o _ _ (by omega)]; exact hG.2 i hi) (fun i hi h => absurd hi (by omega)) (fun i hi h => absurd hi (by omega))
    refine ⟨B', G', x1, x2, ⟨?_, x3⟩, fun q h1 h2 => by rw [x4 q h2, upd_o _ _ h1]⟩
    rw [x4 3 (by omega), upd_s, len_ins]
/-- which rows go -/
def elg (b : Nat → Nat) (r : Nat) : Bool := decide (b (rN r) < rM r)
theorem m_sentOf {m q : Nat} (hn : n < 4) (hm : m < 4) (hq : q < 4) : fm_sentOf B (Int32.ofNat n) (Int32.ofNat m) (Int32.ofNat q) = some (B.2 22 (16 * n + 4 * m + q)) := by
  unfold fm_sentOf
  rw [show (16 : Int32) = Int32.ofNat 16 from rfl, show (4 : Int32) = Int32.ofNat 4 from rfl, jI_mul, jI_mul, jI_add, jI_add, ck_n (by omega) (by omega), rd_n _ _ (by omega)]
theorem m_start167 (ht : tOk M) (hw : w < 60) (hn : n < 4) (hm : m < 4) (hnm : m ≠ n) (h2 : lAt M n l) (h23 : M.2 23 n = Int32.ofNat l.length) (hinj : kInj M l) {b sx st : Nat → Nat} (hb : ∀ q, q < 4 → b q = max (sx q) (st q) ∧ sx q ≤ 250 ∧ st q ≤ 250 ∧ M.2 21 (16 * n + 4 * m + q) = Int32.ofNat (sx q) ∧ M.2 22 (16 * n + 4 * m + q) = Int32.ofNat (st q)) :
    ∀ (j i fu : Nat) (B : mSt) (G : Nat → Int32), i + j = l.length → j < fu → rB M B w G → rwG G ((srt (rK M) ((l.take i).filter (elg b))).take 8) → ∃ B' G', fm_start_167 fu B (Int32.ofNat n) (Int32.ofNat m) (Int32.ofNat (640 * w)) (Int32.ofNat i) = fm_start_242 mFU B' (Int32.ofNat n) (Int32.ofNat m) (Int32.ofNat (640 * w)) 0 ∧ rB M B' w G' ∧ rwG G' ((srt (rK M) (l.filter (elg b))).take 8) ∧ ∀ q, q ≠ 3 → (q < 8 ∨ 16 ≤ q) → G' q = G q := by
  have hll := h2.2.1
  intro j
  induction j with
  | zero =>
    intro i fu B G hi hf hB hG
    obtain ⟨fu, rfl⟩ : ∃ q, fu = q + 1 := ⟨fu - 1, by omega⟩
    have e : i = l.length := by omega
    subst e
    rw [List.take_length] at hG
    rw [fm_start_167, ck_n hn (by omega), rd_n _ _ (by omega), (rB_o hB (j := 23) (by decide)).2, h23, if_pos (Int32.le_refl _)]
    exact ⟨B, G, rfl, hB, hG, fun _ _ _ => rfl⟩
  | succ j ih =>
    intro i fu B G hi hf hB hG
    obtain ⟨fu, rfl⟩ : ∃ q, fu = q + 1 := ⟨fu - 1, by omega⟩
    have hi' : i < l.length := by omega
    obtain ⟨r1, r2⟩ := h2.2.2 i hi'
    have hq := rN_lt r2
    have hM := rM_le l[i]
    obtain ⟨b1, b2', b3, b4, b5⟩ := hb (rN l[i]) hq
    have s1 : Int32.ofNat i + 1 = Int32.ofNat (i + 1) := jI_add _ 1
    have hat : fm_rowAt B (Int32.ofNat n) (Int32.ofNat i) = some (Int32.ofNat l[i]) := by
      unfold fm_rowAt
      rw [show (1000 : Int32) = Int32.ofNat 1000 from rfl, jI_mul, jI_add, ck_n (by omega) (by omega), rd_n _ _ (by omega), (rB_o hB (j := 24) (by decide)).2, r1]
    have hse : fm_seenOf B (Int32.ofNat n) (Int32.ofNat m) (Int32.ofNat (rN l[i])) = some (Int32.ofNat (sx (rN l[i]))) := by
      unfold fm_seenOf fm_seenOf_29
      rw [if_neg (fun q => hnm ((jI_inj (by omega) (by omega)).mp q)), show (16 : Int32) = Int32.ofNat 16 from rfl, show (4 : Int32) = Int32.ofNat 4 from rfl, jI_mul, jI_mul, jI_add, jI_add, ck_n (by omega) (by omega), rd_n _ _ (by omega), (rB_o hB (j := 21) (by decide)).2, b4]
    have hst : fm_sentOf B (Int32.ofNat n) (Int32.ofNat m) (Int32.ofNat (rN l[i])) = some (Int32.ofNat (st (rN l[i]))) := by
      rw [m_sentOf hn hm hq, (rB_o hB (j := 22) (by decide)).2, b5]
    have skip : elg b l[i] = false → rwG G ((srt (rK M) ((l.take (i + 1)).filter (elg b))).take 8) := fun he => by
      rw [List.take_succ_eq_append_getElem hi', List.filter_append, List.filter_cons_of_neg (by rw [he]; decide), List.filter_nil, List.append_nil]; exact hG
    rw [fm_start_167, ck_n hn (by omega), rd_n _ _ (by omega), (rB_o hB (j := 23) (by decide)).2, h23, if_neg (fun q => absurd ((jI_le (by omega) (by omega)).mp q) (by omega)), hat, bd_s, m_numberOf r2, bd_s, m_nodeOf r2, bd_s, hse, bd_s, bd_s, bd_s, hst, bd_s]
    unfold fm_start_233
    rw [lt_d, s1]
    by_cases c1 : rM l[i] ≤ sx (rN l[i])
    · rw [if_pos ((jI_le (by omega) (by omega)).mpr c1)]
      exact ih (i + 1) fu B G (by omega) (by omega) hB (skip (by unfold elg; exact decide_eq_false (by omega)))
    · rw [if_neg (fun q => c1 ((jI_le (by omega) (by omega)).mp q))]
      by_cases c2 : rM l[i] ≤ st (rN l[i])
      · rw [if_pos ((jI_le (by omega) (by omega)).mpr c2)]
        exact ih (i + 1) fu B G (by omega) (by omega) hB (skip (by unfold elg; exact decide_eq_false (by omega)))
      · rw [if_neg (fun q => c2 ((jI_le (by omega) (by omega)).mp q))]
        have he : elg b l[i] = true := by unfold elg; exact decide_eq_true (by omega)
        have hsd := sdl_srt (rK M) ((l.take i).filter (elg b))
        have hmem : ∀ x ∈ srt (rK M) ((l.take i).filter (elg b)), x ∈ l.take i := fun x hx => (List.mem_filter.mp ((perm_srt _ _).mem_iff.mp hx)).1
        obtain ⟨B', G', x1, x2, x3, x4⟩ := m_carry ht hw r2 (R := (srt (rK M) ((l.take i).filter (elg b))).take 8) (fun x hx => by
          have := hmem x (List.mem_of_mem_take hx)
          obtain ⟨q, hq1, hq2⟩ := List.mem_iff_getElem.mp (List.mem_of_mem_take this)
          rw [← hq2]; exact (h2.2.2 q hq1).2) (by rw [List.length_take]; omega) (List.Pairwise.sublist (List.take_sublist 8 _) hsd) hB hG
        rw [x1, bd_s]
        have hcar : car (rK M) ((srt (rK M) ((l.take i).filter (elg b))).take 8) l[i] = (srt (rK M) ((l.take (i + 1)).filter (elg b))).take 8 := by
          rw [car_t hsd (fun x hx e => ?_)]
          · rw [List.take_succ_eq_append_getElem hi', List.filter_append, List.filter_cons_of_pos he, List.filter_nil, srt_app]
          · have hx' := hmem x hx
            have := hinj.2 x (List.mem_of_mem_take hx') l[i] (List.getElem_mem hi') e
            rw [this] at hx'
            exact absurd ((mem_take hinj.1 hi').mp hx') (by omega)
        rw [hcar] at x3
        obtain ⟨B2, G2, y1, y2, y3, y4⟩ := ih (i + 1) fu B' G' (by omega) (by omega) x2 x3
        exact ⟨B2, G2, y1, y2, y3, fun q h1 h2 => by rw [y4 q h1 h2, x4 q h1 h2]⟩
/-- what is sent, told row by row -/
def snU (m : Nat) (f : Nat → Int32) (R : List Nat) : Nat → Int32 := R.foldl (fun f r => upd f (4 * m + rN r) (Int32.ofNat (rM r))) f
theorem m_start242 (hw : w < 60) (hn : n < 4) (hm : m < 4) {R : List Nat} (hR : ∀ x ∈ R, x < 1000) (hN : R.length ≤ 8) {G : Nat → Int32} (hB : rB M B w G) (hG : rwG G R) : ∃ B', fm_start_242 mFU B (Int32.ofNat n) (Int32.ofNat m) (Int32.ofNat (640 * w)) 0 = some B' ∧ mEx (fun k => k = 22) B B' ∧ (∀ c, c < 16 → B'.2 22 (16 * n + c) = snU m (fun c => M.2 22 (16 * n + c)) R c) ∧ ∀ q, (q < 16 * n ∨ 16 * n + 16 ≤ q) → B'.2 22 q = M.2 22 q := by
  have loop : ∀ (j i fu : Nat) (C : mSt), i + j = R.length → j < fu → mEx (fun k => k = 22) B C → (∀ c, c < 16 → C.2 22 (16 * n + c) = snU m (fun c => M.2 22 (16 * n + c)) (R.take i) c) → (∀ q, (q < 16 * n ∨ 16 * n + 16 ≤ q) → C.2 22 q = M.2 22 q) → ∃ B', fm_start_242 fu C (Int32.ofNat n) (Int32.ofNat m) (Int32.ofNat (640 * w)) (Int32.ofNat i) = some B' ∧ mEx (fun k => k = 22) B B' ∧ (∀ c, c < 16 → B'.2 22 (16 * n + c) = snU m (fun c => M.2 22 (16 * n + c)) R c) ∧ ∀ q, (q < 16 * n ∨ 16 * n + 16 ≤ q) → B'.2 22 q = M.2 22 q := by
    intro j
    induction j with
    | zero =>
      intro i fu C hi hf eC h1 h2
      obtain ⟨fu, rfl⟩ : ∃ q, fu = q + 1 := ⟨fu - 1, by omega⟩
      have e : i = R.length := by omega
      subst e
      rw [List.take_length] at h1
      rw [fm_start_242, show Int32.ofNat (640 * w) + 3 = Int32.ofNat (640 * w + 3) from jI_add _ 3, ck_n (by omega) (by omega), rd_n _ _ (by omega), (eC 46 (by decide)).2, hB.2.2.1 3 (by decide), hG.1, if_pos (Int32.le_refl _)]
      exact ⟨C, rfl, eC, h1, h2⟩
    | succ j ih =>
      intro i fu C hi hf eC h1 h2
      obtain ⟨fu, rfl⟩ : ∃ q, fu = q + 1 := ⟨fu - 1, by omega⟩
      have hi' : i < R.length := by omega
      have hr := hR _ (List.getElem_mem hi')
      have hq := rN_lt hr
      rw [fm_start_242, show Int32.ofNat (640 * w) + 3 = Int32.ofNat (640 * w + 3) from jI_add _ 3, ck_n (by omega) (by omega), rd_n _ _ (by omega), (eC 46 (by decide)).2, hB.2.2.1 3 (by decide), hG.1, if_neg (fun q => absurd ((jI_le (by omega) (by omega)).mp q) (by omega)), show Int32.ofNat (640 * w) + 8 + Int32.ofNat i = Int32.ofNat (640 * w + (8 + i)) from by rw [show (8 : Int32) = Int32.ofNat 8 from rfl, jI_add, jI_add, Nat.add_assoc], ck_n (by omega) (by omega), rd_n _ _ (by omega), (eC 46 (by decide)).2, hB.2.2.1 (8 + i) (by omega), hG.2 i hi', lt_d, m_nodeOf hr, bd_s, m_numberOf hr, bd_s, show (16 : Int32) = Int32.ofNat 16 from rfl, show (4 : Int32) = Int32.ofNat 4 from rfl, jI_mul, jI_mul, jI_add, jI_add, ck_n (by omega) (by omega), lt_d, lt_d, show Int32.ofNat i + 1 = Int32.ofNat (i + 1) from jI_add _ 1]
      refine ih (i + 1) fu _ (by omega) (by omega) (mEx_trans eC (mEx_wr (W := fun k => k = 22) rfl _ _)) (fun c hc => ?_) (fun q hq => ?_)
      · rw [wr_s _ _ (by omega), List.take_succ_eq_append_getElem hi']
        unfold snU
        rw [List.foldl_append, List.foldl_cons, List.foldl_nil]
        by_cases e : c = 4 * m + rN R[i]
        · subst e; rw [upd_s, show 16 * n + 4 * m + rN R[i] = 16 * n + (4 * m + rN R[i]) by omega, upd_s]
        · rw [upd_o _ _ e, upd_o _ _ (by omega)]; exact h1 c hc
      · rw [wr_s _ _ (by omega), upd_o _ _ (by omega)]; exact h2 q hq
  exact loop R.length 0 mFU B (by omega) (Nat.lt_of_le_of_lt hN (by decide)) (mEx_refl _ _) (fun c hc => by rw [(rB_o hB (j := 22) (by decide)).2]; rfl) (fun q hq => by rw [(rB_o hB (j := 22) (by decide)).2])
end V
