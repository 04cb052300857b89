-- part 23: walks over a chain of rows
def runL {σ β : Type} (step : σ → Nat → σ ⊕ Option β) (fin : σ → Option β) : σ → List Nat → Option β
  | st, [] => fin st
  | st, r :: l => match step st r with
    | .inl st' => runL step fin st' l
    | .inr b => b
/-- what stands below place i, and at place i, of the chain L -/
def pvL (ra : Nat → Nat) (L : List Nat) (i : Nat) : Option Nat := if i = 0 then none else L[i - 1]?.map ra
def nxL (ra : Nat → Nat) (L : List Nat) (i : Nat) : Option Nat := L[i]?.map ra
theorem walkD {σ β : Type} {ra : Nat → Nat} {L : List Nat} {F : Nat → σ → Option Nat → Option β} {step : σ → Nat → σ ⊕ Option β} {fin : σ → Option β} (P : σ → Prop)
    (hn : ∀ n st, P st → F (n + 1) st none = fin st)
    (hc : ∀ n st i (h : i < L.length), P st → F (n + 1) st (some (ra L[i])) = match step st L[i] with | .inl st' => F n st' (pvL ra L i) | .inr b => b)
    (hP : ∀ st i (h : i < L.length) st', P st → step st L[i] = .inl st' → P st') :
    ∀ (i : Nat) (fu : Nat) (st : σ), i ≤ L.length → i < fu → P st → F fu st (pvL ra L i) = runL step fin st (L.take i).reverse := by
  intro i
  induction i with
  | zero =>
    intro fu st _ hf hp
    obtain ⟨fu, rfl⟩ : ∃ q, fu = q + 1 := ⟨fu - 1, by omega⟩
    exact hn fu st hp
  | succ i ih =>
    intro fu st hi hf hp
    obtain ⟨fu, rfl⟩ : ∃ q, fu = q + 1 := ⟨fu - 1, by omega⟩
    have hlt : i < L.length := by omega
    have e1 : pvL ra L (i + 1) = some (ra L[i]) := by
      unfold pvL
      rw [if_neg (by omega), Nat.add_sub_cancel, List.getElem?_eq_getElem hlt]; rfl
    have e2 : (L.take (i + 1)).reverse = L[i] :: (L.take i).reverse := by
      rw [List.take_succ, List.getElem?_eq_getElem hlt, Option.toList_some, List.reverse_append]; rfl
    rw [e1, hc fu st i hlt hp, e2]
    show _ = match step st L[i] with | .inl st' => runL step fin st' (L.take i).reverse | .inr b => b
    cases hs : step st L[i] with
    | inl st' => exact ih fu st' (by omega) (by omega) (hP st i hlt st' hp hs)
    | inr b => rfl
theorem walkA {σ β : Type} {ra : Nat → Nat} {L : List Nat} {F : Nat → σ → Option Nat → Option β} {step : σ → Nat → σ ⊕ Option β} {fin : σ → Option β} (P : σ → Prop)
    (hn : ∀ n st, P st → F (n + 1) st none = fin st)
    (hc : ∀ n st i (h : i < L.length), P st → F (n + 1) st (some (ra L[i])) = match step st L[i] with | .inl st' => F n st' (nxL ra L (i + 1)) | .inr b => b)
    (hP : ∀ st i (h : i < L.length) st', P st → step st L[i] = .inl st' → P st') :
    ∀ (j i : Nat) (fu : Nat) (st : σ), i + j = L.length → j < fu → P st → F fu st (nxL ra L i) = runL step fin st (L.drop i) := by
  intro j
  induction j with
  | zero =>
    intro i fu st hi hf hp
    obtain ⟨fu, rfl⟩ : ∃ q, fu = q + 1 := ⟨fu - 1, by omega⟩
    have e1 : nxL ra L i = none := by unfold nxL; rw [List.getElem?_eq_none (by omega)]; rfl
    rw [e1, List.drop_eq_nil_of_le (by omega)]
    exact hn fu st hp
  | succ j ih =>
    intro i fu st hi hf hp
    obtain ⟨fu, rfl⟩ : ∃ q, fu = q + 1 := ⟨fu - 1, by omega⟩
    have hlt : i < L.length := by omega
    have e1 : nxL ra L i = some (ra L[i]) := by unfold nxL; rw [List.getElem?_eq_getElem hlt]; rfl
    have e2 : L.drop i = L[i] :: L.drop (i + 1) := List.drop_eq_getElem_cons hlt
    rw [e1, hc fu st i hlt hp, e2]
    show _ = match step st L[i] with | .inl st' => runL step fin st' (L.drop (i + 1)) | .inr b => b
    cases hs : step st L[i] with
    | inl st' => exact ih (i + 1) fu st' (by omega) (by omega) (hP st i hlt st' hp hs)
    | inr b => rfl
/-- a run that never leaves early is a fold -/
theorem runL_fold {σ β : Type} (f : σ → Nat → σ) (fin : σ → Option β) : ∀ (l : List Nat) (st : σ), runL (fun s r => .inl (f s r)) fin st l = fin (l.foldl f st) := by
  intro l
  induction l with
  | nil => intro st; rfl
  | cons r l ih => intro st; exact ih (f st r)
/-- a run that leaves at the first row of a kind -/
theorem runL_find {β : Type} (p : Nat → Bool) (b : Nat → Option β) (z : Option β) : ∀ (l : List Nat), runL (σ := Unit) (fun s r => if p r then .inr (b r) else .inl s) (fun _ => z) () l = match l.find? p with | some r => b r | none => z := by
  intro l
  induction l with
  | nil => rfl
  | cons r l ih =>
    rw [List.find?_cons]
    cases hp : p r
    · have e : runL (σ := Unit) (fun s r => if p r then .inr (b r) else .inl s) (fun _ => z) () (r :: l) = runL (σ := Unit) (fun s r => if p r then .inr (b r) else .inl s) (fun _ => z) () l := by
        conv => lhs; rw [runL]
        simp [hp]
      rw [e]; exact ih
    · conv => lhs; rw [runL]
      simp [hp]
/-- the class's row r at a -/
def cRow (M : mSt) (sl ch : Nat → Int32) (S : cSt) (r a : Nat) : Prop :=
  kK S a = 9 ∧ (kF S a 0 = M.2 9 r ∧ kF S a 2 = M.2 10 r ∧ kF S a 3 = M.2 11 r ∧ kF S a 4 = M.2 12 r ∧ kF S a 5 = M.2 13 r ∧ kF S a 8 = M.2 14 r ∧ kF S a 9 = M.2 15 r) ∧
  (kF S a 6 = Int32.ofNat (rN r) ∧ kF S a 7 = Int32.ofNat (rM r) ∧ kF S a 11 = Int32.ofNat (rNm r) ∧ kF S a 12 = Int32.ofNat r) ∧ kF S a 1 = sl r ∧ kF S a 13 = ch r ∧
  ∃ va, va + 1 = a ∧ kR S a 10 = some va ∧ kK S va = 20 ∧ kL S va = 4 ∧ ∀ q, q < 4 → kI S va q = M.2 16 (4 * r + q)
/-- time, stamp and node as one number -/
def rK (M : mSt) (r : Nat) : Nat := ((M.2 14 r).toNatClampNeg * 1048576 + (M.2 15 r).toNatClampNeg) * 4 + rN r
def tOk (M : mSt) : Prop := ∀ r, r < 1000 → ¬ M.2 14 r < 0 ∧ (M.2 14 r).toNatClampNeg < 1048576 ∧ ¬ M.2 15 r < 0 ∧ (M.2 15 r).toNatClampNeg < 1048576
theorem jI_eq {x y : Int32} (hx : ¬ x < 0) (hy : ¬ y < 0) : x = y ↔ x.toNatClampNeg = y.toNatClampNeg := ⟨fun h => by rw [h], fun h => by rw [jI_of hx, jI_of hy, h]⟩
theorem jI_lex {x y : Int32} (hx : ¬ x < 0) (hy : ¬ y < 0) : x ≤ y ↔ x.toNatClampNeg ≤ y.toNatClampNeg := by
  have h := jI_le (jI_clt x) (jI_clt y)
  rw [← jI_of hx, ← jI_of hy] at h
  exact h
/-- the comparison of stamps, as both sides make it -/
theorem rK_cmp {M : mSt} (ht : tOk M) {a b : Nat} (ha : a < 1000) (hb : b < 1000) : (if M.2 14 a = M.2 14 b then (if M.2 15 a = M.2 15 b then (if Int32.ofNat (rN b) ≤ Int32.ofNat (rN a) then (0 : Int32) else 1) else (if M.2 15 b ≤ M.2 15 a then 0 else 1)) else (if M.2 14 b ≤ M.2 14 a then 0 else 1)) = b2 (rK M a < rK M b) := by
  obtain ⟨a1, a2, a3, a4⟩ := ht a ha
  obtain ⟨b1, b2', b3, b4⟩ := ht b hb
  have na := rN_lt ha
  have nb := rN_lt hb
  simp only [jI_eq a1 b1, jI_eq a3 b3, jI_lex b1 a1, jI_lex b3 a3, jI_le (show rN b < 2147483648 by omega) (show rN a < 2147483648 by omega)]
  unfold rK b2
  generalize (M.2 14 a).toNatClampNeg = x1 at *
  generalize (M.2 15 a).toNatClampNeg = x2 at *
  generalize (M.2 14 b).toNatClampNeg = y1 at *
  generalize (M.2 15 b).toNatClampNeg = y2 at *
  generalize rN a = x3 at *
  generalize rN b = y3 at *
  by_cases h1 : x1 = y1
  · rw [if_pos h1]
    by_cases h2 : x2 = y2
    · rw [if_pos h2]
      by_cases h3 : y3 ≤ x3
      · rw [if_pos h3, if_neg (by omega)]
      · rw [if_neg h3, if_pos (by omega)]
    · rw [if_neg h2]
      by_cases h3 : y2 ≤ x2
      · rw [if_pos h3, if_neg (by omega)]
      · rw [if_neg h3, if_pos (by omega)]
  · rw [if_neg h1]
    by_cases h3 : y1 ≤ x1
    · rw [if_pos h3, if_neg (by omega)]
    · rw [if_neg h3, if_pos (by omega)]
theorem m_isBefore {M : mSt} (ht : tOk M) {a b : Nat} (ha : a < 1000) (hb : b < 1000) : fm_isBefore M (Int32.ofNat a) (Int32.ofNat b) = some (b2 (rK M a < rK M b)) := by
  rw [← rK_cmp ht ha hb]
  unfold fm_isBefore fm_isBefore_92
  simp only [ck_n ha (show a < 2147483648 by omega), ck_n hb (show b < 2147483648 by omega), rd_n _ _ (show a < 2147483648 by omega), rd_n _ _ (show b < 2147483648 by omega), m_nodeOf ha, m_nodeOf hb, bd_s, ckz_0, ckz_1]
  split
  · split
    · split <;> rfl
    · split <;> rfl
  · split <;> rfl
theorem ckk_y {α : Type} {S : cSt} {a kd : Nat} {K : Option α} (h : kK S a = kd) : ckk S a kd K = K := if_pos h
theorem k_isBefore {M : mSt} (ht : tOk M) {sl ch : Nat → Int32} {S : cSt} {a b pa pb : Nat} (ha : a < 1000) (hb : b < 1000) (h1 : cRow M sl ch S a pa) (h2 : cRow M sl ch S b pb) : fk_8_isBefore S pa pb = some (b2 (rK M a < rK M b)) := by
  rw [← rK_cmp ht ha hb]
  obtain ⟨k1, ⟨-, -, -, -, -, e8, e9⟩, ⟨e6, -⟩, -⟩ := h1
  obtain ⟨k2, ⟨-, -, -, -, -, f8, f9⟩, ⟨f6, -⟩, -⟩ := h2
  unfold fk_8_isBefore fk_8_isBefore_72 fk_8_isBefore_55 fk_8_isBefore_27
  simp only [ckk_y k1, ckk_y k2, e8, e9, f8, f9, e6, f6, ckz_0, ckz_1]
  split
  · split
    · split <;> rfl
    · split <;> rfl
  · split <;> rfl
