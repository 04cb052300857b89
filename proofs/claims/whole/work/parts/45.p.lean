-- part 45: rows and what they knew
/-- the row r knew t -/
def kn (M : mSt) (r t : Nat) : Prop := Int32.ofNat (rM t) ≤ M.2 16 (4 * r + rN t)
/-- the rule of a sort, 0 for those on no part -/
def ruS (s : Int32) : Int32 := if s = 1 then 76 else if s = 2 then 83 else if s = 3 then 67 else if s = 4 ∨ s = 5 ∨ s = 6 then 66 else if s = 7 ∨ s = 8 then 65 else if s = 9 ∨ s = 10 then 84 else if s = 15 ∨ s = 16 then 77 else 0
def mdN (M : mSt) (n : Nat) : Nat := (M.2 7 n).toNatClampNeg
/-- a row that is made -/
def mde (M : mSt) (r : Nat) : Prop := r < 1000 ∧ rM r ≤ mdN M (rN r)
/-- what can be undone -/
def cbU (s : Int32) : Prop := s = 1 ∨ s = 2 ∨ s = 3 ∨ s = 7 ∨ s = 8 ∨ s = 9 ∨ s = 10 ∨ s = 11 ∨ s = 12 ∨ s = 15 ∨ s = 16
def tuS (s : Int32) : Prop := s = 13 ∨ s = 14
/-- a row's chain -/
def chF (M : mSt) (sl : Nat → Int32) (r : Nat) : Int32 := if M.2 9 r = 0 ∨ M.2 9 r = 13 ∨ M.2 9 r = 14 then -1 else if M.2 9 r = 11 then 384 else if M.2 9 r = 12 then sl r * 8 + 6 else if M.2 9 r = 17 ∨ M.2 9 r = 18 then sl r * 8 + 7 else sl r * 8 + M.2 11 r
/-- what is an object's row: its slot, its make, its kind; the part -/
def rOb (M : mSt) (mkO : Nat → Option Nat) (sl : Nat → Int32) (r : Nat) : Prop :=
  ∃ j m kd, j < 48 ∧ kd < 8 ∧ mkO j = some m ∧ mde M m ∧ M.2 9 m = 0 ∧ M.2 12 m = Int32.ofNat kd ∧ M.2 10 r = Int32.ofNat (rNm m) ∧ sl r = Int32.ofNat j ∧ kn M r m ∧
    (ruS (M.2 9 r) = 0 → M.2 11 r = 0) ∧ (ruS (M.2 9 r) ≠ 0 → ∃ p, p < 6 ∧ M.2 11 r = Int32.ofNat p ∧ M.2 6 (6 * kd + p) = ruS (M.2 9 r))
/-- the insert t that r names, on the same part -/
def rIn (M : mSt) (r t : Nat) : Prop := mde M t ∧ M.2 9 t = 9 ∧ M.2 10 t = M.2 10 r ∧ M.2 11 t = M.2 11 r ∧ M.2 13 r = Int32.ofNat (rNm t) ∧ kn M r t
def rFb (M : mSt) (mkO : Nat → Option Nat) (r : Nat) : Prop :=
  (M.2 9 r = 6 → ∃ x, x < 4 ∧ M.2 13 r = Int32.ofNat x) ∧ (M.2 9 r = 7 ∨ M.2 9 r = 8 ∨ M.2 9 r = 15 ∨ M.2 9 r = 16 → ∃ x, x < 64 ∧ M.2 12 r = Int32.ofNat x) ∧
  (M.2 9 r = 9 → M.2 13 r = 0 ∨ ∃ t, rIn M r t) ∧ (M.2 9 r = 10 → ∃ t, rIn M r t) ∧
  (M.2 9 r = 11 → M.2 12 r = -1 ∨ ∃ j m, mkO j = some m ∧ mde M m ∧ M.2 9 m = 0 ∧ M.2 12 r = Int32.ofNat (rNm m) ∧ kn M r m)
/-- all that is known of a made row -/
def rF (M : mSt) (mkO : Nat → Option Nat) (sl : Nat → Int32) (r : Nat) : Prop :=
  (∃ s, s < 19 ∧ M.2 9 r = Int32.ofNat s) ∧ (∀ q, q < 4 → ∃ x, x ≤ mdN M q ∧ M.2 16 (4 * r + q) = Int32.ofNat x) ∧ M.2 16 (4 * r + rN r) = Int32.ofNat (rM r - 1) ∧
  (∀ t, mde M t → kn M r t → rK M t < rK M r) ∧
  (M.2 9 r = 0 → (∃ j, j < 48 ∧ mkO j = some r ∧ sl r = Int32.ofNat j) ∧ ∃ kd, kd < 8 ∧ M.2 12 r = Int32.ofNat kd) ∧
  (tuS (M.2 9 r) → ∃ t, mde M t ∧ rN t = rN r ∧ rM t < rM r ∧ M.2 13 r = Int32.ofNat (rNm t) ∧ cbU (M.2 9 t)) ∧
  (¬ (M.2 9 r = 0 ∨ M.2 9 r = 13 ∨ M.2 9 r = 14) → rOb M mkO sl r) ∧ rFb M mkO r
/-- slots and makes -/
def mO (M : mSt) (mkO : Nat → Option Nat) : Prop := (∀ j m, mkO j = some m → j < 48 ∧ mde M m ∧ M.2 9 m = 0) ∧ (∀ j j' m, mkO j = some m → mkO j' = some m → j = j') ∧ ∀ j j' m m', j < j' → mkO j = some m → mkO j' = some m' → rNm m < rNm m'
def rA (M : mSt) (mkO : Nat → Option Nat) (sl : Nat → Int32) : Prop := (∀ r, mde M r → rF M mkO sl r) ∧ mO M mkO ∧ (∀ n, n < 4 → mdN M n ≤ 250 ∧ M.2 7 n = Int32.ofNat (mdN M n)) ∧ tOk M
/-- a list of applied rows: each behind all that it knew -/
def cl (M : mSt) (l : List Nat) : Prop := ∀ i (h : i < l.length), mde M l[i] ∧ l[i] ∉ l.take i ∧ ∀ t, mde M t → kn M l[i] t → t ∈ l.take i
theorem cl_take {M : mSt} {l : List Nat} (h : cl M l) (u : Nat) : cl M (l.take u) := by
  intro i hi
  have hi2 : i < u ∧ i < l.length := by rw [List.length_take] at hi; omega
  have e1 : (l.take u)[i] = l[i] := List.getElem_take
  have e2 : (l.take u).take i = l.take i := by rw [List.take_take]; congr 1; omega
  rw [e1, e2]
  exact h i hi2.2
theorem cl_nd {M : mSt} {l : List Nat} (h : cl M l) : l.Nodup := by
  rw [List.nodup_iff_pairwise_ne, List.pairwise_iff_getElem]
  intro i j hi hj hij e
  refine (h j hj).2.1 ?_
  rw [← e]
  have h2 : i < (l.take j).length := by rw [List.length_take]; omega
  have h3 : (l.take j)[i] = l[i] := List.getElem_take
  rw [← h3]; exact List.getElem_mem h2
theorem cl_mem {M : mSt} {l : List Nat} (h : cl M l) {r : Nat} (hr : r ∈ l) : mde M r := by
  obtain ⟨i, hi, rfl⟩ := List.mem_iff_getElem.mp hr
  exact (h i hi).1
theorem cl_kn {M : mSt} {l : List Nat} (h : cl M l) {r t : Nat} (hr : r ∈ l) (ht : mde M t) (hk : kn M r t) : t ∈ l := by
  obtain ⟨i, hi, rfl⟩ := List.mem_iff_getElem.mp hr
  exact List.mem_of_mem_take ((h i hi).2.2 t ht hk)
theorem cl_len {M : mSt} {l : List Nat} (h : cl M l) : l.length ≤ 1000 := nd48 1000 l (cl_nd h) (fun x hx => (cl_mem h hx).1)
theorem row_eq {a b : Nat} (h1 : rN a = rN b) (h2 : rM a = rM b) : a = b := by unfold rN rM at *; omega
theorem kn_own {M : mSt} {mkO : Nat → Option Nat} {sl : Nat → Int32} {r t : Nat} (h : rF M mkO sl r) (hn : rN t = rN r) : kn M r t ↔ rM t < rM r := by
  unfold kn
  have h1 := rM_le r
  have h2 := rM_le t
  rw [hn, h.2.2.1, jI_le (by omega) (by omega)]
  omega
theorem cl_ord {M : mSt} {mkO : Nat → Option Nat} {sl : Nat → Int32} {l : List Nat} (hA : rA M mkO sl) (h : cl M l) {i k : Nat} (hk : k < l.length) (hik : i < k) (hn : rN (l[i]'(by omega)) = rN l[k]) : rM (l[i]'(by omega)) < rM l[k] := by
  have hi : i < l.length := by omega
  have m1 : l[i] ∈ l.take k := by
    have h2 : i < (l.take k).length := by rw [List.length_take]; omega
    have h3 : (l.take k)[i] = l[i] := List.getElem_take
    rw [← h3]; exact List.getElem_mem h2
  rcases Nat.lt_trichotomy (rM l[i]) (rM l[k]) with q | q | q
  · exact q
  · exact absurd (row_eq hn q ▸ m1) (h k hk).2.1
  · have h4 := (h i hi).2.2 l[k] (h k hk).1 ((kn_own (hA.1 _ (h i hi).1) hn.symm).mpr q)
    refine absurd ?_ (h k hk).2.1
    have e : l.take i = (l.take k).take i := by rw [List.take_take]; congr 1; omega
    rw [e] at h4
    exact List.mem_of_mem_take h4
theorem rK_node {M : mSt} {a b : Nat} (ha : a < 1000) (hb : b < 1000) (h : rK M a = rK M b) : rN a = rN b := by
  have := rN_lt ha
  have := rN_lt hb
  unfold rK at h
  omega
theorem kInj_cl {M : mSt} {mkO : Nat → Option Nat} {sl : Nat → Int32} {l : List Nat} (hA : rA M mkO sl) (h : cl M l) : kInj M l := by
  refine ⟨cl_nd h, fun a ha b hb e => ?_⟩
  have ma := cl_mem h ha
  have mb := cl_mem h hb
  have hn := rK_node ma.1 mb.1 e
  rcases Nat.lt_trichotomy (rM a) (rM b) with q | q | q
  · have := (hA.1 b mb).2.2.2.1 a ma ((kn_own (hA.1 b mb) hn).mpr q)
    omega
  · exact row_eq hn q
  · have := (hA.1 a ma).2.2.2.1 b mb ((kn_own (hA.1 a ma) hn.symm).mpr q)
    omega
theorem jd_in {M : mSt} {t : Nat} : ∀ (l : List Nat), jd M l t = 0 ∨ ∃ q ∈ l, isT M t q = true ∧ jd M l t = rM q := by
  have key : ∀ (L : List Nat) (a : Nat), L.foldl (fun g r => if isT M t r then rM r else g) a = a ∨ ∃ q ∈ L, isT M t q = true ∧ L.foldl (fun g r => if isT M t r then rM r else g) a = rM q := by
    intro L
    induction L with
    | nil => intro a; exact Or.inl rfl
    | cons r L ih =>
      intro a
      rw [List.foldl_cons]
      rcases ih (if isT M t r then rM r else a) with h | ⟨q, q1, q2, q3⟩
      · rw [h]
        cases hT : isT M t r with
        | true => exact Or.inr ⟨r, List.mem_cons_self, hT, by simp⟩
        | false => exact Or.inl (by simp)
      · exact Or.inr ⟨q, List.mem_cons_of_mem _ q1, q2, q3⟩
  intro l
  exact key l 0
theorem isT_iff {M : mSt} {t q : Nat} : isT M t q = true ↔ tuS (M.2 9 q) ∧ rOf (M.2 13 q) = some t := by
  unfold isT tuS
  simp
/-- what a turning row turns -/
theorem tu_tg {M : mSt} {mkO : Nat → Option Nat} {sl : Nat → Int32} (hA : rA M mkO sl) {q : Nat} (hq : mde M q) (hs : tuS (M.2 9 q)) : ∃ t, mde M t ∧ rN t = rN q ∧ rM t < rM q ∧ rOf (M.2 13 q) = some t ∧ cbU (M.2 9 t) := by
  obtain ⟨t, t1, t2, t3, t4, t5⟩ := (hA.1 q hq).2.2.2.2.2.1 hs
  exact ⟨t, t1, t2, t3, by rw [t4]; exact rOf_nm t1.1, t5⟩
theorem jOkL_cl {M : mSt} {mkO : Nat → Option Nat} {sl : Nat → Int32} {l : List Nat} (hA : rA M mkO sl) (h : cl M l) : jOkL M l := by
  intro i hi hs
  obtain ⟨t, t1, t2, t3, t4, t5⟩ := tu_tg hA (h i hi).1 hs
  refine ⟨t, t4, ?_⟩
  rcases jd_in (M := M) (t := t) (l.take i) with e | ⟨q, q1, q2, q3⟩
  · rw [e]; exact (rM_le _).1
  · rw [q3]
    obtain ⟨k, hk, rfl⟩ := List.mem_iff_getElem.mp q1
    have hk2 : k < i := by rw [List.length_take] at hk; omega
    have e1 : (l.take i)[k] = l[k] := List.getElem_take
    rw [e1] at q2 ⊢
    obtain ⟨u1, u2⟩ := isT_iff.mp q2
    obtain ⟨t', _, v2, _, v4, _⟩ := tu_tg hA (h k (by omega)).1 u1
    have : t' = t := by rw [v4] at u2; exact Option.some.inj u2
    subst this
    exact cl_ord hA h hi hk2 (v2.symm.trans t2)
/-- what can't be undone is good -/
theorem gd_no {M : mSt} {mkO : Nat → Option Nat} {sl : Nat → Int32} {l : List Nat} (hA : rA M mkO sl) (h : ∀ q ∈ l, mde M q) {r : Nat} (hs : ¬ cbU (M.2 9 r)) : gd M l r = true := by
  have key : ∀ (L : List Nat) (g : Bool), (∀ q ∈ L, mde M q) → g = true → L.foldl (fun g q => if isT M r q then decide (M.2 9 q = 14) else g) g = true := by
    intro L
    induction L with
    | nil => intro g _ hg; exact hg
    | cons q L ih =>
      intro g hL hg
      rw [List.foldl_cons]
      refine ih _ (fun x hx => hL x (List.mem_cons_of_mem _ hx)) ?_
      cases hT : isT M r q with
      | false => exact hg
      | true =>
        obtain ⟨u1, u2⟩ := isT_iff.mp hT
        obtain ⟨t', _, _, _, v4, v5⟩ := tu_tg hA (hL q List.mem_cons_self) u1
        have : t' = r := by rw [v4] at u2; exact Option.some.inj u2
        subst this
        exact absurd v5 hs
  exact key l true h rfl
/-- behind rows that don't turn it a row stays as it is -/
theorem gd_new {M : mSt} {l : List Nat} {r t : Nat} (h : ¬ (tuS (M.2 9 r) ∧ rOf (M.2 13 r) = some t)) : gd M (l ++ [r]) t = gd M l t := by
  rw [gd_app]
  cases hT : isT M t r with
  | false => rfl
  | true => exact absurd (isT_iff.mp hT) h
/-- a row is good till it is turned: ahead of its own place -/
theorem gd_fresh {M : mSt} {mkO : Nat → Option Nat} {sl : Nat → Int32} {l : List Nat} (hA : rA M mkO sl) (h : cl M l) {r : Nat} (hr : mde M r) (hn : r ∉ l) : gd M l r = true := by
  have key : ∀ (L : List Nat) (g : Bool), (∀ q ∈ L, q ∈ l) → g = true → L.foldl (fun g q => if isT M r q then decide (M.2 9 q = 14) else g) g = true := by
    intro L
    induction L with
    | nil => intro g _ hg; exact hg
    | cons q L ih =>
      intro g hL hg
      rw [List.foldl_cons]
      refine ih _ (fun x hx => hL x (List.mem_cons_of_mem _ hx)) ?_
      cases hT : isT M r q with
      | false => exact hg
      | true =>
        have hq := hL q List.mem_cons_self
        obtain ⟨u1, u2⟩ := isT_iff.mp hT
        obtain ⟨t', _, v2, v3, v4, _⟩ := tu_tg hA (cl_mem h hq) u1
        have : t' = r := by rw [v4] at u2; exact Option.some.inj u2
        subst this
        exact absurd (cl_kn h hq hr ((kn_own (hA.1 q (cl_mem h hq)) v2).mpr v3)) hn
  exact key l true (fun _ h => h) rfl
