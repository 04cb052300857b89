-- part 45: rows and what they knew
/-- the row r knew t -/
def kn (M : mSt) (r t : Nat) : Prop := Int32.ofNat (rM t) ≤ M.2 16 (4 * r + rN t)
/-- the rule of a sort, 0 for those on no part -/
def ruS (s : Int32) : Int32 := if s = 1 then 76 else if s = 2 then 83 else if s = 3 then 67 else if s = 4 ∨ s = 5 ∨ s = 6 then 66 else if s = 7 ∨ s = 8 then 65 else if s = 9 ∨ s = 10 then 84 else if s = 15 ∨ s = 16 then 77 else 0
def mdN (M : mSt) (n : Nat) : Nat := (M.2 7 n).toNatClampNeg
/-- a row that is made -/
def mde (M : mSt) (r : Nat) : Prop := r < 1000 ∧ rM r ≤ mdN M (rN r)
/-- what can be undone -/
def cbU (s : Int32) : Prop := s = 1 ∨ s = 2 ∨ s = 3 ∨ s = 7 ∨ s = 8 ∨ s = 9 ∨ s = 10 ∨ s = 11 ∨ s = 12 ∨ s = 15 ∨ s = 16
def tuS (s : Int32) : Prop := s = 13 ∨ s = 14
/-- a row's chain -/
def chF (M : mSt) (sl : Nat → Int32) (r : Nat) : Int32 := if M.2 9 r = 0 ∨ M.2 9 r = 13 ∨ M.2 9 r = 14 then -1 else if M.2 9 r = 11 then 384 else if M.2 9 r = 12 then sl r * 8 + 6 else if M.2 9 r = 17 ∨ M.2 9 r = 18 then sl r * 8 + 7 else sl r * 8 + M.2 11 r
/-- what is an object's row: its slot, its make, its kind; the part -/
def rOb (M : mSt) (mkO : Nat → Option Nat) (sl : Nat → Int32) (r : Nat) : Prop :=
  ∃ j m kd, j < 48 ∧ kd < 8 ∧ mkO j = some m ∧ mde M m ∧ M.2 9 m = 0 ∧ M.2 12 m = Int32.ofNat kd ∧ M.2 10 r = Int32.ofNat (rNm m) ∧ sl r = Int32.ofNat j ∧ kn M r m ∧
    (ruS (M.2 9 r) = 0 → M.2 11 r = 0) ∧ (ruS (M.2 9 r) ≠ 0 → ∃ p, p < 6 ∧ M.2 11 r = Int32.ofNat p ∧ M.2 6 (6 * kd + p) = ruS (M.2 9 r))
/-- the insert t that r names, on the same part -/
def rIn (M : mSt) (r t : Nat) : Prop := mde M t ∧ M.2 9 t = 9 ∧ M.2 10 t = M.2 10 r ∧ M.2 11 t = M.2 11 r ∧ M.2 13 r = Int32.ofNat (rNm t) ∧ kn M r t
def rFb (M : mSt) (mkO : Nat → Option Nat) (r : Nat) : Prop :=
  (M.2 9 r = 6 → ∃ x, x < 4 ∧ M.2 13 r = Int32.ofNat x) ∧ (M.2 9 r = 7 ∨ M.2 9 r = 8 ∨ M.2 9 r = 15 ∨ M.2 9 r = 16 → ∃ x, x < 64 ∧ M.2 12 r = Int32.ofNat x) ∧
  (M.2 9 r = 9 → M.2 13 r = 0 ∨ ∃ t, rIn M r t) ∧ (M.2 9 r = 10 → ∃ t, rIn M r t) ∧
  (M.2 9 r = 11 → M.2 12 r = -1 ∨ ∃ j m, mkO j = some m ∧ mde M m ∧ M.2 9 m = 0 ∧ M.2 12 r = Int32.ofNat (rNm m) ∧ kn M r m)
/-- all that is known of a made row -/
def rF (M : mSt) (mkO : Nat → Option Nat) (sl : Nat → Int32) (r : Nat) : Prop :=
  (∃ s, s < 19 ∧ M.2 9 r = Int32.ofNat s) ∧ (∀ q, q < 4 → ∃ x, x ≤ mdN M q ∧ M.2 16 (4 * r + q) = Int32.ofNat x) ∧ M.2 16 (4 * r + rN r) = Int32.ofNat (rM r - 1) ∧
  (∀ t, mde M t → kn M r t → rK M t < rK M r) ∧
  (M.2 9 r = 0 → (∃ j, j < 48 ∧ mkO j = some r ∧ sl r = Int32.ofNat j) ∧ ∃ kd, kd < 8 ∧ M.2 12 r = Int32.ofNat kd) ∧
  (tuS (M.2 9 r) → ∃ t, mde M t ∧ rN t = rN r ∧ rM t < rM r ∧ M.2 13 r = Int32.ofNat (rNm t) ∧ cbU (M.2 9 t)) ∧
  (¬ (M.2 9 r = 0 ∨ M.2 9 r = 13 ∨ M.2 9 r = 14) → rOb M mkO sl r) ∧ rFb M mkO r
/-- slots and makes -/
def mO (M : mSt) (mkO : Nat → Option Nat) : Prop := (∀ j m, mkO j = some m → j < 48 ∧ mde M m ∧ M.2 9 m = 0) ∧ (∀ j j' m, mkO j = some m → mkO j' = some m → j = j') ∧ ∀ j j' m m', j < j' → mkO j = some m → mkO j' = some m' → rNm m < rNm m'
def rA (M : mSt) (mkO : Nat → Option Nat) (sl : Nat → Int32) : Prop := (∀ r, mde M r → rF M mkO sl r) ∧ mO M mkO ∧ (∀ n, n < 4 → mdN M n ≤ 250 ∧ M.2 7 n = Int32.ofNat (mdN M n)) ∧ tOk M
/-- a list of applied rows: each behind all that it knew -/
def cl (M : mSt) (l : List Nat) : Prop := ∀ i (h : i < l.length), mde M l[i] ∧ l[i] ∉ l.take i ∧ ∀ t, mde M t → kn M l[i] t → t ∈ l.take i
theorem cl_take {M : mSt} {l : List Nat} (h : cl M l) (u : Nat) : cl M (l.take u) := by
  intro i hi
  have hi2 : i < u ∧ i < l.length := by rw [List.length_take] at hi; omega
  have e1 : (l.take u)[i] = l[i] := List.getElem_take
  have e2 : (l.take u).take i = l.take i := by rw [List.take_take]; congr 1; omega
  rw [e1, e2]
  exact h i hi2.2
theorem cl_nd {M : mSt} {l : List Nat} (h : cl M l) : l.Nodup := by
  rw [List.nodup_iff_pairwise_ne, List.pairwise_iff_getElem]
  intro i j hi hj hij e
  refine (h j hj).2.1 ?_
  rw [← e]
  have h2 : i < (l.take j).length := by rw [List.length_take]; omega
  have h3 : (l.take j)[i] = l[i] := List.getElem_take
  rw [← h3]; exact List.getElem_mem h2
theorem cl_mem {M : mSt} {l : List Nat} (h : cl M l) {r : Nat} (hr : r ∈ l) : mde M r := by
  obtain ⟨i, hi, rfl⟩ := List.mem_iff_getElem.mp hr
  exact (h i hi).1
theorem cl_kn {M : mSt} {l : List Nat} (h : cl M l) {r t : Nat} (hr : r ∈ l) (ht : mde M t) (hk : kn M r t) : t ∈ l := by
  obtain ⟨i, hi, rfl⟩ := List.mem_iff_getElem.mp hr
  exact List.mem_of_mem_take ((h i hi).2.2 t ht hk)
theorem cl_len {M : mSt} {l : List Nat} (h : cl M l) : l.length ≤ 1000 := nd48 1000 l (cl_nd h) (fun x hx => (cl_mem h hx).1)
theorem row_eq {a b : Nat} (h1 : rN a = rN b) (h2 : rM a = rM b) : a = b := by unfold rN rM at *; omega
theorem kn_own {M : mSt} {mkO : Nat → Option Nat} {sl : Nat → Int32} {r t : Nat} (h : rF M mkO sl r) (hn : rN t = rN r) : kn M r t ↔ rM t < rM r := by
  unfold kn
  have h1 := rM_le r
  have h2 := rM_le t
  rw [hn, h.2.2.1, jI_le (by omega) (by omega)]
  omega
theorem cl_ord {M : mSt} {mkO : Nat → Option Nat} {sl : Nat → Int32} {l : List Nat} (hA : rA M mkO sl) (h : cl M l) {i k : Nat} (hk : k < l.length) (hik : i < k) (hn : rN (l[i]'(by omega)) = rN l[k]) : rM (l[i]'(by omega)) < rM l[k] := by
  have hi : i < l.length := by omega
  have m1 : l[i] ∈ l.take k := by
    have h2 : i < (l.take k).length := by rw [List.length_take]; omega
    have h3 : (l.take k)[i] = l[i] := List.getElem_take
    rw [← h3]; exact List.getElem_mem h2
  rcases Nat.lt_trichotomy (rM l[i]) (rM l[k]) with q | q | q
  · exact q
  · exact absurd (row_eq hn q ▸ m1) (h k hk).2.1
  · have h4 := (h i hi).2.2 l[k] (h k hk).1 ((kn_own (hA.1 _ (h i hi).1) hn.symm).mpr q)
    refine absurd ?_ (h k hk).2.1
    have e : l.take i = (l.take k).take i := by rw [List.take_take]; congr 1; omega
    rw [e] at h4
    exact List.mem_of_mem_take h4
theorem rK_node {M : mSt} {a b : Nat} (ha : a < 1000) (hb : b < 1000) (h : rK M a = rK M b) : rN a = rN b := by
  have := rN_lt ha
  have := rN_lt hb
  unfold rK at h
  omega
theorem kInj_cl {M : mSt} {mkO : Nat → Option Nat} {sl : Nat → Int32} {l : List Nat} (hA : rA M mkO sl) (h : cl M l) : kInj M l := by
  refine ⟨cl_nd h, fun a ha b hb e => ?_⟩
  have ma := cl_mem h ha
  have mb := cl_mem h hb
  have hn := rK_node ma.1 mb.1 e
  rcases Nat.lt_trichotomy (rM a) (rM b) with q | q | q
  · have := (hA.1 b mb).2.2.2.1 a ma ((kn_own (hA.1 b mb) hn).mpr q)
    omega
  · exact row_eq hn q
  · have := (hA.1 a ma).2.2.2.1 b mb ((kn_own (hA.1 a ma) hn.symm).mpr q)
    omega
theorem jd_in {M : mSt} {t : Nat} : ∀ (l : List Nat), jd M l t = 0 ∨ ∃ q ∈ l, isT M t q = true ∧ jd M l t = rM q := by
  intro l
  have key : ∀ (L : List Nat) (d : Nat), L.length = d → jd M L t = 0 ∨ ∃ q ∈ L, isT M t q = true ∧ jd M L t = rM q := by
    intro L d
    induction d generalizing L with
    | zero => intro e; rw [List.length_eq_zero_iff.mp e]; exact Or.inl rfl
    | succ d ih =>
      intro e
      have hne : L ≠ [] := fun q => by rw [q] at e; cases e
      have e2 := List.dropLast_append_getLast hne
      have e3 : L.dropLast.length = d := by rw [List.length_dropLast]; omega
      rw [← e2, jd_app]
      cases hT : isT M t (L.getLast hne) with
      | true => exact Or.inr ⟨L.getLast hne, by simp, hT, by simp⟩
      | false =>
        rcases ih L.dropLast e3 with h | ⟨q, q1, q2, q3⟩
        · exact Or.inl (by simpa using h)
        · exact Or.inr ⟨q, List.mem_append_left _ q1, q2, by simpa using q3⟩
  exact key l l.length rfl
theorem isT_iff {M : mSt} {t q : Nat} : isT M t q = true ↔ tuS (M.2 9 q) ∧ rOf (M.2 13 q) = some t := by
  unfold isT tuS
  simp
/-- what a turning row turns -/
theorem tu_tg {M : mSt} {mkO : Nat → Option Nat} {sl : Nat → Int32} (hA : rA M mkO sl) {q : Nat} (hq : mde M q) (hs : tuS (M.2 9 q)) : ∃ t, mde M t ∧ rN t = rN q ∧ rM t < rM q ∧ rOf (M.2 13 q) = some t ∧ cbU (M.2 9 t) := by
  obtain ⟨t, t1, t2, t3, t4, t5⟩ := (hA.1 q hq).2.2.2.2.2.1 hs
  exact ⟨t, t1, t2, t3, by rw [t4]; exact rOf_nm t1.1, t5⟩
theorem jOkL_cl {M : mSt} {mkO : Nat → Option Nat} {sl : Nat → Int32} {l : List Nat} (hA : rA M mkO sl) (h : cl M l) : jOkL M l := by
  intro i hi hs
  obtain ⟨t, t1, t2, t3, t4, t5⟩ := tu_tg hA (h i hi).1 hs
  refine ⟨t, t4, ?_⟩
  rcases jd_in (M := M) (t := t) (l.take i) with e | ⟨q, q1, q2, q3⟩
  · rw [e]; exact (rM_le _).1
  · rw [q3]
    obtain ⟨k, hk, rfl⟩ := List.mem_iff_getElem.mp q1
    have hk2 : k < i := by rw [List.length_take] at hk; omega
    have e1 : (l.take i)[k] = l[k] := List.getElem_take
    rw [e1] at q2 ⊢
    obtain ⟨u1, u2⟩ := isT_iff.mp q2
    obtain ⟨t', _, v2, _, v4, _⟩ := tu_tg hA (h k (by omega)).1 u1
    have : t' = t := by rw [v4] at u2; exact Option.some.inj u2
    subst this
    exact cl_ord hA h hi hk2 (v2.symm.trans t2)
/-- what can't be undone is good -/
theorem gd_no {M : mSt} {mkO : Nat → Option Nat} {sl : Nat → Int32} {l : List Nat} (hA : rA M mkO sl) (h : ∀ q ∈ l, mde M q) {r : Nat} (hs : ¬ cbU (M.2 9 r)) : gd M l r = true := by
  have key : ∀ (L : List Nat) (g : Bool), (∀ q ∈ L, mde M q) → g = true → L.foldl (fun g q => if isT M r q then decide (M.2 9 q = 14) else g) g = true := by
    intro L
    induction L with
    | nil => intro g _ hg; exact hg
    | cons q L ih =>
      intro g hL hg
      rw [List.foldl_cons]
      refine ih _ (fun x hx => hL x (List.mem_cons_of_mem _ hx)) ?_
      cases hT : isT M r q with
      | false => exact hg
      | true =>
        obtain ⟨u1, u2⟩ := isT_iff.mp hT
        obtain ⟨t', _, _, _, v4, v5⟩ := tu_tg hA (hL q List.mem_cons_self) u1
        have : t' = r := by rw [v4] at u2; exact Option.some.inj u2
        subst this
        exact absurd v5 hs
  exact key l true h rfl
/-- behind rows that don't turn it a row stays as it is -/
theorem gd_new {M : mSt} {l : List Nat} {r t : Nat} (h : ¬ (tuS (M.2 9 r) ∧ rOf (M.2 13 r) = some t)) : gd M (l ++ [r]) t = gd M l t := by
  rw [gd_app]
  cases hT : isT M t r with
  | false => rfl
  | true => exact absurd (isT_iff.mp hT) h
/-- a row is good till it is turned: ahead of its own place -/
theorem gd_fresh {M : mSt} {mkO : Nat → Option Nat} {sl : Nat → Int32} {l : List Nat} (hA : rA M mkO sl) (h : cl M l) {r : Nat} (hr : mde M r) (hn : r ∉ l) : gd M l r = true := by
  have key : ∀ (L : List Nat) (g : Bool), (∀ q ∈ L, q ∈ l) → g = true → L.foldl (fun g q => if isT M r q then decide (M.2 9 q = 14) else g) g = true := by
    intro L
    induction L with
    | nil => intro g _ hg; exact hg
    | cons q L ih =>
      intro g hL hg
      rw [List.foldl_cons]
      refine ih _ (fun x hx => hL x (List.mem_cons_of_mem _ hx)) ?_
      cases hT : isT M r q with
      | false => exact hg
      | true =>
        have hq := hL q List.mem_cons_self
        obtain ⟨u1, u2⟩ := isT_iff.mp hT
        obtain ⟨t', _, v2, v3, v4, _⟩ := tu_tg hA (cl_mem h hq) u1
        have : t' = r := by rw [v4] at u2; exact Option.some.inj u2
        subst this
        exact absurd (cl_kn h hq hr ((kn_own (hA.1 q (cl_mem h hq)) v2).mpr v3)) hn
  exact key l true (fun _ h => h) rfl

-- part 46: chains and what the reference looks for
theorem ruS_cases {s : Int32} {n : Nat} (hn : n < 19) (h : s = Int32.ofNat n) : (ruS s = 76 ↔ s = 1) ∧ (ruS s = 83 ↔ s = 2) ∧ (ruS s = 67 ↔ s = 3) ∧ (ruS s = 66 ↔ s = 4 ∨ s = 5 ∨ s = 6) ∧ (ruS s = 65 ↔ s = 7 ∨ s = 8) ∧ (ruS s = 84 ↔ s = 9 ∨ s = 10) ∧ (ruS s = 77 ↔ s = 15 ∨ s = 16) ∧ (ruS s = 0 ↔ s = 0 ∨ s = 11 ∨ s = 12 ∨ s = 13 ∨ s = 14 ∨ s = 17 ∨ s = 18) := by
  subst h
  have key : ∀ n, n < 19 → ((ruS (Int32.ofNat n) = 76 ↔ Int32.ofNat n = 1) ∧ (ruS (Int32.ofNat n) = 83 ↔ Int32.ofNat n = 2) ∧ (ruS (Int32.ofNat n) = 67 ↔ Int32.ofNat n = 3) ∧ (ruS (Int32.ofNat n) = 66 ↔ Int32.ofNat n = 4 ∨ Int32.ofNat n = 5 ∨ Int32.ofNat n = 6) ∧ (ruS (Int32.ofNat n) = 65 ↔ Int32.ofNat n = 7 ∨ Int32.ofNat n = 8) ∧ (ruS (Int32.ofNat n) = 84 ↔ Int32.ofNat n = 9 ∨ Int32.ofNat n = 10) ∧ (ruS (Int32.ofNat n) = 77 ↔ Int32.ofNat n = 15 ∨ Int32.ofNat n = 16) ∧ (ruS (Int32.ofNat n) = 0 ↔ Int32.ofNat n = 0 ∨ Int32.ofNat n = 11 ∨ Int32.ofNat n = 12 ∨ Int32.ofNat n = 13 ∨ Int32.ofNat n = 14 ∨ Int32.ofNat n = 17 ∨ Int32.ofNat n = 18)) := by decide +kernel
  exact key n hn
section C
variable {M : mSt} {mkO : Nat → Option Nat} {sl : Nat → Int32} {l : List Nat}
theorem ru_of (hA : rA M mkO sl) {r : Nat} (hr : mde M r) : (ruS (M.2 9 r) = 76 ↔ M.2 9 r = 1) ∧ (ruS (M.2 9 r) = 83 ↔ M.2 9 r = 2) ∧ (ruS (M.2 9 r) = 67 ↔ M.2 9 r = 3) ∧ (ruS (M.2 9 r) = 66 ↔ M.2 9 r = 4 ∨ M.2 9 r = 5 ∨ M.2 9 r = 6) ∧ (ruS (M.2 9 r) = 65 ↔ M.2 9 r = 7 ∨ M.2 9 r = 8) ∧ (ruS (M.2 9 r) = 84 ↔ M.2 9 r = 9 ∨ M.2 9 r = 10) ∧ (ruS (M.2 9 r) = 77 ↔ M.2 9 r = 15 ∨ M.2 9 r = 16) ∧ (ruS (M.2 9 r) = 0 ↔ M.2 9 r = 0 ∨ M.2 9 r = 11 ∨ M.2 9 r = 12 ∨ M.2 9 r = 13 ∨ M.2 9 r = 14 ∨ M.2 9 r = 17 ∨ M.2 9 r = 18) := by
  obtain ⟨s, hs, es⟩ := (hA.1 r hr).1
  exact ruS_cases hs es
theorem sl8 (j k : Nat) : Int32.ofNat j * 8 + Int32.ofNat k = Int32.ofNat (8 * j + k) := by
  rw [show (8 : Int32) = Int32.ofNat 8 from rfl, jI_mul, jI_add, Nat.mul_comm]
/-- where a row stands, by its chain -/
theorem chF_cases (hA : rA M mkO sl) {r : Nat} (hr : mde M r) : ((M.2 9 r = 0 ∨ M.2 9 r = 13 ∨ M.2 9 r = 14) ∧ chF M sl r = -1) ∨ (M.2 9 r = 11 ∧ chF M sl r = Int32.ofNat 384) ∨
    ∃ j m kd, j < 48 ∧ kd < 8 ∧ mkO j = some m ∧ mde M m ∧ M.2 9 m = 0 ∧ M.2 12 m = Int32.ofNat kd ∧ M.2 10 r = Int32.ofNat (rNm m) ∧ sl r = Int32.ofNat j ∧
      ((M.2 9 r = 12 ∧ ruS (M.2 9 r) = 0 ∧ chF M sl r = Int32.ofNat (8 * j + 6)) ∨ ((M.2 9 r = 17 ∨ M.2 9 r = 18) ∧ ruS (M.2 9 r) = 0 ∧ chF M sl r = Int32.ofNat (8 * j + 7)) ∨ (ruS (M.2 9 r) ≠ 0 ∧ ∃ p, p < 6 ∧ M.2 11 r = Int32.ofNat p ∧ M.2 6 (6 * kd + p) = ruS (M.2 9 r) ∧ chF M sl r = Int32.ofNat (8 * j + p))) := by
  have hF := hA.1 r hr
  have hru := (ru_of hA hr).2.2.2.2.2.2.2
  unfold chF
  by_cases h1 : M.2 9 r = 0 ∨ M.2 9 r = 13 ∨ M.2 9 r = 14
  · exact Or.inl ⟨h1, if_pos h1⟩
  · obtain ⟨j, m, kd, a1, a2, a3, a4, a5, a6, a7, a8, a9, a10, a11⟩ := hF.2.2.2.2.2.2.1 h1
    rw [if_neg h1]
    by_cases h2 : M.2 9 r = 11
    · exact Or.inr (Or.inl ⟨h2, if_pos h2⟩)
    · refine Or.inr (Or.inr ⟨j, m, kd, a1, a2, a3, a4, a5, a6, a7, a8, ?_⟩)
      rw [if_neg h2]
      by_cases h3 : M.2 9 r = 12
      · refine Or.inl ⟨h3, hru.mpr (Or.inr (Or.inr (Or.inl h3))), ?_⟩
        rw [if_pos h3, a8]; exact sl8 j 6
      · rw [if_neg h3]
        by_cases h4 : M.2 9 r = 17 ∨ M.2 9 r = 18
        · refine Or.inr (Or.inl ⟨h4, hru.mpr ?_, ?_⟩)
          · rcases h4 with h | h
            · exact Or.inr (Or.inr (Or.inr (Or.inr (Or.inr (Or.inl h)))))
            · exact Or.inr (Or.inr (Or.inr (Or.inr (Or.inr (Or.inr h)))))
          · rw [if_pos h4, a8]; exact sl8 j 7
        · have hne : ruS (M.2 9 r) ≠ 0 := fun q => by
            rcases hru.mp q with h | h | h | h | h | h | h
            · exact h1 (Or.inl h)
            · exact h2 h
            · exact h3 h
            · exact h1 (Or.inr (Or.inl h))
            · exact h1 (Or.inr (Or.inr h))
            · exact h4 (Or.inl h)
            · exact h4 (Or.inr h)
          obtain ⟨p, p1, p2, p3⟩ := a11 hne
          refine Or.inr (Or.inr ⟨hne, p, p1, p2, p3, ?_⟩)
          rw [if_neg h4, a8, p2]; exact sl8 j p
theorem chF_rng (hA : rA M mkO sl) {r : Nat} (hr : mde M r) : chF M sl r = -1 ∨ ∃ c, c < 385 ∧ chF M sl r = Int32.ofNat c := by
  rcases chF_cases hA hr with ⟨_, h⟩ | ⟨_, h⟩ | ⟨j, m, kd, a1, a2, a3, a4, a5, a6, a7, a8, h⟩
  · exact Or.inl h
  · exact Or.inr ⟨384, by decide, h⟩
  · rcases h with ⟨_, _, h⟩ | ⟨_, _, h⟩ | ⟨_, p, p1, _, _, h⟩
    · exact Or.inr ⟨8 * j + 6, by omega, h⟩
    · exact Or.inr ⟨8 * j + 7, by omega, h⟩
    · exact Or.inr ⟨8 * j + p, by omega, h⟩
theorem mk_nm (hA : rA M mkO sl) {j j' m m' : Nat} (h : mkO j = some m) (h' : mkO j' = some m') : Int32.ofNat (rNm m) = Int32.ofNat (rNm m') ↔ j = j' := by
  constructor
  · intro e
    have := rNm_inj (hA.2.1.1 j m h).2.1.1 (hA.2.1.1 j' m' h').2.1.1 e
    subst this
    exact hA.2.1.2.1 j j' m h h'
  · intro e
    subst e
    rw [h] at h'
    rw [Option.some.inj h']
/-- the rows of a part -/
theorem chE (hA : rA M mkO sl) {j m kd p : Nat} (hm : mkO j = some m) (hk : M.2 12 m = Int32.ofNat kd) (hkd : kd < 8) (hp : p < 6) {r : Nat} (hr : mde M r) : chF M sl r = Int32.ofNat (8 * j + p) ↔ ruS (M.2 9 r) ≠ 0 ∧ M.2 10 r = Int32.ofNat (rNm m) ∧ M.2 11 r = Int32.ofNat p := by
  have hj := (hA.2.1.1 j m hm).1
  have hru := (ru_of hA hr).2.2.2.2.2.2.2
  rcases chF_cases hA hr with ⟨h1, h⟩ | ⟨h1, h⟩ | ⟨j', m', kd', a1, a2, a3, a4, a5, a6, a7, a8, h⟩
  · rw [h]
    refine ⟨fun q => absurd q.symm (jI_ne (by omega)), fun q => absurd (hru.mpr ?_) q.1⟩
    rcases h1 with h | h | h
    · exact Or.inl h
    · exact Or.inr (Or.inr (Or.inr (Or.inl h)))
    · exact Or.inr (Or.inr (Or.inr (Or.inr (Or.inl h))))
  · rw [h]
    exact ⟨fun q => absurd ((jI_inj (by omega) (by omega)).mp q) (by omega), fun q => absurd (hru.mpr (Or.inr (Or.inl h1))) q.1⟩
  · rw [a7, mk_nm hA a3 hm]
    rcases h with ⟨b1, b2', h⟩ | ⟨b1, b2', h⟩ | ⟨b1, p', p1, p2, p3, h⟩
    · rw [h]; exact ⟨fun q => absurd ((jI_inj (by omega) (by omega)).mp q) (by omega), fun q => absurd b2' q.1⟩
    · rw [h]; exact ⟨fun q => absurd ((jI_inj (by omega) (by omega)).mp q) (by omega), fun q => absurd b2' q.1⟩
    · rw [h, p2, jI_inj (by omega) (by omega), jI_inj (by omega) (by omega)]
      exact ⟨fun q => ⟨b1, by omega, by omega⟩, fun q => by rw [q.2.1, q.2.2]⟩
/-- a part's rows are of its rule -/
theorem ruE (hA : rA M mkO sl) {j m kd p : Nat} (hm : mkO j = some m) (hk : M.2 12 m = Int32.ofNat kd) (hkd : kd < 8) (hp : p < 6) {r : Nat} (hr : mde M r) (h : ruS (M.2 9 r) ≠ 0 ∧ M.2 10 r = Int32.ofNat (rNm m) ∧ M.2 11 r = Int32.ofNat p) : ruS (M.2 9 r) = M.2 6 (6 * kd + p) := by
  have hru := (ru_of hA hr).2.2.2.2.2.2.2
  have h0 : ¬ (M.2 9 r = 0 ∨ M.2 9 r = 13 ∨ M.2 9 r = 14) := fun q => h.1 (hru.mpr (by
    rcases q with h | h | h
    · exact Or.inl h
    · exact Or.inr (Or.inr (Or.inr (Or.inl h)))
    · exact Or.inr (Or.inr (Or.inr (Or.inr (Or.inl h))))))
  obtain ⟨j', m', kd', a1, a2, a3, a4, a5, a6, a7, a8, a9, a10, a11⟩ := (hA.1 r hr).2.2.2.2.2.2.1 h0
  obtain ⟨p', p1, p2, p3⟩ := a11 h.1
  have e1 : j' = j := (mk_nm hA a3 hm).mp (a7.symm.trans h.2.1)
  subst e1
  rw [hm] at a3
  have e2 := Option.some.inj a3
  subst e2
  have e3 : kd = kd' := (jI_inj (by omega) (by omega)).mp (hk.symm.trans a6)
  have e4 : p = p' := (jI_inj (by omega) (by omega)).mp (h.2.2.symm.trans p2)
  subst e3
  subst e4
  exact p3.symm
theorem chE6 (hA : rA M mkO sl) {j m : Nat} (hm : mkO j = some m) {r : Nat} (hr : mde M r) : chF M sl r = Int32.ofNat (8 * j + 6) ↔ M.2 9 r = 12 ∧ M.2 10 r = Int32.ofNat (rNm m) := by
  have hj := (hA.2.1.1 j m hm).1
  rcases chF_cases hA hr with ⟨h1, h⟩ | ⟨h1, h⟩ | ⟨j', m', kd', a1, a2, a3, a4, a5, a6, a7, a8, h⟩
  · rw [h]
    refine ⟨fun q => absurd q.symm (jI_ne (by omega)), fun q => ?_⟩
    rcases h1 with h | h | h <;> (rw [h] at q; exact absurd q.1 (by decide))
  · rw [h, h1]
    exact ⟨fun q => absurd ((jI_inj (by omega) (by omega)).mp q) (by omega), fun q => absurd q.1 (by decide)⟩
  · rw [a7, mk_nm hA a3 hm]
    rcases h with ⟨b1, b2', h⟩ | ⟨b1, b2', h⟩ | ⟨b1, p', p1, p2, p3, h⟩
    · rw [h, jI_inj (by omega) (by omega)]; exact ⟨fun q => ⟨b1, by omega⟩, fun q => by rw [q.2]⟩
    · rw [h]
      refine ⟨fun q => absurd ((jI_inj (by omega) (by omega)).mp q) (by omega), fun q => ?_⟩
      rcases b1 with h | h <;> (rw [h] at q; exact absurd q.1 (by decide))
    · rw [h]
      refine ⟨fun q => absurd ((jI_inj (by omega) (by omega)).mp q) (by omega), fun q => ?_⟩
      rw [q.1] at b1; exact absurd b1 (by decide)
theorem chE7 (hA : rA M mkO sl) {j m : Nat} (hm : mkO j = some m) {r : Nat} (hr : mde M r) : chF M sl r = Int32.ofNat (8 * j + 7) ↔ (M.2 9 r = 17 ∨ M.2 9 r = 18) ∧ M.2 10 r = Int32.ofNat (rNm m) := by
  have hj := (hA.2.1.1 j m hm).1
  rcases chF_cases hA hr with ⟨h1, h⟩ | ⟨h1, h⟩ | ⟨j', m', kd', a1, a2, a3, a4, a5, a6, a7, a8, h⟩
  · rw [h]
    refine ⟨fun q => absurd q.symm (jI_ne (by omega)), fun q => ?_⟩
    rcases h1 with h | h | h <;> (rw [h] at q; exact absurd q.1 (by decide))
  · rw [h, h1]
    exact ⟨fun q => absurd ((jI_inj (by omega) (by omega)).mp q) (by omega), fun q => absurd q.1 (by decide)⟩
  · rw [a7, mk_nm hA a3 hm]
    rcases h with ⟨b1, b2', h⟩ | ⟨b1, b2', h⟩ | ⟨b1, p', p1, p2, p3, h⟩
    · rw [h, b1]
      exact ⟨fun q => absurd ((jI_inj (by omega) (by omega)).mp q) (by omega), fun q => absurd q.1 (by decide)⟩
    · rw [h, jI_inj (by omega) (by omega)]; exact ⟨fun q => ⟨b1, by omega⟩, fun q => by rw [q.2]⟩
    · rw [h]
      refine ⟨fun q => absurd ((jI_inj (by omega) (by omega)).mp q) (by omega), fun q => ?_⟩
      rcases q.1 with h | h <;> (rw [h] at b1; exact absurd b1 (by decide))
theorem chE11 (hA : rA M mkO sl) {r : Nat} (hr : mde M r) : chF M sl r = Int32.ofNat 384 ↔ M.2 9 r = 11 := by
  rcases chF_cases hA hr with ⟨h1, h⟩ | ⟨h1, h⟩ | ⟨j', m', kd', a1, a2, a3, a4, a5, a6, a7, a8, h⟩
  · rw [h]
    refine ⟨fun q => absurd q (by decide), fun q => ?_⟩
    rcases h1 with h | h | h <;> (rw [h] at q; exact absurd q (by decide))
  · rw [h]; exact ⟨fun _ => h1, fun _ => rfl⟩
  · rcases h with ⟨b1, b2', h⟩ | ⟨b1, b2', h⟩ | ⟨b1, p', p1, p2, p3, h⟩
    · rw [h, b1]; exact ⟨fun q => absurd ((jI_inj (by omega) (by omega)).mp q) (by omega), fun q => absurd q (by decide)⟩
    · rw [h]
      refine ⟨fun q => absurd ((jI_inj (by omega) (by omega)).mp q) (by omega), fun q => ?_⟩
      rcases b1 with h | h <;> (rw [h] at q; exact absurd q (by decide))
    · rw [h]
      refine ⟨fun q => absurd ((jI_inj (by omega) (by omega)).mp q) (by omega), fun q => ?_⟩
      rw [q] at b1; exact absurd b1 (by decide)
/-- what a view sees of its ledger's rows is what the first rows show -/
theorem flt_gv (hn : l.Nodup) (up : Nat) (P : Nat → Bool) : l.filter (fun r => P r && gv M l up r) = (l.take up).filter (fun r => P r && gd M (l.take up) r) := by
  have e : l = l.take up ++ l.drop up := (List.take_append_drop up l).symm
  have hd : ∀ r ∈ l.drop up, r ∉ l.take up := by
    intro r h1 h2
    rw [e] at hn
    exact (List.nodup_append.mp hn).2.2 r h2 r h1 rfl
  have e1 : l.filter (fun r => P r && gv M l up r) = (l.take up ++ l.drop up).filter (fun r => P r && gv M l up r) := by rw [List.take_append_drop]
  rw [e1, List.filter_append]
  have e2 : (l.drop up).filter (fun r => P r && gv M l up r) = [] := by
    rw [List.filter_eq_nil_iff]
    intro r hr
    unfold gv
    rw [decide_eq_false (hd r hr)]
    simp
  rw [e2, List.append_nil]
  refine List.filter_congr fun r hr => ?_
  unfold gv
  rw [decide_eq_true hr, Bool.true_and]
theorem flt_ap (hn : l.Nodup) (up : Nat) (P : Nat → Bool) : l.filter (fun r => P r && decide (r ∈ l.take up)) = (l.take up).filter P := by
  have e : l = l.take up ++ l.drop up := (List.take_append_drop up l).symm
  have hd : ∀ r ∈ l.drop up, r ∉ l.take up := by
    intro r h1 h2
    rw [e] at hn
    exact (List.nodup_append.mp hn).2.2 r h2 r h1 rfl
  have e1 : l.filter (fun r => P r && decide (r ∈ l.take up)) = (l.take up ++ l.drop up).filter (fun r => P r && decide (r ∈ l.take up)) := by rw [List.take_append_drop]
  rw [e1, List.filter_append]
  have e2 : (l.drop up).filter (fun r => P r && decide (r ∈ l.take up)) = [] := by
    rw [List.filter_eq_nil_iff]
    intro r hr
    rw [decide_eq_false (hd r hr)]
    simp
  rw [e2, List.append_nil]
  refine List.filter_congr fun r hr => ?_
  rw [decide_eq_true hr, Bool.and_true]
/-- the good rows of a chain, in order -/
theorem chL_gv (hn : l.Nodup) (ch : Nat → Int32) (up c : Nat) (P : Nat → Bool) : (chL M ch l c).filter (fun r => P r && gv M l up r) = srt (rK M) ((l.take up).filter (fun r => (decide (ch r = Int32.ofNat c) && P r) && gd M (l.take up) r)) := by
  unfold chL
  rw [flt_srt, List.filter_filter]
  congr 1
  rw [← flt_gv hn up]
  refine List.filter_congr fun r _ => ?_
  cases decide (ch r = Int32.ofNat c) <;> cases P r <;> simp
theorem chL_gv1 (hn : l.Nodup) (ch : Nat → Int32) (up c : Nat) : (chL M ch l c).filter (gv M l up) = srt (rK M) ((l.take up).filter (fun r => decide (ch r = Int32.ofNat c) && gd M (l.take up) r)) := by
  have h := chL_gv (M := M) hn ch up c (fun _ => true)
  simp only [Bool.true_and, Bool.and_true] at h
  exact h
/-- the last good row of a chain, as the reference's best -/
theorem lgR_bst (hn : l.Nodup) (ch : Nat → Int32) (up c : Nat) : lgR M ch l up c = bst (rK M) ((l.take up).filter (fun r => decide (ch r = Int32.ofNat c) && gd M (l.take up) r)) := by
  unfold lgR bst
  rw [rev_find, chL_gv1 hn]
theorem mem_u {up : Nat} (h : cl M l) {r : Nat} (hr : r ∈ l.take up) : mde M r := cl_mem h (List.mem_of_mem_take hr)
end C

-- part 47: a part as the class and as the reference see it
section C
variable {M : mSt} {mkO : Nat → Option Nat} {sl : Nat → Int32} {l : List Nat}
/-- a part p, of the rule rl, of the object of slot j -/
def ptO (M : mSt) (mkO : Nat → Option Nat) (j m kd p : Nat) (rl : Int32) : Prop := mkO j = some m ∧ M.2 12 m = Int32.ofNat kd ∧ kd < 8 ∧ p < 6 ∧ M.2 6 (6 * kd + p) = rl ∧ rl ≠ 0
theorem chR (hA : rA M mkO sl) {j m kd p : Nat} {rl : Int32} (hp : ptO M mkO j m kd p rl) {r : Nat} (hr : mde M r) : chF M sl r = Int32.ofNat (8 * j + p) ↔ ruS (M.2 9 r) = rl ∧ M.2 10 r = Int32.ofNat (rNm m) ∧ M.2 11 r = Int32.ofNat p := by
  obtain ⟨h1, h2, h3, h4, h5, h6⟩ := hp
  rw [chE hA h1 h2 h3 h4 hr]
  constructor
  · intro q; exact ⟨(ruE hA h1 h2 h3 h4 hr q).trans h5, q.2⟩
  · intro q; exact ⟨by rw [q.1]; exact h6, q.2⟩
theorem ptO_c {j m kd p : Nat} {rl : Int32} (hA : rA M mkO sl) (hp : ptO M mkO j m kd p rl) : 8 * j + p < 385 := by
  have := (hA.2.1.1 j m hp.1).1
  have := hp.2.2.2.1
  omega
theorem dec_and {a b : Prop} [Decidable a] [Decidable b] : decide (a ∧ b) = (decide a && decide b) := by by_cases h : a <;> by_cases h2 : b <;> simp [h, h2]
theorem lk_L (hA : rA M mkO sl) (hc : cl M l) {j m kd p : Nat} (hp : ptO M mkO j m kd p 76) (up : Nat) : lgR M (chF M sl) l up (8 * j + p) = ltB M (l.take up) (Int32.ofNat (rNm m)) (Int32.ofNat p) := by
  rw [lgR_bst (cl_nd hc)]
  unfold ltB
  congr 1
  refine List.filter_congr fun r hr => ?_
  congr 1
  rw [decide_eq_decide, chR hA hp (mem_u hc hr), (ru_of hA (mem_u hc hr)).1]
theorem lk_C (hA : rA M mkO sl) (hc : cl M l) {j m kd p : Nat} (hp : ptO M mkO j m kd p 67) (up : Nat) : (chL M (chF M sl) l (8 * j + p)).reverse.foldl (fun s r => if gv M l up r then s + M.2 12 r else s) 0 = smB M (l.take up) (Int32.ofNat (rNm m)) (Int32.ofNat p) := by
  rw [← List.foldl_filter, List.filter_reverse]
  have e := chL_gv1 (M := M) (cl_nd hc) (chF M sl) up (8 * j + p)
  have e1 : (chL M (chF M sl) l (8 * j + p)).filter (fun r => gv M l up r) = srt (rK M) ((l.take up).filter (fun r => decide (isO M 3 (Int32.ofNat (rNm m)) (Int32.ofNat p) r) && gd M (l.take up) r)) := by
    refine e.trans ?_
    congr 1
    refine List.filter_congr fun r hr => ?_
    congr 1
    rw [decide_eq_decide, chR hA hp (mem_u hc hr), (ru_of hA (mem_u hc hr)).2.2.1]
  rw [e1]
  unfold smB
  exact sum_perm ((List.reverse_perm _).trans (perm_srt _ _)) 0
theorem fold_zero {f : Nat → Int32} (P Q : Nat → Bool) : ∀ (L : List Nat) (a : Int32), (∀ r ∈ L, P r = true → Q r = false → f r = 0) → (∀ r ∈ L, Q r = true → P r = true) → (L.filter P).foldl (fun s r => s + f r) a = (L.filter Q).foldl (fun s r => s + f r) a := by
  intro L
  induction L with
  | nil => intro a _ _; rfl
  | cons r L ih =>
    intro a h1 h2
    have i1 : ∀ r ∈ L, P r = true → Q r = false → f r = 0 := fun q hq => h1 q (List.mem_cons_of_mem _ hq)
    have i2 : ∀ r ∈ L, Q r = true → P r = true := fun q hq => h2 q (List.mem_cons_of_mem _ hq)
    rw [List.filter_cons, List.filter_cons]
    cases hq : Q r with
    | true =>
      have hp := h2 r List.mem_cons_self hq
      simp only [hp, if_true, List.foldl_cons]
      exact ih _ i1 i2
    | false =>
      cases hp : P r with
      | false => simp only [Bool.false_eq_true, if_false]; exact ih _ i1 i2
      | true =>
        simp only [if_true, Bool.false_eq_true, if_false, List.foldl_cons]
        rw [h1 r List.mem_cons_self hp hq, Int32.add_zero]
        exact ih _ i1 i2
theorem lk_B (hA : rA M mkO sl) (hc : cl M l) {j m kd p : Nat} (hp : ptO M mkO j m kd p 66) (up q : Nat) : shN M (chF M sl) l up (8 * j + p) q = shB M (l.take up) (Int32.ofNat (rNm m)) (Int32.ofNat p) q := by
  unfold shN shB
  rw [← List.foldl_filter, List.filter_reverse]
  have hng : ∀ r ∈ l.take up, (M.2 9 r = 4 ∨ M.2 9 r = 5 ∨ M.2 9 r = 6) → gd M (l.take up) r = true := fun r hr hs => gd_no hA (fun q hq => mem_u hc hq) (fun h => by
    unfold cbU at h
    rcases hs with s | s | s <;> (rw [s] at h; revert h; decide))
  have e1 : (chL M (chF M sl) l (8 * j + p)).filter (fun r => gv M l up r) = srt (rK M) ((l.take up).filter (fun r => decide (chF M sl r = Int32.ofNat (8 * j + p)))) := by
    refine (chL_gv1 (M := M) (cl_nd hc) (chF M sl) up (8 * j + p)).trans ?_
    congr 1
    refine List.filter_congr fun r hr => ?_
    by_cases h : chF M sl r = Int32.ofNat (8 * j + p)
    · rw [decide_eq_true h, Bool.true_and]
      exact hng r hr ((ru_of hA (mem_u hc hr)).2.2.2.1.mp ((chR hA hp (mem_u hc hr)).mp h).1)
    · rw [decide_eq_false h]; rfl
  rw [e1]
  have e2 : ∀ (L : List Nat) (a : Int32), (∀ r ∈ L, M.2 9 r = 4 ∨ M.2 9 r = 5 ∨ M.2 9 r = 6) → L.foldl (fun s r => s + shC M q r) a = L.foldl (fun s r => s + shD M q r) a := by
    intro L
    induction L with
    | nil => intro a _; rfl
    | cons r L ih =>
      intro a h
      rw [List.foldl_cons, List.foldl_cons, ih _ (fun x hx => h x (List.mem_cons_of_mem _ hx))]
      congr 1
      unfold shC shD
      rcases h r List.mem_cons_self with s | s | s <;> simp [s]
  rw [e2 _ _ (fun r hr => by
    rw [List.mem_reverse, mem_srt, List.mem_filter] at hr
    exact (ru_of hA (mem_u hc hr.1)).2.2.2.1.mp ((chR hA hp (mem_u hc hr.1)).mp (of_decide_eq_true hr.2)).1)]
  refine (sum_perm ((List.reverse_perm _).trans (perm_srt _ _)) 0).trans ?_
  refine (fold_zero _ _ _ _ (fun r hr h1 h2 => ?_) (fun r hr h1 => ?_)).symm
  · have h3 := of_decide_eq_true h1
    have h4 := of_decide_eq_false h2
    rw [chR hA hp (mem_u hc hr)] at h4
    have h5 : ¬ (M.2 9 r = 4 ∨ M.2 9 r = 5 ∨ M.2 9 r = 6) := fun h => h4 ⟨(ru_of hA (mem_u hc hr)).2.2.2.1.mpr h, h3⟩
    unfold shD
    have n4 : ¬ M.2 9 r = 4 := fun h => h5 (Or.inl h)
    have n5 : ¬ M.2 9 r = 5 := fun h => h5 (Or.inr (Or.inl h))
    have n6 : ¬ M.2 9 r = 6 := fun h => h5 (Or.inr (Or.inr h))
    simp [n4, n5, n6]
  · exact decide_eq_true ((chR hA hp (mem_u hc hr)).mp (of_decide_eq_true h1)).2
/-- the good rows of a part's chain: who they are -/
theorem chL_gm (hA : rA M mkO sl) (hc : cl M l) {j m kd p : Nat} {rl : Int32} (hp : ptO M mkO j m kd p rl) (up : Nat) {t : Nat} : (t ∈ chL M (chF M sl) l (8 * j + p) ∧ gv M l up t = true) ↔ (t ∈ l.take up ∧ (ruS (M.2 9 t) = rl ∧ M.2 10 t = Int32.ofNat (rNm m) ∧ M.2 11 t = Int32.ofNat p) ∧ gd M (l.take up) t = true) := by
  rw [chL_mem]
  unfold gv
  rw [Bool.and_eq_true, decide_eq_true_iff]
  constructor
  · rintro ⟨⟨h1, h2⟩, h3, h4⟩
    exact ⟨h3, (chR hA hp (cl_mem hc h1)).mp h2, h4⟩
  · rintro ⟨h3, h2, h4⟩
    have h1 := List.mem_of_mem_take h3
    exact ⟨⟨h1, (chR hA hp (cl_mem hc h1)).mpr h2⟩, h3, h4⟩
theorem kn_self (hA : rA M mkO sl) {r : Nat} (hr : mde M r) : ¬ kn M r r := fun h => absurd ((kn_own (hA.1 r hr) rfl).mp h) (Nat.lt_irrefl _)
theorem lk_S (hA : rA M mkO sl) (hc : cl M l) {j m kd p : Nat} (hp : ptO M mkO j m kd p 83) (up : Nat) : svL M (chF M sl) l up (8 * j + p) = srt (rK M) ((l.take up).filter (svQ M (l.take up) (Int32.ofNat (rNm m)) (Int32.ofNat p))) := by
  unfold svL chL
  rw [flt_srt, List.filter_filter]
  congr 1
  rw [← flt_ap (cl_nd hc) up]
  refine List.filter_congr fun r hr => ?_
  have hmr := cl_mem hc hr
  unfold svP svQ
  by_cases hu : r ∈ l.take up
  · have eg : gv M l up r = gd M (l.take up) r := by unfold gv; rw [decide_eq_true hu, Bool.true_and]
    rw [eg, decide_eq_true hu, Bool.and_true]
    have e1 : decide (chF M sl r = Int32.ofNat (8 * j + p)) = decide (isO M 2 (Int32.ofNat (rNm m)) (Int32.ofNat p) r) := by
      rw [decide_eq_decide, chR hA hp hmr, (ru_of hA hmr).2.1]
    rw [e1]
    have e2 : decide (∀ t ∈ chL M (chF M sl) l (8 * j + p), gv M l up t = true → ¬ Int32.ofNat (rM r) ≤ M.2 16 (4 * t + rN r)) = (l.take up).all (knP M (l.take up) (Int32.ofNat (rNm m)) (Int32.ofNat p) r) := by
      rw [Bool.eq_iff_iff, decide_eq_true_iff, List.all_eq_true]
      unfold knP
      constructor
      · intro h t ht
        refine decide_eq_true fun _ hi hg => ?_
        have := (chL_gm hA hc hp up (t := t)).mpr ⟨ht, ⟨(ru_of hA (mem_u hc ht)).2.1.mpr hi.1, hi.2⟩, hg⟩
        exact h t this.1 this.2
      · intro h t ht hg
        obtain ⟨h1, ⟨h2, h3⟩, h4⟩ := (chL_gm hA hc hp up (t := t)).mp ⟨ht, hg⟩
        by_cases e : t = r
        · subst e; exact kn_self hA hmr
        · exact of_decide_eq_true (h t h1) e ⟨(ru_of hA (mem_u hc h1)).2.1.mp h2, h3⟩ h4
    rw [e2]
    cases decide (isO M 2 (Int32.ofNat (rNm m)) (Int32.ofNat p) r) <;> cases gd M (l.take up) r <;> simp
  · have eg : gv M l up r = false := by unfold gv; rw [decide_eq_false hu, Bool.false_and]
    rw [eg, decide_eq_false hu]; simp
theorem lk_A (hA : rA M mkO sl) (hc : cl M l) {j m kd p : Nat} (hp : ptO M mkO j m kd p 65) (up x : Nat) : enR M (chF M sl) l up (8 * j + p) x = stB M (l.take up) (Int32.ofNat (rNm m)) (Int32.ofNat p) x := by
  unfold enR stB bst
  rw [rev_find]
  unfold chL
  rw [flt_srt, List.filter_filter]
  congr 2
  rw [← flt_ap (cl_nd hc) up]
  refine List.filter_congr fun r hr => ?_
  have hmr := cl_mem hc hr
  unfold enP stP
  by_cases hu : r ∈ l.take up
  · have eg : gv M l up r = gd M (l.take up) r := by unfold gv; rw [decide_eq_true hu, Bool.true_and]
    rw [eg, decide_eq_true hu, Bool.and_true]
    by_cases h7 : M.2 9 r = 7
    · have e1 : decide (chF M sl r = Int32.ofNat (8 * j + p)) = decide (isO M 7 (Int32.ofNat (rNm m)) (Int32.ofNat p) r) := by
        rw [decide_eq_decide, chR hA hp hmr, (ru_of hA hmr).2.2.2.2.1]
        exact ⟨fun q => ⟨h7, q.2⟩, fun q => ⟨Or.inl h7, q.2⟩⟩
      rw [e1, decide_eq_true h7, Bool.true_and]
      by_cases hi : isO M 7 (Int32.ofNat (rNm m)) (Int32.ofNat p) r
      · rw [decide_eq_true hi, Bool.true_and, Bool.and_true]
        congr 1
        unfold hoP
        congr 1
        rw [Bool.eq_iff_iff, decide_eq_true_iff, List.all_eq_true]
        unfold hoT
        constructor
        · intro h t ht
          refine decide_eq_true fun hi2 hv hg => ?_
          have := (chL_gm hA hc hp up (t := t)).mpr ⟨ht, ⟨(ru_of hA (mem_u hc ht)).2.2.2.2.1.mpr (Or.inr hi2.1), by rw [hi2.2.1, hi.2.1], by rw [hi2.2.2, hi.2.2]⟩, hg⟩
          exact h t this.1 hi2.1 this.2 hv
        · intro h t ht h8 hg hv
          obtain ⟨h1, ⟨h2, h3⟩, h4⟩ := (chL_gm hA hc hp up (t := t)).mp ⟨ht, hg⟩
          exact of_decide_eq_true (h t h1) ⟨h8, by rw [h3.1, hi.2.1], by rw [h3.2, hi.2.2]⟩ hv h4
      · rw [decide_eq_false hi]; simp
    · rw [decide_eq_false h7, decide_eq_false (fun q : isO M 7 (Int32.ofNat (rNm m)) (Int32.ofNat p) r => h7 q.1)]; simp
  · have eg : gv M l up r = false := by unfold gv; rw [decide_eq_false hu, Bool.false_and]
    rw [eg, decide_eq_false hu]; simp
theorem lk_M0 (hA : rA M mkO sl) (hc : cl M l) {j m kd p : Nat} (hp : ptO M mkO j m kd p 77) (up x : Nat) : bdR M (chF M sl) l up (8 * j + p) (Int32.ofNat x) = kyB M (l.take up) (Int32.ofNat (rNm m)) (Int32.ofNat p) x := by
  unfold bdR kyB bst
  rw [rev_find, chL_gv (cl_nd hc)]
  congr 2
  refine List.filter_congr fun r hr => ?_
  unfold kyP
  have e1 : decide (chF M sl r = Int32.ofNat (8 * j + p)) = decide (isO M 15 (Int32.ofNat (rNm m)) (Int32.ofNat p) r ∨ isO M 16 (Int32.ofNat (rNm m)) (Int32.ofNat p) r) := by
    rw [decide_eq_decide, chR hA hp (mem_u hc hr), (ru_of hA (mem_u hc hr)).2.2.2.2.2.2.1]
    constructor
    · rintro ⟨h | h, h2⟩
      · exact Or.inl ⟨h, h2⟩
      · exact Or.inr ⟨h, h2⟩
    · rintro (h | h)
      · exact ⟨Or.inl h.1, h.2⟩
      · exact ⟨Or.inr h.1, h.2⟩
  rw [e1, Bool.and_assoc]
theorem lk_M (hA : rA M mkO sl) (hc : cl M l) {j m kd p : Nat} (hp : ptO M mkO j m kd p 77) (up x : Nat) : bnR M (chF M sl) l up (8 * j + p) x = kyC M (l.take up) (Int32.ofNat (rNm m)) (Int32.ofNat p) x := by
  unfold bnR kyC
  rw [lk_M0 hA hc hp]
theorem lk_T0 (hA : rA M mkO sl) (hc : cl M l) {j m kd p : Nat} (hp : ptO M mkO j m kd p 84) (up : Nat) : tlL M (chF M sl) l up (8 * j + p) = txR M (l.take up) (Int32.ofNat (rNm m)) (Int32.ofNat p) := by
  unfold tlL txR tcL chL
  congr 1
  rw [flt_srt, flt_srt, List.filter_filter, List.filter_filter]
  congr 1
  rw [← flt_ap (cl_nd hc) up]
  refine List.filter_congr fun r hr => ?_
  have hmr := cl_mem hc hr
  unfold inP9 apP
  by_cases h9 : M.2 9 r = 9
  · have e1 : decide (chF M sl r = Int32.ofNat (8 * j + p)) = decide (isO M 9 (Int32.ofNat (rNm m)) (Int32.ofNat p) r) := by
      rw [decide_eq_decide, chR hA hp hmr, (ru_of hA hmr).2.2.2.2.2.1]
      exact ⟨fun q => ⟨h9, q.2⟩, fun q => ⟨Or.inl h9, q.2⟩⟩
    rw [e1, decide_eq_true h9]
    cases decide (isO M 9 (Int32.ofNat (rNm m)) (Int32.ofNat p) r) <;> cases decide (r ∈ l.take up) <;> rfl
  · rw [decide_eq_false h9, decide_eq_false (fun q : isO M 9 (Int32.ofNat (rNm m)) (Int32.ofNat p) r => h9 q.1)]; simp
theorem txR_mem {o p : Int32} {r : Nat} {u : List Nat} : r ∈ txR M u o p ↔ r ∈ u ∧ isO M 9 o p r := by
  unfold txR
  rw [txL_mem, mem_srt, List.mem_filter, decide_eq_true_iff]
theorem lk_T (hA : rA M mkO sl) (hc : cl M l) {j m kd p : Nat} (hp : ptO M mkO j m kd p 84) (up : Nat) : tsL M (chF M sl) l up (8 * j + p) = (txR M (l.take up) (Int32.ofNat (rNm m)) (Int32.ofNat p)).filter (tvP M (l.take up)) := by
  unfold tsL
  rw [lk_T0 hA hc hp]
  refine List.filter_congr fun r hr => ?_
  obtain ⟨hu, hi⟩ := txR_mem.mp hr
  unfold sdP tvP
  have eg : gv M l up r = gd M (l.take up) r := by unfold gv; rw [decide_eq_true hu, Bool.true_and]
  rw [eg]
  congr 2
  rw [Bool.eq_iff_iff, List.any_eq_true, List.any_eq_true]
  constructor
  · rintro ⟨e, he, h⟩
    unfold tcL at he
    obtain ⟨h1, h2⟩ := List.mem_filter.mp he
    simp only [Bool.and_eq_true, decide_eq_true_iff] at h
    obtain ⟨h3, h4, h5⟩ := h
    obtain ⟨h6, h7, h8⟩ := (chL_gm hA hc hp up (t := e)).mp ⟨h1, h5⟩
    refine ⟨e, h6, ?_⟩
    unfold erP
    rw [decide_eq_true h3, decide_eq_true h4, h8]; rfl
  · rintro ⟨e, he, h⟩
    unfold erP at h
    simp only [Bool.and_eq_true, decide_eq_true_iff] at h
    obtain ⟨h3, h4, h5⟩ := h
    have hme := mem_u hc he
    obtain ⟨t, t1, t2, t3, t4, t5, t6⟩ := (hA.1 e hme).2.2.2.2.2.2.2.2.2.2.1 h3
    have ht : t = r := rNm_inj t1.1 (mem_u hc hu).1 (t5.symm.trans h4)
    subst ht
    have := (chL_gm hA hc hp up (t := e)).mpr ⟨he, ⟨(ru_of hA hme).2.2.2.2.2.1.mpr (Or.inr h3), by rw [← t3, hi.2.1], by rw [← t4, hi.2.2]⟩, h5⟩
    refine ⟨e, ?_, ?_⟩
    · unfold tcL
      refine List.mem_filter.mpr ⟨this.1, ?_⟩
      unfold apP
      exact decide_eq_true he
    · rw [decide_eq_true h3, decide_eq_true h4, this.2]; rfl
end C

-- part 48: there, leases, moves, texts in order, objects by slots
section C
variable {M : mSt} {mkO : Nat → Option Nat} {sl : Nat → Int32} {l : List Nat}
theorem mkN_mk (hA : rA M mkO sl) {j m : Nat} (hm : mkO j = some m) (u : List Nat) : mkN M u (Int32.ofNat (rNm m)) = decide (m ∈ u) := by
  obtain ⟨h1, h2, h3⟩ := hA.2.1.1 j m hm
  unfold mkN
  rw [rOf_nm h2.1]
  show decide (m ∈ u ∧ M.2 9 m = 0) = _
  rw [decide_eq_decide]
  exact ⟨fun q => q.1, fun q => ⟨q, h3⟩⟩
theorem lk_there (hA : rA M mkO sl) (hc : cl M l) {j m : Nat} (hm : mkO j = some m) (up : Nat) : vTh M (chF M sl) mkO l up j = thN M (l.take up) (Int32.ofNat (rNm m)) := by
  unfold vTh thN vMd
  rw [mkN_mk hA hm, hm]
  show (decide (m ∈ l.take up) && _) = _
  congr 1
  rw [Bool.eq_iff_iff]
  rw [Option.isNone_iff_eq_none]
  unfold lgR
  rw [List.find?_eq_none]
  simp only [Bool.not_eq_true', List.any_eq_false, List.mem_reverse]
  constructor
  · intro h r hr h2
    unfold dpP at h2
    simp only [Bool.and_eq_true, decide_eq_true_iff] at h2
    refine h r (chL_mem.mpr ⟨List.mem_of_mem_take hr, (chE6 hA hm (mem_u hc hr)).mpr ⟨h2.1, h2.2.1⟩⟩) ?_
    unfold gv
    rw [decide_eq_true hr, h2.2.2]; rfl
  · intro h r hr h2
    obtain ⟨h3, h4⟩ := chL_mem.mp hr
    unfold gv at h2
    rw [Bool.and_eq_true, decide_eq_true_iff] at h2
    obtain ⟨h5, h6⟩ := (chE6 hA hm (cl_mem hc h3)).mp h4
    refine h r h2.1 ?_
    unfold dpP
    rw [decide_eq_true h5, decide_eq_true h6, h2.2]; rfl
theorem lk_hold (hA : rA M mkO sl) (hc : cl M l) {j m : Nat} (hm : mkO j = some m) : chL M (chF M sl) l (8 * j + 7) = clL M l (Int32.ofNat (rNm m)) := by
  unfold chL clL
  congr 1
  refine List.filter_congr fun r hr => ?_
  rw [decide_eq_decide, chE7 hA hm (cl_mem hc hr)]
theorem lk_move (hA : rA M mkO sl) (hc : cl M l) (up : Nat) : (chL M (chF M sl) l 384).filter (gv M l up) = mvL M (l.take up) := by
  rw [chL_gv1 (cl_nd hc)]
  unfold mvL
  congr 1
  refine List.filter_congr fun r hr => ?_
  congr 1
  rw [decide_eq_decide, chE11 hA (mem_u hc hr)]
theorem lk_par (hA : rA M mkO sl) (hc : cl M l) (up : Nat) : paF M (chF M sl) sl mkO l up = paL M mkO sl (mvL M (l.take up)) := by unfold paF; rw [lk_move hA hc]
/-- at most four puts stand beside each other -/
theorem sv_le (hA : rA M mkO sl) (hc : cl M l) (up c : Nat) : (svL M (chF M sl) l up c).length ≤ 4 := by
  have hnd : (svL M (chF M sl) l up c).Nodup := (chL_nd (cl_nd hc) c).sublist List.filter_sublist
  have hin : ∀ r ∈ svL M (chF M sl) l up c, r ∈ chL M (chF M sl) l c ∧ svP M (chF M sl) l up c r = true := fun r hr => List.mem_filter.mp hr
  have h1 : ((svL M (chF M sl) l up c).map rN).Nodup := by
    rw [List.nodup_iff_pairwise_ne, List.pairwise_map]
    rw [List.nodup_iff_pairwise_ne] at hnd
    refine hnd.imp_of_mem fun {a b} ha hb hne e => hne ?_
    obtain ⟨a1, a2⟩ := hin a ha
    obtain ⟨b1, b2'⟩ := hin b hb
    have ma := cl_mem hc (chL_mem.mp a1).1
    have mb := cl_mem hc (chL_mem.mp b1).1
    unfold svP at a2 b2'
    rw [Bool.and_eq_true, decide_eq_true_iff] at a2 b2'
    rcases Nat.lt_trichotomy (rM a) (rM b) with q | q | q
    · exact absurd ((kn_own (hA.1 b mb) e).mpr q) (a2.2 b b1 b2'.1)
    · exact row_eq e q
    · exact absurd ((kn_own (hA.1 a ma) e.symm).mpr q) (b2'.2 a a1 a2.1)
  have h2 := nd48 4 _ h1 (fun x hx => by
    obtain ⟨r, hr, rfl⟩ := List.mem_map.mp hx
    exact rN_lt (cl_mem hc (chL_mem.mp (hin r hr).1).1).1)
  rwa [List.length_map] at h2
/-- in an ordered list what is less stands earlier -/
theorem sdl_take {K : Nat → Nat} {L : List Nat} (hs : sdl K L) {k t : Nat} (hk : k < L.length) (ht : t ∈ L) (hlt : K t < K L[k]) : t ∈ L.take k := by
  obtain ⟨i, hi, rfl⟩ := List.mem_iff_getElem.mp ht
  have hik : i < k := by
    rcases Nat.lt_trichotomy i k with q | q | q
    · exact q
    · subst q; omega
    · have := (List.pairwise_iff_getElem.mp hs) k i hk hi q
      omega
  have h2 : i < (L.take k).length := by rw [List.length_take]; omega
  have h3 : (L.take k)[i] = L[i] := List.getElem_take
  rw [← h3]; exact List.getElem_mem h2
theorem txOk_cl (hA : rA M mkO sl) {u : List Nat} (hc : cl M u) (o p : Int32) : txOk M (srt (rK M) (u.filter (fun r => decide (isO M 9 o p r)))) := by
  intro k hk
  have hm := List.mem_filter.mp (mem_srt.mp (List.getElem_mem hk))
  have hi : isO M 9 o p _ := of_decide_eq_true hm.2
  have hmd := cl_mem hc hm.1
  refine ⟨hmd.1, ?_⟩
  rcases (hA.1 _ hmd).2.2.2.2.2.2.2.2.2.1 hi.1 with h0 | ⟨t, t1, t2, t3, t4, t5, t6⟩
  · exact Or.inl h0
  · refine Or.inr ⟨t, by rw [t5]; exact rOf_nm t1.1, sdl_take (sdl_srt _ _) hk ?_ ((hA.1 _ hmd).2.2.2.1 t t1 t6)⟩
    exact mem_srt.mpr (List.mem_filter.mpr ⟨cl_kn hc hm.1 t1 t6, decide_eq_true ⟨t2, by rw [t3]; exact hi.2.1, by rw [t4]; exact hi.2.2⟩⟩)
theorem tcOk_cl (hA : rA M mkO sl) (hc : cl M l) {j m kd p : Nat} (hp : ptO M mkO j m kd p 84) (up : Nat) : tcOk M (chF M sl) l up (8 * j + p) := by
  intro i hi hap
  have hap' := of_decide_eq_true hap
  have hmd := mem_u hc hap'
  have hch := (chL_mem.mp (List.getElem_mem hi)).2
  obtain ⟨r1, r2⟩ := (chR hA hp hmd).mp hch
  have key : ∀ t, rIn M (chL M (chF M sl) l (8 * j + p))[i] t → rOf (M.2 13 (chL M (chF M sl) l (8 * j + p))[i]) = some t ∧ t ∈ ((chL M (chF M sl) l (8 * j + p)).take i).filter (apP l up) ∧ M.2 9 t = 9 := by
    rintro t ⟨t1, t2, t3, t4, t5, t6⟩
    have htu := cl_kn (cl_take hc up) hap' t1 t6
    refine ⟨by rw [t5]; exact rOf_nm t1.1, List.mem_filter.mpr ⟨sdl_take (sdl_srt _ _) hi ?_ ((hA.1 _ hmd).2.2.2.1 t t1 t6), decide_eq_true htu⟩, t2⟩
    exact chL_mem.mpr ⟨List.mem_of_mem_take htu, (chR hA hp t1).mpr ⟨(ru_of hA t1).2.2.2.2.2.1.mpr (Or.inl t2), by rw [t3]; exact r2.1, by rw [t4]; exact r2.2⟩⟩
  rcases (ru_of hA hmd).2.2.2.2.2.1.mp r1 with h9 | h10
  · refine Or.inl ⟨h9, ?_⟩
    rcases (hA.1 _ hmd).2.2.2.2.2.2.2.2.2.1 h9 with h0 | ⟨t, ht⟩
    · exact Or.inl h0
    · exact Or.inr ⟨t, key t ht⟩
  · refine Or.inr ⟨h10, ?_⟩
    obtain ⟨t, ht⟩ := (hA.1 _ hmd).2.2.2.2.2.2.2.2.2.2.1 h10
    exact ⟨t, key t ht⟩
theorem ky_rng (hA : rA M mkO sl) (hc : cl M l) {j m kd p : Nat} {rl : Int32} (hp : ptO M mkO j m kd p rl) (hr : rl = 65 ∨ rl = 77) : ∀ r ∈ chL M (chF M sl) l (8 * j + p), ∃ x, x < 64 ∧ M.2 12 r = Int32.ofNat x := by
  intro r hm
  obtain ⟨h1, h2⟩ := chL_mem.mp hm
  have hmd := cl_mem hc h1
  have h3 := ((chR hA hp hmd).mp h2).1
  refine (hA.1 r hmd).2.2.2.2.2.2.2.2.1 ?_
  rcases hr with e | e
  · rw [e] at h3
    rcases (ru_of hA hmd).2.2.2.2.1.mp h3 with h | h
    · exact Or.inl h
    · exact Or.inr (Or.inl h)
  · rw [e] at h3
    exact Or.inr (Or.inr ((ru_of hA hmd).2.2.2.2.2.2.1.mp h3))
theorem ln_rng (hA : rA M mkO sl) (hc : cl M l) (c : Nat) : ∀ r ∈ chL M (chF M sl) l c, M.2 9 r = 6 → ∃ x, x < 4 ∧ M.2 13 r = Int32.ofNat x := fun r hm h6 => (hA.1 r (cl_mem hc (chL_mem.mp hm).1)).2.2.2.2.2.2.2.1 h6
theorem mv_rng (hA : rA M mkO sl) (hc : cl M l) : ∀ r ∈ chL M (chF M sl) l 384, ∃ s, s < 48 ∧ sl r = Int32.ofNat s := by
  intro r hm
  obtain ⟨h1, h2⟩ := chL_mem.mp hm
  have hmd := cl_mem hc h1
  have h11 := (chE11 hA hmd).mp h2
  obtain ⟨j, m, kd, a1, a2, a3, a4, a5, a6, a7, a8, _⟩ := (hA.1 r hmd).2.2.2.2.2.2.1 (by rw [h11]; decide)
  exact ⟨j, a1, a8⟩
theorem mvOk_cl (hA : rA M mkO sl) {u : List Nat} (hc : cl M u) : ∀ r ∈ u, M.2 9 r = 11 → mvOk M mkO sl u r := by
  intro r hr h11
  have hmd := cl_mem hc hr
  obtain ⟨j, m, kd, a1, a2, a3, a4, a5, a6, a7, a8, a9, _⟩ := (hA.1 r hmd).2.2.2.2.2.2.1 (by rw [h11]; decide)
  refine ⟨j, m, a3, cl_kn hc hr a4 a9, a5, a7, a8, a1, ?_⟩
  rcases (hA.1 r hmd).2.2.2.2.2.2.2.2.2.2.2 h11 with h | ⟨j', m', b1, b2', b3, b4, b5⟩
  · exact Or.inl h
  · exact Or.inr ⟨j', m', b1, cl_kn hc hr b2' b5, b3, b4⟩
theorem slK_cl (hA : rA M mkO sl) {u : List Nat} (hc : cl M u) : slK M mkO u := by
  refine ⟨fun j m h => ⟨(hA.2.1.1 j m h).1, (hA.2.1.1 j m h).2.1.1⟩, hA.2.1.2.1, fun m hm h0 => ?_⟩
  obtain ⟨⟨j, _, h, _⟩, _⟩ := (hA.1 m (cl_mem hc hm)).2.2.2.2.1 h0
  exact ⟨j, h⟩
/-- ordered lists of the same rows -/
theorem ord_ext {K : Nat → Nat} : ∀ {L L' : List Nat}, L.Pairwise (fun a b => K a < K b) → L'.Pairwise (fun a b => K a < K b) → (∀ x, x ∈ L ↔ x ∈ L') → L = L' := by
  intro L
  induction L with
  | nil =>
    intro L' _ _ h
    cases L' with
    | nil => rfl
    | cons a L' => exact absurd ((h a).mpr List.mem_cons_self) (by simp)
  | cons a L ih =>
    intro L' h1 h2 h
    cases L' with
    | nil => exact absurd ((h a).mp List.mem_cons_self) (by simp)
    | cons b L' =>
      obtain ⟨p1, p2⟩ := List.pairwise_cons.mp h1
      obtain ⟨q1, q2⟩ := List.pairwise_cons.mp h2
      have e : a = b := by
        rcases List.mem_cons.mp ((h a).mp List.mem_cons_self) with h3 | h3
        · exact h3
        · rcases List.mem_cons.mp ((h b).mpr List.mem_cons_self) with h4 | h4
          · exact h4.symm
          · have := p1 b h4
            have := q1 a h3
            omega
      subst e
      congr 1
      refine ih p2 q2 fun x => ?_
      constructor
      · intro hx
        rcases List.mem_cons.mp ((h x).mp (List.mem_cons_of_mem _ hx)) with h3 | h3
        · subst h3; exact absurd (p1 x hx) (Nat.lt_irrefl _)
        · exact h3
      · intro hx
        rcases List.mem_cons.mp ((h x).mpr (List.mem_cons_of_mem _ hx)) with h3 | h3
        · subst h3; exact absurd (q1 x hx) (Nat.lt_irrefl _)
        · exact h3
/-- the objects of the rows u, by slots -/
def obS (mkO : Nat → Option Nat) (u : List Nat) (n : Nat) : List Nat := (List.range n).filterMap (fun j => match mkO j with | none => none | some m => if m ∈ u then some m else none)
theorem obS_succ (u : List Nat) (n : Nat) : obS mkO u (n + 1) = obS mkO u n ++ (match mkO n with | none => [] | some m => if m ∈ u then [m] else []) := by
  unfold obS
  rw [List.range_succ, List.filterMap_append]
  congr 1
  cases h : mkO n with
  | none => simp [h]
  | some m => by_cases h2 : m ∈ u <;> simp [h, h2]
theorem obS_mem {u : List Nat} {n x : Nat} : x ∈ obS mkO u n ↔ ∃ j, j < n ∧ mkO j = some x ∧ x ∈ u := by
  unfold obS
  rw [List.mem_filterMap]
  constructor
  · rintro ⟨j, h1, h2⟩
    refine ⟨j, List.mem_range.mp h1, ?_⟩
    cases h : mkO j with
    | none => rw [h] at h2; cases h2
    | some m =>
      rw [h] at h2
      by_cases h3 : m ∈ u
      · have : m = x := by simpa [h3] using h2
        subst this
        exact ⟨rfl, h3⟩
      · simp [h3] at h2
  · rintro ⟨j, h1, h2, h3⟩
    exact ⟨j, List.mem_range.mpr h1, by rw [h2]; simp [h3]⟩
theorem obS_ord (hA : rA M mkO sl) (u : List Nat) : ∀ n, (obS mkO u n).Pairwise (fun a b => rNm a < rNm b) := by
  intro n
  induction n with
  | zero => exact List.Pairwise.nil
  | succ n ih =>
    rw [obS_succ, List.pairwise_append]
    refine ⟨ih, ?_, ?_⟩
    · cases mkO n with
      | none => exact List.Pairwise.nil
      | some m => show List.Pairwise _ (if m ∈ u then [m] else []); split <;> simp
    · intro a ha b hb
      obtain ⟨j, j1, j2, _⟩ := obS_mem.mp ha
      cases h : mkO n with
      | none => rw [h] at hb; cases hb
      | some m =>
        rw [h] at hb
        have : b = m := by
          by_cases h3 : m ∈ u
          · simpa [h3] using hb
          · simp [h3] at hb
        subst this
        exact hA.2.1.2.2 j n a b j1 j2 h
theorem obL_obS (hA : rA M mkO sl) {u : List Nat} (hc : cl M u) : obL M u = obS mkO u 48 := by
  refine ord_ext (K := rNm) ?_ (obS_ord hA u 48) fun x => ?_
  · have h1 : sdl rNm (obL M u) := sdl_srt _ _
    have h2 : (obL M u).Nodup := ((perm_srt rNm _).nodup_iff).mpr ((cl_nd hc).sublist List.filter_sublist)
    refine (List.pairwise_and_iff.mpr ⟨h1, List.nodup_iff_pairwise_ne.mp h2⟩).imp_of_mem fun {a b} ha hb h => ?_
    have ma := cl_mem hc (obL_mem.mp ha).1
    have mb := cl_mem hc (obL_mem.mp hb).1
    rcases Nat.lt_or_eq_of_le h.1 with q | q
    · exact q
    · exact absurd (rNm_inj ma.1 mb.1 (by rw [q])) h.2
  · rw [obL_mem, obS_mem]
    constructor
    · rintro ⟨h1, h2⟩
      obtain ⟨⟨j, j1, j2, _⟩, _⟩ := (hA.1 x (cl_mem hc h1)).2.2.2.2.1 h2
      exact ⟨j, j1, j2, h1⟩
    · rintro ⟨j, _, j2, h1⟩
      exact ⟨h1, (hA.2.1.1 j x j2).2.2⟩
theorem obS_len (u : List Nat) (n : Nat) : (obS mkO u n).length ≤ n := by
  have := List.length_filterMap_le (fun j => match mkO j with | none => none | some m => if m ∈ u then some m else none) (List.range n)
  rwa [List.length_range] at this
theorem ob48 (hA : rA M mkO sl) {u : List Nat} (hc : cl M u) : (u.filter (mkP M)).length ≤ 48 := by
  have h1 : (obL M u).length = (u.filter (mkP M)).length := len_srt _ _
  rw [← h1, obL_obS hA hc]
  exact obS_len u 48
end C

-- part 49: what rests on the rows alone; what a row changes
def rEq (M M' : mSt) : Prop := ∀ k, 5 ≤ k → k ≤ 16 → M'.2 k = M.2 k
theorem rEq_refl (M : mSt) : rEq M M := fun _ _ _ => rfl
theorem rEq_trans {A B C : mSt} (h : rEq A B) (h' : rEq B C) : rEq A C := fun k h1 h2 => (h' k h1 h2).trans (h k h1 h2)
theorem rEq_mEx {A B : mSt} {W : Nat → Prop} (h : mEx W A B) (hW : ∀ k, W k → 16 < k) : rEq A B := fun k _ h2 => (h k (fun q => absurd (hW k q) (by omega))).2
section Q
variable {M M' : mSt}
theorem isT_r (e : rEq M M') : isT M' = isT M := by funext t r; unfold isT; rw [e 9 (by decide) (by decide), e 13 (by decide) (by decide)]
theorem gd_r (e : rEq M M') : gd M' = gd M := by funext l t; unfold gd; rw [isT_r e, e 9 (by decide) (by decide)]
theorem jd_r (e : rEq M M') : jd M' = jd M := by funext l t; unfold jd; rw [isT_r e]
theorem rK_r (e : rEq M M') : rK M' = rK M := by funext r; unfold rK; rw [e 14 (by decide) (by decide), e 15 (by decide) (by decide)]
theorem gv_r (e : rEq M M') : gv M' = gv M := by funext l u r; unfold gv; rw [gd_r e]
theorem txL_r (e : rEq M M') : txL M' = txL M := by
  have h : txS M' = txS M := by funext L r; unfold txS; rw [e 13 (by decide) (by decide)]
  funext L; unfold txL; rw [h]
theorem tOk_r (e : rEq M M') (h : tOk M) : tOk M' := by unfold tOk; rw [e 14 (by decide) (by decide), e 15 (by decide) (by decide)]; exact h
theorem kInj_r {l : List Nat} (e : rEq M M') (h : kInj M l) : kInj M' l := by unfold kInj; rw [rK_r e]; exact h
theorem jOkL_r {l : List Nat} (e : rEq M M') (h : jOkL M l) : jOkL M' l := by unfold jOkL; rw [jd_r e, e 9 (by decide) (by decide), e 13 (by decide) (by decide)]; exact h
theorem tvP_r (e : rEq M M') : tvP M' = tvP M := by
  have h : erP M' = erP M := by funext l r t; unfold erP; rw [gd_r e, e 9 (by decide) (by decide), e 13 (by decide) (by decide)]
  funext l r; unfold tvP; rw [h, gd_r e]
theorem txR_r (e : rEq M M') : txR M' = txR M := by
  funext l o p; unfold txR; simp only [isO, e 9 (by decide) (by decide), e 10 (by decide) (by decide), e 11 (by decide) (by decide), rK_r e, txL_r e]
theorem ltB_r (e : rEq M M') : ltB M' = ltB M := by
  funext l o p; unfold ltB; simp only [e 9 (by decide) (by decide), e 10 (by decide) (by decide), e 11 (by decide) (by decide), rK_r e, gd_r e]
theorem smB_r (e : rEq M M') : smB M' = smB M := by
  funext l o p; unfold smB; simp only [isO, e 9 (by decide) (by decide), e 10 (by decide) (by decide), e 11 (by decide) (by decide), e 12 (by decide) (by decide), gd_r e]
theorem shB_r (e : rEq M M') : shB M' = shB M := by
  funext l o p q; unfold shB shD; simp only [e 9 (by decide) (by decide), e 10 (by decide) (by decide), e 11 (by decide) (by decide), e 12 (by decide) (by decide), e 13 (by decide) (by decide)]
theorem hoP_r (e : rEq M M') : hoP M' = hoP M := by
  funext l r; unfold hoP hoT; simp only [isO, e 9 (by decide) (by decide), e 10 (by decide) (by decide), e 11 (by decide) (by decide), e 12 (by decide) (by decide), e 16 (by decide) (by decide), gd_r e]
theorem stB_r (e : rEq M M') : stB M' = stB M := by
  funext l o p x; unfold stB stP; simp only [isO, e 9 (by decide) (by decide), e 10 (by decide) (by decide), e 11 (by decide) (by decide), e 12 (by decide) (by decide), rK_r e, hoP_r e]
theorem kyC_r (e : rEq M M') : kyC M' = kyC M := by
  funext l o p x; unfold kyC kyB kyP; simp only [isO, e 9 (by decide) (by decide), e 10 (by decide) (by decide), e 11 (by decide) (by decide), e 12 (by decide) (by decide), rK_r e, gd_r e]
theorem svQ_r (e : rEq M M') : svQ M' = svQ M := by
  funext l o p r; unfold svQ knP; simp only [isO, e 9 (by decide) (by decide), e 10 (by decide) (by decide), e 11 (by decide) (by decide), e 16 (by decide) (by decide), gd_r e]
theorem vaL_r (e : rEq M M') : vaL M' = vaL M := by
  funext l o p rl; unfold vaL; simp only [stB_r e, shB_r e, smB_r e, ltB_r e, kyC_r e, svQ_r e, txR_r e, tvP_r e, rK_r e, e 12 (by decide) (by decide)]
theorem mkN_r (e : rEq M M') : mkN M' = mkN M := by funext l x; unfold mkN; rw [e 9 (by decide) (by decide)]
theorem thN_r (e : rEq M M') : thN M' = thN M := by
  funext l x; unfold thN dpP; simp only [mkN_r e, gd_r e, e 9 (by decide) (by decide), e 10 (by decide) (by decide)]
theorem obL_r (e : rEq M M') : obL M' = obL M := by
  funext l; unfold obL
  have h : mkP M' = mkP M := by funext r; unfold mkP; rw [e 9 (by decide) (by decide)]
  rw [h]
theorem mvL_r (e : rEq M M') : mvL M' = mvL M := by funext l; unfold mvL; simp only [gd_r e, rK_r e, e 9 (by decide) (by decide)]
theorem paL_r (e : rEq M M') : paL M' = paL M := by
  have h : pSt M' = pSt M := by funext mkO sl pr r; unfold pSt; rw [e 12 (by decide) (by decide)]
  funext mkO sl L; unfold paL; rw [h]
theorem clL_r (e : rEq M M') : clL M' = clL M := by funext l o; unfold clL; simp only [rK_r e, e 9 (by decide) (by decide), e 10 (by decide) (by decide)]
theorem mdN_r (e : rEq M M') : mdN M' = mdN M := by funext n; unfold mdN; rw [e 7 (by decide) (by decide)]
theorem mde_r (e : rEq M M') : mde M' = mde M := by funext r; unfold mde; rw [mdN_r e]
theorem kn_r (e : rEq M M') : kn M' = kn M := by funext r t; unfold kn; rw [e 16 (by decide) (by decide)]
theorem rF_r (e : rEq M M') : rF M' = rF M := by
  funext mkO sl r
  unfold rF rFb rOb rIn
  simp only [mdN_r e, mde_r e, kn_r e, rK_r e, e 6 (by decide) (by decide), e 9 (by decide) (by decide), e 10 (by decide) (by decide), e 11 (by decide) (by decide), e 12 (by decide) (by decide), e 13 (by decide) (by decide), e 16 (by decide) (by decide)]
theorem rA_r {mkO : Nat → Option Nat} {sl : Nat → Int32} (e : rEq M M') (h : rA M mkO sl) : rA M' mkO sl := by
  obtain ⟨h1, h2, h3, h4⟩ := h
  refine ⟨fun r hr => ?_, ?_, fun n hn => ?_, tOk_r e h4⟩
  · rw [mde_r e] at hr; rw [rF_r e]; exact h1 r hr
  · unfold mO; rw [mde_r e, e 9 (by decide) (by decide)]; exact h2
  · rw [mdN_r e, e 7 (by decide) (by decide)]; exact h3 n hn
theorem cl_r {l : List Nat} (e : rEq M M') (h : cl M l) : cl M' l := by unfold cl; rw [mde_r e, kn_r e]; exact h
theorem chF_r (e : rEq M M') : chF M' = chF M := by funext sl r; unfold chF; rw [e 9 (by decide) (by decide), e 11 (by decide) (by decide)]
theorem cRow_r {sl ch : Nat → Int32} {S : cSt} {r a : Nat} (e : rEq M M') (h : cRow M sl ch S r a) : cRow M' sl ch S r a := by
  unfold cRow
  rw [e 9 (by decide) (by decide), e 10 (by decide) (by decide), e 11 (by decide) (by decide), e 12 (by decide) (by decide), e 13 (by decide) (by decide), e 14 (by decide) (by decide), e 15 (by decide) (by decide), e 16 (by decide) (by decide)]
  exact h
theorem chL_r (e : rEq M M') : chL M' = chL M := by funext ch l c; unfold chL; rw [rK_r e]
end Q
section C
variable {M : mSt} {mkO : Nat → Option Nat} {sl : Nat → Int32} {l : List Nat} {r : Nat}
/-- a row that can be applied next -/
def nxt (M : mSt) (l : List Nat) (r : Nat) : Prop := mde M r ∧ r ∉ l ∧ ∀ t, mde M t → kn M r t → t ∈ l
theorem cl_app (hc : cl M l) (hr : nxt M l r) : cl M (l ++ [r]) := by
  intro i hi
  by_cases h : i < l.length
  · have e1 : (l ++ [r])[i] = l[i] := List.getElem_append_left h
    have e2 : (l ++ [r]).take i = l.take i := List.take_append_of_le_length (by omega)
    rw [e1, e2]; exact hc i h
  · have hi2 : i = l.length := by rw [List.length_append, List.length_singleton] at hi; omega
    subst hi2
    have e1 : (l ++ [r])[l.length] = r := by rw [List.getElem_append_right (Nat.le_refl _)]; simp
    have e2 : (l ++ [r]).take l.length = l := by rw [List.take_append_of_le_length (Nat.le_refl _), List.take_length]
    rw [e1, e2]; exact hr
/-- what a row is about: what it turns, or itself -/
def sbj (M : mSt) (r : Nat) : Nat := if tuS (M.2 9 r) then (rOf (M.2 13 r)).getD 0 else r
theorem sbj_tu (hA : rA M mkO sl) (hr : mde M r) (hs : tuS (M.2 9 r)) : mde M (sbj M r) ∧ rOf (M.2 13 r) = some (sbj M r) ∧ cbU (M.2 9 (sbj M r)) ∧ kn M r (sbj M r) := by
  obtain ⟨t, t1, t2, t3, t4, t5⟩ := tu_tg hA hr hs
  unfold sbj
  rw [if_pos hs, t4]
  exact ⟨t1, rfl, t5, (kn_own (hA.1 r hr) t2).mpr t3⟩
theorem sbj_no (hs : ¬ tuS (M.2 9 r)) : sbj M r = r := if_neg hs
theorem sbj_md (hA : rA M mkO sl) (hr : mde M r) : mde M (sbj M r) := by
  by_cases hs : tuS (M.2 9 r)
  · exact (sbj_tu hA hr hs).1
  · rw [sbj_no hs]; exact hr
theorem sbj_in (hA : rA M mkO sl) (hr : nxt M l r) : sbj M r ∈ l ++ [r] := by
  by_cases hs : tuS (M.2 9 r)
  · obtain ⟨t1, _, _, t4⟩ := sbj_tu hA hr.1 hs
    exact List.mem_append_left _ (hr.2.2 _ t1 t4)
  · rw [sbj_no hs]; simp
theorem sbj_nt (hA : rA M mkO sl) (hr : mde M r) : ¬ tuS (M.2 9 (sbj M r)) := by
  by_cases hs : tuS (M.2 9 r)
  · obtain ⟨_, _, t3, _⟩ := sbj_tu hA hr hs
    intro h
    unfold cbU at t3
    rcases h with h | h <;> (rw [h] at t3; revert t3; decide)
  · rw [sbj_no hs]; exact hs
/-- seen as good -/
def G (M : mSt) (l : List Nat) (q : Nat) : Bool := decide (q ∈ l) && gd M l q
/-- all but its subject is as it was -/
theorem G_eq (hA : rA M mkO sl) (hr : nxt M l r) {q : Nat} (hq : q ≠ sbj M r) (hs : ¬ tuS (M.2 9 q)) : G M (l ++ [r]) q = G M l q := by
  unfold G
  have h1 : gd M (l ++ [r]) q = gd M l q := gd_new (fun h => by
    refine hq ?_
    have := (sbj_tu hA hr.1 h.1).2.1
    rw [h.2] at this
    exact Option.some.inj this)
  rw [h1]
  congr 1
  rw [decide_eq_decide, List.mem_append, List.mem_singleton]
  constructor
  · rintro (h | h)
    · exact h
    · subst h
      exact absurd (sbj_no hs).symm hq
  · exact Or.inl
theorem G_l (u : List Nat) {q : Nat} (h : q ∈ u) : G M u q = gd M u q := by unfold G; rw [decide_eq_true h, Bool.true_and]
/-- filters that look at good rows other than the subject -/
theorem flt_app (hr : nxt M l r) {P P' : Nat → Bool} (h1 : P' r = false) (h2 : ∀ q ∈ l, P' q = P q) : (l ++ [r]).filter P' = l.filter P := by
  rw [List.filter_append, List.filter_cons, h1]
  simp only [Bool.false_eq_true, if_false, List.filter_nil, List.append_nil]
  exact List.filter_congr h2
end C

