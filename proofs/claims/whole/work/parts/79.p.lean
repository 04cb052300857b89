-- part 79: what is stable, what is there
section T
variable {S S' : cSt} {M A : mSt} {ra : Nat → Nat} {sl : Nat → Int32} {mkO : Nat → Option Nat} {x0 k n bk : Nat} {l : List Nat}
/-- the numbers of what a node knows that others have seen -/
def snO (M : mSt) (n : Nat) (sx : Nat → Nat → Nat) : Prop := ∀ m q, m < 4 → q < 4 → snV M n m q = Int32.ofNat (sx m q) ∧ sx m q ≤ 250
theorem k_knownOf {nd q : Nat} {sx : Nat → Nat → Nat} (hn : n < 4) (hy : cNy S nd bk n) (hs : ∀ m q, m < 4 → q < 4 → kI S (nd + 5) (4 * m + q) = Int32.ofNat (sx m q)) (hq : q < 4) : fk_7_knownOf S nd (Int32.ofNat q) = some (Int32.ofNat (sx n q)) := by
  unfold fk_7_knownOf
  rw [ckk_y hy.1.1, hy.1.2.2.2.2.2.2.1, bd_s, ckk_y hy.1.1, ckk_y hy.2.2.1.1, hy.2.2.1.2, hy.1.2.1, show (4 : Int32) = Int32.ofNat 4 from rfl, jI_mul, jI_add, ck_n (by omega) (by omega), jI_cl (by omega), hs n q hn hq]
theorem k_stableOf {nd q : Nat} {sx : Nat → Nat → Nat} (hn : n < 4) (hy : cNy S nd bk n) (hs : ∀ m q, m < 4 → q < 4 → kI S (nd + 5) (4 * m + q) = Int32.ofNat (sx m q)) (hb : ∀ m q, m < 4 → q < 4 → sx m q ≤ 250) (hq : q < 4) : ∃ a, fk_7_stableOf S nd (Int32.ofNat q) = some (Int32.ofNat a) ∧ a ≤ 250 ∧ ∀ y, y ≤ a ↔ ∀ m, m < 4 → y ≤ sx m q := by
  unfold fk_7_stableOf
  rw [ckk_y hy.1.1, k_knownOf hn hy hs hq, bd_s]
  have key : ∀ (j i fu a : Nat), i + j = 4 → j < fu → a ≤ 250 → (∀ y, y ≤ a ↔ y ≤ sx n q ∧ ∀ m, m < i → y ≤ sx m q) → ∃ a', fk_7_stableOf_8 S fu nd (Int32.ofNat q) (Int32.ofNat a) (Int32.ofNat i) = some (Int32.ofNat a') ∧ a' ≤ 250 ∧ ∀ y, y ≤ a' ↔ y ≤ sx n q ∧ ∀ m, m < 4 → y ≤ sx m q := by
    intro j
    induction j with
    | zero =>
      intro i fu a hi hf ha h
      obtain ⟨fu, rfl⟩ : ∃ q, fu = q + 1 := ⟨fu - 1, by omega⟩
      have e : i = 4 := by omega
      subst e
      rw [fk_7_stableOf_8, if_pos (show (4 : Int32) ≤ Int32.ofNat 4 by decide)]
      exact ⟨a, rfl, ha, h⟩
    | succ j ih =>
      intro i fu a hi hf ha h
      obtain ⟨fu, rfl⟩ : ∃ q, fu = q + 1 := ⟨fu - 1, by omega⟩
      have hbi := hb i q (by omega) hq
      rw [fk_7_stableOf_8, if_neg (jK 4 4 rfl (by omega) (by decide)), ckk_y hy.1.1, hy.1.2.2.2.2.2.2.1, bd_s, ckk_y hy.2.2.1.1, hy.2.2.1.2, show (4 : Int32) = Int32.ofNat 4 from rfl, jI_mul, jI_add, ck_n (by omega) (by omega), jI_cl (by omega), hs i q (by omega) hq, lt_d, lt_d, show (1 : Int32) = Int32.ofNat 1 from rfl, jI_add]
      by_cases c : sx i q < a
      · rw [if_pos ((jI_lt (by omega) (by omega)).mpr c)]
        refine ih (i + 1) fu (sx i q) (by omega) (by omega) hbi (fun y => ⟨fun hy' => ?_, fun hy' => hy'.2 i (by omega)⟩)
        have := (h y).mp (by omega)
        refine ⟨this.1, fun m hm => ?_⟩
        by_cases e : m = i
        · rw [e]; exact hy'
        · exact this.2 m (by omega)
      · rw [if_neg (fun q => c ((jI_lt (by omega) (by omega)).mp q))]
        refine ih (i + 1) fu a (by omega) (by omega) ha (fun y => ⟨fun hy' => ?_, fun hy' => (h y).mpr ⟨hy'.1, fun m hm => hy'.2 m (by omega)⟩⟩)
        have := (h y).mp hy'
        refine ⟨this.1, fun m hm => ?_⟩
        by_cases e : m = i
        · rw [e]; omega
        · exact this.2 m (by omega)
  obtain ⟨a, h1, h2, h3⟩ := key 4 0 mFU (sx n q) rfl (by decide) (hb n q hn hq) (fun y => ⟨fun h => ⟨h, fun m hm => absurd hm (by omega)⟩, fun h => h.1⟩)
  refine ⟨a, h1, h2, fun y => ⟨fun h => ((h3 y).mp h).2, fun h => (h3 y).mpr ⟨h n hn, h⟩⟩⟩
theorem sbP_sx {sx : Nat → Nat → Nat} (hs : snO M n sx) (hn : n < 4) {r : Nat} (hr : r < 1000) (hk : rM r ≤ sx n (rN r)) : sbP M n r = true ↔ ∀ m, m < 4 → rM r ≤ sx m (rN r) := by
  unfold sbP
  rw [List.all_eq_true]
  have hM := rM_le r
  constructor
  · intro h m hm
    have := of_decide_eq_true (h m (List.mem_range.mpr hm))
    rcases this with e | e
    · rw [e]; exact hk
    · by_cases e2 : m = n
      · rw [e2]; exact hk
      have h1 := (hs m (rN r) hm (rN_lt hr)).1
      unfold snV at h1
      rw [if_neg e2] at h1
      have hb := (hs m (rN r) hm (rN_lt hr)).2
      rw [h1] at e
      exact (jI_le (by omega) (by omega)).mp e
  · intro h m hm
    rw [List.mem_range] at hm
    refine decide_eq_true ?_
    by_cases e2 : m = n
    · exact Or.inl e2
    · right
      have h1 := (hs m (rN r) hm (rN_lt hr)).1
      unfold snV at h1
      rw [if_neg e2] at h1
      have hb := (hs m (rN r) hm (rN_lt hr)).2
      rw [h1]
      exact (jI_le (by omega) (by omega)).mpr (h m hm)
theorem kn_sx {sx : Nat → Nat → Nat} (hs : snO M n sx) (hn : n < 4) (hk : knL M n l) {r : Nat} (hr : r < 1000) : r ∈ l ↔ rM r ≤ sx n (rN r) := by
  rw [← hk.2 r hr]
  have h1 := (hs n (rN r) hn (rN_lt hr))
  have := rM_le r
  unfold snV at h1
  rw [if_pos rfl] at h1
  rw [h1.1, jI_le (by omega) (by omega)]
/-- a node counts the rows that all have seen -/
theorem m_stables (e : mEx sc M A) (h2 : lAt M n l) (h23 : M.2 23 n = Int32.ofNat l.length) : fm_stables A (Int32.ofNat n) = some (Int32.ofNat (l.filter (sbP M n)).length) := by
  unfold fm_stables
  have hn := h2.1
  have hl := h2.2.1
  have key : ∀ (j i fu : Nat), i + j = l.length → j < fu → fm_stables_4 A fu (Int32.ofNat n) (Int32.ofNat ((l.take i).filter (sbP M n)).length) (Int32.ofNat i) = some (Int32.ofNat (l.filter (sbP M n)).length) := by
    intro j
    induction j with
    | zero =>
      intro i fu hi hf
      obtain ⟨fu, rfl⟩ : ∃ q, fu = q + 1 := ⟨fu - 1, by omega⟩
      rw [fm_stables_4, ck_n hn (by omega), rd_e e (by decide) (by omega), h23, if_pos ((jI_le (by omega) (by omega)).mpr (by omega)), List.take_of_length_le (by omega)]
    | succ j ih =>
      intro i fu hi hf
      obtain ⟨fu, rfl⟩ : ∃ q, fu = q + 1 := ⟨fu - 1, by omega⟩
      have hi' : i < l.length := by omega
      have ih' := ih (i + 1) fu (by omega) (by omega)
      rw [List.take_succ_eq_append_getElem hi', List.filter_append, List.length_append] at ih'
      rw [fm_stables_4, ck_n hn (by omega), rd_e e (by decide) (by omega), h23, if_neg (fun q => absurd ((jI_le (by omega) (by omega)).mp q) (by omega)), m_rowAtL e h2 hi', bd_s, m_isStable e hn (h2.2.2 i hi').2, bd_s]
      unfold fm_stables_34
      cases hb : sbP M n l[i]
      · rw [if_pos bFn, lt_d, lt_d, show (1 : Int32) = Int32.ofNat 1 from rfl, jI_add, show (0 : Int32) = Int32.ofNat 0 from rfl, jI_add]
        rw [List.filter_cons_of_neg (by rw [hb]; decide), List.filter_nil] at ih'
        exact ih'
      · rw [if_neg bTn, lt_d, lt_d, show (1 : Int32) = Int32.ofNat 1 from rfl, jI_add, jI_add]
        rw [List.filter_cons_of_pos (by rw [hb]), List.filter_nil] at ih'
        exact ih'
  exact key l.length 0 mFU (by omega) (by have : (1001 : Nat) < mFU := by decide
                                          omega)
/-- as many rows as the four numbers say -/
theorem cnt4 {u : List Nat} (hu : u.Nodup) {a : Nat → Nat} (ha : ∀ q, q < 4 → a q ≤ 250) (hm : ∀ r, r ∈ u ↔ r < 1000 ∧ rM r ≤ a (rN r)) : u.length = a 0 + a 1 + a 2 + a 3 := by
  have h0 := ha 0 (by decide)
  have h1 := ha 1 (by decide)
  have h2 := ha 2 (by decide)
  have h3 := ha 3 (by decide)
  let B : Nat → List Nat := fun q => (List.range (a q)).map (fun i => 250 * q + i)
  have nB : ∀ q, (B q).Nodup := fun q => by
    exact List.Pairwise.map _ (fun a b h e => h (by omega)) List.nodup_range
  have mB : ∀ q x, x ∈ B q ↔ 250 * q ≤ x ∧ x < 250 * q + a q := fun q x => by
    show x ∈ (List.range (a q)).map (fun i => 250 * q + i) ↔ _
    rw [List.mem_map]
    constructor
    · rintro ⟨i, hi, rfl⟩; rw [List.mem_range] at hi; omega
    · rintro ⟨p1, p2⟩; exact ⟨x - 250 * q, List.mem_range.mpr (by omega), by omega⟩
  have hp : u.Perm (B 0 ++ B 1 ++ B 2 ++ B 3) := by
    refine (List.perm_ext_iff_of_nodup hu ?_).mpr (fun x => ?_)
    · refine List.nodup_append.mpr ⟨List.nodup_append.mpr ⟨List.nodup_append.mpr ⟨nB 0, nB 1, ?_⟩, nB 2, ?_⟩, nB 3, ?_⟩
      · intro x hx y hy e; rw [mB] at hx hy; omega
      · intro x hx y hy e; rw [List.mem_append, mB, mB] at hx; rw [mB] at hy; omega
      · intro x hx y hy e; rw [List.mem_append, List.mem_append, mB, mB, mB] at hx; rw [mB] at hy; omega
    · rw [hm, List.mem_append, List.mem_append, List.mem_append, mB, mB, mB, mB]
      constructor
      · rintro ⟨p1, p2⟩
        have : rN x = 0 ∨ rN x = 1 ∨ rN x = 2 ∨ rN x = 3 := by have := rN_lt p1; omega
        rcases this with e | e | e | e <;> rw [e] at p2 <;> unfold rN rM at * <;> omega
      · intro p
        have p1 : x < 1000 := by omega
        refine ⟨p1, ?_⟩
        have : rN x = 0 ∨ rN x = 1 ∨ rN x = 2 ∨ rN x = 3 := by have := rN_lt p1; omega
        rcases this with e | e | e | e <;> rw [e] <;> unfold rN rM at * <;> omega
  rw [hp.length_eq, List.length_append, List.length_append, List.length_append]
  show ((List.range (a 0)).map _).length + ((List.range (a 1)).map _).length + ((List.range (a 2)).map _).length + ((List.range (a 3)).map _).length = _
  rw [List.length_map, List.length_map, List.length_map, List.length_map, List.length_range, List.length_range, List.length_range, List.length_range]
theorem k_stableRows {nd : Nat} {sx : Nat → Nat → Nat} (hn : n < 4) (hy : cNy S nd bk n) (hsx : snO M n sx) (hs : ∀ m q, m < 4 → q < 4 → kI S (nd + 5) (4 * m + q) = snV M n m q) (hk : knL M n l) (hc : cl M l) : fk_7_stableRows S nd = some (Int32.ofNat (l.filter (sbP M n)).length) := by
  have hs' : ∀ m q, m < 4 → q < 4 → kI S (nd + 5) (4 * m + q) = Int32.ofNat (sx m q) := fun m q hm hq => by rw [hs m q hm hq, (hsx m q hm hq).1]
  have hb : ∀ m q, m < 4 → q < 4 → sx m q ≤ 250 := fun m q hm hq => (hsx m q hm hq).2
  obtain ⟨a0, p0, l0, c0⟩ := k_stableOf hn hy hs' hb (q := 0) (by decide)
  obtain ⟨a1, p1, l1, c1⟩ := k_stableOf hn hy hs' hb (q := 1) (by decide)
  obtain ⟨a2, p2, l2, c2⟩ := k_stableOf hn hy hs' hb (q := 2) (by decide)
  obtain ⟨a3, p3, l3, c3⟩ := k_stableOf hn hy hs' hb (q := 3) (by decide)
  unfold fk_7_stableRows
  rw [ckk_y hy.1.1, show (0 : Int32) = Int32.ofNat 0 from rfl, p0, bd_s, ckk_y hy.1.1, show (1 : Int32) = Int32.ofNat 1 from rfl, p1, bd_s, ckk_y hy.1.1, show (2 : Int32) = Int32.ofNat 2 from rfl, p2, bd_s, ckk_y hy.1.1, show (3 : Int32) = Int32.ofNat 3 from rfl, p3, bd_s, jI_add, jI_add, jI_add]
  let a : Nat → Nat := fun q => if q = 0 then a0 else if q = 1 then a1 else if q = 2 then a2 else a3
  have ha : ∀ q, q < 4 → a q ≤ 250 ∧ ∀ y, y ≤ a q ↔ ∀ m, m < 4 → y ≤ sx m q := fun q hq => by
    have : q = 0 ∨ q = 1 ∨ q = 2 ∨ q = 3 := by omega
    rcases this with e | e | e | e <;> subst e
    · exact ⟨l0, c0⟩
    · exact ⟨l1, c1⟩
    · exact ⟨l2, c2⟩
    · exact ⟨l3, c3⟩
  have := cnt4 (u := l.filter (sbP M n)) (List.Pairwise.filter _ (cl_nd hc)) (a := a) (fun q hq => (ha q hq).1) (fun r => ?_)
  · rw [this]; rfl
  · rw [List.mem_filter]
    constructor
    · rintro ⟨q1, q2⟩
      have hr := (cl_mem hc q1).1
      exact ⟨hr, ((ha _ (rN_lt hr)).2 _).mpr ((sbP_sx hsx hn hr ((kn_sx hsx hn hk hr).mp q1)).mp q2)⟩
    · rintro ⟨hr, q2⟩
      have q3 := ((ha _ (rN_lt hr)).2 _).mp q2
      exact ⟨(kn_sx hsx hn hk hr).mpr (q3 n hn), (sbP_sx hsx hn hr (q3 n hn)).mpr q3⟩
theorem k_isStable {nd r : Nat} {sx : Nat → Nat → Nat} (hn : n < 4) (hy : cNy S nd bk n) (hsx : snO M n sx) (hs : ∀ m q, m < 4 → q < 4 → kI S (nd + 5) (4 * m + q) = snV M n m q) (hk : knL M n l) (hr : r ∈ l) (hr1 : r < 1000) (h9 : kK S (ra r) = 9) (h6 : kF S (ra r) 6 = Int32.ofNat (rN r)) (h7 : kF S (ra r) 7 = Int32.ofNat (rM r)) : fk_7_isStable S nd (ra r) = some (b2 (sbP M n r = true)) := by
  have hs' : ∀ m q, m < 4 → q < 4 → kI S (nd + 5) (4 * m + q) = Int32.ofNat (sx m q) := fun m q hm hq => by rw [hs m q hm hq, (hsx m q hm hq).1]
  have hb : ∀ m q, m < 4 → q < 4 → sx m q ≤ 250 := fun m q hm hq => (hsx m q hm hq).2
  obtain ⟨a0, p0, l0, c0⟩ := k_stableOf hn hy hs' hb (q := rN r) (rN_lt hr1)
  have hM := rM_le r
  unfold fk_7_isStable fk_7_isStable_20
  rw [ckk_y h9, ckk_y h9, ckk_y hy.1.1, h6, p0, bd_s, h7]
  by_cases c : a0 < rM r
  · rw [if_pos ((jI_lt (by omega) (by omega)).mpr c), ckz_0, b2_f]
    intro q
    have := (c0 (rM r)).mpr ((sbP_sx hsx hn hr1 ((kn_sx hsx hn hk hr1).mp hr)).mp q)
    omega
  · rw [if_neg (fun q => c ((jI_lt (by omega) (by omega)).mp q)), ckz_1, b2_t]
    exact (sbP_sx hsx hn hr1 ((kn_sx hsx hn hk hr1).mp hr)).mpr ((c0 (rM r)).mp (by omega))
end T
