-- part 67: a new row among the others
def mkN2 (mkO : Nat → Option Nat) (s : Int32) (j r : Nat) : Nat → Option Nat := if s = 0 then upo mkO j (some r) else mkO
section R
variable {M M1 : mSt} {mkO : Nat → Option Nat} {sl : Nat → Int32} {n j : Nat} {l : List Nat} {s o p v w t c : Int32}
theorem rN_new (hm : mdN M n < 250) : rN (250 * n + mdN M n) = n := by unfold rN; omega
theorem rM_new (hm : mdN M n < 250) : rM (250 * n + mdN M n) = mdN M n + 1 := by unfold rM; omega
theorem new_mde (hn : n < 4) (hm : mdN M n < 250) (e : nwE M n (250 * n + mdN M n) s o p v w t c M1) {q : Nat} : mde M1 q ↔ mde M q ∨ q = 250 * n + mdN M n := by
  have h7 : ∀ n', mdN M1 n' = if n' = n then mdN M n + 1 else mdN M n' := fun n' => by
    unfold mdN
    rw [e.1.1]
    by_cases h : n' = n
    · rw [if_pos h, h, upd_s, jI_cl (by have : mdN M n < 250 := hm; unfold mdN at this; omega)]; rfl
    · rw [if_neg h, upd_o _ _ h]
  unfold mde
  rw [h7]
  constructor
  · rintro ⟨h1, h2⟩
    by_cases h : rN q = n
    · rw [if_pos h] at h2
      by_cases h3 : rM q ≤ mdN M n
      · exact Or.inl ⟨h1, by rw [h]; exact h3⟩
      · refine Or.inr (row_eq (by rw [rN_new hm, h]) (by rw [rM_new hm]; omega))
    · rw [if_neg h] at h2
      exact Or.inl ⟨h1, h2⟩
  · rintro (⟨h1, h2⟩ | h)
    · refine ⟨h1, ?_⟩
      by_cases h : rN q = n
      · rw [if_pos h]; rw [h] at h2; omega
      · rw [if_neg h]; exact h2
    · subst h
      rw [rN_new hm, rM_new hm, if_pos rfl]
      exact ⟨by omega, Nat.le_refl _⟩
theorem new_mdN (hm : mdN M n < 250) (e : nwE M n (250 * n + mdN M n) s o p v w t c M1) (n' : Nat) : mdN M1 n' = if n' = n then mdN M n + 1 else mdN M n' := by
  unfold mdN
  rw [e.1.1]
  by_cases h : n' = n
  · rw [if_pos h, h, upd_s, jI_cl (by have : mdN M n < 250 := hm; unfold mdN at this; omega)]; rfl
  · rw [if_neg h, upd_o _ _ h]
/-- the other rows are as they were -/
theorem new_on (hm : mdN M n < 250) (e : nwE M n (250 * n + mdN M n) s o p v w t c M1) : rOn (fun q => q ≠ 250 * n + mdN M n) M M1 := by
  obtain ⟨-, ⟨e9, e10, e11, e12, e13, e14, e15⟩, -, e16, ee⟩ := e
  refine ⟨fun q hq => ⟨⟨by rw [e9, upd_o _ _ hq], by rw [e10, upd_o _ _ hq], by rw [e11, upd_o _ _ hq], by rw [e12, upd_o _ _ hq], by rw [e13, upd_o _ _ hq], by rw [e14, upd_o _ _ hq], by rw [e15, upd_o _ _ hq]⟩, fun i hi => e16 _ (by omega)⟩, (ee 5 (by omega)).2, (ee 6 (by omega)).2⟩
theorem new_nm (hm : mdN M n < 250) : ¬ mde M (250 * n + mdN M n) := fun h => by
  have := h.2
  rw [rN_new hm, rM_new hm] at this
  omega
/-- who knew what is as it was; nobody knew the new row -/
theorem new_kn (hA : rA M mkO sl) (hn : n < 4) (hm : mdN M n < 250) (e : nwE M n (250 * n + mdN M n) s o p v w t c M1) {q q' : Nat} (hq : mde M q) (hq' : q' < 1000) : kn M1 q q' ↔ kn M q q' := by
  have hne : q ≠ 250 * n + mdN M n := fun h => new_nm hm (h ▸ hq)
  unfold kn
  rw [((new_on hm e).1 q hne).2 (rN q') (rN_lt hq')]
theorem new_not (hA : rA M mkO sl) (hn : n < 4) (hm : mdN M n < 250) {q : Nat} (hq : mde M q) : ¬ kn M q (250 * n + mdN M n) := by
  unfold kn
  rw [rN_new hm, rM_new hm]
  obtain ⟨x, x1, x2⟩ := (hA.1 q hq).2.1 n hn
  rw [x2, jI_le (by omega) (by omega)]
  omega
/-- the new row knew what its node had applied -/
theorem new_kr (hn : n < 4) (hm : mdN M n < 250) (hk : knL M n l) (e : nwE M n (250 * n + mdN M n) s o p v w t c M1) {q : Nat} (hq : q < 1000) : kn M1 (250 * n + mdN M n) q ↔ q ∈ l := by
  unfold kn
  rw [e.2.2.1 _ (rN_lt hq)]
  exact hk.2 q hq
theorem rOb_new {q : Nat} (h : rOb M mkO sl q) {mkO' : Nat → Option Nat} {sl' : Nat → Int32} (h9 : M1.2 9 q = M.2 9 q) (h10 : M1.2 10 q = M.2 10 q) (h11 : M1.2 11 q = M.2 11 q) (h6 : M1.2 6 = M.2 6) (hsl : sl' q = sl q) (hmk : ∀ j m, mkO j = some m → mkO' j = some m) (hmd : ∀ m, mde M m → mde M1 m ∧ M1.2 9 m = M.2 9 m ∧ M1.2 12 m = M.2 12 m ∧ (kn M q m → kn M1 q m)) : rOb M1 mkO' sl' q := by
  obtain ⟨j, m, kd, a1, a2, a3, a4, a5, a6, a7, a8, a9, a10, a11⟩ := h
  obtain ⟨b1, b2', b3, b4⟩ := hmd m a4
  refine ⟨j, m, kd, a1, a2, hmk j m a3, b1, by rw [b2']; exact a5, by rw [b3]; exact a6, by rw [h10]; exact a7, by rw [hsl]; exact a8, b4 a9, ?_, ?_⟩
  · rw [h9, h11]; exact a10
  · rw [h9, h11, h6]; exact a11
end R
section R2
variable {M M1 : mSt} {mkO : Nat → Option Nat} {sl : Nat → Int32} {n j : Nat} {l : List Nat} {s o p v w : Int32}
theorem tS_lt {a b : Nat} {T C t c : Nat} (hC : C < 1048576) (h : T < t ∨ (T = t ∧ C < c)) : T * 1048576 + C < t * 1048576 + c := by
  rcases h with h | ⟨h1, h2⟩
  · have := Nat.mul_le_mul_right 1048576 (show T + 1 ≤ t from h)
    rw [Nat.add_mul, Nat.one_mul] at this
    omega
  · rw [h1]; omega
/-- the new row's time and stamp -/
theorem new_time {W : Nat} (hw : M.2 17 n = Int32.ofNat W) (hW : W < 1048576) {T C : Nat} (hT : M.2 18 n = Int32.ofNat T) (hC : M.2 19 n = Int32.ofNat C) (hT1 : T < 1048576) (hC1 : C + 1 < 1048576) : ∃ t c, nwT M n = Int32.ofNat t ∧ stM M n = Int32.ofNat c ∧ t < 1048576 ∧ c ≤ C + 1 ∧ (t = W ∨ t = T) ∧ T ≤ t ∧ (T < t ∨ (T = t ∧ C < c)) := by
  unfold stM
  have hnw : nwT M n = Int32.ofNat (if W ≤ T then T else W) := by
    unfold nwT
    rw [hw, hT]
    by_cases h : W ≤ T
    · rw [if_pos ((jI_le (by omega) (by omega)).mpr h), if_pos h]
    · rw [if_neg (fun q => h ((jI_le (by omega) (by omega)).mp q)), if_neg h]
  rw [hnw, hT, hC]
  by_cases h : W ≤ T
  · rw [if_pos h, if_pos rfl]
    exact ⟨T, C + 1, rfl, by rw [show (1 : Int32) = Int32.ofNat 1 from rfl, jI_add], hT1, Nat.le_refl _, Or.inr rfl, Nat.le_refl _, Or.inr ⟨rfl, by omega⟩⟩
  · rw [if_neg h, if_neg (fun q => h (Nat.le_of_eq ((jI_inj (by omega) (by omega)).mp q)))]
    exact ⟨W, 0, rfl, rfl, hW, Nat.zero_le _, Or.inl rfl, by omega, Or.inl (by omega)⟩
theorem new_rA (hA : rA M mkO sl) (hsl : slI M mkO) (hn : n < 4) (hm : mdN M n < 250) (hN : nM M mkO sl n l) (hown : ∀ q, mde M q → rN q = n → q ∈ l) (hd : dOk M mkO n l j s o p v w) {W : Nat} (hw : M.2 17 n = Int32.ofNat W) (hW : W < 1048576) (hC1 : ∀ C, M.2 19 n = Int32.ofNat C → C < 1048576 → C + 1 < 1048576) (e : nwE M n (250 * n + mdN M n) s o p v w (nwT M n) (stM M n) M1) : rA M1 (mkN2 mkO s j (250 * n + mdN M n)) (upd sl (250 * n + mdN M n) (Int32.ofNat j)) ∧ slI M1 (mkN2 mkO s j (250 * n + mdN M n)) ∧ nxt M1 l (250 * n + mdN M n) := by
  have hmde := fun q => new_mde (q := q) hn hm e
  have hon := new_on hm e
  have hnm := new_nm (M := M) (n := n) hm
  have hkn := fun (q q' : Nat) hq hq' => new_kn (q := q) (q' := q') hA hn hm e hq hq'
  have hnot := fun (q : Nat) hq => new_not (q := q) hA hn hm hq
  have hkr := fun (q : Nat) hq => new_kr (q := q) hn hm hN.2.1 e hq
  have hmdn := new_mdN hm e
  have hrN := rN_new (M := M) (n := n) hm
  have hrM := rM_new (M := M) (n := n) hm
  have hr1 : 250 * n + mdN M n < 1000 := by omega
  have hcl := hN.1.2.1
  obtain ⟨T, C, g1, g2, g3, g4, g5, g6⟩ := hN.2.2.2.2
  obtain ⟨t, c, t1, t2, t3, t4, t5, t6, t7⟩ := new_time hw hW g1 g2 g3 (hC1 C g2 g4)
  generalize hr : 250 * n + mdN M n = r at *
  obtain ⟨-, ⟨e9, e10, e11, e12, e13, e14, e15⟩, ev, -, -⟩ := id e
  have hC2 := hC1 C g2 g4
  have htr : (M1.2 14 r).toNatClampNeg = t ∧ (M1.2 15 r).toNatClampNeg = c := by
    rw [e14, e15, upd_s, upd_s, t1, t2, jI_cl (by omega), jI_cl (by omega)]; exact ⟨rfl, rfl⟩
  have hrl : r ∉ l := fun h => hnm (cl_mem hcl h)
  have hne : ∀ q, mde M q → q ≠ r := fun q hq h => hnm (h ▸ hq)
  have hrK : ∀ q, mde M q → rK M1 q = rK M q := fun q hq => rK_on hon (hne q hq)
  have hf : ∀ q, mde M q → (M1.2 9 q = M.2 9 q ∧ M1.2 10 q = M.2 10 q ∧ M1.2 11 q = M.2 11 q ∧ M1.2 12 q = M.2 12 q ∧ M1.2 13 q = M.2 13 q ∧ M1.2 14 q = M.2 14 q ∧ M1.2 15 q = M.2 15 q) := fun q hq => (hon.1 q (hne q hq)).1
  have hmk : ∀ j' m, mkO j' = some m → mkN2 mkO s j r j' = some m := fun j' m h => by
    unfold mkN2
    by_cases hs : s = 0
    · rw [if_pos hs, upo_o, h]
      intro hj
      obtain ⟨⟨cc, c1, c2, c3⟩, -⟩ := hd.2.1 hs
      obtain ⟨c', _, c5, c6⟩ := hsl.2 n hn
      have : cc = c' := by
        have := c2.symm.trans c5
        have h12 : c' ≤ 12 := by assumption
        exact (jI_inj (by omega) (by omega)).mp this
      subst this
      have hnone := (c6 cc c1).mpr (Nat.le_refl _)
      rw [hj, c3, hnone] at h; cases h
    · rw [if_neg hs]; exact h
  have hmd1 : ∀ m, mde M m → mde M1 m := fun m h => (hmde m).mpr (Or.inl h)
  -- the old rows
  have old : ∀ q, mde M q → rF M1 (mkN2 mkO s j r) (upd sl r (Int32.ofNat j)) q := fun q hq => by
    obtain ⟨q1, q2, q3, q4, q5, q6, q7, q8, q9, q10, q11, q12⟩ := hA.1 q hq
    obtain ⟨f9, f10, f11, f12, f13, f14, f15⟩ := hf q hq
    have fv : ∀ i, i < 4 → M1.2 16 (4 * q + i) = M.2 16 (4 * q + i) := (hon.1 q (hne q hq)).2
    have fin : ∀ x, rIn M q x → rIn M1 q x := fun x hx => by
      obtain ⟨x1, x2, x3, x4, x5, x6⟩ := hx
      obtain ⟨y9, y10, y11, -⟩ := hf x x1
      exact ⟨hmd1 x x1, by rw [y9]; exact x2, by rw [y10, f10]; exact x3, by rw [y11, f11]; exact x4, by rw [f13]; exact x5, (hkn q x hq x1.1).mpr x6⟩
    refine ⟨by rw [f9]; exact q1, fun i hi => ?_, ?_, fun x hx hk => ?_, fun h0 => ?_, fun ht => ?_, fun ho => ?_, fun h => ?_, fun h => ?_, fun h => ?_, fun h => ?_, fun h => ?_⟩
    · obtain ⟨x, x1, x2⟩ := q2 i hi
      refine ⟨x, ?_, by rw [fv i hi]; exact x2⟩
      rw [hmdn]
      by_cases h : i = n
      · rw [if_pos h]; rw [h] at x1; omega
      · rw [if_neg h]; exact x1
    · rw [fv _ (rN_lt hq.1)]; exact q3
    · rcases (hmde x).mp hx with hx | hx
      · rw [hrK x hx, hrK q hq]
        exact q4 x hx ((hkn q x hq hx.1).mp hk)
      · subst hx
        exact absurd ((hkn q x hq hr1).mp hk) (hnot q hq)
    · rw [f9] at h0
      obtain ⟨⟨j', y1, y2, y3⟩, kd, y4, y5⟩ := q5 h0
      exact ⟨⟨j', y1, hmk j' q y2, by rw [upd_o _ _ (hne q hq)]; exact y3⟩, kd, y4, by rw [f12]; exact y5⟩
    · rw [f9] at ht
      obtain ⟨x, x1, x2, x3, x4, x5⟩ := q6 ht
      exact ⟨x, hmd1 x x1, x2, x3, by rw [f13]; exact x4, by rw [(hf x x1).1]; exact x5⟩
    · rw [f9] at ho
      exact rOb_new (q7 ho) f9 f10 f11 hon.2.2 (upd_o _ _ (hne q hq)) hmk (fun m hmm => ⟨hmd1 m hmm, (hf m hmm).1, (hf m hmm).2.2.2.1, fun hk => (hkn q m hq hmm.1).mpr hk⟩)
    · rw [f9] at h; rw [f13]; exact q8 h
    · rw [f9] at h; rw [f12]; exact q9 h
    · rw [f9] at h; rw [f13]
      rcases q10 h with h0 | ⟨x, hx⟩
      · exact Or.inl h0
      · exact Or.inr ⟨x, fin x hx⟩
    · rw [f9] at h
      obtain ⟨x, hx⟩ := q11 h
      exact ⟨x, fin x hx⟩
    · rw [f9] at h; rw [f12]
      rcases q12 h with h0 | ⟨j', m', z1, z2, z3, z4, z5⟩
      · exact Or.inl h0
      · exact Or.inr ⟨j', m', hmk j' m' z1, hmd1 m' z2, by rw [(hf m' z2).1]; exact z3, z4, (hkn q m' hq z2.1).mpr z5⟩
  -- the new row
  obtain ⟨d1, d2, d3, d4, d5, d6, d7, d8, d9⟩ := hd
  have v9 : M1.2 9 r = s := by rw [e9, upd_s]
  have v10 : M1.2 10 r = o := by rw [e10, upd_s]
  have v11 : M1.2 11 r = p := by rw [e11, upd_s]
  have v12 : M1.2 12 r = v := by rw [e12, upd_s]
  have v13 : M1.2 13 r = w := by rw [e13, upd_s]
  have din : ∀ x, dIn M l o p w x → rIn M1 r x := fun x hx => by
    obtain ⟨x1, x2, x3, x4, x5⟩ := hx
    have hxm := cl_mem hcl x1
    obtain ⟨y9, y10, y11, -⟩ := hf x hxm
    exact ⟨hmd1 x hxm, by rw [y9]; exact x2, by rw [y10, v10]; exact x3, by rw [y11, v11]; exact x4, by rw [v13]; exact x5, (hkr x hxm.1).mpr x1⟩
  have new : rF M1 (mkN2 mkO s j r) (upd sl r (Int32.ofNat j)) r := by
    refine ⟨by rw [v9]; exact d1, fun i hi => ?_, ?_, fun x hx hk => ?_, fun h0 => ?_, fun ht => ?_, fun ho => ?_, fun h => ?_, fun h => ?_, fun h => ?_, fun h => ?_, fun h => ?_⟩
    · obtain ⟨x, x1, x2⟩ := hN.2.2.2.1 i hi
      refine ⟨x, ?_, by rw [ev i hi]; exact x2⟩
      rw [hmdn]
      by_cases h : i = n
      · rw [if_pos h]; rw [h] at x1; omega
      · rw [if_neg h]; exact x1
    · rw [hrN, hrM, ev n hn]
      obtain ⟨x, x1, x2⟩ := hN.2.2.2.1 n hn
      rw [x2]
      congr 1
      refine Nat.le_antisymm (by omega) ?_
      rcases Nat.eq_zero_or_pos (mdN M n) with h0 | h0
      · omega
      · have hq : mde M (r - 1) := ⟨by omega, by unfold rM rN; rw [show (r - 1) / 250 = n by omega]; omega⟩
        have hqn : rN (r - 1) = n := by unfold rN; omega
        have h1 := (hN.2.1.2 (r - 1) (by omega)).mpr (hown _ hq hqn)
        rw [hqn, x2, jI_le (by unfold rM; omega) (by omega)] at h1
        unfold rM at h1
        omega
    · rcases (hmde x).mp hx with hx | hx
      · have hxl := (hkr x hx.1).mp hk
        have h1 := g5 x hxl
        rw [hrK x hx]
        have h2 : tS M x < t * 1048576 + c := Nat.lt_of_le_of_lt h1 (tS_lt (a := 0) (b := 0) g4 t7)
        unfold rK
        rw [htr.1, htr.2, hrN]
        unfold tS at h2
        have := rN_lt hx.1
        omega
      · subst hx
        exact absurd ((hkr x hr1).mp hk) hrl
    · rw [v9] at h0
      obtain ⟨⟨cc, c1, c2, c3⟩, kd, k1, k2⟩ := d2 h0
      refine ⟨⟨j, by omega, ?_, upd_s _ _ _⟩, kd, k1, by rw [v12]; exact k2⟩
      unfold mkN2; rw [if_pos h0, upo_s]
    · rw [v9] at ht
      obtain ⟨x, x1, x2, x3, x4⟩ := d3 ht
      refine ⟨x, hmd1 x x1, by rw [x2, hrN], ?_, by rw [v13]; exact x3, by rw [(hf x x1).1]; exact x4⟩
      rw [hrM]; have := x1.2; rw [x2] at this; omega
    · rw [v9] at ho
      obtain ⟨m, kd, k1, k2, k3, k4, k5, k6, k7⟩ := d4 ho
      obtain ⟨m1, m2, m3⟩ := hA.2.1.1 j m k2
      refine ⟨j, m, kd, m1, k1, hmk j m k2, hmd1 m m2, by rw [(hf m m2).1]; exact m3, by rw [(hf m m2).2.2.2.1]; exact k4, by rw [v10]; exact k5, upd_s _ _ _, (hkr m m2.1).mpr k3, ?_, ?_⟩
      · rw [v9, v11]; exact k6
      · rw [v9, v11, hon.2.2]; exact k7
    · rw [v9] at h; rw [v13]; exact d5 h
    · rw [v9] at h; rw [v12]; exact d6 h
    · rw [v9] at h; rw [v13]
      rcases d7 h with h0 | ⟨x, hx⟩
      · exact Or.inl h0
      · exact Or.inr ⟨x, din x hx⟩
    · rw [v9] at h
      obtain ⟨x, hx⟩ := d8 h
      exact ⟨x, din x hx⟩
    · rw [v9] at h; rw [v12]
      rcases d9 h with h0 | ⟨j', m', z1, z2, z3⟩
      · exact Or.inl h0
      · obtain ⟨m1, m2, m3⟩ := hA.2.1.1 j' m' z1
        exact Or.inr ⟨j', m', hmk j' m' z1, hmd1 m' m2, by rw [(hf m' m2).1]; exact m3, z3, (hkr m' m2.1).mpr z2⟩
  have hmkc : ∀ j' m, mkN2 mkO s j r j' = some m → (mkO j' = some m) ∨ (s = 0 ∧ j' = j ∧ m = r) := fun j' m h => by
    unfold mkN2 at h
    by_cases hs : s = 0
    · rw [if_pos hs] at h
      by_cases hj : j' = j
      · subst hj; rw [upo_s] at h; exact Or.inr ⟨hs, rfl, (Option.some.inj h).symm⟩
      · rw [upo_o _ _ hj] at h; exact Or.inl h
    · rw [if_neg hs] at h; exact Or.inl h
  have hjr : s = 0 → j / 12 = n ∧ j < 48 ∧ mkO j = none ∧ ∀ j' m', mkO j' = some m' → (j' < j → rNm m' < rNm r) ∧ (j < j' → rNm r < rNm m') := fun hs => by
    obtain ⟨⟨cc, c1, c2, c3⟩, -⟩ := d2 hs
    obtain ⟨c', c4, c5, c6⟩ := hsl.2 n hn
    have : cc = c' := (jI_inj (by omega) (by omega)).mp (c2.symm.trans c5)
    subst this
    refine ⟨by omega, by omega, by rw [c3]; exact (c6 cc c1).mpr (Nat.le_refl _), fun j' m' hm' => ?_⟩
    have hnm' := hsl.1 j' m' hm'
    obtain ⟨x1, x2, x3⟩ := hA.2.1.1 j' m' hm'
    have x4 := x2.2
    have x5 := rM_le m'
    have x6 : rNm r = 1000 * n + (mdN M n + 1) := by unfold rNm; rw [hrN, hrM]
    have x7 : rNm m' = 1000 * rN m' + rM m' := rfl
    constructor
    · intro hlt
      rcases Nat.lt_or_eq_of_le (show rN m' ≤ n by omega) with h | h
      · omega
      · rw [h] at x4; omega
    · intro hlt
      rcases Nat.lt_or_eq_of_le (show n ≤ rN m' by omega) with h | h
      · omega
      · exfalso
        have hlo : j' = 12 * n + (j' - 12 * n) := by omega
        have hi : j' - 12 * n < 12 := by omega
        have hnone := (c6 (j' - 12 * n) hi).mpr (by omega)
        rw [← hlo, hm'] at hnone; cases hnone
  refine ⟨⟨fun q hq => ?_, ⟨fun j' m h => ?_, fun j1 j2 m h1 h2 => ?_, fun j1 j2 m1 m2 hlt h1 h2 => ?_⟩, fun n' hn' => ?_, fun q hq => ?_⟩, ⟨fun j' m h => ?_, fun n' hn' => ?_⟩, (hmde r).mpr (Or.inr rfl), hrl, fun q hq hk => ?_⟩
  · rcases (hmde q).mp hq with hq | hq
    · exact old q hq
    · subst hq; exact new
  · rcases hmkc j' m h with h | ⟨hs, h1, h2⟩
    · obtain ⟨x1, x2, x3⟩ := hA.2.1.1 j' m h
      exact ⟨x1, hmd1 m x2, by rw [(hf m x2).1]; exact x3⟩
    · subst h1; subst h2
      exact ⟨(hjr hs).2.1, (hmde _).mpr (Or.inr rfl), by rw [v9]; exact hs⟩
  · rcases hmkc j1 m h1 with a | ⟨hs, a1, a2⟩
    · rcases hmkc j2 m h2 with b | ⟨hs, b1, b2'⟩
      · exact hA.2.1.2.1 j1 j2 m a b
      · subst b2'; exact absurd (hA.2.1.1 j1 _ a).2.1 hnm
    · rcases hmkc j2 m h2 with b | ⟨hs, b1, b2'⟩
      · subst a2; exact absurd (hA.2.1.1 j2 _ b).2.1 hnm
      · rw [a1, b1]
  · rcases hmkc j1 m1 h1 with a | ⟨hs, a1, a2⟩
    · rcases hmkc j2 m2 h2 with b | ⟨hs, b1, b2'⟩
      · exact hA.2.1.2.2 j1 j2 m1 m2 hlt a b
      · rw [b2']; exact ((hjr hs).2.2.2 j1 m1 a).1 (by omega)
    · rcases hmkc j2 m2 h2 with b | ⟨hs', b1, b2'⟩
      · rw [a2]; exact ((hjr hs).2.2.2 j2 m2 b).2 (by omega)
      · omega
  · rw [hmdn]
    by_cases h : n' = n
    · rw [if_pos h, e.1.1, h, upd_s]; exact ⟨by omega, rfl⟩
    · rw [if_neg h, e.1.1, upd_o _ _ h]; exact hA.2.2.1 n' hn'
  · by_cases h : q = r
    · subst h
      rw [e14, e15, upd_s, upd_s, t1, t2, jI_cl (by omega), jI_cl (by omega)]
      exact ⟨jI_nn (by omega), t3, jI_nn (by omega), by omega⟩
    · rw [e14, e15, upd_o _ _ h, upd_o _ _ h]; exact hA.2.2.2 q hq
  · rcases hmkc j' m h with h | ⟨hs, h1, h2⟩
    · exact hsl.1 j' m h
    · rw [h2, hrN, h1]; exact (hjr hs).1.symm
  · obtain ⟨cc, c1, c2, c3⟩ := hsl.2 n' hn'
    rw [e.1.2]
    by_cases h : n' = n
    · subst h
      rw [upd_s]
      by_cases hs : s = 0
      · obtain ⟨⟨c', c4, c5, c6⟩, -⟩ := d2 hs
        have : cc = c' := (jI_inj (by omega) (by omega)).mp (c2.symm.trans c5)
        subst this
        refine ⟨cc + 1, by omega, by rw [if_pos hs, c2, show (1 : Int32) = Int32.ofNat 1 from rfl, jI_add], fun i hi => ?_⟩
        unfold mkN2
        rw [if_pos hs]
        by_cases hij : 12 * n' + i = j
        · rw [hij, upo_s]
          exact ⟨fun q => (by cases q), fun q => by omega⟩
        · rw [upo_o _ _ hij, c3 i hi]
          omega
      · refine ⟨cc, c1, by rw [if_neg hs, Int32.add_zero]; exact c2, fun i hi => ?_⟩
        unfold mkN2
        rw [if_neg hs]; exact c3 i hi
    · rw [upd_o _ _ h]
      refine ⟨cc, c1, c2, fun i hi => ?_⟩
      unfold mkN2
      by_cases hs : s = 0
      · obtain ⟨⟨c', c4, c5, c6⟩, -⟩ := d2 hs
        rw [if_pos hs, upo_o _ _ (by omega)]; exact c3 i hi
      · rw [if_neg hs]; exact c3 i hi
  · exact (hkr q hq.1).mp hk
end R2
