-- part 20: numbers, and the reference's small functions over rows as numbers
theorem jI_lt {a b : Nat} (ha : a < 2147483648) (hb : b < 2147483648) : Int32.ofNat a < Int32.ofNat b ↔ a < b := Int32.ofNat_lt_iff_lt ha hb
theorem jI_le {a b : Nat} (ha : a < 2147483648) (hb : b < 2147483648) : Int32.ofNat a ≤ Int32.ofNat b ↔ a ≤ b := Int32.ofNat_le_iff_le ha hb
theorem jI_cl {a : Nat} (ha : a < 2147483648) : (Int32.ofNat a).toNatClampNeg = a := Int32.toNatClampNeg_ofNat_of_lt ha
theorem jI_inj {a b : Nat} (ha : a < 2147483648) (hb : b < 2147483648) : Int32.ofNat a = Int32.ofNat b ↔ a = b :=
  ⟨fun h => by have := congrArg Int32.toNatClampNeg h; rwa [jI_cl ha, jI_cl hb] at this, fun h => by rw [h]⟩
theorem jI_nn {a : Nat} (ha : a < 2147483648) : ¬ Int32.ofNat a < 0 := Int32.not_lt.mpr (Int32.zero_le_ofNat_of_lt ha)
theorem jI_add (a b : Nat) : Int32.ofNat a + Int32.ofNat b = Int32.ofNat (a + b) := (Int32.ofNat_add a b).symm
theorem jI_mul (a b : Nat) : Int32.ofNat a * Int32.ofNat b = Int32.ofNat (a * b) := (Int32.ofNat_mul a b).symm
theorem jI_sub {a b : Nat} (h : b ≤ a) : Int32.ofNat a - Int32.ofNat b = Int32.ofNat (a - b) := (Int32.ofNat_sub a b h).symm
theorem jI_div {a b : Nat} (ha : a < 2147483648) (hb : b < 2147483648) : Int32.ofNat a / Int32.ofNat b = Int32.ofNat (a / b) := (Int32.ofNat_div ha hb).symm
theorem jI_rem {a b : Nat} (ha : a < 2147483648) (hb : b < 2147483648) : Int32.ofNat a - Int32.ofNat a / Int32.ofNat b * Int32.ofNat b = Int32.ofNat (a % b) := by
  rw [jI_div ha hb, jI_mul, jI_sub (Nat.div_mul_le_self a b)]
  congr 1
  have := Nat.mod_add_div a b
  rw [Nat.mul_comm] at this
  omega
theorem jI_ne {a : Nat} (ha : a < 2147483648) : Int32.ofNat a ≠ -1 := fun h => by
  have h1 := jI_nn ha
  rw [h] at h1
  exact h1 (by decide)
theorem jI_of {x : Int32} (h : ¬ x < 0) : x = Int32.ofNat x.toNatClampNeg := (Int32.ofNat_toNatClampNeg x (Int32.not_lt.mp h)).symm
theorem jI_clt (x : Int32) : x.toNatClampNeg < 2147483648 := Int32.toNatClampNeg_lt x
theorem ck_n {α : Type} {i n : Nat} {K : Option α} (h : i < n) (hn : i < 2147483648) : ck (Int32.ofNat i) n K = K := by
  unfold ck
  rw [if_neg]
  intro q
  rcases q with q | q
  · exact jI_nn hn q
  · rw [jI_cl hn] at q; omega
theorem rd_n (S : mSt) (k : Nat) {i : Nat} (h : i < 2147483648) : rd S k (Int32.ofNat i) = S.2 k i := by unfold rd; rw [jI_cl h]
theorem bd_s {α β : Type} (x : α) (K : α → Option β) : bd (some x) K = K x := rfl
theorem lt_d {α β : Type} (x : α) (K : α → Option β) : lt x K = K x := rfl
def b2 (p : Prop) [Decidable p] : Int32 := if p then 1 else 0
theorem ckz_0 {α : Type} (K : Option α) : ckz (0 : Int32) K = K := rfl
theorem ckz_1 {α : Type} (K : Option α) : ckz (1 : Int32) K = K := rfl
theorem ckz_b {α : Type} (p : Prop) [Decidable p] (K : Option α) : ckz (b2 p) K = K := by unfold b2; split <;> rfl
theorem b2_0 (p : Prop) [Decidable p] : b2 p = 0 ↔ ¬ p := by unfold b2; split <;> simp_all
theorem b2_t {p : Prop} [Decidable p] (h : p) : b2 p = 1 := if_pos h
theorem b2_f {p : Prop} [Decidable p] (h : ¬ p) : b2 p = 0 := if_neg h
/-- a row's node, number, name -/
def rN (r : Nat) : Nat := r / 250
def rM (r : Nat) : Nat := r % 250 + 1
def rNm (r : Nat) : Nat := 1000 * rN r + rM r
theorem rN_lt {r : Nat} (h : r < 1000) : rN r < 4 := by unfold rN; omega
theorem rM_le (r : Nat) : 1 ≤ rM r ∧ rM r ≤ 250 := by unfold rM; omega
theorem rNm_lt {r : Nat} (h : r < 1000) : rNm r ≤ 3250 := by unfold rNm rN rM; omega
theorem m_within (x a b : Int32) : fm_within x a b = some (b2 (a ≤ x ∧ x ≤ b)) := by
  unfold fm_within fm_within_14 fm_within_15
  by_cases h1 : x < a
  · rw [if_pos h1, b2_f (fun h => absurd h.1 (Int32.not_le.mpr h1))]; rfl
  · rw [if_neg h1]
    by_cases h2 : b < x
    · rw [if_pos h2, b2_f (fun h => absurd h.2 (Int32.not_le.mpr h2))]; rfl
    · rw [if_neg h2, b2_t ⟨Int32.not_lt.mp h1, Int32.not_lt.mp h2⟩]; rfl
theorem m_nodeOf {r : Nat} (h : r < 1000) : fm_nodeOf (Int32.ofNat r) = some (Int32.ofNat (rN r)) := by
  unfold fm_nodeOf
  rw [show (250 : Int32) = Int32.ofNat 250 from rfl, jI_div (by omega) (by omega)]; rfl
theorem m_numberOf {r : Nat} (h : r < 1000) : fm_numberOf (Int32.ofNat r) = some (Int32.ofNat (rM r)) := by
  unfold fm_numberOf
  rw [show (250 : Int32) = Int32.ofNat 250 from rfl, jI_rem (by omega) (by omega), show (1 : Int32) = Int32.ofNat 1 from rfl, jI_add]; rfl
theorem m_nameOf {r : Nat} (h : r < 1000) : fm_nameOf (Int32.ofNat r) = some (Int32.ofNat (rNm r)) := by
  unfold fm_nameOf
  rw [m_nodeOf h, bd_s, m_numberOf h, bd_s, show (1000 : Int32) = Int32.ofNat 1000 from rfl, jI_mul, jI_add]; rfl
/-- the row of a name, as a number -/
def rOf (x : Int32) : Option Nat := if x < 0 then none else if 3 < x.toNatClampNeg / 1000 then none else if 1 ≤ x.toNatClampNeg % 1000 ∧ x.toNatClampNeg % 1000 ≤ 250 then some (250 * (x.toNatClampNeg / 1000) + x.toNatClampNeg % 1000 - 1) else none
def rI (o : Option Nat) : Int32 := match o with | none => -1 | some r => Int32.ofNat r
theorem rOf_lt {x : Int32} {r : Nat} (h : rOf x = some r) : r < 1000 := by
  unfold rOf at h
  split at h
  · cases h
  · split at h
    · cases h
    · split at h
      · cases h; omega
      · cases h
theorem rOf_nm {r : Nat} (h : r < 1000) : rOf (Int32.ofNat (rNm r)) = some r := by
  have h1 := rNm_lt h
  unfold rOf
  rw [if_neg (jI_nn (by omega)), jI_cl (by omega)]
  unfold rNm rN rM
  rw [if_neg (by omega), if_pos (by omega)]
  congr 1
  omega
theorem rOf_inv {x : Int32} {r : Nat} (h : rOf x = some r) : x = Int32.ofNat (rNm r) := by
  unfold rOf at h
  split at h
  · cases h
  · rename_i hx
    split at h
    · cases h
    · split at h
      · rename_i h1 h2
        cases h
        rw [jI_of hx]
        congr 1
        rw [jI_cl (jI_clt x)]
        unfold rNm rN rM
        omega
      · cases h
theorem m_rowOf (x : Int32) : fm_rowOf x = some (rI (rOf x)) := by
  unfold fm_rowOf fm_rowOf_32 fm_rowOf_45 rOf
  simp only [lt_d]
  by_cases h : x < 0
  · rw [if_pos h, if_pos h]; rfl
  · rw [if_neg h, if_neg h]
    have hl := jI_clt x
    rw [jI_of h]
    generalize x.toNatClampNeg = a at hl ⊢
    rw [jI_cl hl, show (1000 : Int32) = Int32.ofNat 1000 from rfl, jI_rem hl (by omega), jI_div hl (by omega), show (3 : Int32) = Int32.ofNat 3 from rfl]
    by_cases h3 : 3 < a / 1000
    · rw [if_pos ((jI_lt (by omega) (by omega)).mpr h3), if_pos h3]; rfl
    · rw [if_neg (fun q => h3 ((jI_lt (by omega) (by omega)).mp q)), if_neg h3, m_within, bd_s, show (1 : Int32) = Int32.ofNat 1 from rfl, show (250 : Int32) = Int32.ofNat 250 from rfl]
      by_cases h4 : 1 ≤ a % 1000 ∧ a % 1000 ≤ 250
      · rw [b2_t ⟨(jI_le (by omega) (by omega)).mpr h4.1, (jI_le (by omega) (by omega)).mpr h4.2⟩, if_neg (by decide), if_pos h4, jI_mul, jI_add, jI_sub (by omega)]; rfl
      · rw [b2_f (fun q => h4 ⟨(jI_le (by omega) (by omega)).mp q.1, (jI_le (by omega) (by omega)).mp q.2⟩), if_pos rfl, if_neg h4]; rfl
