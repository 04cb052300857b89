-- part 34: the reference's texts
def insA (t r : Nat) : List Nat → List Nat
  | [] => [r]
  | e :: L => if e = t then e :: r :: L else e :: insA t r L
/-- the line of inserts: one goes right behind its w, or ahead of all -/
def txS (M : mSt) (Ln : List Nat) (r : Nat) : List Nat := match rOf (M.2 13 r) with | none => r :: Ln | some t => insA t r Ln
def txL (M : mSt) (L : List Nat) : List Nat := L.foldl (txS M) []
theorem insA_at {t r : Nat} : ∀ {L : List Nat} {k : Nat} (hk : k < L.length), L[k] = t → (∀ j (h : j < k), L[j]'(by omega) ≠ t) → insA t r L = L.take (k + 1) ++ r :: L.drop (k + 1) := by
  intro L
  induction L with
  | nil => intro k hk; exact absurd hk (by simp)
  | cons e L ih =>
    intro k hk h1 h2
    unfold insA
    cases k with
    | zero => rw [if_pos (show e = t from h1)]; rfl
    | succ k =>
      rw [if_neg (show ¬ e = t from h2 0 (by omega)), ih (k := k) (by simp at hk; omega) h1 (fun j hj => h2 (j + 1) (by omega))]
      rfl
theorem insA_perm {t r : Nat} {L : List Nat} : (insA t r L).Perm (r :: L) := by
  induction L with
  | nil => exact List.Perm.refl _
  | cons e L ih =>
    unfold insA
    split
    · exact List.Perm.swap r e L
    · exact (List.Perm.cons e ih).trans (List.Perm.swap r e L)
theorem txS_perm (M : mSt) (Ln : List Nat) (r : Nat) : (txS M Ln r).Perm (r :: Ln) := by
  unfold txS
  cases rOf (M.2 13 r) with
  | none => exact List.Perm.refl _
  | some t => exact insA_perm
theorem txL_app (M : mSt) (L : List Nat) (r : Nat) : txL M (L ++ [r]) = txS M (txL M L) r := by unfold txL; rw [List.foldl_append]; rfl
theorem txL_perm (M : mSt) (L : List Nat) : (txL M L).Perm L := by
  have key : ∀ (L acc : List Nat), (L.foldl (txS M) acc).Perm (acc ++ L) := by
    intro L
    induction L with
    | nil => intro acc; rw [List.append_nil]; exact List.Perm.refl _
    | cons r L ih =>
      intro acc
      refine (ih (txS M acc r)).trans ?_
      refine ((txS_perm M acc r).append_right L).trans ?_
      rw [List.cons_append]
      exact List.perm_middle.symm
  exact key L []
theorem txL_mem {M : mSt} {L : List Nat} {r : Nat} : r ∈ txL M L ↔ r ∈ L := (txL_perm M L).mem_iff
theorem txL_len (M : mSt) (L : List Nat) : (txL M L).length = L.length := (txL_perm M L).length_eq
/-- of the inserts: w is 0 or names one that stands earlier in the order -/
def txOk (M : mSt) (L : List Nat) : Prop := ∀ k (h : k < L.length), L[k] < 1000 ∧ ((M.2 13 L[k] = 0) ∨ ∃ t, rOf (M.2 13 L[k]) = some t ∧ t ∈ L.take k)
/-- erased at a node: some good erase has its name -/
def erP (M : mSt) (l : List Nat) (r t : Nat) : Bool := decide (M.2 9 t = 10) && (decide (M.2 13 t = Int32.ofNat (rNm r)) && gd M l t)
def tvP (M : mSt) (l : List Nat) (r : Nat) : Bool := gd M l r && !(l.any (erP M l r))
def wT : Nat → Prop := fun k => k = 49 ∨ k = 50 ∨ k = 51 ∨ k = 52 ∨ k = 53
def inL (A : mSt) (L : List Nat) : Prop := A.1 52 = Int32.ofNat L.length ∧ ∀ i (h : i < L.length), A.2 53 i = Int32.ofNat L[i]
theorem rOf_0 : rOf 0 = none := by decide
section R
variable {M A : mSt} {n : Nat} {l : List Nat}
theorem rdy_w {B : mSt} {W : Nat → Prop} (h : rdy M A n l) (e : mEx W A B) (hW : ∀ k, W k → 47 < k) : rdy M B n l := by
  obtain ⟨h1, h2, h3, h4, h5⟩ := h
  refine ⟨mEx_trans h1 (mEx_mono e (fun j hj => by have := hW j hj; unfold sc; omega)), h2, h3, h4, fun r hr => ?_⟩
  rw [(e 47 (fun q => absurd (hW 47 q) (by omega))).2]; exact h5 r hr
theorem m_isErased (h : rdy M A n l) {r : Nat} (hr : r < 1000) : fm_isErased A (Int32.ofNat n) (Int32.ofNat l.length) (Int32.ofNat r) = some (b2 (l.any (erP M l r) = true)) := by
  obtain ⟨h1, h2, h3, h4, h5⟩ := h
  have hle := h2.2.1
  unfold fm_isErased
  have key := loopE (σ := Unit) (β := Int32) (N := l.length) (F := fun k _ i => fm_isErased_3 A k (Int32.ofNat n) (Int32.ofNat l.length) (Int32.ofNat r) (Int32.ofNat i)) (R := some (b2 (l.any (erP M l r) = true)))
    (fun i _ => (l.take i).any (erP M l r) = false)
    (fun k _ hI => by
      rw [List.take_length] at hI
      show fm_isErased_3 A (k + 1) _ _ _ (Int32.ofNat l.length) = _
      rw [fm_isErased_3, if_pos ((jI_le (by omega) (by omega)).mpr (Nat.le_refl _)), hI]; rfl)
    (fun k _ i hi hI => by
      have hri := (h2.2.2 i hi).2
      have hone : Int32.ofNat i + 1 = Int32.ofNat (i + 1) := jI_add i 1
      show (∃ st', _ ∧ fm_isErased_3 A (k + 1) _ _ _ (Int32.ofNat i) = _) ∨ fm_isErased_3 A (k + 1) _ _ _ (Int32.ofNat i) = _
      rw [fm_isErased_3, if_neg (fun q => absurd ((jI_le (by omega) (by omega)).mp q) (by omega)), m_rowAtL h1 h2 hi, bd_s, ck_n hri (by omega), rd_e h1 (by decide) (by omega)]
      unfold fm_isErased_56
      simp only [lt_d, hone]
      have ok : erP M l r l[i] = false → (l.take (i + 1)).any (erP M l r) = false := fun hk => by rw [take_app hi, List.any_append, hI, Bool.false_or]; simp [hk]
      by_cases c1 : M.2 9 l[i] = 10
      · rw [if_pos c1, ck_n hri (by omega), m_nameOf hr, bd_s, rd_e h1 (by decide) (by omega)]
        by_cases c2 : M.2 13 l[i] = Int32.ofNat (rNm r)
        · rw [if_pos c2, ck_n hri (by omega), rd_n _ _ (by omega), h5 _ hri]
          cases c3 : gd M l l[i]
          · rw [if_pos bFn]
            exact Or.inl ⟨(), ok (by unfold erP; rw [c3]; simp), rfl⟩
          · rw [if_neg bTn]
            right
            have : l.any (erP M l r) = true := List.any_eq_true.mpr ⟨l[i], List.getElem_mem hi, by unfold erP; rw [c3, decide_eq_true c1, decide_eq_true c2]; rfl⟩
            rw [this]; rfl
        · rw [if_neg c2]
          exact Or.inl ⟨(), ok (by unfold erP; rw [decide_eq_false c2]; simp), rfl⟩
      · rw [if_neg c1]
        exact Or.inl ⟨(), ok (by unfold erP; rw [decide_eq_false c1]; rfl), rfl⟩)
    l.length 0 mFU () (by omega) (Nat.lt_of_le_of_lt hle (by decide)) rfl
  exact key
/-- the last stage: what stands of the line is put -/
theorem m_text203 (h : rdy M A n l) {L : List Nat} (hL : inL A L) (hb : ∀ r ∈ L, r < 1000) (hlen : L.length ≤ 1000) (hP : A.1 49 = 0) : ∃ B, fm_text_203 mFU A (Int32.ofNat n) (Int32.ofNat l.length) 0 = some B ∧ mEx wP A B ∧ inR B (M.2 12) (L.filter (tvP M l)) := by
  obtain ⟨b, q1, q2⟩ := loopI (σ := mSt) (β := mSt) (N := L.length) (F := fun k B i => fm_text_203 k B (Int32.ofNat n) (Int32.ofNat l.length) (Int32.ofNat i)) (Q := fun B => mEx wP A B ∧ inR B (M.2 12) (L.filter (tvP M l)))
    (fun i B => mEx wP A B ∧ inR B (M.2 12) ((L.take i).filter (tvP M l)))
    (fun k B hI => ⟨B, by
      show fm_text_203 (k + 1) B _ _ (Int32.ofNat L.length) = _
      have e52 : B.1 52 = Int32.ofNat L.length := by rw [(hI.1 52 (by unfold wP; omega)).1]; exact hL.1
      rw [fm_text_203, e52, if_pos ((jI_le (by omega) (by omega)).mpr (Nat.le_refl _))], by rw [List.take_length] at hI; exact hI⟩)
    (fun k B i hi hI => Or.inl (by
      have hB := rdy_put h hI.1
      obtain ⟨b1, b2', b3, b4, b5⟩ := hB
      have hr : L[i] < 1000 := hb _ (List.getElem_mem hi)
      have e52 : B.1 52 = Int32.ofNat L.length := by rw [(hI.1 52 (by unfold wP; omega)).1]; exact hL.1
      have e53 : B.2 53 i = Int32.ofNat L[i] := by rw [(hI.1 53 (by unfold wP; omega)).2]; exact hL.2 i hi
      have hone : Int32.ofNat i + 1 = Int32.ofNat (i + 1) := jI_add i 1
      show ∃ st', _ ∧ fm_text_203 (k + 1) B _ _ (Int32.ofNat i) = _
      rw [fm_text_203, e52, if_neg (fun q => absurd ((jI_le (by omega) (by omega)).mp q) (by omega)), ck_n (by omega) (by omega), rd_n _ _ (by omega), e53, ck_n hr (by omega), rd_n _ _ (by omega), b5 _ hr, take_app hi, List.filter_append]
      unfold fm_text_266
      simp only [lt_d, hone]
      have no : tvP M l L[i] = false → mEx wP A B ∧ inR B (M.2 12) (List.filter (tvP M l) (List.take i L) ++ List.filter (tvP M l) [L[i]]) := fun hq => by
        have : List.filter (tvP M l) [L[i]] = [] := by simp [hq]
        rw [this, List.append_nil]; exact hI
      cases c1 : gd M l L[i]
      · rw [if_pos bFn]
        exact ⟨B, no (by unfold tvP; rw [c1]; rfl), rfl⟩
      · rw [if_neg bTn, ck_n (by omega) (by omega), m_isErased ⟨b1, b2', b3, b4, b5⟩ hr, bd_s]
        cases c2 : l.any (erP M l L[i])
        · rw [if_pos bFn, ck_n (by omega) (by omega), ck_n hr (by omega), ck_n (by omega) (by omega), rd_e b1 (by decide) (by omega)]
          have hq : tvP M l L[i] = true := by unfold tvP; rw [c1, c2]; rfl
          have hf : List.filter (tvP M l) [L[i]] = [L[i]] := by simp [hq]
          obtain ⟨C, e1, e2, e3⟩ := m_putV hI.2 (by
            rw [List.length_map]
            have := List.length_filter_le (tvP M l) (L.take i)
            rw [List.length_take] at this
            omega) (M.2 12 L[i]) (Int32.ofNat L[i])
          rw [e1, bd_s, hf]
          refine ⟨C, ⟨mEx_trans hI.1 e2, ?_⟩, rfl⟩
          unfold inR
          rw [List.map_append]; exact e3
        · rw [if_neg bTn]
          exact ⟨B, no (by unfold tvP; rw [c1, c2]; rfl), rfl⟩))
    L.length 0 mFU A (by omega) (Nat.lt_of_le_of_lt hlen (by decide)) ⟨mEx_refl _ _, by rw [inR_iff]; exact ⟨hP, fun i hi => absurd hi (by simp)⟩⟩
  exact ⟨b, q1, q2⟩
/-- shifting the line up from place at -/
theorem m_text136 {L : List Nat} {at' r : Nat} (hat : at' ≤ L.length) (hL : L.length < 1000) (hr : r < 1000) {k5 : Nat} (hk5 : k5 < 1000) (g54 : mSt → Int32 → Int32 → Int32 → Option mSt) (v1 v2 : Int32) : ∀ (d fu : Nat) (B : mSt), at' + d ≤ L.length → d < fu → B.1 52 = Int32.ofNat L.length → B.2 51 k5 = Int32.ofNat r → (∀ j (h : j < L.length), j < at' + d → B.2 53 j = Int32.ofNat L[j]) → (∀ j (h : j < L.length), at' + d ≤ j → B.2 53 (j + 1) = Int32.ofNat L[j]) → ∃ C, fm_text_136 g54 fu B v1 v2 (Int32.ofNat k5) (Int32.ofNat at') (Int32.ofNat (at' + d)) = g54 C v1 v2 (Int32.ofNat (k5 + 1)) ∧ mEx (fun k => k = 52 ∨ k = 53) B C ∧ inL C (L.take at' ++ r :: L.drop at') := by
  intro d
  induction d with
  | zero =>
    intro fu B _ hf h1 h2 h3 h4
    obtain ⟨fu, rfl⟩ : ∃ q, fu = q + 1 := ⟨fu - 1, by omega⟩
    have hone : Int32.ofNat k5 + 1 = Int32.ofNat (k5 + 1) := jI_add k5 1
    have hone2 : Int32.ofNat L.length + 1 = Int32.ofNat (L.length + 1) := jI_add L.length 1
    have e1 : (wr B 53 (Int32.ofNat at') (Int32.ofNat r)).1 52 = Int32.ofNat L.length := h1
    rw [fm_text_136, if_pos ((jI_le (by omega) (by omega)).mpr (by omega)), ck_n hk5 (by omega), ck_n (by omega) (by omega), rd_n _ _ (by omega), h2]
    simp only [lt_d, e1, hone, hone2]
    refine ⟨_, rfl, mEx_trans (mEx_wr (by simp) _ _) (mEx_pu (by simp) _), ?_, fun i hi => ?_⟩
    · rw [pu_s]; congr 1; simp; omega
    · obtain ⟨c1, c2, c3⟩ := cat_get (r := r) hat hi
      rw [pu_2, wr_s _ _ (by omega)]
      rcases Nat.lt_trichotomy i at' with c | c | c
      · obtain ⟨q1, q2⟩ := c1 c
        rw [q2, upd_o _ _ (by omega)]
        exact h3 i q1 (by omega)
      · rw [c2 c, c, upd_s]
      · obtain ⟨q1, q2⟩ := c3 c
        rw [q2, upd_o _ _ (by omega)]
        have := h4 (i - 1) q1 (by omega)
        rwa [show i - 1 + 1 = i by omega] at this
  | succ d ih =>
    intro fu B hd hf h1 h2 h3 h4
    obtain ⟨fu, rfl⟩ : ∃ q, fu = q + 1 := ⟨fu - 1, by omega⟩
    have hkk : Int32.ofNat (at' + (d + 1)) - (1 : Int32) = Int32.ofNat (at' + d) := by show Int32.ofNat (at' + d + 1) - Int32.ofNat 1 = _; rw [jI_sub (by omega)]; rfl
    have hkm : Int32.ofNat (at' + (d + 1)) + (-1 : Int32) = Int32.ofNat (at' + d) := by rw [← hkk, Int32.sub_eq_add_neg]
    have e0 := h3 (at' + d) (by omega) (by omega)
    rw [fm_text_136, if_neg (fun q => absurd ((jI_le (by omega) (by omega)).mp q) (by omega)), hkk, hkm, ck_n (by omega) (by omega), ck_n (by omega) (by omega), rd_n _ _ (by omega), e0, lt_d, lt_d]
    have e1 : mEx (fun k => k = 52 ∨ k = 53) B (wr B 53 (Int32.ofNat (at' + (d + 1))) (Int32.ofNat L[at' + d])) := mEx_wr (by simp) _ _
    obtain ⟨C, q1, q2, q3⟩ := ih fu (wr B 53 (Int32.ofNat (at' + (d + 1))) (Int32.ofNat L[at' + d])) (by omega) (by omega) h1 (by rw [wr_o _ _ _ (by decide)]; exact h2) (fun j hj hjd => by rw [wr_s _ _ (by omega), upd_o _ _ (by omega)]; exact h3 j hj (by omega)) (fun j hj hjd => by
      rw [wr_s _ _ (by omega)]
      by_cases ej : j = at' + d
      · subst ej; rw [show at' + d + 1 = at' + (d + 1) by omega, upd_s]
      · rw [upd_o _ _ (by omega)]; exact h4 j hj (by omega))
    exact ⟨C, q1, mEx_trans e1 q2, q3⟩
end R
