-- part 50: what a part shows, and when it shows otherwise
theorem flM_congr {α β : Type} {f g : α → Option β} : ∀ {L : List α}, (∀ x ∈ L, f x = g x) → L.filterMap f = L.filterMap g := by
  intro L
  induction L with
  | nil => intro _; rfl
  | cons a L ih => intro h; rw [List.filterMap_cons, List.filterMap_cons, h a List.mem_cons_self, ih (fun x hx => h x (List.mem_cons_of_mem _ hx))]
def oI (o : Option Nat) : Int32 := match o with | none => 0 | some _ => 1
def oV (M : mSt) (o : Option Nat) : Int32 := match o with | none => 0 | some q => M.2 12 q
def oW (M : mSt) (o : Option Nat) : Int32 := match o with | none => 0 | some q => M.2 13 q
theorem oI_iff {a b : Option Nat} : oI a = oI b ↔ a.map (fun _ => (0 : Int32)) = b.map (fun _ => 0) := by
  cases a with
  | none =>
    cases b with
    | none => exact ⟨fun _ => rfl, fun _ => rfl⟩
    | some q => exact ⟨fun h => absurd (show (0 : Int32) = 1 from h) (by decide), fun h => by cases h⟩
  | some r =>
    cases b with
    | none => exact ⟨fun h => absurd (show (1 : Int32) = 0 from h) (by decide), fun h => by cases h⟩
    | some q => exact ⟨fun _ => rfl, fun _ => rfl⟩
theorem oW_iff {M : mSt} {a b : Option Nat} : (oI a = oI b ∧ oW M a = oW M b) ↔ a.map (fun q => M.2 13 q) = b.map (fun q => M.2 13 q) := by
  cases a with
  | none =>
    cases b with
    | none => exact ⟨fun _ => rfl, fun _ => ⟨rfl, rfl⟩⟩
    | some q => exact ⟨fun h => absurd (show (0 : Int32) = 1 from h.1) (by decide), fun h => by cases h⟩
  | some r =>
    cases b with
    | none => exact ⟨fun h => absurd (show (1 : Int32) = 0 from h.1) (by decide), fun h => by cases h⟩
    | some q => exact ⟨fun h => congrArg some h.2, fun h => ⟨rfl, Option.some.inj h⟩⟩
/-- what a latest value is -/
def ltV (M : mSt) (l : List Nat) (o p : Int32) : Int32 := oV M (ltB M l o p)
/-- what is bound at a row, as the reference reads it -/
def bnd (M : mSt) (x : Int32) : Int32 := if x = -1 then 0 else if M.2 9 x.toNatClampNeg = 15 then M.2 13 x.toNatClampNeg else 0
def vbL (M : mSt) (V : List (Int32 × Int32)) : List (Int32 × Int32) := V.map (fun e => (e.1, bnd M e.2))
theorem bnd_n {M : mSt} {r : Nat} (hr : r < 1000) : bnd M (Int32.ofNat r) = if M.2 9 r = 15 then M.2 13 r else 0 := by
  unfold bnd
  rw [if_neg (jI_ne (by omega)), jI_cl (by omega)]
theorem bnd_0 {M : mSt} {r : Nat} (hr : r < 1000) (hs : M.2 9 r ≠ 15) : bnd M (Int32.ofNat r) = 0 := by rw [bnd_n hr, if_neg hs]
/-- lists by keys -/
def gkL (g : Nat → Option Int32) (n : Nat) : List (Int32 × Int32) := (List.range n).filterMap (fun x => (g x).map (fun y => (Int32.ofNat x, y)))
theorem gkL_mem {g : Nat → Option Int32} {n x : Nat} {y : Int32} (hn : n ≤ 64) (hx : x < n) : (Int32.ofNat x, y) ∈ gkL g n ↔ g x = some y := by
  unfold gkL
  rw [List.mem_filterMap]
  constructor
  · rintro ⟨x', h1, h2⟩
    have hx' := List.mem_range.mp h1
    cases hg : g x' with
    | none => rw [hg] at h2; cases h2
    | some z =>
      rw [hg] at h2
      have h3 : (Int32.ofNat x', z) = (Int32.ofNat x, y) := Option.some.inj h2
      have e1 : x' = x := (jI_inj (by omega) (by omega)).mp (congrArg Prod.fst h3)
      have e2 : z = y := congrArg Prod.snd h3
      subst e1
      rw [hg, e2]
  · intro h
    exact ⟨x, List.mem_range.mpr hx, by rw [h]; rfl⟩
theorem gkL_ext {g g' : Nat → Option Int32} : gkL g 64 = gkL g' 64 ↔ ∀ x, x < 64 → g x = g' x := by
  constructor
  · intro h x hx
    cases hg : g x with
    | none =>
      cases hg' : g' x with
      | none => rfl
      | some y =>
        have := (gkL_mem (Nat.le_refl 64) hx).mpr hg'
        rw [← h, gkL_mem (Nat.le_refl 64) hx, hg] at this
        cases this
    | some y =>
      have := (gkL_mem (Nat.le_refl 64) hx).mpr hg
      rw [h, gkL_mem (Nat.le_refl 64) hx] at this
      exact this.symm
  · intro h
    unfold gkL
    refine flM_congr fun x hx => ?_
    rw [h x (List.mem_range.mp hx)]
theorem kvL_gk {M : mSt} {f : Nat → Option Nat} {w : Nat → Int32} (h : ∀ x r, f x = some r → bnd M (Int32.ofNat r) = w r) : vbL M (kvL f 64) = gkL (fun x => (f x).map w) 64 := by
  unfold vbL kvL gkL
  rw [List.map_filterMap]
  refine flM_congr fun x _ => ?_
  cases hf : f x with
  | none => simp [hf]
  | some r => simp [hf, h x r hf]
section C
variable {M : mSt} {mkO : Nat → Option Nat} {sl : Nat → Int32} {l u : List Nat} {r : Nat} {o p : Int32}
theorem stB_s {x q : Nat} (h : stB M u o p x = some q) : q ∈ u ∧ M.2 9 q = 7 := by
  have := bst_mem h
  rw [List.mem_filter] at this
  unfold stP at this
  simp only [Bool.and_eq_true, decide_eq_true_iff] at this
  exact ⟨this.1, this.2.1.1⟩
theorem kyC_s {x q : Nat} (h : kyC M u o p x = some q) : q ∈ u ∧ M.2 9 q = 15 := by
  unfold kyC at h
  cases hb : kyB M u o p x with
  | none => rw [hb] at h; cases h
  | some r =>
    rw [hb] at h
    have h : (if M.2 9 r = 15 then some r else none) = some q := h
    by_cases h15 : M.2 9 r = 15
    · rw [if_pos h15] at h
      have := Option.some.inj h
      subst this
      exact ⟨(List.mem_filter.mp (bst_mem hb)).1, h15⟩
    · rw [if_neg h15] at h; cases h
theorem ltB_s {q : Nat} (h : ltB M u o p = some q) : q ∈ u ∧ M.2 9 q = 1 := by
  have := bst_mem h
  rw [List.mem_filter] at this
  simp only [Bool.and_eq_true, decide_eq_true_iff] at this
  exact ⟨this.1, this.2.1.1⟩
theorem vq_L (hu : ∀ q ∈ u, q < 1000) : vbL M (vaL M u o p 76) = [(ltV M u o p, 0)] := by
  have e : vaL M u o p 76 = [(ltV M u o p, rI (ltB M u o p))] := by unfold vaL ltV oV; simp; cases ltB M u o p <;> rfl
  rw [e]
  unfold vbL
  cases h : ltB M u o p with
  | none => simp [rI, bnd]
  | some q =>
    obtain ⟨h1, h2⟩ := ltB_s h
    have := bnd_0 (M := M) (hu q h1) (by rw [h2]; decide)
    simp [rI, this]
theorem vq_C : vbL M (vaL M u o p 67) = [(smB M u o p, 0)] := by
  have e : vaL M u o p 67 = [(smB M u o p, -1)] := by unfold vaL; simp
  rw [e]; simp [vbL, bnd]
theorem vq_B : vbL M (vaL M u o p 66) = [(shB M u o p 0, 0), (shB M u o p 1, 0), (shB M u o p 2, 0), (shB M u o p 3, 0), (shB M u o p 0 + shB M u o p 1 + shB M u o p 2 + shB M u o p 3, 0)] := by
  have e : vaL M u o p 66 = [(shB M u o p 0, -1), (shB M u o p 1, -1), (shB M u o p 2, -1), (shB M u o p 3, -1), (shB M u o p 0 + shB M u o p 1 + shB M u o p 2 + shB M u o p 3, -1)] := by unfold vaL; simp
  rw [e]; simp [vbL, bnd]
theorem vq_map (hu : ∀ q ∈ u, q < 1000) (L : List Nat) (h : ∀ q ∈ L, q ∈ u ∧ M.2 9 q ≠ 15) : vbL M (L.map (fun r => (M.2 12 r, Int32.ofNat r))) = L.map (fun r => (M.2 12 r, 0)) := by
  unfold vbL
  rw [List.map_map]
  refine List.map_congr_left fun q hq => ?_
  show (M.2 12 q, bnd M (Int32.ofNat q)) = _
  rw [bnd_0 (hu q (h q hq).1) (h q hq).2]
theorem vq_S (hu : ∀ q ∈ u, q < 1000) : vbL M (vaL M u o p 83) = (srt (rK M) (u.filter (svQ M u o p))).map (fun r => (M.2 12 r, 0)) := by
  have e : vaL M u o p 83 = (srt (rK M) (u.filter (svQ M u o p))).map (fun r => (M.2 12 r, Int32.ofNat r)) := by unfold vaL; simp
  rw [e]
  refine vq_map hu _ fun q hq => ?_
  rw [mem_srt, List.mem_filter] at hq
  unfold svQ at hq
  simp only [Bool.and_eq_true, decide_eq_true_iff] at hq
  exact ⟨hq.1, by rw [hq.2.1.1]; decide⟩
theorem vq_T (hu : ∀ q ∈ u, q < 1000) : vbL M (vaL M u o p 84) = ((txR M u o p).filter (tvP M u)).map (fun r => (M.2 12 r, 0)) := by
  have e : vaL M u o p 84 = ((txR M u o p).filter (tvP M u)).map (fun r => (M.2 12 r, Int32.ofNat r)) := by unfold vaL; simp
  rw [e]
  refine vq_map hu _ fun q hq => ?_
  obtain ⟨h1, h2⟩ := txR_mem.mp (List.mem_filter.mp hq).1
  exact ⟨h1, by rw [h2.1]; decide⟩
theorem vq_A (hu : ∀ q ∈ u, q < 1000) : vbL M (vaL M u o p 65) = gkL (fun x => (stB M u o p x).map (fun _ => 0)) 64 := by
  have e : vaL M u o p 65 = kvL (stB M u o p) 64 := by unfold vaL; simp
  rw [e]
  refine kvL_gk fun x q h => ?_
  obtain ⟨h1, h2⟩ := stB_s h
  exact bnd_0 (hu q h1) (by rw [h2]; decide)
theorem vq_M (hu : ∀ q ∈ u, q < 1000) : vbL M (vaL M u o p 77) = gkL (fun x => (kyC M u o p x).map (fun q => M.2 13 q)) 64 := by
  have e : vaL M u o p 77 = kvL (kyC M u o p) 64 := by unfold vaL; simp
  rw [e]
  refine kvL_gk fun x q h => ?_
  obtain ⟨h1, h2⟩ := kyC_s h
  rw [bnd_n (hu q h1), if_pos h2]
/-- a set, but for the subject's key, is as it was -/
theorem stB_same (hA : rA M mkO sl) (hr : nxt M l r) {x : Nat} (hx : M.2 12 (sbj M r) ≠ Int32.ofNat x) : stB M (l ++ [r]) o p x = stB M l o p x := by
  have ns : ∀ q, M.2 12 q = Int32.ofNat x → q ≠ sbj M r := fun q h e => hx (e ▸ h)
  have nt : ∀ q, M.2 9 q = 7 ∨ M.2 9 q = 8 → ¬ tuS (M.2 9 q) := fun q h h2 => by
    rcases h with h | h <;> (rw [h] at h2; revert h2; unfold tuS; decide)
  have hgd : ∀ q ∈ l, (M.2 9 q = 7 ∨ M.2 9 q = 8) → M.2 12 q = Int32.ofNat x → gd M (l ++ [r]) q = gd M l q := fun q hq hs hv => by
    have := G_eq hA hr (ns q hv) (nt q hs)
    rwa [G_l _ (List.mem_append_left _ hq), G_l _ hq] at this
  have hrn : ¬ ((M.2 9 r = 7 ∨ M.2 9 r = 8) ∧ M.2 12 r = Int32.ofNat x) := fun h => ns r h.2 (sbj_no (nt r h.1)).symm
  unfold stB
  congr 1
  refine flt_app hr ?_ fun q hq => ?_
  · unfold stP
    by_cases h7 : M.2 9 r = 7
    · rw [decide_eq_false (fun h => hrn ⟨Or.inl h7, h⟩)]; simp
    · rw [decide_eq_false (fun h : isO M 7 o p r => h7 h.1)]; rfl
  · unfold stP
    by_cases hi : isO M 7 o p q
    · by_cases hv : M.2 12 q = Int32.ofNat x
      · congr 2
        unfold hoP
        rw [hgd q hq (Or.inl hi.1) hv]
        congr 1
        rw [List.all_append, Bool.eq_iff_iff, Bool.and_eq_true, List.all_eq_true, List.all_eq_true, List.all_eq_true]
        unfold hoT
        constructor
        · rintro ⟨h1, _⟩ t ht
          have := of_decide_eq_true (h1 t ht)
          exact decide_eq_true fun a b c => this a b (by rw [hgd t ht (Or.inr a.1) (b.trans hv)]; exact c)
        · intro h1
          refine ⟨fun t ht => ?_, fun t ht => ?_⟩
          · have := of_decide_eq_true (h1 t ht)
            exact decide_eq_true fun a b c => this a b (by rw [hgd t ht (Or.inr a.1) (b.trans hv)] at c; exact c)
          · have ht : t = r := List.mem_singleton.mp ht
            subst ht
            exact decide_eq_true fun a b c => absurd ⟨Or.inr a.1, b.trans hv⟩ hrn
      · rw [decide_eq_false hv]; simp
    · rw [decide_eq_false hi]; rfl
/-- a map, but for the subject's key, is as it was -/
theorem kyC_same (hA : rA M mkO sl) (hr : nxt M l r) {x : Nat} (hx : M.2 12 (sbj M r) ≠ Int32.ofNat x) : kyC M (l ++ [r]) o p x = kyC M l o p x := by
  have ns : ∀ q, M.2 12 q = Int32.ofNat x → q ≠ sbj M r := fun q h e => hx (e ▸ h)
  have nt : ∀ q, M.2 9 q = 15 ∨ M.2 9 q = 16 → ¬ tuS (M.2 9 q) := fun q h h2 => by
    rcases h with h | h <;> (rw [h] at h2; revert h2; unfold tuS; decide)
  have hgd : ∀ q ∈ l, (M.2 9 q = 15 ∨ M.2 9 q = 16) → M.2 12 q = Int32.ofNat x → gd M (l ++ [r]) q = gd M l q := fun q hq hs hv => by
    have := G_eq hA hr (ns q hv) (nt q hs)
    rwa [G_l _ (List.mem_append_left _ hq), G_l _ hq] at this
  have hrn : ¬ ((M.2 9 r = 15 ∨ M.2 9 r = 16) ∧ M.2 12 r = Int32.ofNat x) := fun h => ns r h.2 (sbj_no (nt r h.1)).symm
  have e : kyB M (l ++ [r]) o p x = kyB M l o p x := by
    unfold kyB
    congr 1
    refine flt_app hr ?_ fun q hq => ?_
    · unfold kyP
      by_cases hs : M.2 9 r = 15 ∨ M.2 9 r = 16
      · rw [decide_eq_false (fun h : M.2 12 r = Int32.ofNat x => hrn ⟨hs, h⟩)]; simp
      · rw [decide_eq_false (fun h : isO M 15 o p r ∨ isO M 16 o p r => hs (h.elim (fun a => Or.inl a.1) (fun a => Or.inr a.1)))]; rfl
    · unfold kyP
      by_cases hi : isO M 15 o p q ∨ isO M 16 o p q
      · by_cases hv : M.2 12 q = Int32.ofNat x
        · rw [hgd q hq (hi.elim (fun a => Or.inl a.1) (fun a => Or.inr a.1)) hv]
        · rw [decide_eq_false hv]; simp
      · rw [decide_eq_false hi]; rfl
  unfold kyC
  rw [e]
end C
