-- part 21: rows in order
def ins (K : Nat → Nat) (r : Nat) : List Nat → List Nat
  | [] => [r]
  | e :: l => if K r < K e then r :: e :: l else e :: ins K r l
theorem ins_cons (K : Nat → Nat) (r e : Nat) (l : List Nat) : ins K r (e :: l) = if K r < K e then r :: e :: l else e :: ins K r l := rfl
def srt (K : Nat → Nat) (l : List Nat) : List Nat := l.foldl (fun acc r => ins K r acc) []
def sdl (K : Nat → Nat) (l : List Nat) : Prop := l.Pairwise (fun a b => K a ≤ K b)
theorem srt_app (K : Nat → Nat) (l : List Nat) (r : Nat) : srt K (l ++ [r]) = ins K r (srt K l) := by unfold srt; rw [List.foldl_append]; rfl
theorem mem_ins {K : Nat → Nat} {r x : Nat} {l : List Nat} : x ∈ ins K r l ↔ x = r ∨ x ∈ l := by
  induction l with
  | nil => simp [ins]
  | cons e l ih =>
    unfold ins
    split
    · simp
    · rw [List.mem_cons, ih, List.mem_cons]
      constructor
      · rintro (h | h | h)
        · exact Or.inr (Or.inl h)
        · exact Or.inl h
        · exact Or.inr (Or.inr h)
      · rintro (h | h | h)
        · exact Or.inr (Or.inl h)
        · exact Or.inl h
        · exact Or.inr (Or.inr h)
theorem len_ins (K : Nat → Nat) (r : Nat) (l : List Nat) : (ins K r l).length = l.length + 1 := by
  induction l with
  | nil => rfl
  | cons e l ih =>
    unfold ins
    split
    · rfl
    · simp [ih]
theorem sdl_ins {K : Nat → Nat} {r : Nat} {l : List Nat} (h : sdl K l) : sdl K (ins K r l) := by
  induction l with
  | nil => exact List.pairwise_singleton _ _
  | cons e l ih =>
    have h1 := List.pairwise_cons.mp h
    unfold ins
    split
    · rename_i hr
      refine List.pairwise_cons.mpr ⟨fun x hx => ?_, h⟩
      rcases List.mem_cons.mp hx with rfl | hx
      · exact Nat.le_of_lt hr
      · exact Nat.le_trans (Nat.le_of_lt hr) (h1.1 x hx)
    · rename_i hr
      refine List.pairwise_cons.mpr ⟨fun x hx => ?_, ih h1.2⟩
      rcases mem_ins.mp hx with rfl | hx
      · exact Nat.not_lt.mp hr
      · exact h1.1 x hx
theorem perm_ins (K : Nat → Nat) (r : Nat) (l : List Nat) : (ins K r l).Perm (r :: l) := by
  induction l with
  | nil => exact List.Perm.refl _
  | cons e l ih =>
    unfold ins
    split
    · exact List.Perm.refl _
    · exact (List.Perm.cons e ih).trans (List.Perm.swap r e l)
theorem srt_go {K : Nat → Nat} (l : List Nat) : ∀ acc, sdl K acc → sdl K (l.foldl (fun acc r => ins K r acc) acc) ∧ (l.foldl (fun acc r => ins K r acc) acc).Perm (acc ++ l) := by
  induction l with
  | nil => intro acc h; exact ⟨h, by rw [List.append_nil]; exact List.Perm.refl _⟩
  | cons r l ih =>
    intro acc h
    obtain ⟨h1, h2⟩ := ih (ins K r acc) (sdl_ins h)
    refine ⟨h1, h2.trans ?_⟩
    have h3 := (perm_ins K r acc).append_right l
    refine h3.trans ?_
    rw [List.cons_append]
    exact List.perm_middle.symm
theorem sdl_srt (K : Nat → Nat) (l : List Nat) : sdl K (srt K l) := (srt_go l [] List.Pairwise.nil).1
theorem perm_srt (K : Nat → Nat) (l : List Nat) : (srt K l).Perm l := (srt_go (K := K) l [] List.Pairwise.nil).2
theorem mem_srt {K : Nat → Nat} {l : List Nat} {x : Nat} : x ∈ srt K l ↔ x ∈ l := (perm_srt K l).mem_iff
theorem len_srt (K : Nat → Nat) (l : List Nat) : (srt K l).length = l.length := (perm_srt K l).length_eq
theorem ins_low {K : Nat → Nat} {r : Nat} {l : List Nat} (h : ∀ x ∈ l, K r < K x) : ins K r l = r :: l := by
  cases l with
  | nil => rfl
  | cons e l => unfold ins; rw [if_pos (h e List.mem_cons_self)]
theorem flt_ins {K : Nat → Nat} {r : Nat} (p : Nat → Bool) {l : List Nat} (h : sdl K l) : (ins K r l).filter p = if p r then ins K r (l.filter p) else l.filter p := by
  induction l with
  | nil => cases hp : p r <;> simp [ins, hp]
  | cons e l ih =>
    have h1 := List.pairwise_cons.mp h
    rw [ins_cons]
    split
    · rename_i hr
      rw [List.filter_cons]
      split
      · rw [ins_low]
        intro x hx
        have hx := (List.mem_filter.mp hx).1
        rcases List.mem_cons.mp hx with rfl | hx
        · exact hr
        · exact Nat.lt_of_lt_of_le hr (h1.1 x hx)
      · rfl
    · rename_i hr
      rw [List.filter_cons, List.filter_cons, ih h1.2]
      cases he : p e <;> cases hp : p r <;> simp [ins_cons, hr]
theorem flt_srt (K : Nat → Nat) (p : Nat → Bool) (l : List Nat) : (srt K l).filter p = srt K (l.filter p) := by
  have key : ∀ (l acc : List Nat), sdl K acc → (l.foldl (fun acc r => ins K r acc) acc).filter p = (l.filter p).foldl (fun acc r => ins K r acc) (acc.filter p) := by
    intro l
    induction l with
    | nil => intro acc _; rfl
    | cons r l ih =>
      intro acc h
      rw [List.foldl_cons, ih _ (sdl_ins h), flt_ins p h, List.filter_cons]
      cases hp : p r <;> simp
  exact key l [] List.Pairwise.nil
/-- where a row goes, by place -/
theorem ins_at {K : Nat → Nat} {r : Nat} : ∀ {l : List Nat} (k : Nat), sdl K l → k ≤ l.length → (∀ j (h : j < l.length), k ≤ j → K r < K l[j]) → (∀ (h : k - 1 < l.length), 0 < k → K (l[k - 1]) ≤ K r) → ins K r l = l.take k ++ r :: l.drop k := by
  intro l
  induction l with
  | nil => intro k _ hk _ _; simp at hk; subst hk; rfl
  | cons e l ih =>
    intro k hs hk h1 h2
    have hp := List.pairwise_cons.mp hs
    cases k with
    | zero =>
      rw [ins_low]
      · rfl
      · intro x hx
        obtain ⟨j, hj, rfl⟩ := List.mem_iff_getElem.mp hx
        exact h1 j hj (Nat.zero_le _)
    | succ k =>
      have he : ¬ K r < K e := by
        have h3 := h2 (by simp at hk ⊢; omega) (Nat.succ_pos k)
        cases k with
        | zero => exact Nat.not_lt.mpr h3
        | succ k =>
          have hlt : k < l.length := by simp at hk; omega
          have h4 : K (l[k]) ≤ K r := h3
          exact Nat.not_lt.mpr (Nat.le_trans (hp.1 _ (List.getElem_mem hlt)) h4)
      unfold ins
      rw [if_neg he, ih k hp.2 (by simp at hk; omega)]
      · rfl
      · intro j hj hkj
        exact h1 (j + 1) (by simp; omega) (by omega)
      · intro hk1 hk2
        cases k with
        | zero => exact absurd hk2 (Nat.lt_irrefl 0)
        | succ k => exact h2 (by simp at hk ⊢; omega) (Nat.succ_pos _)
theorem sum_perm {f : Nat → Int32} {l l' : List Nat} (h : l.Perm l') : ∀ a : Int32, l.foldl (fun s r => s + f r) a = l'.foldl (fun s r => s + f r) a := by
  induction h with
  | nil => intro a; rfl
  | cons x _ ih => intro a; exact ih _
  | swap x y l => intro a; show List.foldl _ (a + f y + f x) l = List.foldl _ (a + f x + f y) l; rw [Int32.add_assoc, Int32.add_comm (f y), ← Int32.add_assoc]
  | trans _ _ ih1 ih2 => intro a; exact (ih1 a).trans (ih2 a)
