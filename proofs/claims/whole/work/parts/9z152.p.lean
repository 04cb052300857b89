-- part 152: the constructor: cells as a list
/-- a cell of the start: kind, length, numbers, cells it names, cells in it -/
abbrev Cl := Nat × Nat × List (Nat × Int32) × List (Nat × Nat) × List (Nat × Nat)
def clO (x0 : Nat) (S : cSt) (a : Nat) (c : Cl) : Prop := kK S a = c.1 ∧ kL S a = c.2.1 ∧ (∀ j, kF S a j = (c.2.2.1.lookup j).getD 0) ∧ (∀ j, kR S a j = (c.2.2.2.1.lookup j).map (fun t => x0 + t)) ∧ (∀ j, kI S a j = 0) ∧ ∀ j, kO S a j = (c.2.2.2.2.lookup j).map (fun t => x0 + t)
def dsc (x0 : Nat) (S0 S : cSt) (d : List Cl) : Prop := kZ S = x0 + d.length ∧ (∀ i, kT S i = kT S0 i) ∧ cSm (fun a => a < x0) S0 S ∧ ∀ i (h : i < d.length), clO x0 S (x0 + i) d[i]
def clR (j t : Nat) (c : Cl) : Cl := (c.1, c.2.1, c.2.2.1, (j, t) :: c.2.2.2.1, c.2.2.2.2)
def clF (j : Nat) (x : Int32) (c : Cl) : Cl := (c.1, c.2.1, (j, x) :: c.2.2.1, c.2.2.2.1, c.2.2.2.2)
def clW (j t : Nat) (c : Cl) : Cl := (c.1, c.2.1, c.2.2.1, c.2.2.2.1, (j, t) :: c.2.2.2.2)
section V
variable {S0 S : cSt} {x0 : Nat} {d : List Cl}
theorem look_c {β : Type} (j i : Nat) (x : β) (l : List (Nat × β)) : ((i, x) :: l).lookup j = if j = i then some x else l.lookup j := by
  rw [List.lookup_cons]
  by_cases h : j = i
  · subst h; simp
  · rw [if_neg h]
    have : (j == i) = false := by simp [h]
    rw [this]
theorem dsc_nw (h : dsc x0 S0 S d) (kd n : Nat) : dsc x0 S0 (cNw S kd n) (d ++ [(kd, n, [], [], [])]) := by
  obtain ⟨h1, h2, h3, h4⟩ := h
  obtain ⟨w1, w2, w3, w4, w5, w6, w7, w8⟩ := nw_at S kd n
  have ws := nw_sm S kd n
  refine ⟨by rw [w3, h1, List.length_append]; rfl, fun i => by rw [w4, h2], cSm_trans h3 (cSm_mono ws (fun a ha => by omega)), fun i hi => ?_⟩
  rw [List.length_append, List.length_singleton] at hi
  by_cases c : i < d.length
  · rw [List.getElem_append_left c]
    have s := ws (x0 + i) (by omega)
    obtain ⟨a1, a2, a3, a4, a5, a6⟩ := h4 i c
    exact ⟨by rw [s.1]; exact a1, by rw [s.2.1]; exact a2, by rw [s.2.2.1]; exact a3, by rw [s.2.2.2.1]; exact a4, by rw [s.2.2.2.2.1]; exact a5, by rw [s.2.2.2.2.2]; exact a6⟩
  · have e : i = d.length := by omega
    subst e
    rw [List.getElem_append_right (Nat.le_refl _)]
    rw [h1] at w1 w2 w5 w6 w7 w8
    simp only [Nat.sub_self, List.getElem_cons_zero]
    exact ⟨w1, w2, w7, w8, w5, w6⟩
theorem dsc_md {S' : cSt} (h : dsc x0 S0 S d) {i : Nat} (f : Cl → Cl) (e : cEq (fun a => a = x0 + i) S S') (hc : ∀ (hi : i < d.length), clO x0 S (x0 + i) d[i] → clO x0 S' (x0 + i) (f d[i])) : dsc x0 S0 S' (d.modify i f) := by
  obtain ⟨h1, h2, h3, h4⟩ := h
  refine ⟨by rw [e.2.2.1, h1, List.length_modify], fun q => by rw [e.2.2.2.1, h2], cSm_trans h3 (cSm_eq e (fun a ha q => by have q : a = x0 + i := q; omega)), fun q hq => ?_⟩
  rw [List.length_modify] at hq
  rw [List.getElem_modify]
  by_cases c : i = q
  · subst c; rw [if_pos rfl]; exact hc hq (h4 i hq)
  · rw [if_neg c]
    have s := e.2.2.2.2 (x0 + q) (fun z => by have z : x0 + q = x0 + i := z; omega)
    obtain ⟨a1, a2, a3, a4, a5, a6⟩ := h4 q hq
    exact ⟨by rw [e.1]; exact a1, by rw [e.2.1]; exact a2, by rw [s.1]; exact a3, by rw [s.2.1]; exact a4, by rw [s.2.2.1]; exact a5, by rw [s.2.2.2]; exact a6⟩
theorem dsc_pr (h : dsc x0 S0 S d) (i j t : Nat) : dsc x0 S0 (cPr S (x0 + i) j (some (x0 + t))) (d.modify i (clR j t)) := dsc_md h (clR j t) (cEq_cPr _ rfl) (fun hi c => by
  obtain ⟨a1, a2, a3, a4, a5, a6⟩ := c
  refine ⟨a1, a2, a3, fun q => ?_, a5, a6⟩
  show up2 S.2.2.1 (x0 + i) j (some (x0 + t)) (x0 + i) q = (((j, t) :: d[i].2.2.2.1).lookup q).map _
  rw [look_c]
  unfold up2
  by_cases e : q = j
  · rw [if_pos ⟨rfl, e⟩, if_pos e]; rfl
  · rw [if_neg (fun z => e z.2), if_neg e]; exact a4 q)
theorem dsc_pi (h : dsc x0 S0 S d) (i j : Nat) (x : Int32) : dsc x0 S0 (cPi S (x0 + i) j x) (d.modify i (clF j x)) := dsc_md h (clF j x) (cEq_cPi _ rfl) (fun hi c => by
  obtain ⟨a1, a2, a3, a4, a5, a6⟩ := c
  refine ⟨a1, a2, fun q => ?_, a4, a5, a6⟩
  show kF (cPi S (x0 + i) j x) (x0 + i) q = (((j, x) :: d[i].2.2.1).lookup q).getD 0
  rw [look_c, fP]
  by_cases e : q = j
  · rw [if_pos e, e, upd_s]; rfl
  · rw [if_neg e, upd_o _ _ e]; exact a3 q)
theorem dsc_wo (h : dsc x0 S0 S d) (i j t : Nat) : dsc x0 S0 (cWo S (x0 + i) j (some (x0 + t))) (d.modify i (clW j t)) := dsc_md h (clW j t) (by rw [cWo_sO]; exact cEq_sO _ rfl) (fun hi c => by
  obtain ⟨a1, a2, a3, a4, a5, a6⟩ := c
  refine ⟨a1, a2, a3, a4, a5, fun q => ?_⟩
  show kO (cWo S (x0 + i) j (some (x0 + t))) (x0 + i) q = (((j, t) :: d[i].2.2.2.2).lookup q).map _
  rw [look_c, cWo_sO, kO_sO]
  unfold upo
  by_cases e : q = j
  · rw [if_pos e, if_pos e]; rfl
  · rw [if_neg e, if_neg e]; exact a6 q)
/-- the kind of a cell that is there -/
theorem dsc_k (h : dsc x0 S0 S d) (i kd : Nat) (hc : (d[i]?.map (fun c => c.1)) = some kd) : kK S (x0 + i) = kd := by
  cases e : d[i]? with
  | none => rw [e] at hc; cases hc
  | some c =>
    rw [e] at hc
    obtain ⟨hi, e'⟩ := List.getElem?_eq_some_iff.mp e
    have := (h.2.2.2 i hi).1
    rw [e'] at this
    rw [this]; exact Option.some.inj hc
theorem dsc_r (h : dsc x0 S0 S d) (i j t : Nat) (hc : (d[i]?.bind (fun c => c.2.2.2.1.lookup j)) = some t) : kR S (x0 + i) j = some (x0 + t) := by
  cases e : d[i]? with
  | none => rw [e] at hc; cases hc
  | some c =>
    rw [e] at hc
    obtain ⟨hi, e'⟩ := List.getElem?_eq_some_iff.mp e
    have := (h.2.2.2 i hi).2.2.2.1 j
    rw [e'] at this
    rw [this, show c.2.2.2.1.lookup j = some t from hc]; rfl
end V
section R
variable {S0 S : cSt} {x0 : Nat} {d : List Cl} {R : Option cSt → Prop}
theorem e_nw (h : dsc x0 S0 S d) (kd n : Nat) {K : Nat → cSt → Option cSt} (hK : ∀ S1, dsc x0 S0 S1 (d ++ [(kd, n, [], [], [])]) → R (K (x0 + d.length) S1)) : R (lt (kZ S) fun a => lt (cNw S kd n) fun S1 => K a S1) := by
  rw [lt_d, lt_d, h.1]; exact hK _ (dsc_nw h kd n)
theorem e_pr (h : dsc x0 S0 S d) {i kd j t : Nat} (hc : (d[i]?.map (fun c => c.1)) = some kd) {K : cSt → Option cSt} (hK : ∀ S1, dsc x0 S0 S1 (d.modify i (clR j t)) → R (K S1)) : R (ckk S (x0 + i) kd (lt (cPr S (x0 + i) j (some (x0 + t))) K)) := by
  rw [ckk_y (dsc_k h i kd hc), lt_d]; exact hK _ (dsc_pr h i j t)
theorem e_pi (h : dsc x0 S0 S d) {i kd j : Nat} {x : Int32} (hc : (d[i]?.map (fun c => c.1)) = some kd) {K : cSt → Option cSt} (hK : ∀ S1, dsc x0 S0 S1 (d.modify i (clF j x)) → R (K S1)) : R (ckk S (x0 + i) kd (lt (cPi S (x0 + i) j x) K)) := by
  rw [ckk_y (dsc_k h i kd hc), lt_d]; exact hK _ (dsc_pi h i j x)
theorem e_kr (h : dsc x0 S0 S d) {i kd j : Nat} (t : Nat) (hc : (d[i]?.map (fun c => c.1)) = some kd) (hr : (d[i]?.bind (fun c => c.2.2.2.1.lookup j)) = some t) {K : Nat → Option cSt} (hK : R (K (x0 + t))) : R (ckk S (x0 + i) kd (bd (kR S (x0 + i) j) K)) := by
  rw [ckk_y (dsc_k h i kd hc), dsc_r h i j t hr, bd_s]; exact hK
theorem e_bd {o : Option cSt} {K : cSt → Option cSt} (h : (fun o => R (bd o K)) o) : R (bd o K) := h
end R
