-- part 65: states that agree at some places; rows that are as they were
/-- all of a cell is the same at the places P -/
def cSm (P : Nat → Prop) (S S' : cSt) : Prop := ∀ a, P a → kK S' a = kK S a ∧ kL S' a = kL S a ∧ kF S' a = kF S a ∧ kR S' a = kR S a ∧ kI S' a = kI S a ∧ kO S' a = kO S a
theorem cSm_eq {W P : Nat → Prop} {S S' : cSt} (e : cEq W S S') (h : ∀ a, P a → ¬ W a) : cSm P S S' := fun a ha => ⟨e.1 a, e.2.1 a, (e.2.2.2.2 a (h a ha)).1, (e.2.2.2.2 a (h a ha)).2.1, (e.2.2.2.2 a (h a ha)).2.2.1, (e.2.2.2.2 a (h a ha)).2.2.2⟩
theorem cSm_mono {P Q : Nat → Prop} {S S' : cSt} (e : cSm P S S') (h : ∀ a, Q a → P a) : cSm Q S S' := fun a ha => e a (h a ha)
theorem cSm_trans {P : Nat → Prop} {S S' S'' : cSt} (e : cSm P S S') (e' : cSm P S' S'') : cSm P S S'' := fun a ha => by
  obtain ⟨a1, a2, a3, a4, a5, a6⟩ := e a ha
  obtain ⟨b1, b2', b3, b4, b5, b6⟩ := e' a ha
  exact ⟨b1.trans a1, b2'.trans a2, b3.trans a3, b4.trans a4, b5.trans a5, b6.trans a6⟩
/-- the rows P of the reference are the same, and the kinds -/
def rOn (P : Nat → Prop) (M M' : mSt) : Prop := (∀ q, P q → (M'.2 9 q = M.2 9 q ∧ M'.2 10 q = M.2 10 q ∧ M'.2 11 q = M.2 11 q ∧ M'.2 12 q = M.2 12 q ∧ M'.2 13 q = M.2 13 q ∧ M'.2 14 q = M.2 14 q ∧ M'.2 15 q = M.2 15 q) ∧ ∀ i, i < 4 → M'.2 16 (4 * q + i) = M.2 16 (4 * q + i)) ∧ M'.2 5 = M.2 5 ∧ M'.2 6 = M.2 6
theorem rOn_of {M M' : mSt} (e : rEq M M') (P : Nat → Prop) : rOn P M M' := ⟨fun q _ => ⟨⟨by rw [e 9 (by decide) (by decide)], by rw [e 10 (by decide) (by decide)], by rw [e 11 (by decide) (by decide)], by rw [e 12 (by decide) (by decide)], by rw [e 13 (by decide) (by decide)], by rw [e 14 (by decide) (by decide)], by rw [e 15 (by decide) (by decide)]⟩, fun i _ => by rw [e 16 (by decide) (by decide)]⟩, e 5 (by decide) (by decide), e 6 (by decide) (by decide)⟩
section O
variable {M M' : mSt} {P : Nat → Prop} {l : List Nat} {sl sl' : Nat → Int32} {mkO : Nat → Option Nat} {ra ra' : Nat → Nat} {S S' : cSt}
theorem fold_on {β : Type} {f g : β → Nat → β} : ∀ {L : List Nat} (b : β), (∀ x ∈ L, ∀ b, f b x = g b x) → L.foldl f b = L.foldl g b := by
  intro L
  induction L with
  | nil => intro b _; rfl
  | cons a L ih =>
    intro b h
    rw [List.foldl_cons, List.foldl_cons, h a List.mem_cons_self b]
    exact ih _ (fun x hx => h x (List.mem_cons_of_mem _ hx))
theorem gd_on (e : rOn P M M') (hl : ∀ q ∈ l, P q) : gd M' l = gd M l := by
  funext t
  unfold gd
  refine fold_on _ fun x hx b => ?_
  obtain ⟨⟨e9, _, _, _, e13, _⟩, _⟩ := e.1 x (hl x hx)
  unfold isT
  rw [e9, e13]
theorem rK_on (e : rOn P M M') {q : Nat} (h : P q) : rK M' q = rK M q := by
  obtain ⟨⟨_, _, _, _, _, e14, e15⟩, _⟩ := e.1 q h
  unfold rK; rw [e14, e15]
theorem ins_on {K K' : Nat → Nat} {r : Nat} : ∀ {L : List Nat}, (∀ x ∈ L, K' x = K x) → K' r = K r → ins K' r L = ins K r L := by
  intro L
  induction L with
  | nil => intro _ _; rfl
  | cons a L ih =>
    intro h hr
    rw [ins_cons, ins_cons, hr, h a List.mem_cons_self, ih (fun x hx => h x (List.mem_cons_of_mem _ hx)) hr]
theorem srt_on {K K' : Nat → Nat} {L : List Nat} (h : ∀ x ∈ L, K' x = K x) : srt K' L = srt K L := by
  have key : ∀ (L acc : List Nat), (∀ x ∈ L, K' x = K x) → (∀ x ∈ acc, K' x = K x) → L.foldl (fun acc r => ins K' r acc) acc = L.foldl (fun acc r => ins K r acc) acc := by
    intro L
    induction L with
    | nil => intro acc _ _; rfl
    | cons a L ih =>
      intro acc h1 h2
      rw [List.foldl_cons, List.foldl_cons, ins_on h2 (h1 a List.mem_cons_self)]
      refine ih _ (fun x hx => h1 x (List.mem_cons_of_mem _ hx)) fun x hx => ?_
      rcases mem_ins.mp hx with hx | hx
      · rw [hx]; exact h1 a List.mem_cons_self
      · exact h2 x hx
  exact key L [] h (fun x hx => by cases hx)
theorem chF_on (e : rOn P M M') {q : Nat} (h : P q) (hs : sl' q = sl q) : chF M' sl' q = chF M sl q := by
  obtain ⟨⟨e9, _, e11, _⟩, _⟩ := e.1 q h
  unfold chF; rw [e9, e11, hs]
theorem chL_on (e : rOn P M M') (hl : ∀ q ∈ l, P q) (hs : ∀ q ∈ l, sl' q = sl q) (c : Nat) : chL M' (chF M' sl') l c = chL M (chF M sl) l c := by
  unfold chL
  have h1 : l.filter (fun r => decide (chF M' sl' r = Int32.ofNat c)) = l.filter (fun r => decide (chF M sl r = Int32.ofNat c)) := List.filter_congr fun r hr => by rw [chF_on e (hl r hr) (hs r hr)]
  rw [h1]
  exact srt_on fun x hx => rK_on e (hl x (List.mem_filter.mp hx).1)
theorem map_ra {L : List Nat} (h : ∀ q ∈ L, ra' q = ra q) (i : Nat) : pvL ra' L i = pvL ra L i ∧ nxL ra' L i = nxL ra L i := by
  have key : ∀ i : Nat, L[i]?.map ra' = L[i]?.map ra := fun i => by
    cases hi : L[i]? with
    | none => rfl
    | some q => exact congrArg some (h q (List.mem_of_getElem? hi))
  unfold pvL nxL
  exact ⟨by rw [key], key i⟩
/-- a node's ledger and view, where its cells and its rows are as they were -/
theorem cNv_sm {nd bk : Nat} (h : cNv M ra sl S nd bk l) (e : rOn P M M') (hl : ∀ q ∈ l, P q) (hs : ∀ q ∈ l, sl' q = sl q) (hra : ∀ q ∈ l, ra' q = ra q) (c : cSm (fun a => nd + 12 ≤ a ∧ a < nd + 26) S S') : cNv M' ra' sl' S' nd bk l := by
  obtain ⟨⟨l1, l2, l3, l4, l5, l6, l7⟩, ⟨v1, v2⟩, w1⟩ := h
  have a0 := c (nd + 12) (by omega)
  have a1 := c (nd + 12 + 1) (by omega)
  have a2 := c (nd + 12 + 2) (by omega)
  have a3 := c (nd + 12 + 3) (by omega)
  have a4 := c (nd + 12 + 4) (by omega)
  have a5 := c (nd + 12 + 5) (by omega)
  have a6 := c (nd + 12 + 6) (by omega)
  have a7 := c (nd + 12 + 7) (by omega)
  have b0 := c (nd + 20) (by omega)
  have b1 := c (nd + 21) (by omega)
  have b2' := c (nd + 21 + 1) (by omega)
  have b3 := c (nd + 21 + 2) (by omega)
  have b4 := c (nd + 21 + 3) (by omega)
  have b5 := c (nd + 21 + 4) (by omega)
  have u3 := c (nd + 15) (by omega)
  have hgd : gd M' (l.take 1000) = gd M (l.take 1000) := gd_on e (fun q hq => hl q (List.mem_of_mem_take hq))
  refine ⟨⟨?_, ?_, ?_, ?_, ?_, fun k hk => ?_, fun r hr => ?_⟩, ⟨?_, ?_⟩, ?_⟩
  · obtain ⟨⟨x1, x2, x3⟩, x4, x5, x6⟩ := l1
    refine ⟨⟨by rw [a0.1]; exact x1, by rw [a0.2.2.2.1]; exact x2, by rw [a0.2.2.2.1]; exact x3⟩, fun k hk => ?_, fun k hk => ?_, fun k hk => ?_⟩
    · have := c (nd + 12 + 1 + k) (by omega); rw [this.1, this.2.1]; exact x4 k hk
    · have := c (nd + 12 + 4 + k) (by omega); rw [this.1, this.2.1]; exact x5 k hk
    · have := c (nd + 12 + 6 + k) (by omega); rw [this.1, this.2.1]; exact x6 k hk
  · rw [a0.2.2.1]; exact l2
  · rw [a1.2.2.2.2.1, a2.2.2.2.2.1]; exact l3
  · rw [a2.2.2.2.2.1]; exact l4
  · rw [a3.2.2.2.2.1, gd_on e hl]; exact l5
  · rw [chL_on e hl hs]
    have hr : ∀ q ∈ chL M (chF M sl) l k, ra' q = ra q := fun q hq => hra q (chL_mem.mp hq).1
    unfold cDl
    rw [a4.2.2.2.2.2, a5.2.2.2.2.2, a6.2.2.2.2.2, a7.2.2.2.2.2, (map_ra hr _).2, (map_ra hr _).1]
    obtain ⟨d1, d2, d3⟩ := l6 k hk
    refine ⟨d1, d2, fun i hi => ?_⟩
    rw [(map_ra hr _).1, (map_ra hr _).2]
    exact d3 i hi
  · obtain ⟨z1, z2⟩ := l7 r hr
    rw [a4.2.2.2.2.2, a5.2.2.2.2.2]
    exact ⟨z1.imp id (fun ⟨t, t1, t2⟩ => ⟨t, t1, by rw [hra t t1]; exact t2⟩), z2.imp id (fun ⟨t, t1, t2⟩ => ⟨t, t1, by rw [hra t t1]; exact t2⟩)⟩
  · rw [b0.1, b0.2.2.2.1, b0.2.2.1]; exact v1
  · rw [u3.1, u3.2.1, u3.2.2.2.2.1, hgd]; exact v2
  · unfold vwA
    rw [b0.2.2.2.1, b1.1, b1.2.1, b2'.1, b2'.2.1, b3.1, b3.2.1, b4.1, b4.2.1, b5.1, b5.2.1]
    exact w1
theorem cNy_sm {nd bk n : Nat} (h : cNy S nd bk n) (c : cSm (fun a => nd ≤ a ∧ a < nd + 12) S S') : cNy S' nd bk n := by
  have a0 := c nd (by omega)
  have a5 := c (nd + 5) (by omega)
  have a6 := c (nd + 6) (by omega)
  have a7 := c (nd + 7) (by omega)
  have a8 := c (nd + 8) (by omega)
  have a9 := c (nd + 9) (by omega)
  have a10 := c (nd + 10) (by omega)
  have a11 := c (nd + 11) (by omega)
  unfold cNy
  rw [a0.1, a0.2.2.1, a0.2.2.2.1, a5.1, a5.2.1, a6.1, a6.2.1, a7.1, a7.2.1, a8.1, a8.2.1, a9.1, a9.2.1, a10.1, a10.2.1, a11.1, a11.2.1]
  exact h
theorem cLg_sm {lg w N : Nat} {E : List En} (h : cLg S lg w N E) (c : cSm (fun a => a = lg ∨ a = lg + 1) S S') : cLg S' lg w N E := by
  have a0 := c lg (Or.inl rfl)
  have a1 := c (lg + 1) (Or.inr rfl)
  unfold cLg
  rw [a0.1, a0.2.2.1, a0.2.2.2.1, a1.1, a1.2.1, a1.2.2.2.2.1]
  exact h
/-- what the reference keeps of node n, but the rows themselves -/
def nEq2 (P : Nat → Prop) (M M' : mSt) (n : Nat) : Prop :=
  rOn P M M' ∧ (∀ k, k = 17 ∨ k = 18 ∨ k = 19 ∨ k = 23 ∨ k = 25 → M'.2 k n = M.2 k n) ∧ (∀ q, q < 4 → M'.2 20 (4 * n + q) = M.2 20 (4 * n + q) ∧ M'.2 32 (4 * n + q) = M.2 32 (4 * n + q) ∧ M'.2 33 (4 * n + q) = M.2 33 (4 * n + q) ∧ M'.2 34 (4 * n + q) = M.2 34 (4 * n + q) ∧ M'.2 35 (4 * n + q) = M.2 35 (4 * n + q) ∧ M'.2 36 (4 * n + q) = M.2 36 (4 * n + q)) ∧
  (∀ k, k < 16 → M'.2 21 (16 * n + k) = M.2 21 (16 * n + k) ∧ M'.2 22 (16 * n + k) = M.2 22 (16 * n + k) ∧ M'.2 31 (16 * n + k) = M.2 31 (16 * n + k)) ∧ (∀ i, i < 1000 → M'.2 24 (1000 * n + i) = M.2 24 (1000 * n + i)) ∧ (∀ i, i < 30 → M'.2 26 (30 * n + i) = M.2 26 (30 * n + i)) ∧
  (M'.2 27 n = M.2 27 n ∧ ∀ k, k < 250 → M'.2 28 (250 * n + k) = M.2 28 (250 * n + k) ∧ M'.2 29 (250 * n + k) = M.2 29 (250 * n + k) ∧ M'.2 30 (250 * n + k) = M.2 30 (250 * n + k)) ∧
  (M'.2 37 n = M.2 37 n ∧ ∀ k, k < 200 → M'.2 38 (200 * n + k) = M.2 38 (200 * n + k) ∧ M'.2 39 (200 * n + k) = M.2 39 (200 * n + k) ∧ M'.2 40 (200 * n + k) = M.2 40 (200 * n + k) ∧ M'.2 41 (200 * n + k) = M.2 41 (200 * n + k))
theorem nEq2_of {n : Nat} (e : nEq M M' n) (P : Nat → Prop) : nEq2 P M M' n := ⟨rOn_of e.1 P, e.2⟩
theorem nC_sm {x0 n : Nat} (h : nC S M ra sl x0 n l) (eM : nEq2 P M M' n) (hl : ∀ q ∈ l, P q) (hs : ∀ q ∈ l, sl' q = sl q) (hra : ∀ q ∈ l, ra' q = ra q) (c : cSm (fun a => sN x0 n ≤ a ∧ a < sN x0 n + 26) S S') : nC S' M' ra' sl' x0 n l := by
  obtain ⟨⟨h1, h2, h3⟩, ⟨E, h4, h4'⟩, ⟨F, h5, h5'⟩, ⟨h6, h7, h8⟩, h9, h10, h11⟩ := h
  obtain ⟨e0, e1, e2, e3, e4, e5, e6, e7⟩ := eM
  have c0 := c (sN x0 n) (by omega)
  have c5 := c (sN x0 n + 5) (by omega)
  have c6 := c (sN x0 n + 6) (by omega)
  have c7 := c (sN x0 n + 7) (by omega)
  have c11 := c (sN x0 n + 11) (by omega)
  refine ⟨⟨cNy_sm h1 (cSm_mono c (fun a ha => by omega)), cNv_sm h2 e0 hl hs hra (cSm_mono c (fun a ha => by omega)), fun q hq => ?_⟩, ⟨E, cLg_sm h4 (cSm_mono c (fun a ha => by omega)), ?_⟩, ⟨F, cLg_sm h5 (cSm_mono c (fun a ha => by omega)), ?_⟩, ⟨?_, ?_, ?_⟩, fun m q hm hq => ?_, fun k hk => ?_, fun k hk => ?_⟩
  · obtain ⟨-, x1, x2, x3, x4, x5⟩ := e2 q hq
    rw [x1, x2, x3, x4, x5, e0.2.2, c11.2.2.2.2.1]; exact h3 q hq
  · refine ⟨h4'.1, by rw [e6.1]; exact h4'.2.1, fun i hi => ?_⟩
    obtain ⟨y1, y2, y3⟩ := e6.2 i (by have := h4'.1; omega)
    rw [y1, y2, y3]; exact h4'.2.2 i hi
  · refine ⟨h5'.1, by rw [e7.1]; exact h5'.2.1, fun i hi => ?_⟩
    obtain ⟨y1, y2, y3, y4⟩ := e7.2 i (by have := h5'.1; omega)
    rw [y1, y2, y3, y4]; exact h5'.2.2 i hi
  · rw [c0.2.2.1, e1 17 (by omega)]; exact h6
  · rw [c0.2.2.1, e1 18 (by omega)]; exact h7
  · rw [c0.2.2.1, e1 19 (by omega)]; exact h8
  · rw [c5.2.2.2.2.1, h9 m q hm hq]
    unfold snV
    by_cases hmn : m = n
    · rw [if_pos hmn, if_pos hmn, (e2 q hq).1]
    · rw [if_neg hmn, if_neg hmn, Nat.add_assoc, (e3 (4 * m + q) (by omega)).1]
  · rw [c6.2.2.2.2.1, h10 k hk, (e3 k hk).2.1]
  · rw [c7.2.2.2.2.1, h11 k hk, (e3 k hk).2.2]
theorem mWt_n2 {n : Nat} {Wt : List Nat} (h : mWt M n Wt) (e : nEq2 P M M' n) : mWt M' n Wt := by
  refine ⟨h.1, by rw [e.2.1 25 (by omega)]; exact h.2.1, fun i hi => ?_⟩
  rw [e.2.2.2.2.2.1 i (by have := h.1; omega)]
  exact h.2.2 i hi
theorem nW_sm {x0 n : Nat} {Wt : List Nat} (h : nW S ra x0 n Wt) (hra : ∀ q ∈ Wt, ra' q = ra q) (c : cSm (fun a => sN x0 n ≤ a ∧ a < sN x0 n + 26) S S') : nW S' ra' x0 n Wt := by
  unfold nW
  rw [(c _ (by omega)).2.2.1, (c (sN x0 n + 8) (by omega)).2.2.2.2.2]
  refine ⟨h.1, fun i hi => ?_⟩
  rw [hra _ (List.getElem_mem hi)]; exact h.2 i hi
end O
