-- part 26: writing into one array, loops, what stays
theorem jK (x : Int32) (a : Nat) {b : Nat} (hx : x = Int32.ofNat a) (hb : b < a) (ha : a < 2147483648) : ¬ x ≤ Int32.ofNat b := fun q => absurd ((jI_le ha (by omega)).mp (hx ▸ q)) (by omega)
theorem n10 : ¬ (1 : Int32) = 0 := by decide
theorem bTn : ¬ b2 (true = true) = 0 := by decide
theorem bFF : ¬ b2 (false = false) = 0 := by decide
theorem bTF : b2 (true = false) = 0 := by decide
theorem bFn : b2 (false = true) = 0 := by decide
def sI (S : cSt) (a : Nat) (f : Nat → Int32) : cSt := (S.1, S.2.1, S.2.2.1, upr S.2.2.2.1 a f, S.2.2.2.2)
def sO (S : cSt) (a : Nat) (g : Nat → Option Nat) : cSt := (S.1, S.2.1, S.2.2.1, S.2.2.2.1, upr S.2.2.2.2.1 a g, S.2.2.2.2.2)
def upo (f : Nat → Option Nat) (i : Nat) (x : Option Nat) : Nat → Option Nat := fun j => if j = i then x else f j
theorem upo_s (f : Nat → Option Nat) (i : Nat) (x : Option Nat) : upo f i x i = x := by simp [upo]
theorem upo_o (f : Nat → Option Nat) {i j : Nat} (x : Option Nat) (h : j ≠ i) : upo f i x j = f j := by simp [upo, h]
theorem kI_sI (S : cSt) (a : Nat) (f : Nat → Int32) : kI (sI S a f) a = f := by funext j; simp [kI, sI, upr]
theorem kI_sIo (S : cSt) {a b : Nat} (f : Nat → Int32) (h : b ≠ a) : kI (sI S a f) b = kI S b := by funext j; simp [kI, sI, upr, h]
theorem kO_sO (S : cSt) (a : Nat) (f : Nat → Option Nat) : kO (sO S a f) a = f := by funext j; simp [kO, sO, upr]
theorem kO_sOo (S : cSt) {a b : Nat} (f : Nat → Option Nat) (h : b ≠ a) : kO (sO S a f) b = kO S b := by funext j; simp [kO, sO, upr, h]
theorem upr_up2 {f : Nat → Nat → Int32} (a i : Nat) (x : Int32) : up2 f a i x = upr f a (upd (f a) i x) := by
  funext b j
  unfold up2 upr upd
  by_cases h : b = a
  · subst h; by_cases h2 : j = i <;> simp [h2]
  · simp [h]
theorem upr_up2o {f : Nat → Nat → Option Nat} (a i : Nat) (x : Option Nat) : up2 f a i x = upr f a (upo (f a) i x) := by
  funext b j
  unfold up2 upr upo
  by_cases h : b = a
  · subst h; by_cases h2 : j = i <;> simp [h2]
  · simp [h]
theorem upr_upr {α : Type} (f : Nat → Nat → α) (a : Nat) (g h : Nat → α) : upr (upr f a g) a h = upr f a h := by
  funext b
  unfold upr
  by_cases e : b = a <;> simp [e]
theorem upr_id {α : Type} (f : Nat → Nat → α) (a : Nat) : upr f a (f a) = f := by
  funext b
  unfold upr
  by_cases e : b = a <;> simp [e]
theorem cWi_sI (S : cSt) (a i : Nat) (x : Int32) : cWi S a i x = sI S a (upd (kI S a) i x) := by unfold cWi sI kI; rw [upr_up2]
theorem cWo_sO (S : cSt) (a i : Nat) (x : Option Nat) : cWo S a i x = sO S a (upo (kO S a) i x) := by unfold cWo sO kO; rw [upr_up2o]
theorem sI_sI (S : cSt) (a : Nat) (f g : Nat → Int32) : sI (sI S a f) a g = sI S a g := by unfold sI; rw [upr_upr]
theorem sO_sO (S : cSt) (a : Nat) (f g : Nat → Option Nat) : sO (sO S a f) a g = sO S a g := by unfold sO; rw [upr_upr]
theorem sI_id (S : cSt) (a : Nat) : sI S a (kI S a) = S := by unfold sI kI; rw [upr_id]
theorem sO_id (S : cSt) (a : Nat) : sO S a (kO S a) = S := by unfold sO kO; rw [upr_id]
theorem wI_sI (S : cSt) (a i : Nat) (f : Nat → Int32) (x : Int32) : cWi (sI S a f) a i x = sI S a (upd f i x) := by rw [cWi_sI, kI_sI, sI_sI]
theorem wO_sO (S : cSt) (a i : Nat) (f : Nat → Option Nat) (x : Option Nat) : cWo (sO S a f) a i x = sO S a (upo f i x) := by rw [cWo_sO, kO_sO, sO_sO]
/-- loops, by what holds ahead of each round -/
theorem loopI {σ β : Type} {F : Nat → σ → Nat → Option β} {N : Nat} {Q : β → Prop} (I : Nat → σ → Prop)
    (he : ∀ n st, I N st → ∃ b, F (n + 1) st N = some b ∧ Q b)
    (hs : ∀ n st i, i < N → I i st → (∃ st', I (i + 1) st' ∧ F (n + 1) st i = F n st' (i + 1)) ∨ ∃ b, F (n + 1) st i = some b ∧ Q b) :
    ∀ (j i fu : Nat) (st : σ), i + j = N → j < fu → I i st → ∃ b, F fu st i = some b ∧ Q b := by
  intro j
  induction j with
  | zero =>
    intro i fu st hi hf h
    obtain ⟨fu, rfl⟩ : ∃ q, fu = q + 1 := ⟨fu - 1, by omega⟩
    have e : i = N := by omega
    subst e
    exact he fu st h
  | succ j ih =>
    intro i fu st hi hf h
    obtain ⟨fu, rfl⟩ : ∃ q, fu = q + 1 := ⟨fu - 1, by omega⟩
    rcases hs fu st i (by omega) h with ⟨st', h1, h2⟩ | h1
    · rw [h2]; exact ih (i + 1) fu st' (by omega) (by omega) h1
    · exact h1
theorem walkDI {σ β : Type} {ra : Nat → Nat} {L : List Nat} {F : Nat → σ → Option Nat → Option β} {Q : β → Prop} (I : Nat → σ → Prop)
    (hn : ∀ n st, I 0 st → ∃ b, F (n + 1) st none = some b ∧ Q b)
    (hc : ∀ n st i (h : i < L.length), I (i + 1) st → (∃ st', I i st' ∧ F (n + 1) st (some (ra L[i])) = F n st' (pvL ra L i)) ∨ ∃ b, F (n + 1) st (some (ra L[i])) = some b ∧ Q b) :
    ∀ (i fu : Nat) (st : σ), i ≤ L.length → i < fu → I i st → ∃ b, F fu st (pvL ra L i) = some b ∧ Q b := by
  intro i
  induction i with
  | zero =>
    intro fu st _ hf h
    obtain ⟨fu, rfl⟩ : ∃ q, fu = q + 1 := ⟨fu - 1, by omega⟩
    exact hn fu st h
  | succ i ih =>
    intro fu st hi hf h
    obtain ⟨fu, rfl⟩ : ∃ q, fu = q + 1 := ⟨fu - 1, by omega⟩
    have hlt : i < L.length := by omega
    have e1 : pvL ra L (i + 1) = some (ra L[i]) := by
      unfold pvL
      rw [if_neg (by omega), Nat.add_sub_cancel, List.getElem?_eq_getElem hlt]; rfl
    rw [e1]
    rcases hc fu st i hlt h with ⟨st', h1, h2⟩ | h1
    · rw [h2]; exact ih fu st' (by omega) (by omega) h1
    · exact h1
theorem walkAI {σ β : Type} {ra : Nat → Nat} {L : List Nat} {F : Nat → σ → Option Nat → Option β} {Q : β → Prop} (I : Nat → σ → Prop)
    (hn : ∀ n st, I L.length st → ∃ b, F (n + 1) st none = some b ∧ Q b)
    (hc : ∀ n st i (h : i < L.length), I i st → (∃ st', I (i + 1) st' ∧ F (n + 1) st (some (ra L[i])) = F n st' (nxL ra L (i + 1))) ∨ ∃ b, F (n + 1) st (some (ra L[i])) = some b ∧ Q b) :
    ∀ (j i fu : Nat) (st : σ), i + j = L.length → j < fu → I i st → ∃ b, F fu st (nxL ra L i) = some b ∧ Q b := by
  intro j
  induction j with
  | zero =>
    intro i fu st hi hf h
    obtain ⟨fu, rfl⟩ : ∃ q, fu = q + 1 := ⟨fu - 1, by omega⟩
    have e1 : nxL ra L i = none := by unfold nxL; rw [List.getElem?_eq_none (by omega)]; rfl
    have e : i = L.length := by omega
    subst e
    rw [e1]; exact hn fu st h
  | succ j ih =>
    intro i fu st hi hf h
    obtain ⟨fu, rfl⟩ : ∃ q, fu = q + 1 := ⟨fu - 1, by omega⟩
    have hlt : i < L.length := by omega
    have e1 : nxL ra L i = some (ra L[i]) := by unfold nxL; rw [List.getElem?_eq_getElem hlt]; rfl
    rw [e1]
    rcases hc fu st i hlt h with ⟨st', h1, h2⟩ | h1
    · rw [h2]; exact ih (i + 1) fu st' (by omega) (by omega) h1
    · exact h1
/-- all but the contents at some addresses is as it was -/
def cEq (W : Nat → Prop) (S S' : cSt) : Prop := (∀ a, kK S' a = kK S a) ∧ (∀ a, kL S' a = kL S a) ∧ kZ S' = kZ S ∧ (∀ i, kT S' i = kT S i) ∧ ∀ a, ¬ W a → kF S' a = kF S a ∧ kR S' a = kR S a ∧ kI S' a = kI S a ∧ kO S' a = kO S a
theorem cEq_refl (W : Nat → Prop) (S : cSt) : cEq W S S := ⟨fun _ => rfl, fun _ => rfl, rfl, fun _ => rfl, fun _ _ => ⟨rfl, rfl, rfl, rfl⟩⟩
theorem cEq_trans {W : Nat → Prop} {S S' S'' : cSt} (h : cEq W S S') (h' : cEq W S' S'') : cEq W S S'' :=
  ⟨fun a => (h'.1 a).trans (h.1 a), fun a => (h'.2.1 a).trans (h.2.1 a), h'.2.2.1.trans h.2.2.1, fun a => (h'.2.2.2.1 a).trans (h.2.2.2.1 a), fun a ha =>
    ⟨(h'.2.2.2.2 a ha).1.trans (h.2.2.2.2 a ha).1, (h'.2.2.2.2 a ha).2.1.trans (h.2.2.2.2 a ha).2.1, (h'.2.2.2.2 a ha).2.2.1.trans (h.2.2.2.2 a ha).2.2.1, (h'.2.2.2.2 a ha).2.2.2.trans (h.2.2.2.2 a ha).2.2.2⟩⟩
theorem cEq_mono {W W' : Nat → Prop} {S S' : cSt} (h : cEq W S S') (hW : ∀ a, W a → W' a) : cEq W' S S' :=
  ⟨h.1, h.2.1, h.2.2.1, h.2.2.2.1, fun a ha => h.2.2.2.2 a (fun q => ha (hW a q))⟩
theorem cEq_sI {W : Nat → Prop} {S : cSt} {p : Nat} (f : Nat → Int32) (h : W p) : cEq W S (sI S p f) :=
  ⟨fun _ => rfl, fun _ => rfl, rfl, fun _ => rfl, fun a ha => ⟨rfl, rfl, kI_sIo S f (fun e => ha (e ▸ h)), rfl⟩⟩
theorem cEq_sO {W : Nat → Prop} {S : cSt} {p : Nat} (f : Nat → Option Nat) (h : W p) : cEq W S (sO S p f) :=
  ⟨fun _ => rfl, fun _ => rfl, rfl, fun _ => rfl, fun a ha => ⟨rfl, rfl, rfl, kO_sOo S f (fun e => ha (e ▸ h))⟩⟩
theorem cEq_cPi {W : Nat → Prop} {S : cSt} {p k : Nat} (x : Int32) (h : W p) : cEq W S (cPi S p k x) :=
  ⟨fun _ => rfl, fun _ => rfl, rfl, fun _ => rfl, fun a ha => ⟨by
    funext j
    show up2 S.2.1 p k x a j = S.2.1 a j
    unfold up2
    exact if_neg (fun e : a = p ∧ j = k => ha (e.1 ▸ h)), rfl, rfl, rfl⟩⟩
theorem cEq_cPr {W : Nat → Prop} {S : cSt} {p k : Nat} (x : Option Nat) (h : W p) : cEq W S (cPr S p k x) :=
  ⟨fun _ => rfl, fun _ => rfl, rfl, fun _ => rfl, fun a ha => ⟨rfl, by
    funext j
    show up2 S.2.2.1 p k x a j = S.2.2.1 a j
    unfold up2
    exact if_neg (fun e : a = p ∧ j = k => ha (e.1 ▸ h)), rfl, rfl⟩⟩
theorem cRow_eq {M : mSt} {sl ch : Nat → Int32} {S S' : cSt} {r a : Nat} {W : Nat → Prop} (h : cRow M sl ch S r a) (e : cEq W S S') (h1 : ¬ W a) (h2 : ∀ b, b + 1 = a → ¬ W b) : cRow M sl ch S' r a := by
  obtain ⟨c1, c2, c3, c4, c5, va, c6, c7, c8, c9, c10⟩ := h
  obtain ⟨e1, e2, e3, e4, e5⟩ := e
  have a1 := e5 a h1
  have a2 := e5 va (h2 va c6)
  unfold cRow
  rw [e1, a1.1, a1.2.1]
  exact ⟨c1, c2, c3, c4, c5, va, c6, c7, by rw [e1]; exact c8, by rw [e2]; exact c9, by rw [a2.2.2.1]; exact c10⟩
section V
variable {M : mSt} {ra : Nat → Nat} {sl ch : Nat → Int32} {made : Nat → Prop} {mkO : Nat → Option Nat} {S S' : cSt} {bk la va ua up vb : Nat} {l : List Nat} {W : Nat → Prop}
theorem cBk_eq (h : cBk M ra sl ch made mkO S bk) (e : cEq W S S') (hW : ∀ a, W a → (a < bk ∨ bk + 5 ≤ a) ∧ a < bk + 128) : cBk M ra sl ch made mkO S' bk := by
  have n0 : ∀ k, k < 5 → ¬ W (bk + k) := fun k hk q => by have := (hW _ q).1; omega
  have nr : ∀ a, bk + 128 ≤ a → ¬ W a := fun a ha q => by have := (hW _ q).2; omega
  obtain ⟨⟨b1, b2, b3, b4, b5, b6⟩, ⟨c1, c2, c3, c4, c5, c6, c7, c8⟩, d1, d2, d3⟩ := h
  have e0 := e.2.2.2.2 bk (n0 0 (by decide))
  have e1 := e.2.2.2.2 (bk + 1) (n0 1 (by decide))
  have e2 := e.2.2.2.2 (bk + 2) (n0 2 (by decide))
  refine ⟨⟨by rw [e.1]; exact b1, by rw [e0.2.1]; exact b2, by rw [e0.2.1]; exact b3, by rw [e0.2.1]; exact b4, by rw [e0.2.1]; exact b5, b6⟩, ?_, ?_, ?_, ?_⟩
  · simp only [e.1, e.2.1]; exact ⟨c1, c2, c3, c4, c5, c6, c7, c8⟩
  · intro r hr hm
    obtain ⟨q1, q2⟩ := d1 r hr hm
    refine ⟨by rw [e1.2.2.2]; exact q1, cRow_eq q2 e (nr _ ?_) (fun b hb => nr _ ?_)⟩
    · have := b6 r hm; omega
    · have := b6 r hm; omega
  · intro r hr hm; rw [e1.2.2.2]; exact d2 r hr hm
  · intro j hj; rw [e2.2.2.2]; exact d3 j hj
theorem cLay_eq (h : cLay S la bk) (e : cEq W S S') (hW : ∀ a, W a → a < la ∨ la + 8 ≤ a) : cLay S' la bk := by
  have e0 := e.2.2.2.2 la (fun q => by have := hW _ q; omega)
  unfold cLay
  simp only [e.1, e.2.1, e0.2.1]
  exact h
theorem cDl_eq {c : Nat} {L : List Nat} (h : cDl ra S la c L) (e : cEq W S S') (hW : ∀ a, W a → a < la ∨ la + 8 ≤ a) : cDl ra S' la c L := by
  have n0 : ∀ k, k < 8 → ¬ W (la + k) := fun k hk q => by have := hW _ q; omega
  unfold cDl
  rw [(e.2.2.2.2 _ (n0 6 (by decide))).2.2.2, (e.2.2.2.2 _ (n0 7 (by decide))).2.2.2, (e.2.2.2.2 _ (n0 4 (by decide))).2.2.2, (e.2.2.2.2 _ (n0 5 (by decide))).2.2.2]
  exact h
theorem cLed_eq (h : cLed M ra ch S la bk l) (e : cEq W S S') (hW : ∀ a, W a → a < la ∨ la + 8 ≤ a) : cLed M ra ch S' la bk l := by
  have n0 : ∀ k, k < 8 → ¬ W (la + k) := fun k hk q => by have := hW _ q; omega
  obtain ⟨h1, h2, h3, h4, h5, h6, h7⟩ := h
  refine ⟨cLay_eq h1 e hW, ?_, ?_, ?_, ?_, fun c hc => cDl_eq (h6 c hc) e hW, ?_⟩
  · rw [(e.2.2.2.2 la (n0 0 (by decide))).1]; exact h2
  · rw [(e.2.2.2.2 _ (n0 1 (by decide))).2.2.1, (e.2.2.2.2 _ (n0 2 (by decide))).2.2.1]; exact h3
  · rw [(e.2.2.2.2 _ (n0 2 (by decide))).2.2.1]; exact h4
  · rw [(e.2.2.2.2 _ (n0 3 (by decide))).2.2.1]; exact h5
  · unfold lkR; rw [(e.2.2.2.2 _ (n0 4 (by decide))).2.2.2, (e.2.2.2.2 _ (n0 5 (by decide))).2.2.2]; exact h7
theorem cVw_eq (h : cVw M S va bk la ua up l) (e : cEq W S S') (h1 : ¬ W va) (h2 : ¬ W ua) : cVw M S' va bk la ua up l := by
  have e0 := e.2.2.2.2 va h1
  have e1 := e.2.2.2.2 ua h2
  unfold cVw
  rw [e.1, e.1, e.2.1, e0.1, e0.2.1, e1.2.2.1]
  exact h
/-- a view's own arrays -/
def vwA (S : cSt) (va vb : Nat) : Prop := (kR S va 0 = some vb ∧ kR S va 3 = some (vb + 1) ∧ kR S va 4 = some (vb + 2) ∧ kR S va 5 = some (vb + 3) ∧ kR S va 6 = some (vb + 4)) ∧
  (kK S vb = 30 ∧ kL S vb = 4 ∧ kK S (vb + 1) = 20 ∧ kL S (vb + 1) = 4 ∧ kK S (vb + 2) = 20 ∧ kL S (vb + 2) = 256 ∧ kK S (vb + 3) = 30 ∧ kL S (vb + 3) = 64 ∧ kK S (vb + 4) = 20 ∧ kL S (vb + 4) = 5)
def inV (vb : Nat) : Nat → Prop := fun a => vb ≤ a ∧ a < vb + 5
theorem vwA_eq (h : vwA S va vb) (e : cEq W S S') (h1 : ¬ W va) : vwA S' va vb := by
  have e0 := e.2.2.2.2 va h1
  unfold vwA
  simp only [e.1, e.2.1, e0.2.1]
  exact h
/-- all that a view's methods stand on -/
def cQ (M : mSt) (ra : Nat → Nat) (sl ch : Nat → Int32) (made : Nat → Prop) (mkO : Nat → Option Nat) (S : cSt) (bk la va ua up vb : Nat) (l : List Nat) : Prop :=
  cBk M ra sl ch made mkO S bk ∧ cLed M ra ch S la bk l ∧ cVw M S va bk la ua up l ∧ lOk made l ∧ vwA S va vb ∧ bk + 5 ≤ la ∧ la + 8 ≤ vb ∧ vb + 5 ≤ bk + 128 ∧ ua < vb ∧ va < vb
theorem cQ_eq (h : cQ M ra sl ch made mkO S bk la va ua up vb l) (e : cEq (inV vb) S S') : cQ M ra sl ch made mkO S' bk la va ua up vb l := by
  obtain ⟨h1, h2, h3, h4, h5, h6, h7, h8, h9, h10⟩ := h
  refine ⟨cBk_eq h1 e (fun a q => ?_), cLed_eq h2 e (fun a q => ?_), cVw_eq h3 e (fun q => ?_) (fun q => ?_), h4, vwA_eq h5 e (fun q => ?_), h6, h7, h8, h9, h10⟩ <;> (have q1 := q.1; have q2 := q.2; omega)
theorem cQ_sI (h : cQ M ra sl ch made mkO S bk la va ua up vb l) {p : Nat} (f : Nat → Int32) (hp : vb ≤ p ∧ p < vb + 5) : cQ M ra sl ch made mkO (sI S p f) bk la va ua up vb l := cQ_eq h (cEq_sI f hp)
theorem cQ_sO (h : cQ M ra sl ch made mkO S bk la va ua up vb l) {p : Nat} (f : Nat → Option Nat) (hp : vb ≤ p ∧ p < vb + 5) : cQ M ra sl ch made mkO (sO S p f) bk la va ua up vb l := cQ_eq h (cEq_sO f hp)
end V
/-- an array filled with one number -/
theorem k_fill {S : cSt} {p N : Nat} (hk : kK S p = 20) (hl : kL S p = N) (hN : N ≤ 1001) (x : Int32) : ∃ f, fk_107_fill_53178 S p x = some (sI S p f) ∧ ∀ i, i < N → f i = x := by
  unfold fk_107_fill_53178
  rw [ckk_y hk, hl, lt_d]
  obtain ⟨b, h1, f, h2, h3⟩ := loopI (σ := Nat → Int32) (β := cSt) (N := N) (F := fun n f i => fk_107_fill_53178_5 n (sI S p f) p x (Int32.ofNat i) (Int32.ofNat N)) (Q := fun b => ∃ f, b = sI S p f ∧ ∀ i, i < N → f i = x) (fun i f => ∀ j, j < i → f j = x)
    (fun n f h => ⟨sI S p f, by
      show fk_107_fill_53178_5 (n + 1) (sI S p f) p x (Int32.ofNat N) (Int32.ofNat N) = _
      rw [fk_107_fill_53178_5, if_pos ((jI_le (by omega) (by omega)).mpr (Nat.le_refl _))], f, rfl, h⟩)
    (fun n f i hi h => Or.inl ⟨upd f i x, fun j hj => by
      by_cases e : j = i
      · rw [e, upd_s]
      · rw [upd_o _ _ e]; exact h j (by omega), by
      show fk_107_fill_53178_5 (n + 1) (sI S p f) p x (Int32.ofNat i) (Int32.ofNat N) = _
      have hk' : kK (sI S p f) p = 20 := hk
      have hl' : kL (sI S p f) p = N := hl
      rw [fk_107_fill_53178_5, if_neg (fun q => absurd ((jI_le (by omega) (by omega)).mp q) (by omega)), ckk_y hk', hl', ck_n hi (by omega), lt_d, jI_cl (by omega), wI_sI, lt_d, show (1 : Int32) = Int32.ofNat 1 from rfl, jI_add]⟩)
    N 0 mFU (kI S p) (by omega) (by unfold mFU; omega) (fun j hj => absurd hj (by omega))
  refine ⟨f, ?_, h3⟩
  rw [← h2, ← h1]
  show _ = fk_107_fill_53178_5 mFU (sI S p (kI S p)) p x (Int32.ofNat 0) (Int32.ofNat N)
  rw [sI_id]; rfl
/-- four numbers raised to those of a vector -/
def mx (x y : Int32) : Int32 := if x < y then y else x
theorem le_mx (x a b : Int32) : x ≤ mx a b ↔ x ≤ a ∨ x ≤ b := by
  unfold mx
  split
  · rename_i h
    exact ⟨Or.inr, fun q => q.elim (fun q => Int32.le_trans q (Int32.le_of_lt h)) id⟩
  · rename_i h
    exact ⟨Or.inl, fun q => q.elim id (fun q => Int32.le_trans q (Int32.not_lt.mp h))⟩
theorem k_raise {S : cSt} {p q N st : Nat} (hk : kK S p = 20) (hl : kL S p = N) (hq : kK S q = 20) (hl2 : kL S q = 4) (hpq : q ≠ p) (hN : N ≤ 1001) (hst : st + 4 ≤ N) (f : Nat → Int32) : ∃ f', fk_10_raise (sI S p f) p (Int32.ofNat st) q = some (sI S p f') ∧ (∀ i, i < 4 → f' (st + i) = mx (f (st + i)) (kI S q i)) ∧ ∀ i, i < st ∨ st + 4 ≤ i → f' i = f i := by
  unfold fk_10_raise
  obtain ⟨b, h1, f', h2, h3, h4⟩ := loopI (σ := Nat → Int32) (β := cSt) (N := 4) (F := fun n f i => fk_10_raise_2 n (sI S p f) p (Int32.ofNat st) q (Int32.ofNat i)) (Q := fun b => ∃ f', b = sI S p f' ∧ (∀ i, i < 4 → f' (st + i) = mx (f (st + i)) (kI S q i)) ∧ ∀ i, i < st ∨ st + 4 ≤ i → f' i = f i)
    (fun i g => (∀ j, j < i → g (st + j) = mx (f (st + j)) (kI S q j)) ∧ ∀ j, (j < st ∨ st + i ≤ j) → g j = f j)
    (fun n g h => ⟨sI S p g, by
      show fk_10_raise_2 (n + 1) (sI S p g) p (Int32.ofNat st) q (Int32.ofNat 4) = _
      rw [fk_10_raise_2]
      exact if_pos (by decide), g, rfl, h.1, h.2⟩)
    (fun n g i hi h => Or.inl ⟨upd g (st + i) (mx (g (st + i)) (kI S q i)), ⟨fun j hj => by
      by_cases e : j = i
      · subst e; rw [upd_s, h.2 _ (by omega)]
      · rw [upd_o _ _ (by omega)]; exact h.1 j (by omega), fun j hj => by rw [upd_o _ _ (by omega)]; exact h.2 j (by omega)⟩, by
      show fk_10_raise_2 (n + 1) (sI S p g) p (Int32.ofNat st) q (Int32.ofNat i) = _
      have hk' : kK (sI S p g) p = 20 := hk
      have hl' : kL (sI S p g) p = N := hl
      have hq' : kK (sI S p g) q = 20 := hq
      have hl2' : kL (sI S p g) q = 4 := hl2
      rw [fk_10_raise_2]
      refine (if_neg (jK 4 4 (b := i) rfl (by omega) (by decide))).trans ?_
      rw [ckk_y hq', hl2', ck_n hi (by omega), ckk_y hk', hl', jI_add, ck_n (by omega) (by omega), jI_cl (by omega), jI_cl (by omega), kI_sI, kI_sIo _ _ hpq]
      by_cases hc : kI S q i ≤ g (st + i)
      · have hx : mx (g (st + i)) (kI S q i) = g (st + i) := if_neg (Int32.not_lt.mpr hc)
        have hu : upd g (st + i) (g (st + i)) = g := funext fun j => by
          by_cases e : j = st + i
          · rw [e, upd_s]
          · rw [upd_o _ _ e]
        rw [hx, hu]
        refine (if_pos hc).trans ?_
        unfold fk_10_raise_26
        rw [lt_d, show (1 : Int32) = Int32.ofNat 1 from rfl, jI_add]
      · have hx : mx (g (st + i)) (kI S q i) = kI S q i := if_pos (Int32.not_le.mp hc)
        rw [hx]
        refine (if_neg hc).trans ?_
        rw [ckk_y hq', ck_n hi (by omega), ckk_y hk', ck_n (by omega) (by omega), lt_d, wI_sI]
        unfold fk_10_raise_26
        rw [lt_d, show (1 : Int32) = Int32.ofNat 1 from rfl, jI_add]⟩)
    4 0 mFU f (by omega) (by decide) ⟨fun j hj => absurd hj (by omega), fun j _ => rfl⟩
  exact ⟨f', by rw [← h2, ← h1]; rfl, h3, h4⟩
